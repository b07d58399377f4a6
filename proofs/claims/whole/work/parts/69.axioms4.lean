/-! AXIOMS of the class, 4: writeAll, writeExists, writeAnd, write -/
section AX4
variable {sa : Nat → Nat} {B : Nat} {ρ : hp_L} {P : hp_P} {bb : Bool} {n : Nat} {T : Nat → Int32 × Int32 × Int32} {Z : Prop} {G : qT → Prop} {C : sC} {H : List qM} {D : List qS} {tO : Nat → Option qT} {F : List Nat} {b b' : axB} {Gl : List qT} {W : List qS}
theorem pre_z2 {Z : Prop} {X Y V : List qS} (h : 4000 < (X ++ (Y ++ V)).length → Z) : 4000 < (X ++ Y).length → Z := fun z => h (by simp only [List.length_append] at z ⊢; omega)
theorem sub7 (h : 7 ≤ F.length) : nI F.length - 7 = nI (F.length - 7) := by rw [show (7 : Int32) = nI 7 from rfl, pk_sub h]
/-- writeAll -/
theorem a_all {f g d v p bn : Nat} (hf : 20000 ≤ f) (hF : F.length ≤ 100) (hF7 : 7 ≤ F.length) (hF2 : ∀ c ∈ F, c ≤ 100) (hG : ∀ t ∈ Gl, G t) (hg : ¬ q_good G → Z) (ih : aW Z G B sa Gl tO F C H f g) (hbn : bn + 1 + g ≤ 900) (hv : v ≤ 1000) (hp : p ≤ 1000) (hs : sI Z G B C ρ P n T H D bb) (hx : axI sa G tO F ρ P n T b) (he : ax_all Gl tO F (ax_w Gl tO F g) g v p bn b = some (W, b')) (hz : 4000 < (D ++ W).length → Z) :
    aX Z G B sa tO F C ρ P n T bb (am_call B sa am_dfl am_tb f (d + 5 * g + 12) 101 [.ref (ρ.1 0), .int (nI v), .int (nI p), .int (nI bn)] (hp_S sa ρ P)) H (D ++ W) b' := by
  unfold ax_all at he
  obtain ⟨a, ha, he⟩ := Option.bind_eq_some_iff.mp he
  by_cases eg : q_inl Gl (qF a qB) = true
  · rw [if_pos eg] at he
    obtain ⟨e, hq, he⟩ := Option.bind_eq_some_iff.mp he
    obtain ⟨rfl, g1, g2⟩ := ax_q_eq hG hq
    obtain ⟨W1, b1, W2, h1, h2, rfl⟩ := ax_then_eq he
    obtain ⟨rfl, rfl⟩ := ax_put_eq h1
    obtain ⟨W3, b3, W4, h3, h4, rfl⟩ := ax_then_eq h2
    obtain ⟨W5, b5, W6, h5, h6, rfl⟩ := ax_then_eq h4
    obtain ⟨rfl, rfl⟩ := ax_put_eq h5
    have w := hs.w
    obtain ⟨ρ1, P1, v1, n1, T1, a1, a2, a3, a4, a5, a6⟩ := a_ty (f := f) hf hF hF2 hG g v (d + 4 * g + 6) a ρ P n T ha hv hs hx
    obtain ⟨ρ2, P2, v2, n2, T2, c1, c2, c3, c4, c5⟩ := s_make (sa := sa) (f := f) (d := d + 5 * g + 8) (c := 2) a2 (by omega) a6 (Or.inl a2.y.B) (hG _ (q_inl_mem eg))
    have c5 : plg G n2 T2 v2 (qF a qB) := c5
    have x2 := a3.go c3 a2.y.1.wf a2.y.1.n31 c4
    obtain ⟨ρ3, P3, n3, T3, bb3, d1, d2, d3, d4, d5, d6⟩ := (s_equals (sa := sa) (f := f) (d := d + 5 * g + 7) c2 (by omega) c5 g1 g2 hg (pre_z2 hz)).a x2 c2.y.1
    have p3 := c5.xt c2.y.1.wf c2.y.1.n31 d5
    obtain ⟨ρ4, P4, n4, T4, bb4, e1, e2, e3, e4, e5, e6⟩ := a_bind (f := f) (d := d) hf hF hg ih hbn d2 d3 p3 h3 (fun z => hz (by simp only [List.length_append, List.length_cons, List.length_nil] at z ⊢; omega))
    have p4 := p3.xt d2.y.1.wf d2.y.1.n31 e5
    obtain ⟨f, rfl⟩ : ∃ g, f = g + 2 := ⟨f - 2, by omega⟩
    obtain ⟨ρ5, P5, n5, T5, bb5, i1, i2, i3, i4, i5, i6⟩ := (s_write (sa := sa) (f := f) (d := d + 5 * g + 8) (c := -2) e2 p4 hg (fun z => hz (by simp only [List.length_append, List.length_cons, List.length_nil] at z ⊢; omega))).a e3 e2.y.1
    have w5 := i2.w
    obtain ⟨ρ6, P6, n6, T6, bb6, j1, j2, j3, j4, j5, j6⟩ := ih (F.length - 7) (bn + 1) (d + 1) b5 b' W6 ρ5 P5 n5 T5 _ bb5 h6 (by omega) i2 i3 (fun z => hz (by simp only [List.length_append, List.length_cons, List.length_nil] at z ⊢; omega))
    refine ⟨ρ6, P6, n6, T6, bb6, ?_, by simp only [List.append_assoc] at j2 ⊢; exact j2, j3, hp_fr.tr0 (hp_fr.tr0 a4 c3).ax (hp_fr.tr0 d4 (hp_fr.tr0 e4 (hp_fr.tr0 i4 j4))), a5.tr (c4.tr (d5.tr (e5.tr (i5.tr j5)))), fun z => d6 (e6 (i6 (j6 z)))⟩
    rw [am_c_101, am_s101_0]
    rw [show d + 4 * g + 6 + g + 5 = d + 5 * g + 11 by omega] at a1
    rw [show d + 1 + 5 * g + 10 = d + 5 * g + 11 by omega] at j1
    simp only [ho_0 w, Option.bind_some, hx_0 w, a1, am_i_some]
    rw [w_ob a4 0, w_ob a4 7]
    simp only [hx_7 a2.w, Option.bind_some, c1, am_i_some]
    rw [w_ob c3 0]
    simp only [ho_1 c2.w, Option.bind_some, hx_3 c2.w, d1, am_v_some]
    rw [w_ob d4 0]
    simp only [hx_0 d2.w, Option.bind_some, e1, am_v_some]
    rw [w_ob e4 0]
    simp only [ho_1 e2.w, Option.bind_some, hx_3 e2.w, i1, am_v_some]
    rw [w_ob i4 0]
    simp only [h_f2 w5, hp_jk_len i3.1, Option.bind_some, hx_0 w5, sub7 hF7, nI_1, j1, am_v_some]
  · rw [if_neg eg] at he; cases he
/-- writeExists -/
theorem a_ex {f g d v p bn : Nat} (hf : 20000 ≤ f) (hF : F.length ≤ 100) (hF2 : ∀ c ∈ F, c ≤ 100) (hG : ∀ t ∈ Gl, G t) (hg : ¬ q_good G → Z) (ih : aW Z G B sa Gl tO F C H f g) (hbn : bn + 1 + g ≤ 900) (hv : v ≤ 1000) (hp : p ≤ 1000) (hs : sI Z G B C ρ P n T H D bb) (hx : axI sa G tO F ρ P n T b) (he : ax_ex Gl tO F (ax_w Gl tO F g) g v p bn b = some (W, b')) (hz : 4000 < (D ++ W).length → Z) :
    aX Z G B sa tO F C ρ P n T bb (am_call B sa am_dfl am_tb f (d + 5 * g + 12) 102 [.ref (ρ.1 0), .int (nI v), .int (nI p), .int (nI bn)] (hp_S sa ρ P)) H (D ++ W) b' := by
  unfold ax_ex at he
  obtain ⟨a, ha, he⟩ := Option.bind_eq_some_iff.mp he
  by_cases eg : q_inl Gl (qF a qB) = true ∧ q_inl Gl (qF (qF a qB) a) = true ∧ q_beq a qE = false
  · rw [if_pos eg] at he
    have haE : a ≠ qE := fun z => by
      have := eg.2.2
      rw [z] at this
      exact absurd this (by decide)
    obtain ⟨W1, b1, W2, h1, h2, rfl⟩ := ax_then_eq he
    obtain ⟨rfl, rfl⟩ := ax_put_eq h1
    obtain ⟨W3, b3, W4, h3, h4, rfl⟩ := ax_then_eq h2
    obtain ⟨W5, b5, W6, h5, h6, rfl⟩ := ax_then_eq h4
    obtain ⟨rfl, rfl⟩ := ax_put_eq h5
    have w := hs.w
    obtain ⟨ρ1, P1, v1, n1, T1, a1, a2, a3, a4, a5, a6⟩ := a_ty (f := f) hf hF hF2 hG g v (d + 4 * g + 6) a ρ P n T ha hv hs hx
    obtain ⟨ρ2, P2, v2, n2, T2, c1, c2, c3, c4, c5⟩ := s_make (sa := sa) (f := f) (d := d + 5 * g + 8) (c := 2) a2 (by omega) a6 (Or.inl a2.y.B) (hG _ (q_inl_mem eg.1))
    have c5 : plg G n2 T2 v2 (qF a qB) := c5
    have x2 := a3.go c3 a2.y.1.wf a2.y.1.n31 c4
    obtain ⟨f0, hf0⟩ : ∃ g, f = g + 2 := ⟨f - 2, by omega⟩
    obtain ⟨ρ3, P3, n3, T3, bb3, d1, d2, d3, d4, d5, d6⟩ := (s_write (sa := sa) (f := f0) (d := d + 5 * g + 8) (c := -1) c2 (Or.inl c2.y.B) hg (pre_z2 hz)).a x2 c2.y.1
    rw [← hf0] at d1
    have p3 := c5.xt c2.y.1.wf c2.y.1.n31 d5
    obtain ⟨ρ4, P4, n4, T4, bb4, e1, e2, e3, e4, e5, e6⟩ := a_bind (f := f) (d := d) hf hF hg ih hbn d2 d3 p3 h3 (fun z => hz (by simp only [List.length_append, List.length_cons, List.length_nil] at z ⊢; omega))
    have p4 := p3.xt d2.y.1.wf d2.y.1.n31 e5
    obtain ⟨ρ5, P5, v5, n5, T5, i1, i2, i3, i4, i5, i6⟩ := a_ty (f := f) hf hF hF2 hG g v (d + 4 * g + 6) a ρ4 P4 n4 T4 ha hv e2 e3
    obtain ⟨ρ6, P6, v6, n6, T6, j1, j2, j3, j4, j5⟩ := s_make (sa := sa) (f := f) (d := d + 5 * g + 8) (c := 2) i2 (by omega) (p4.xt e2.y.1.wf e2.y.1.n31 i5) i6 (hG _ (q_inl_mem eg.2.1))
    have j5 : plg G n6 T6 v6 (qF (qF a qB) a) := j5
    have x6 := i3.go j3 i2.y.1.wf i2.y.1.n31 j4
    obtain ⟨ρ7, P7, n7, T7, bb7, k1, k2, k3, k4, k5, k6⟩ := (s_applied (sa := sa) (f := f) (d := d + 5 * g + 7) (c := 6) j2 (by omega) j5 haE hg (fun z => hz (by simp only [List.length_append, List.length_cons, List.length_nil] at z ⊢; omega))).a x6 j2.y.1
    obtain ⟨ρ8, P8, n8, T8, bb8, l1, l2, l3, l4, l5, l6⟩ := a_bind (f := f) (d := d) hf hF hg ih hbn k2 k3 (p4.xt e2.y.1.wf e2.y.1.n31 (i5.tr (j4.tr k5))) h6 (fun z => hz (by simp only [List.length_append, List.length_cons, List.length_nil] at z ⊢; omega))
    refine ⟨ρ8, P8, n8, T8, bb8, ?_, by simp only [List.append_assoc] at l2 ⊢; exact l2, l3, hp_fr.tr0 (hp_fr.tr0 a4 c3).ax (hp_fr.tr0 d4 (hp_fr.tr0 e4 (hp_fr.tr0 (hp_fr.tr0 i4 j3).ax (hp_fr.tr0 k4 l4)))), a5.tr (c4.tr (d5.tr (e5.tr (i5.tr (j4.tr (k5.tr l5)))))), fun z => d6 (e6 (k6 (l6 z)))⟩
    have hfs : f = f0 + 1 + 1 := hf0
    conv => lhs; rw [am_c_102]
    rw [hfs, am_s102_0, ← hfs]
    rw [show d + 4 * g + 6 + g + 5 = d + 5 * g + 11 by omega] at a1 i1
    simp only [ho_0 w, Option.bind_some, hx_0 w, a1, am_i_some]
    rw [w_ob a4 0, w_ob a4 7]
    simp only [hx_7 a2.w, Option.bind_some, c1, am_i_some]
    rw [w_ob c3 0]
    simp only [ho_1 c2.w, Option.bind_some, hx_3 c2.w, d1, am_v_some]
    rw [w_ob d4 0]
    simp only [hx_0 d2.w, Option.bind_some, e1, am_v_some]
    rw [w_ob e4 0]
    simp only [ho_1 e2.w, ho_0 e2.w, Option.bind_some, hx_0 e2.w, i1, am_i_some]
    rw [w_ob i4 0, w_ob i4 7, w_ob i4 3]
    simp only [hx_7 i2.w, Option.bind_some, j1, am_i_some]
    rw [w_ob j3 0, w_ob j3 3]
    simp only [hx_3 j2.w, Option.bind_some, k1, am_v_some]
    rw [w_ob k4 0]
    simp only [hx_0 k2.w, Option.bind_some, l1, am_v_some]
  · rw [if_neg eg] at he; cases he
/-- writeAnd -/
theorem a_and {f g d p q bn : Nat} (hf : 20000 ≤ f) (hF7 : 7 ≤ F.length) (hG : ∀ t ∈ Gl, G t) (hg : ¬ q_good G → Z) (ih : aW Z G B sa Gl tO F C H f g) (hbn : bn + 1 + g ≤ 900) (hs : sI Z G B C ρ P n T H D bb) (hx : axI sa G tO F ρ P n T b) (he : ax_and Gl F (ax_w Gl tO F g) p q bn b = some (W, b')) (hz : 4000 < (D ++ W).length → Z) :
    aX Z G B sa tO F C ρ P n T bb (am_call B sa am_dfl am_tb f (d + 5 * g + 12) 103 [.ref (ρ.1 0), .int (nI p), .int (nI q), .int (nI bn)] (hp_S sa ρ P)) H (D ++ W) b' := by
  unfold ax_and at he
  by_cases eg : q_inl Gl (qF qB qB) = true ∧ q_inl Gl ax_o2 = true ∧ q_inl Gl (qF ax_o2 qB) = true
  · rw [if_pos eg] at he
    obtain ⟨e, hq, he⟩ := Option.bind_eq_some_iff.mp he
    obtain ⟨rfl, g1, g2⟩ := ax_q_eq hG hq
    obtain ⟨W1, b1, W2, h1, h2, rfl⟩ := ax_then_eq he
    obtain ⟨rfl, rfl⟩ := ax_put_eq h1
    obtain ⟨W3, b3, W4, h3, h4, rfl⟩ := ax_then_eq h2
    obtain ⟨W5, b5, W6, h5, h6, rfl⟩ := ax_then_eq h4
    obtain ⟨W7, b7, W8, h7, h8, rfl⟩ := ax_then_eq h6
    obtain ⟨rfl, rfl⟩ := ax_put_eq h7
    obtain ⟨W9, b9, W0, h9, h0, rfl⟩ := ax_then_eq h8
    have w := hs.w
    obtain ⟨f0, hf0⟩ : ∃ g, f = g + 2 := ⟨f - 2, by omega⟩
    obtain ⟨ρ1, P1, v1, n1, T1, a1, a2, a3, a4, a5⟩ := s_make (sa := sa) (f := f) (d := d + 5 * g + 8) (c := 2) hs (by omega) (Or.inl hs.y.B) (Or.inl hs.y.B) (hG _ (q_inl_mem eg.1))
    have x1 := hx.go a3 hs.y.1.wf hs.y.1.n31 a4
    obtain ⟨ρ2, P2, v2, n2, T2, c1, c2, c3, c4, c5⟩ := s_make (sa := sa) (f := f) (d := d + 5 * g + 8) (c := 2) a2 (by omega) (Or.inl a2.y.B) a5 (hG _ (q_inl_mem eg.2.1))
    have c5 : plg G n2 T2 v2 (qF qB (qF qB qB)) := c5
    have x2 := x1.go c3 a2.y.1.wf a2.y.1.n31 c4
    obtain ⟨ρ3, P3, v3, n3, T3, d1, d2, d3, d4, d5⟩ := s_make (sa := sa) (f := f) (d := d + 5 * g + 8) (c := 2) c2 (by omega) c5 (Or.inl c2.y.B) (hG _ (q_inl_mem eg.2.2))
    have d5 : plg G n3 T3 v3 (qF ax_o2 qB) := d5
    have x3 := x2.go d3 c2.y.1.wf c2.y.1.n31 d4
    have p2 := c5.xt c2.y.1.wf c2.y.1.n31 d4
    obtain ⟨ρ4, P4, n4, T4, bb4, e1, e2, e3, e4, e5, e6⟩ := (s_equals (sa := sa) (f := f) (d := d + 5 * g + 7) d2 (by omega) d5 g1 g2 hg (fun z => hz (by simp only [List.length_append, List.length_cons, List.length_nil] at z ⊢; omega))).a x3 d2.y.1
    have p2 := p2.xt d2.y.1.wf d2.y.1.n31 e5
    have p3 := d5.xt d2.y.1.wf d2.y.1.n31 e5
    -- the head of a side
    have side : ∀ {ρ : hp_L} {P : hp_P} {n : Nat} {T : Nat → Int32 × Int32 × Int32} {D : List qS} {bb : Bool} {b : axB}, sI Z G B C ρ P n T H D bb → axI sa G tO F ρ P n T b → plg G n T v2 (qF qB (qF qB qB)) → plg G n T v3 (qF ax_o2 qB) → (4000 < D.length + 4 → Z) →
        ∃ ρa Pa ρb Pb ρc Pc nc Tc bbc, am_call B sa am_dfl am_tb f (d + 5 * g + 11) 51 [.ref (ρ.1 3), .int (-2), .int v3] (hp_S sa ρ P) = some (none, hp_S sa ρa Pa) ∧ hp_w B ρa ∧ ρa.1 = ρ.1 ∧ am_call B sa am_dfl am_tb f (d + 5 * g + 11) 51 [.ref (ρa.1 3), .int (-1), .int 1] (hp_S sa ρa Pa) = some (none, hp_S sa ρb Pb) ∧ hp_w B ρb ∧ ρb.1 = ρ.1 ∧ am_call B sa am_dfl am_tb f (d + 5 * g + 11) 53 [.ref (ρb.1 3), .int 0, .int v2] (hp_S sa ρb Pb) = some (none, hp_S sa ρc Pc) ∧ sI Z G B C ρc Pc nc Tc H (D ++ [((-2 : Int32), qF ax_o2 qB), ((-1 : Int32), qB), ((-1 : Int32), qF qB qB), ((0 : Int32), ax_o2)]) bbc ∧ axI sa G tO F ρc Pc nc Tc b ∧ hp_fr ax_S 0 ρ P ρc Pc ∧ ty_xt n T nc Tc ∧ (bbc = false → bb = false) ∧ ρc.1 = ρ.1 := by
      intro ρ P n T D bb b hs hx q2 q3 hz
      obtain ⟨ρa, Pa, na, Ta, bba, r1, r2, r3, r4, r5, r6⟩ := (s_write (sa := sa) (f := f0) (d := d + 5 * g + 8) (c := -2) hs q3 hg (fun z => hz (by simp only [List.length_append, List.length_cons, List.length_nil] at z ⊢; omega))).a hx hs.y.1
      obtain ⟨ρb, Pb, nb, Tb, bbb, s1, s2, s3, s4, s5, s6⟩ := (s_write (sa := sa) (f := f0) (d := d + 5 * g + 8) (c := -1) r2 (Or.inl r2.y.B) hg (fun z => hz (by simp only [List.length_append, List.length_cons, List.length_nil] at z ⊢; omega))).a r3 r2.y.1
      obtain ⟨ρc, Pc, nc, Tc, bbc, t1, t2, t3, t4, t5, t6⟩ := (s_applied (sa := sa) (f := f) (d := d + 5 * g + 7) (c := 0) s2 (by omega) (q2.xt hs.y.1.wf hs.y.1.n31 (r5.tr s5)) qN_ne hg (fun z => hz (by simp only [List.length_append, List.length_cons, List.length_nil] at z ⊢; omega))).a s3 s2.y.1
      rw [← hf0] at r1 s1
      exact ⟨ρa, Pa, ρb, Pb, ρc, Pc, nc, Tc, bbc, r1, r2.w, r4.1, s1, s2.w, s4.1.trans r4.1, t1, by simp only [List.append_assoc] at t2 ⊢; exact t2, t3, hp_fr.tr0 r4 (hp_fr.tr0 s4 t4), r5.tr (s5.tr t5), fun z => r6 (s6 (t6 z)), t4.1.trans (s4.1.trans r4.1)⟩
    obtain ⟨ρa, Pa, ρb, Pb, ρ5, P5, n5, T5, bb5, r1, wa, oa, r2, wb, ob, r3, i2, i3, i4, i5, i6, oc⟩ := side e2 e3 p2 p3 (fun z => hz (by simp only [List.length_append, List.length_cons, List.length_nil] at z ⊢; omega))
    obtain ⟨ρ6, P6, n6, T6, bb6, j1, j2, j3, j4, j5, j6⟩ := ih p (bn + 1) (d + 1) b1 b3 W3 ρ5 P5 n5 T5 _ bb5 h3 (by omega) i2 i3 (fun z => hz (by simp only [List.length_append, List.length_cons, List.length_nil] at z ⊢; omega))
    obtain ⟨ρ7, P7, n7, T7, bb7, k1, k2, k3, k4, k5, k6⟩ := ih q (bn + 1) (d + 1) b3 b7 W5 ρ6 P6 n6 T6 _ bb6 h5 (by omega) j2 j3 (fun z => hz (by simp only [List.length_append, List.length_cons, List.length_nil] at z ⊢; omega))
    have x47 := i5.tr (j5.tr k5)
    obtain ⟨ρa', Pa', ρb', Pb', ρ8, P8, n8, T8, bb8, r1', wa', oa', r2', wb', ob', r3', l2, l3, l4, l5, l6, oc'⟩ := side k2 k3 (p2.xt e2.y.1.wf e2.y.1.n31 x47) (p3.xt e2.y.1.wf e2.y.1.n31 x47) (fun z => hz (by simp only [List.length_append, List.length_cons, List.length_nil] at z ⊢; omega))
    obtain ⟨ρ9, P9, n9, T9, bb9, m1, m2, m3, m4, m5, m6⟩ := ih (F.length - 7) (bn + 1) (d + 1) b7 b9 W9 ρ8 P8 n8 T8 _ bb8 h9 (by omega) l2 l3 (fun z => hz (by simp only [List.length_append, List.length_cons, List.length_nil] at z ⊢; omega))
    obtain ⟨ρ0, P0, n0, T0, bb0, o1, o2, o3, o4, o5, o6⟩ := ih (F.length - 7) (bn + 1) (d + 1) b9 b' W0 ρ9 P9 n9 T9 _ bb9 h0 (by omega) m2 m3 (fun z => hz (by simp only [List.length_append, List.length_cons, List.length_nil] at z ⊢; omega))
    refine ⟨ρ0, P0, n0, T0, bb0, ?_, by simp only [List.append_assoc] at o2 ⊢; exact o2, o3, hp_fr.tr0 (hp_fr.tr0 a3 (hp_fr.tr0 c3 d3)).ax (hp_fr.tr0 e4 (hp_fr.tr0 i4 (hp_fr.tr0 j4 (hp_fr.tr0 k4 (hp_fr.tr0 l4 (hp_fr.tr0 m4 o4)))))), a4.tr (c4.tr (d4.tr (e5.tr (x47.tr (l5.tr (m5.tr o5)))))), fun z => e6 (i6 (j6 (k6 (l6 (m6 (o6 z))))))⟩
    have hfs : f = f0 + 1 + 1 := hf0
    conv => lhs; rw [am_c_103]
    rw [hfs, am_s103_0, ← hfs]
    rw [show d + 1 + 5 * g + 10 = d + 5 * g + 11 by omega] at j1 k1 m1 o1
    have o4e : ρ4.1 = ρ.1 := by rw [e4.1, d3.1, c3.1, a3.1]
    have o5e : ρ5.1 = ρ.1 := oc.trans o4e
    have o6e : ρ6.1 = ρ.1 := j4.1.trans o5e
    have o7e : ρ7.1 = ρ.1 := k4.1.trans o6e
    have o8e : ρ8.1 = ρ.1 := oc'.trans o7e
    have o9e : ρ9.1 = ρ.1 := m4.1.trans o8e
    simp only [ho_0 w, Option.bind_some, hx_7 w, a1, am_i_some]
    rw [w_ob a3 0]
    simp only [ho_0 a2.w, Option.bind_some, hx_7 a2.w, c1, am_i_some]
    rw [w_ob c3 0]
    simp only [ho_0 c2.w, Option.bind_some, hx_7 c2.w, d1, am_i_some]
    rw [w_ob d3 0]
    simp only [ho_1 d2.w, Option.bind_some, hx_3 d2.w, e1, am_v_some]
    rw [w_ob e4 0]
    simp only [ho_1 e2.w, Option.bind_some, hx_3 e2.w, r1, am_v_some]
    rw [show ρ4.1 0 = ρa.1 0 by rw [oa]]
    simp only [ho_1 wa, Option.bind_some, hx_3 wa, r2, am_v_some]
    rw [show ρa.1 0 = ρb.1 0 by rw [oa, ob]]
    simp only [ho_1 wb, Option.bind_some, hx_3 wb, r3, am_v_some, nI_1]
    rw [show ρb.1 0 = ρ5.1 0 by rw [ob, oc]]
    simp only [hx_0 i2.w, Option.bind_some, j1, am_v_some]
    rw [w_ob j4 0]
    simp only [hx_0 j2.w, Option.bind_some, k1, am_v_some]
    rw [w_ob k4 0]
    simp only [ho_1 k2.w, Option.bind_some, hx_3 k2.w, r1', am_v_some]
    rw [show ρ7.1 0 = ρa'.1 0 by rw [oa']]
    simp only [ho_1 wa', Option.bind_some, hx_3 wa', r2', am_v_some]
    rw [show ρa'.1 0 = ρb'.1 0 by rw [oa', ob']]
    simp only [ho_1 wb', Option.bind_some, hx_3 wb', r3', am_v_some]
    rw [show ρb'.1 0 = ρ8.1 0 by rw [ob', oc']]
    simp only [h_f2 l2.w, hp_jk_len l3.1, Option.bind_some, hx_0 l2.w, sub7 hF7, m1, am_v_some]
    rw [w_ob m4 0]
    simp only [h_f2 m2.w, hp_jk_len m3.1, Option.bind_some, hx_0 m2.w, sub7 hF7, o1, am_v_some]
  · rw [if_neg eg] at he; cases he
end AX4
