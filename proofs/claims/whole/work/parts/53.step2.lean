/-! STEPS of the class, 2: reflexive, assumed, transitive, replaced, equivalent, congruent -/
section SP3
variable {sa : Nat → Nat} {B : Nat} {ρ : hp_L} {P : hp_P} {b : Bool} {n : Nat} {T : Nat → Int32 × Int32 × Int32} {Z : Prop} {G : qT → Prop} {C : sC} {H : List qM} {D : List qS} {S : qT → Prop} {base : Nat}
theorem sl_pre {M : qM} {D E : List qS} (e : m_fl M = D ++ E) : 4000 < D.length → ¬ sq_lim S base (H, M) := fun z => sl_M (by rw [e, List.length_append]; omega)
theorem qu_E1 {X Y : qM} : q_un S (H ++ [mE X Y]) (qF (m_ty X) qB) := qu_M (s := (-1, qF (m_ty X) qB)) (by rw [mE_fl]; simp [w_eq]) q_sub_rf
theorem qu_E2 {X Y : qM} : q_un S (H ++ [mE X Y]) (qF (m_ty X) (qF (m_ty X) qB)) := qu_M (s := (2, qF (m_ty X) (qF (m_ty X) qB))) (by rw [mE_fl]; simp [w_eq]) q_sub_rf
/-- 10 -/
def sp_10 (em : List qM) (x : Int32) (N : qQ) : Prop := ∃ M, en_at em x M ∧ m_lo M = 0 ∧ N = ([], mE M M)
theorem st_79 {f d : Nat} {x : Int32} (h : cI B C ρ P n T) (hf : 100000 ≤ f) (hc : C.2.1.length < 1000) : cO B sa (sp_10 C.2.2.2.2.2.2.2 x) C ρ P n T (am_call B sa am_dfl am_tb f (d + 20) 79 [.ref (ρ.1 6), .int x] (hp_S sa ρ P)) := by
  have w := h.w
  obtain ⟨f, rfl⟩ : ∃ g, f = g + 1 := ⟨f - 1, by omega⟩
  rw [am_c_79, am_s79_0]
  simp only [ho_602 w, Option.bind_some, hx_1 w, en_isClosed w h.2.1, am_i_some, am_c_ne]
  by_cases e : ∃ M, en_at C.2.2.2.2.2.2.2 x M ∧ m_lo M = 0
  · rw [if_pos (bP_y e)]
    obtain ⟨M, hM, hlo⟩ := e
    obtain ⟨wM, -, ⟨v, r1, r2⟩, -⟩ := en_rd h.2.1 hM
    have h0 := h.s (Z := ¬ sq_lim (ct_S T n) (m_tot (sq_rows C.2.1)) ([], mE M M)) (G := q_un (ct_S T n) ([] ++ [mE M M])) fun t z => Or.inl z
    have eM : m_fl (mE M M) = w_eq (m_ty M) ++ (m_fl M ++ m_fl M) := mE_fl
    obtain ⟨ρ1, P1, n1, T1, b1, a1, a2, a3, a4, a5⟩ := s_equals (sa := sa) (f := f + 1) (d := d + 15) h0 (by omega) (Or.inl r2) qu_E1 qu_E2 sl_good (sl_pre (by rw [eM]; rfl))
    obtain ⟨ρ2, P2, n2, T2, b2, c1, c2, c3, c4, c5⟩ := s_to (sa := sa) (f := f + 1) (d := d + 15) a2 (by omega) hM sl_good (sl_pre (by rw [eM]; simp; rfl))
    obtain ⟨ρ3, P3, n3, T3, b3, d1, d2, d3, d4, d5⟩ := s_to (sa := sa) (f := f + 1) (d := d + 15) c2 (by omega) hM sl_good (sl_pre (E := []) (by rw [eM]; simp))
    have eD : [] ++ w_eq (m_ty M) ++ m_fl M ++ m_fl M = m_fl (mE M M) := by rw [eM]; simp
    rw [eD] at d2
    have ad := s_add (sa := sa) (f := f + 1) (d := d + 15) d2 (by omega) (mE_wf wM wM rfl) hc sl_hM sl_tot
    have fr := hp_fr.tr0 a3 (hp_fr.tr0 c3 d3)
    have fin := s_fin (R := sp_10 C.2.2.2.2.2.2.2 x) (fun N => ⟨fun ⟨M', z1, z2, z3⟩ => by rw [z3, en_at_inj z1 hM], fun z => ⟨M, hM, hlo, z⟩⟩) h.y.1 ad fr.cs (by omega) (a4.tr (c4.tr d4))
    simp only [ho_603 w, hr_105 w, hl_105 w, r1, Option.bind_some, hx_3 w, a1, am_v_some]
    rw [w_ob a3 6]
    simp only [ho_602 a2.w, ho_603 a2.w, Option.bind_some, hx_1 a2.w, c1, am_v_some]
    rw [w_ob c3 6]
    simp only [ho_602 c2.w, ho_603 c2.w, Option.bind_some, hx_1 c2.w, d1, am_v_some]
    rw [w_ob d3 6]
    simp only [ho_604 d2.w, Option.bind_some, hx_4 d2.w]
    exact fin
  · rw [if_neg (fun z => z (bP_n e))]
    exact cO.no h hp_fr.rf (by omega) fun N ⟨M', z1, z2, z3⟩ => e ⟨M', z1, z2⟩
/-- 15 -/
def sp_15 (em : List qM) (x : Int32) (N : qQ) : Prop := ∃ M, en_at em x M ∧ m_lo M = 0 ∧ m_ty M = qB ∧ N = ([M], M)
theorem st_84 {f d : Nat} {x : Int32} (h : cI B C ρ P n T) (hf : 100000 ≤ f) (hc : C.2.1.length < 1000) : cO B sa (sp_15 C.2.2.2.2.2.2.2 x) C ρ P n T (am_call B sa am_dfl am_tb f (d + 20) 84 [.ref (ρ.1 6), .int x] (hp_S sa ρ P)) := by
  have w := h.w
  obtain ⟨f, rfl⟩ : ∃ g, f = g + 1 := ⟨f - 1, by omega⟩
  rw [am_c_84, am_s84_0]
  simp only [ho_602 w, Option.bind_some, hx_1 w, en_isClosed w h.2.1, am_i_some, am_c_eq]
  by_cases e : ∃ M, en_at C.2.2.2.2.2.2.2 x M ∧ m_lo M = 0
  · rw [if_neg (bP_y e)]
    obtain ⟨M, hM, hlo⟩ := e
    obtain ⟨wM, -, ⟨v, r1, r2⟩, -, -, -, -, -, s1, s2⟩ := en_rd h.2.1 hM
    simp only [hr_105 w, hl_105 w, r1, Option.bind_some]
    have hv : v = 1 ↔ m_ty M = qB := ⟨fun z => by rw [← r2.ct, z, h.y.B.ct], fun z => r2.eq (by rw [z]; exact h.y.B) h.y.1.wf h.y.1.2.1 h.y.1.n31⟩
    by_cases e1 : v = 1
    · rw [if_pos e1]
      have hadd : hy_add [] M = [M] := hy_add_n (fun z => by cases z)
      have h0 := h.s (Z := ¬ sq_lim (ct_S T n) (m_tot (sq_rows C.2.1)) ([M], M)) (G := q_un (ct_S T n) ([M] ++ [M])) fun t z => Or.inl z
      obtain ⟨ρ1, P1, n1, T1, b1, a1, a2, a3, a4, a5⟩ := s_to (sa := sa) (f := f + 1) (d := d + 15) h0 (by omega) hM sl_good (sl_pre (E := []) (by simp))
      rw [List.nil_append] at a2
      obtain ⟨ρ2, P2, n2, T2, b2, c1, c2, c3, c4, c5⟩ := s_hyp (sa := sa) (f := f + 1) (d := d + 15) a2 (by omega) wM (by rw [hadd]; exact sl_H)
      rw [hadd] at c2
      obtain ⟨ρ3, P3, n3, T3, b3, d1, d2, d3, d4, d5⟩ := s_to (sa := sa) (f := f + 1) (d := d + 15) c2 (by omega) hM sl_good (sl_pre (E := []) (by simp))
      rw [List.nil_append] at d2
      have ad := s_add (sa := sa) (f := f + 1) (d := d + 15) d2 (by omega) wM hc sl_hM sl_tot
      have fr := hp_fr.tr0 a3 (hp_fr.tr0 c3 d3)
      have fin := s_fin (R := sp_15 C.2.2.2.2.2.2.2 x) (fun N => ⟨fun ⟨M', z1, z2, z3, z4⟩ => by rw [z4, en_at_inj z1 hM], fun z => ⟨M, hM, hlo, hv.mp e1, z⟩⟩) h.y.1 ad fr.cs (by omega) (a4.tr (c4.tr d4))
      simp only [ho_602 w, ho_603 w, Option.bind_some, hx_1 w, a1, am_v_some]
      rw [w_ob a3 6]
      simp only [ho_604 a2.w, Option.bind_some, hx_4 a2.w, c1, am_v_some]
      rw [w_ob c3 6]
      simp only [ho_602 c2.w, ho_603 c2.w, Option.bind_some, hx_1 c2.w, d1, am_v_some]
      rw [w_ob d3 6]
      simp only [ho_604 d2.w, Option.bind_some, hx_4 d2.w]
      exact fin
    · rw [if_neg e1]
      exact cO.no h hp_fr.rf (by omega) fun N ⟨M', z1, z2, z3, z4⟩ => e1 (hv.mpr (by rw [en_at_inj hM z1]; exact z3))
  · rw [if_pos (bP_n e)]
    exact cO.no h hp_fr.rf (by omega) fun N ⟨M', z1, z2, z3⟩ => e ⟨M', z1, z2⟩
theorem eq4 {a : Nat} {x0 x1 x2 x3 : Int32} (h : hp_jk ρ a (.inr (2, [.int x0, .int x1, .int x2, .int x3]))) (P : hp_P) : am_geti (hp_S sa ρ P) a 2 0 = some x0 ∧ am_geti (hp_S sa ρ P) a 2 1 = some x1 ∧ am_geti (hp_S sa ρ P) a 2 2 = some x2 ∧ am_geti (hp_S sa ρ P) a 2 3 = some x3 := ⟨hp_jk_get h rfl, hp_jk_get h rfl, hp_jk_get h rfl, hp_jk_get h rfl⟩
/-- two stretches are the same term -/
theorem st_same {f d : Nat} {A X A' Y : List rwS} {u v : qM} (h : cI B C ρ P n T) (hf : 30000 ≤ f) (hx : srcB n T C.1 A X u) (hy : srcB n T C.1 A' Y v) (hu : m_wf u) (hv : m_wf v) {x y x' y' : Int32} (e1 : x = nI A.length) (e2 : y = nI (A.length + X.length)) (e3 : x' = nI A'.length) (e4 : y' = nI (A'.length + Y.length)) :
    am_call B sa am_dfl am_tb f (d + 1) 60 [.ref (ρ.1 3), .int x, .int y, .int x', .int y'] (hp_S sa ρ P) = some (some (.int (bP (u = v))), hp_S sa ρ P) := by
  obtain ⟨W, hW⟩ := hx.1
  obtain ⟨W', hW'⟩ := hy.1
  rw [rw_same (sa := sa) (f := f) (d := d) h.w h.2.2.2.2.2.2.1 hf (show C.1.flatten ++ [] = A ++ (X ++ W) by rw [List.append_nil]; exact hW) (show C.1.flatten ++ [] = A' ++ (Y ++ W') by rw [List.append_nil]; exact hW') e1 e2 e3 e4]
  have : X = Y ↔ u = v := by
    constructor
    · intro z
      refine m_fl_eq hu hv ?_
      rw [← hx.2.1, ← hy.2.1, z]
    · intro z
      refine rt_inj h.y.1.wf h.y.1.2.1 h.y.1.n31 hx.2.2 hy.2.2 ?_
      rw [hx.2.1, hy.2.1, z]
  by_cases e : X = Y
  · rw [if_pos e, bP_t (this.mp e)]
  · rw [if_neg e, bP_f (fun z => e (this.mpr z))]
theorem m_isE_inj {M X Y X' Y' : qM} (h : m_isE M X Y) (h' : m_isE M X' Y') : X = X' ∧ Y = Y' := mE_inj (h.2.2.2.symm.trans h'.2.2.2)
theorem nA {A X : List rwS} {n : Nat} (h : n = A.length + X.length) : n = (A ++ X).length := by rw [h, List.length_append]
/-- 11 -/
def sp_11 (sq : List qQ) (a b : Int32) (N : qQ) : Prop := ∃ s t X Y W, en_at sq a s ∧ en_at sq b t ∧ m_isE s.2 X Y ∧ m_isE t.2 Y W ∧ N = (hy_join none (hy_join none [] s.1) t.1, mE X W)
theorem st_80 {f d : Nat} {x y : Int32} (h : cI B C ρ P n T) (hf : 100000 ≤ f) (hc : C.2.1.length < 1000) : cO B sa (sp_11 C.2.1 x y) C ρ P n T (am_call B sa am_dfl am_tb f (d + 20) 80 [.ref (ρ.1 6), .int x, .int y] (hp_S sa ρ P)) := by
  have w := h.w
  have hwf := h.y.1.wf
  have hn := h.y.1.n31
  have E1 := st_eqOf (sa := sa) (f := f) (d := d + 16) (x := x) h (by omega)
  obtain ⟨f, rfl⟩ : ∃ g, f = g + 1 := ⟨f - 1, by omega⟩
  rw [am_c_80, am_s80_0]
  simp only [hx_6 w, Option.bind_some]
  rcases E1 with ⟨j, s, X, Y, p, ρ1, rfl, hj, hE, q1, h1, fr1, q2⟩ | ⟨hno, q1⟩
  · have ej : en_at C.2.1 (nI j) s := ⟨j, rfl, by have := (List.getElem?_eq_some_iff.mp hj).1; omega, hj⟩
    have E2 := st_eqOf (sa := sa) (f := f + 1) (d := d + 16) (x := y) h1 (by omega)
    rw [q1, am_p_some, w_ob (fr1 cl_S) 6]
    simp only [hx_6 h1.w, Option.bind_some]
    rcases E2 with ⟨k, t, X', W, p', ρ2, rfl, hk, hE', q1', h2, fr2, q2'⟩ | ⟨hno, q1'⟩
    · have ek : en_at C.2.1 (nI k) t := ⟨k, rfl, by have := (List.getElem?_eq_some_iff.mp hk).1; omega, hk⟩
      have fr12 : hp_fr cl_S 2 ρ P ρ2 P := (fr1 cl_S).tr (fr2 cl_S)
      obtain ⟨A, Xr, Yr, v, j1, sx, sy, pv⟩ := q2
      obtain ⟨A', Xr', Wr, v', j1', sx', sw, pv'⟩ := q2'
      have j2 := (fr2 cl_S).2.2.1 _ _ j1
      have w2 := h2.w
      obtain ⟨g0, g1, g2, g3⟩ := eq4 (sa := sa) j2 P
      obtain ⟨g0', g1', g2', g3'⟩ := eq4 (sa := sa) j1' P
      have hsame := st_same (sa := sa) (f := f + 1) (d := d + 18) h2 (by omega) sy sx' hE.2.1 hE'.1 (x := nI (A.length + Xr.length)) (y := nI (A.length + Xr.length + Yr.length)) (x' := nI A'.length) (y' := nI (A'.length + Xr'.length)) (by rw [List.length_append]) (by rw [List.length_append]) rfl rfl
      rw [q1', am_p_some, w_ob (fr2 cl_S) 6]
      simp only [ho_603 w2, g1, g2, g0', g1', Option.bind_some, hx_3 w2, hsame, am_i_some, am_c_ne]
      by_cases e : Y = X'
      · subst e
        rw [if_pos (bP_y rfl)]
        have hw1 : m_ty W = m_ty X := hE'.2.2.1.trans hE.2.2.1
        have hz := sl_H (S := ct_S T n) (base := m_tot (sq_rows C.2.1)) (H := hy_join none (hy_join none [] s.1) t.1) (M := mE X W)
        have hz1 : zH (¬ sq_lim (ct_S T n) (m_tot (sq_rows C.2.1)) (hy_join none (hy_join none [] s.1) t.1, mE X W)) (m_tot (sq_rows C.2.1)) (hy_join none [] s.1) := by
          obtain ⟨Q, hQ⟩ := hy_join_pre (e := none) (L := t.1) (H := hy_join none [] s.1)
          rw [hQ] at hz ⊢
          exact hz.pre
        have h0 := h2.s (Z := ¬ sq_lim (ct_S T n) (m_tot (sq_rows C.2.1)) (hy_join none (hy_join none [] s.1) t.1, mE X W)) (G := q_un (ct_S T n) (hy_join none (hy_join none [] s.1) t.1 ++ [mE X W])) fun t z => Or.inl z
        have eM : m_fl (mE X W) = w_eq (m_ty X) ++ (m_fl X ++ m_fl W) := mE_fl
        obtain ⟨ρa, Pa, na, Ta, ba, a1, a2, a3, a4, a5⟩ := s_join (sa := sa) (f := f + 1) (d := d + 14) h0 (by omega) sl_good hj (Or.inl ⟨rfl, rfl⟩) hz1
        obtain ⟨ρb, Pb, nb, Tb, bb, b1, b2, b3, b4, b5⟩ := s_join (sa := sa) (f := f + 1) (d := d + 14) a2 (by omega) sl_good hk (Or.inl ⟨rfl, rfl⟩) hz
        have xb := a4.tr b4
        have jb := (hp_fr.tr0 a3 b3).2.2.1 _ _ j2
        obtain ⟨-, -, -, G3⟩ := eq4 (sa := sa) jb Pb
        obtain ⟨ρc, Pc, nc, Tc, bc, c1, c2, c3, c4, c5⟩ := s_equals (sa := sa) (f := f + 1) (d := d + 15) b2 (by omega) (Or.inl (pv.xt hwf hn xb)) qu_E1 qu_E2 sl_good (sl_pre (by rw [eM]; rfl))
        have xc := xb.tr c4
        have jc := c3.2.2.1 _ _ jb
        obtain ⟨G0, G1, -, -⟩ := eq4 (sa := sa) jc Pc
        obtain ⟨ρd, Pd, nd, Td, bd, d1, d2, d3, d4, d5⟩ := s_copy (sa := sa) (f := f + 1) (d := d + 15) c2 (by omega) (sx.xt hwf hn xc) sl_good (sl_pre (by rw [eM]; simp; rfl)) rfl rfl
        have xd := xc.tr d4
        have frd := hp_fr.tr0 (hp_fr.tr0 a3 b3) (hp_fr.tr0 c3 d3)
        have jd := frd.2.2.1 _ _ j1'
        obtain ⟨-, G1', G2', -⟩ := eq4 (sa := sa) jd Pd
        obtain ⟨ρe, Pe, ne, Te, be, e1, e2, e3, e4, e5⟩ := s_copy (sa := sa) (f := f + 1) (d := d + 15) d2 (by omega) (sw.xt hwf hn xd) sl_good (sl_pre (E := []) (by rw [eM]; simp)) (x := nI (A'.length + Xr'.length)) (y := nI (A'.length + Xr'.length + Wr.length)) (by rw [List.length_append]) (by rw [List.length_append])
        rw [show [] ++ w_eq (m_ty X) ++ m_fl X ++ m_fl W = m_fl (mE X W) by rw [eM]; simp] at e2
        have ad := s_add (sa := sa) (f := f + 1) (d := d + 15) e2 (by omega) (mE_wf hE.1 hE'.2.1 hw1) hc sl_hM sl_tot
        have fin := s_fin (R := sp_11 C.2.1 (nI j) (nI k)) (fun N => ⟨fun ⟨s', t', X1, Y1, W1, z1, z2, z3, z4, z5⟩ => by
          obtain rfl := en_at_inj z1 ej
          obtain rfl := en_at_inj z2 ek
          obtain ⟨rfl, rfl⟩ := m_isE_inj z3 hE
          obtain ⟨-, rfl⟩ := m_isE_inj z4 hE'
          exact z5, fun z => ⟨s, t, X, Y, W, ej, ek, hE, hE', z⟩⟩) h.y.1 ad (fr12.tr (hp_fr.tr0 frd e3).cs) (by omega) (xd.tr e4)
        simp only [ho_604 w2, Option.bind_some, hx_4 w2, a1, am_v_some]
        rw [w_ob a3 6]
        simp only [ho_604 a2.w, Option.bind_some, hx_4 a2.w, b1, am_v_some]
        rw [w_ob b3 6]
        simp only [ho_603 b2.w, G3, Option.bind_some, hx_3 b2.w, c1, am_v_some]
        rw [w_ob c3 6]
        simp only [ho_603 c2.w, G0, G1, Option.bind_some, hx_3 c2.w, d1, am_v_some]
        rw [w_ob d3 6]
        simp only [ho_603 d2.w, G1', G2', Option.bind_some, hx_3 d2.w, e1, am_v_some]
        rw [w_ob e3 6]
        simp only [ho_604 e2.w, Option.bind_some, hx_4 e2.w]
        exact fin
      · rw [if_neg (fun z => z (bP_n e))]
        exact cO.no h2 fr12 (by omega) fun N ⟨s', t', X1, Y1, W1, z1, z2, z3, z4, z5⟩ => e (by
          obtain rfl := en_at_inj z1 ej
          obtain rfl := en_at_inj z2 ek
          obtain ⟨-, rfl⟩ := m_isE_inj z3 hE
          obtain ⟨rfl, -⟩ := m_isE_inj z4 hE'
          rfl)
    · rw [q1', am_p_null]
      exact cO.no h1 (fr1 cl_S) (by omega) fun N ⟨s', t', X1, Y1, W1, z1, z2, z3, z4, z5⟩ => hno ⟨t', Y1, W1, z2, z4⟩
  · rw [q1, am_p_null]
    have E2 := st_eqOf (sa := sa) (f := f + 1) (d := d + 16) (x := y) h (by omega)
    simp only [hx_6 w, Option.bind_some]
    have hn : ∀ N, ¬ sp_11 C.2.1 x y N := fun N ⟨s', t', X1, Y1, W1, z1, z2, z3, z4, z5⟩ => hno ⟨s', X1, Y1, z1, z3⟩
    rcases E2 with ⟨k, t, X', W, p', ρ2, -, hk, hE', q1', h2, fr2, q2'⟩ | ⟨hno', q1'⟩
    · rw [q1', am_p_some]
      exact cO.no h2 (fr2 cl_S) (by omega) hn
    · rw [q1', am_p_null]
      exact cO.no h hp_fr.rf (by omega) hn
end SP3
