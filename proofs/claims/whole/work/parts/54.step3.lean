/-! STEPS of the class, 3: replaced, equivalent, congruent, abstracted -/
section SP4
variable {sa : Nat → Nat} {B : Nat} {ρ : hp_L} {P : hp_P} {b : Bool} {n : Nat} {T : Nat → Int32 × Int32 × Int32} {Z : Prop} {G : qT → Prop} {C : sC} {H : List qM} {D : List qS} {S : qT → Prop} {base : Nat}
/-- 16 -/
def sp_16 (sq : List qQ) (a b : Int32) (N : qQ) : Prop := ∃ s t Y, en_at sq a s ∧ en_at sq b t ∧ m_isE s.2 t.2 Y ∧ N = (hy_join none (hy_join none [] s.1) t.1, Y)
theorem st_85 {f d : Nat} {x y : Int32} (h : cI B C ρ P n T) (hf : 100000 ≤ f) (hc : C.2.1.length < 1000) : cO B sa (sp_16 C.2.1 x y) C ρ P n T (am_call B sa am_dfl am_tb f (d + 20) 85 [.ref (ρ.1 6), .int x, .int y] (hp_S sa ρ P)) := by
  have w := h.w
  have hwf := h.y.1.wf
  have hn := h.y.1.n31
  have E1 := st_eqOf (sa := sa) (f := f) (d := d + 16) (x := x) h (by omega)
  obtain ⟨f, rfl⟩ : ∃ g, f = g + 1 := ⟨f - 1, by omega⟩
  rw [am_c_85, am_s85_0]
  simp only [hx_6 w, Option.bind_some]
  rcases E1 with ⟨j, s, X, Y, p, ρ1, rfl, hj, hE, q1, h1, fr1, q2⟩ | ⟨hno, q1⟩
  · have ej : en_at C.2.1 (nI j) s := ⟨j, rfl, by have := (List.getElem?_eq_some_iff.mp hj).1; omega, hj⟩
    have w1 := h1.w
    have hs1 := h1.s (Z := True) (G := fun _ => True) fun _ _ => True.intro
    rw [q1, am_p_some, w_ob (fr1 cl_S) 6]
    simp only [ho_604 w1, hx_4 w1, Option.bind_some, sq_has hs1, am_i_some, am_c_ne]
    by_cases e0 : ∃ t, en_at C.2.1 y t
    · rw [if_pos (bP_y e0)]
      obtain ⟨t, k, rfl, k31, hk⟩ := e0
      have ek : en_at C.2.1 (nI k) t := ⟨k, rfl, k31, hk⟩
      obtain ⟨A, Xr, Yr, v, j1, sx, sy, pv⟩ := q2
      obtain ⟨g0, g1, g2, g3⟩ := eq4 (sa := sa) j1 P
      obtain ⟨A', R, r1, r2, r3, -, -, -⟩ := hs1.row (sq_con hk)
      have hm := (h1.2.2.2.2.1.2 t.2 (List.mem_of_getElem? (sq_con hk))).1
      have hsame := st_same (sa := sa) (f := f + 1) (d := d + 18) h1 (by omega) sx r1 hE.1 hm rfl rfl rfl rfl
      simp only [sq_conc hs1 hk, am_i_some, ho_603 w1, g0, g1, Option.bind_some, hr_304 w1, hl_304 w1, r2, nI_1, r3, hx_3 w1, hsame]
      by_cases e : X = t.2
      · rw [if_pos (bP_y e)]
        have hE2 : m_isE s.2 t.2 Y := by rw [← e]; exact hE
        have hz := sl_H (S := ct_S T n) (base := m_tot (sq_rows C.2.1)) (H := hy_join none (hy_join none [] s.1) t.1) (M := Y)
        have hz1 : zH (¬ sq_lim (ct_S T n) (m_tot (sq_rows C.2.1)) (hy_join none (hy_join none [] s.1) t.1, Y)) (m_tot (sq_rows C.2.1)) (hy_join none [] s.1) := by
          obtain ⟨Q, hQ⟩ := hy_join_pre (e := none) (L := t.1) (H := hy_join none [] s.1)
          rw [hQ] at hz ⊢
          exact hz.pre
        have h0 := h1.s (Z := ¬ sq_lim (ct_S T n) (m_tot (sq_rows C.2.1)) (hy_join none (hy_join none [] s.1) t.1, Y)) (G := q_un (ct_S T n) (hy_join none (hy_join none [] s.1) t.1 ++ [Y])) fun t z => Or.inl z
        obtain ⟨ρa, Pa, na, Ta, ba, a1, a2, a3, a4, a5⟩ := s_join (sa := sa) (f := f + 1) (d := d + 14) h0 (by omega) sl_good hj (Or.inl ⟨rfl, rfl⟩) hz1
        obtain ⟨ρb, Pb, nb, Tb, bb, b1, b2, b3, b4, b5⟩ := s_join (sa := sa) (f := f + 1) (d := d + 14) a2 (by omega) sl_good hk (Or.inl ⟨rfl, rfl⟩) hz
        have xb := a4.tr b4
        have jb := (hp_fr.tr0 a3 b3).2.2.1 _ _ j1
        obtain ⟨-, G1, G2, -⟩ := eq4 (sa := sa) jb Pb
        obtain ⟨ρe, Pe, ne, Te, be, e1, e2, e3, e4, e5⟩ := s_copy (sa := sa) (f := f + 1) (d := d + 15) b2 (by omega) (sy.xt hwf hn xb) sl_good (sl_pre (E := []) (by simp)) (x := nI (A.length + Xr.length)) (y := nI (A.length + Xr.length + Yr.length)) (by rw [List.length_append]) (by rw [List.length_append])
        rw [List.nil_append] at e2
        have ad := s_add (sa := sa) (f := f + 1) (d := d + 15) e2 (by omega) hE.2.1 hc sl_hM sl_tot
        have fin := s_fin (R := sp_16 C.2.1 (nI j) (nI k)) (fun N => ⟨fun ⟨s', t', Y1, z1, z2, z3, z5⟩ => by
          obtain rfl := en_at_inj z1 ej
          obtain rfl := en_at_inj z2 ek
          obtain ⟨-, rfl⟩ := m_isE_inj z3 hE
          exact z5, fun z => ⟨s, t, Y, ej, ek, hE2, z⟩⟩) h.y.1 ad ((fr1 cl_S).tr (hp_fr.tr0 (hp_fr.tr0 a3 b3) e3).cs) (by omega) (xb.tr e4)
        simp only [ho_604 w1, Option.bind_some, hx_4 w1, a1, am_v_some]
        rw [w_ob a3 6]
        simp only [ho_604 a2.w, Option.bind_some, hx_4 a2.w, b1, am_v_some]
        rw [w_ob b3 6]
        simp only [ho_603 b2.w, G1, G2, Option.bind_some, hx_3 b2.w, e1, am_v_some]
        rw [w_ob e3 6]
        simp only [ho_604 e2.w, Option.bind_some, hx_4 e2.w]
        exact fin
      · rw [if_neg (fun z => z (bP_n e))]
        exact cO.no h1 (fr1 cl_S) (by omega) fun N ⟨s', t', Y1, z1, z2, z3, z5⟩ => e (by
          obtain rfl := en_at_inj z1 ej
          obtain rfl := en_at_inj z2 ek
          exact (m_isE_inj z3 hE).1.symm)
    · rw [if_neg (fun z => z (bP_n e0))]
      exact cO.no h1 (fr1 cl_S) (by omega) fun N ⟨s', t', Y1, z1, z2, z3, z5⟩ => e0 ⟨t', z2⟩
  · rw [q1, am_p_null]
    exact cO.no h hp_fr.rf (by omega) fun N ⟨s', t', Y1, z1, z2, z3, z5⟩ => hno ⟨s', t'.2, Y1, z1, z3⟩
/-- 17; both are of truths -/
def sp_17 (sq : List qQ) (a b : Int32) (N : qQ) : Prop := ∃ s t, en_at sq a s ∧ en_at sq b t ∧ N = (hy_join (some s.2) (hy_join (some t.2) [] s.1) t.1, mE s.2 t.2)
theorem st_86 {f d : Nat} {x y : Int32} (h : cI B C ρ P n T) (hf : 100000 ≤ f) (hc : C.2.1.length < 1000) (hty : ∀ s ∈ C.2.1, m_ty s.2 = qB) : cO B sa (sp_17 C.2.1 x y) C ρ P n T (am_call B sa am_dfl am_tb f (d + 20) 86 [.ref (ρ.1 6), .int x, .int y] (hp_S sa ρ P)) := by
  have w := h.w
  have hwf := h.y.1.wf
  have hn := h.y.1.n31
  have hs := h.s (Z := True) (G := fun _ => True) fun _ _ => True.intro
  obtain ⟨f, rfl⟩ : ∃ g, f = g + 1 := ⟨f - 1, by omega⟩
  rw [am_c_86, am_s86_0]
  simp only [ho_604 w, hx_4 w, Option.bind_some, sq_has hs, am_i_some, am_c_eq, am_c_ne]
  by_cases e : ∃ s, en_at C.2.1 x s
  · rw [if_neg (bP_y e)]
    by_cases e' : ∃ s, en_at C.2.1 y s
    · rw [if_pos (bP_y e')]
      obtain ⟨s, j, rfl, j31, hj⟩ := e
      obtain ⟨t, k, rfl, k31, hk⟩ := e'
      have ej : en_at C.2.1 (nI j) s := ⟨j, rfl, j31, hj⟩
      have ek : en_at C.2.1 (nI k) t := ⟨k, rfl, k31, hk⟩
      have cj := sq_con hj
      have ck := sq_con hk
      have ts := hty s (List.mem_of_getElem? hj)
      have tt := hty t (List.mem_of_getElem? hk)
      have ms := (h.2.2.2.2.1.2 s.2 (List.mem_of_getElem? cj)).1
      have mt := (h.2.2.2.2.1.2 t.2 (List.mem_of_getElem? ck)).1
      have kj := (hs.first hj).2.2.1
      have kk := (hs.first hk).2.2.1
      have hz := sl_H (S := ct_S T n) (base := m_tot (sq_rows C.2.1)) (H := hy_join (some s.2) (hy_join (some t.2) [] s.1) t.1) (M := mE s.2 t.2)
      have hz1 : zH (¬ sq_lim (ct_S T n) (m_tot (sq_rows C.2.1)) (hy_join (some s.2) (hy_join (some t.2) [] s.1) t.1, mE s.2 t.2)) (m_tot (sq_rows C.2.1)) (hy_join (some t.2) [] s.1) := by
        obtain ⟨Q, hQ⟩ := hy_join_pre (e := some s.2) (L := t.1) (H := hy_join (some t.2) [] s.1)
        rw [hQ] at hz ⊢
        exact hz.pre
      have h0 := h.s (Z := ¬ sq_lim (ct_S T n) (m_tot (sq_rows C.2.1)) (hy_join (some s.2) (hy_join (some t.2) [] s.1) t.1, mE s.2 t.2)) (G := q_un (ct_S T n) (hy_join (some s.2) (hy_join (some t.2) [] s.1) t.1 ++ [mE s.2 t.2])) fun t z => Or.inl z
      have eM : m_fl (mE s.2 t.2) = w_eq qB ++ (m_fl s.2 ++ m_fl t.2) := by rw [mE_fl, ts]
      have g1 : q_un (ct_S T n) (hy_join (some s.2) (hy_join (some t.2) [] s.1) t.1 ++ [mE s.2 t.2]) (qF qB qB) := by have := qu_E1 (S := ct_S T n) (H := hy_join (some s.2) (hy_join (some t.2) [] s.1) t.1) (X := s.2) (Y := t.2); rw [ts] at this; exact this
      have g2 : q_un (ct_S T n) (hy_join (some s.2) (hy_join (some t.2) [] s.1) t.1 ++ [mE s.2 t.2]) (qF qB (qF qB qB)) := by have := qu_E2 (S := ct_S T n) (H := hy_join (some s.2) (hy_join (some t.2) [] s.1) t.1) (X := s.2) (Y := t.2); rw [ts] at this; exact this
      obtain ⟨ρa, Pa, na, Ta, ba, a1, a2, a3, a4, a5⟩ := s_join (sa := sa) (f := f + 1) (d := d + 14) h0 (by omega) sl_good hj (Or.inr ⟨_, _, rfl, by omega, ck, rfl⟩) hz1
      obtain ⟨ρb, Pb, nb, Tb, bb, b1, b2, b3, b4, b5⟩ := s_join (sa := sa) (f := f + 1) (d := d + 14) a2 (by omega) sl_good hk (Or.inr ⟨_, _, rfl, by omega, cj, rfl⟩) hz
      have xb := a4.tr b4
      obtain ⟨ρc, Pc, nc, Tc, bc, c1, c2, c3, c4, c5⟩ := s_equals (sa := sa) (f := f + 1) (d := d + 15) b2 (by omega) (Or.inl b2.y.B) g1 g2 sl_good (sl_pre (by rw [eM]; rfl))
      have xc := xb.tr c4
      obtain ⟨A, R, r1, r2, r3, -, -, -⟩ := c2.row cj
      obtain ⟨ρd, Pd, nd, Td, bd, d1, d2, d3, d4, d5⟩ := s_copy (sa := sa) (f := f + 1) (d := d + 15) c2 (by omega) r1 sl_good (sl_pre (by rw [eM]; simp; rfl)) rfl rfl
      have xd := xc.tr d4
      obtain ⟨A', R', r1', r2', r3', -, -, -⟩ := d2.row ck
      obtain ⟨ρe, Pe, ne, Te, be, e1, e2, e3, e4, e5⟩ := s_copy (sa := sa) (f := f + 1) (d := d + 15) d2 (by omega) r1' sl_good (sl_pre (E := []) (by rw [eM]; simp)) rfl rfl
      rw [show [] ++ w_eq qB ++ m_fl s.2 ++ m_fl t.2 = m_fl (mE s.2 t.2) by rw [eM]; simp] at e2
      have ad := s_add (sa := sa) (f := f + 1) (d := d + 15) e2 (by omega) (mE_wf ms mt (by rw [ts, tt])) hc sl_hM sl_tot
      have fin := s_fin (R := sp_17 C.2.1 (nI j) (nI k)) (fun N => ⟨fun ⟨s', t', z1, z2, z5⟩ => by
        obtain rfl := en_at_inj z1 ej
        obtain rfl := en_at_inj z2 ek
        exact z5, fun z => ⟨s, t, ej, ek, z⟩⟩) h.y.1 ad (hp_fr.tr0 (hp_fr.tr0 (hp_fr.tr0 a3 b3) (hp_fr.tr0 c3 d3)) e3).cs (by omega) (xd.tr e4)
      simp only [sq_conc hs hj, sq_conc hs hk, am_i_some, ho_604 w, Option.bind_some, hx_4 w, a1, am_v_some]
      rw [w_ob a3 6]
      simp only [ho_604 a2.w, Option.bind_some, hx_4 a2.w, b1, am_v_some]
      rw [w_ob b3 6]
      simp only [ho_603 b2.w, Option.bind_some, hx_3 b2.w, c1, am_v_some]
      rw [w_ob c3 6]
      simp only [ho_603 c2.w, hr_304 c2.w, hl_304 c2.w, r2, nI_1, r3, Option.bind_some, hx_3 c2.w, d1, am_v_some]
      rw [w_ob d3 6]
      simp only [ho_603 d2.w, hr_304 d2.w, hl_304 d2.w, r2', nI_1, r3', Option.bind_some, hx_3 d2.w, e1, am_v_some]
      rw [w_ob e3 6]
      simp only [ho_604 e2.w, Option.bind_some, hx_4 e2.w]
      exact fin
    · rw [if_neg (fun z => z (bP_n e'))]
      exact cO.no h hp_fr.rf (by omega) fun N ⟨s', t', z1, z2, z5⟩ => e' ⟨t', z2⟩
  · rw [if_pos (bP_n e)]
    exact cO.no h hp_fr.rf (by omega) fun N ⟨s', t', z1, z2, z5⟩ => e ⟨s', z1⟩
theorem qN_app (a t : qT) : qF a t = qN 2 a t := rfl
theorem m_ty_ne {M : qM} (h : m_wf M) : True := True.intro
/-- 12 -/
def sp_12 (sq : List qQ) (a b : Int32) (N : qQ) : Prop := ∃ s t F F' X X' u, en_at sq a s ∧ en_at sq b t ∧ m_isE s.2 F F' ∧ m_isE t.2 X X' ∧ m_ty F = qF (m_ty X) u ∧ N = (hy_join none (hy_join none [] s.1) t.1, mE (mN (-1) u F X) (mN (-1) u F' X'))
set_option maxHeartbeats 2000000 in
theorem st_81 {f d : Nat} {x y : Int32} {tk : List Nat} (h : cI B C ρ P n T) (hf : 100000 ≤ f) (hc : C.2.1.length < 1000) (har : ty_ar (q_tk tk) T n) (htk : q_tk tk 2 = 2) : cO B sa (sp_12 C.2.1 x y) C ρ P n T (am_call B sa am_dfl am_tb f (d + 20) 81 [.ref (ρ.1 6), .int x, .int y] (hp_S sa ρ P)) := by
  have w := h.w
  have hwf := h.y.1.wf
  have hn := h.y.1.n31
  have E1 := st_eqOf (sa := sa) (f := f) (d := d + 16) (x := x) h (by omega)
  obtain ⟨f, rfl⟩ : ∃ g, f = g + 1 := ⟨f - 1, by omega⟩
  rw [am_c_81, am_s81_0]
  simp only [hx_6 w, Option.bind_some]
  rcases E1 with ⟨j, s, F, F', p, ρ1, rfl, hj, hE, q1, h1, fr1, q2⟩ | ⟨hno, q1⟩
  · have ej : en_at C.2.1 (nI j) s := ⟨j, rfl, by have := (List.getElem?_eq_some_iff.mp hj).1; omega, hj⟩
    have E2 := st_eqOf (sa := sa) (f := f + 1) (d := d + 16) (x := y) h1 (by omega)
    rw [q1, am_p_some, w_ob (fr1 cl_S) 6]
    simp only [hx_6 h1.w, Option.bind_some]
    rcases E2 with ⟨k, t, X, X', p', ρ2, rfl, hk, hE', q1', h2, fr2, q2'⟩ | ⟨hno, q1'⟩
    · have ek : en_at C.2.1 (nI k) t := ⟨k, rfl, by have := (List.getElem?_eq_some_iff.mp hk).1; omega, hk⟩
      have fr12 : hp_fr cl_S 2 ρ P ρ2 P := (fr1 cl_S).tr (fr2 cl_S)
      obtain ⟨A, Fr, Fr', v, j1, sf, sf', pv⟩ := q2
      obtain ⟨A', Xr, Xr', v', j1', sx, sx', pv'⟩ := q2'
      have j2 := (fr2 cl_S).2.2.1 _ _ j1
      have w2 := h2.w
      obtain ⟨g0, g1, g2, g3⟩ := eq4 (sa := sa) j2 P
      obtain ⟨g0', g1', g2', g3'⟩ := eq4 (sa := sa) j1' P
      obtain ⟨i, i1, rfl, i3⟩ := pv
      have pv : pl n T (nI i) (m_ty F) := ⟨i, i1, rfl, i3⟩
      obtain ⟨r0, r1, r2⟩ := ty_row h.y.1.1 i1
      rw [ct_at hwf hn i1] at i3
      have inv : ∀ N, sp_12 C.2.1 (nI j) (nI k) N → (T i).1 = 2 ∧ ct T n (T i).2.1 = m_ty X := fun N ⟨s', t', F1, F1', X1, X1', u1, z1, z2, z3, z4, z5, z6⟩ => by
        obtain rfl := en_at_inj z1 ej
        obtain rfl := en_at_inj z2 ek
        obtain ⟨rfl, -⟩ := m_isE_inj z3 hE
        obtain ⟨rfl, -⟩ := m_isE_inj z4 hE'
        rw [← i3] at z5
        obtain ⟨y1, y2, -⟩ := qN_inj.mp z5
        exact ⟨y1, y2⟩
      rw [q1', am_p_some, w_ob (fr2 cl_S) 6]
      simp only [ho_600 w2, g3, Option.bind_some, hx_7 w2, ty_isFun w2 h2.y.1.1 i1, am_i_some, am_c_eq]
      by_cases c2 : (T i).1 = 2
      · rw [if_pos c2, if_neg (show ¬ ((1 : Int32) = 0) by decide)]
        have hark := har i i1
        rw [ct_at hwf hn i1, q_ar_N, c2, htk] at hark
        obtain ⟨w1', w2'⟩ := hwf i i1
        obtain ⟨l, l1, l2⟩ := w1'.resolve_left fun z => by
          have := hark.1.mpr (by rw [z, ct_m1])
          omega
        obtain ⟨r, rr1, rr2⟩ := w2'.resolve_left fun z => by
          have := hark.2.1.mpr (by rw [z, ct_m1])
          omega
        have pL : pl n T (T i).2.1 (ct T n (T i).2.1) := ⟨l, by omega, l2, rfl⟩
        have pR : pl n T (T i).2.2 (ct T n (T i).2.2) := ⟨r, by omega, rr2, rfl⟩
        simp only [hr_701 w2, hl_701 w2, r1, g3', Option.bind_some]
        by_cases c3 : (T i).2.1 = v'
        · rw [if_pos c3]
          generalize hu : ct T n (T i).2.2 = u at pR i3
          have hty : m_ty F = qF (m_ty X) u := by rw [← i3, c2, c3, pv'.ct]; rfl
          have hty' : m_ty F' = qF (m_ty X') u := by rw [hE.2.2.1, hE'.2.2.1]; exact hty
          have wl := m_wf_app hE.1 hE'.1 hty
          have wr := m_wf_app hE.2.1 hE'.2.1 hty'
          have wM : m_wf (mE (mN (-1) u F X) (mN (-1) u F' X')) := mE_wf wl wr rfl
          have hz := sl_H (S := ct_S T n) (base := m_tot (sq_rows C.2.1)) (H := hy_join none (hy_join none [] s.1) t.1) (M := mE (mN (-1) u F X) (mN (-1) u F' X'))
          have hz1 : zH (¬ sq_lim (ct_S T n) (m_tot (sq_rows C.2.1)) (hy_join none (hy_join none [] s.1) t.1, mE (mN (-1) u F X) (mN (-1) u F' X'))) (m_tot (sq_rows C.2.1)) (hy_join none [] s.1) := by
            obtain ⟨Q, hQ⟩ := hy_join_pre (e := none) (L := t.1) (H := hy_join none [] s.1)
            rw [hQ] at hz ⊢
            exact hz.pre
          have h0 := h2.s (Z := ¬ sq_lim (ct_S T n) (m_tot (sq_rows C.2.1)) (hy_join none (hy_join none [] s.1) t.1, mE (mN (-1) u F X) (mN (-1) u F' X'))) (G := q_un (ct_S T n) (hy_join none (hy_join none [] s.1) t.1 ++ [mE (mN (-1) u F X) (mN (-1) u F' X')])) fun t z => Or.inl z
          have eM : m_fl (mE (mN (-1) u F X) (mN (-1) u F' X')) = w_eq u ++ [((-1 : Int32), u)] ++ m_fl F ++ m_fl X ++ [((-1 : Int32), u)] ++ m_fl F' ++ m_fl X' := by
            rw [mE_fl, m_ty_N, m_fl_N, m_fl_N]; simp
          obtain ⟨ρa, Pa, na, Ta, ba, a1, a2, a3, a4, a5⟩ := s_join (sa := sa) (f := f + 1) (d := d + 14) h0 (by omega) sl_good hj (Or.inl ⟨rfl, rfl⟩) hz1
          obtain ⟨ρb, Pb, nb, Tb, bb, b1, b2, b3, b4, b5⟩ := s_join (sa := sa) (f := f + 1) (d := d + 14) a2 (by omega) sl_good hk (Or.inl ⟨rfl, rfl⟩) hz
          have xb := a4.tr b4
          have frb := hp_fr.tr0 a3 b3
          obtain ⟨ρc, Pc, nc, Tc, bc, c1, c2', c3', c4, c5⟩ := s_equals (sa := sa) (f := f + 1) (d := d + 15) (t := u) b2 (by omega) (Or.inl (pR.xt hwf hn xb)) qu_E1 qu_E2 sl_good (sl_pre (by rw [eM]; simp; rfl))
          have xc := xb.tr c4
          have frc := hp_fr.tr0 frb c3'
          obtain ⟨ρd, Pd, nd, Td, bd, d1, d2, d3, d4, d5⟩ := s_write (sa := sa) (f := f - 1) (d := d + 16) (c := -1) c2' (Or.inl (pR.xt hwf hn xc)) sl_good (sl_pre (by rw [eM]; simp; rfl))
          rw [show f - 1 + 2 = f + 1 by omega] at d1
          have xd := xc.tr d4
          have frd := hp_fr.tr0 frc d3
          obtain ⟨G0, G1, -, -⟩ := eq4 (sa := sa) (frd.2.2.1 _ _ j2) Pd
          obtain ⟨ρe, Pe, ne, Te, be, e1, e2, e3, e4, e5⟩ := s_copy (sa := sa) (f := f + 1) (d := d + 15) d2 (by omega) (sf.xt hwf hn xd) sl_good (sl_pre (by rw [eM]; simp; rfl)) rfl rfl
          have xe := xd.tr e4
          have fre := hp_fr.tr0 frd e3
          obtain ⟨K0, K1, -, -⟩ := eq4 (sa := sa) (fre.2.2.1 _ _ j1') Pe
          obtain ⟨ρg, Pg, ng, Tg, bg, g1x, g2x, g3x, g4x, g5x⟩ := s_copy (sa := sa) (f := f + 1) (d := d + 15) e2 (by omega) (sx.xt hwf hn xe) sl_good (sl_pre (by rw [eM]; simp; rfl)) rfl rfl
          have xg := xe.tr g4x
          have frg := hp_fr.tr0 fre g3x
          obtain ⟨ρi, Pi, ni, Ti, bi, k1, k2, k3, k4, k5⟩ := s_write (sa := sa) (f := f - 1) (d := d + 16) (c := -1) g2x (Or.inl (pR.xt hwf hn xg)) sl_good (sl_pre (by rw [eM]; simp; rfl))
          rw [show f - 1 + 2 = f + 1 by omega] at k1
          have xi := xg.tr k4
          have fri := hp_fr.tr0 frg k3
          obtain ⟨-, L1, L2, -⟩ := eq4 (sa := sa) (fri.2.2.1 _ _ j2) Pi
          obtain ⟨ρk, Pk, nk, Tk, bk, m1, m2, m3, m4, m5⟩ := s_copy (sa := sa) (f := f + 1) (d := d + 15) k2 (by omega) (sf'.xt hwf hn xi) sl_good (sl_pre (by rw [eM]; simp; rfl)) (x := nI (A.length + Fr.length)) (y := nI (A.length + Fr.length + Fr'.length)) (by rw [List.length_append]) (by rw [List.length_append])
          have xk := xi.tr m4
          have frk := hp_fr.tr0 fri m3
          obtain ⟨-, O1, O2, -⟩ := eq4 (sa := sa) (frk.2.2.1 _ _ j1') Pk
          obtain ⟨ρl, Pl, nl, Tl, bl, o1, o2, o3, o4, o5⟩ := s_copy (sa := sa) (f := f + 1) (d := d + 15) m2 (by omega) (sx'.xt hwf hn xk) sl_good (sl_pre (E := []) (by rw [eM]; simp)) (x := nI (A'.length + Xr.length)) (y := nI (A'.length + Xr.length + Xr'.length)) (by rw [List.length_append]) (by rw [List.length_append])
          rw [show [] ++ w_eq u ++ [((-1 : Int32), u)] ++ m_fl F ++ m_fl X ++ [((-1 : Int32), u)] ++ m_fl F' ++ m_fl X' = m_fl (mE (mN (-1) u F X) (mN (-1) u F' X')) by rw [eM]; simp] at o2
          have ad := s_add (sa := sa) (f := f + 1) (d := d + 15) o2 (by omega) wM hc sl_hM sl_tot
          have fin := s_fin (R := sp_12 C.2.1 (nI j) (nI k)) (fun N => ⟨fun ⟨s', t', F1, F1', X1, X1', u1, z1, z2, z3, z4, z5, z6⟩ => by
            obtain rfl := en_at_inj z1 ej
            obtain rfl := en_at_inj z2 ek
            obtain ⟨rfl, rfl⟩ := m_isE_inj z3 hE
            obtain ⟨rfl, rfl⟩ := m_isE_inj z4 hE'
            rw [hty] at z5
            rw [(qN_inj.mp z5).2.2]
            exact z6, fun z => ⟨s, t, F, F', X, X', u, ej, ek, hE, hE', hty, z⟩⟩) h.y.1 ad (fr12.tr (hp_fr.tr0 frk o3).cs) (by omega) (xk.tr o4)
          simp only [hr_702 w2, hl_702 w2, r2, ho_604 w2, Option.bind_some, hx_4 w2, a1, am_v_some]
          rw [w_ob a3 6]
          simp only [ho_604 a2.w, Option.bind_some, hx_4 a2.w, b1, am_v_some]
          rw [w_ob b3 6]
          simp only [ho_603 b2.w, Option.bind_some, hx_3 b2.w, c1, am_v_some]
          rw [w_ob c3' 6]
          simp only [ho_603 c2'.w, Option.bind_some, hx_3 c2'.w, d1, am_v_some]
          rw [w_ob d3 6]
          simp only [ho_603 d2.w, G0, G1, Option.bind_some, hx_3 d2.w, e1, am_v_some]
          rw [w_ob e3 6]
          simp only [ho_603 e2.w, K0, K1, Option.bind_some, hx_3 e2.w, g1x, am_v_some]
          rw [w_ob g3x 6]
          simp only [ho_603 g2x.w, Option.bind_some, hx_3 g2x.w, k1, am_v_some]
          rw [w_ob k3 6]
          simp only [ho_603 k2.w, L1, L2, Option.bind_some, hx_3 k2.w, m1, am_v_some]
          rw [w_ob m3 6]
          simp only [ho_603 m2.w, O1, O2, Option.bind_some, hx_3 m2.w, o1, am_v_some]
          rw [w_ob o3 6]
          simp only [ho_604 o2.w, Option.bind_some, hx_4 o2.w]
          exact fin
        · rw [if_neg c3]
          exact cO.no h2 fr12 (by omega) fun N z => c3 (pL.eq (by rw [(inv N z).2]; exact pv') hwf h.y.1.2.1 hn)
      · rw [if_neg c2, if_pos rfl]
        exact cO.no h2 fr12 (by omega) fun N z => c2 (inv N z).1
    · rw [q1', am_p_null]
      exact cO.no h1 (fr1 cl_S) (by omega) fun N ⟨s', t', F1, F1', X1, X1', u1, z1, z2, z3, z4, z5, z6⟩ => hno ⟨t', X1, X1', z2, z4⟩
  · rw [q1, am_p_null]
    have E2 := st_eqOf (sa := sa) (f := f + 1) (d := d + 16) (x := y) h (by omega)
    simp only [hx_6 w, Option.bind_some]
    have hn : ∀ N, ¬ sp_12 C.2.1 x y N := fun N ⟨s', t', F1, F1', X1, X1', u1, z1, z2, z3, z4, z5, z6⟩ => hno ⟨s', F1, F1', z1, z3⟩
    rcases E2 with ⟨k, t, X', W, p', ρ2, -, hk, hE', q1', h2, fr2, q2'⟩ | ⟨hno', q1'⟩
    · rw [q1', am_p_some]
      exact cO.no h2 (fr2 cl_S) (by omega) hn
    · rw [q1', am_p_null]
      exact cO.no h hp_fr.rf (by omega) hn
end SP4
