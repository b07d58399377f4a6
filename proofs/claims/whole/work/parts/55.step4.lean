/-! STEPS of the class, 4: abstracted, reduced -/
theorem q_fr_n {c : Int32} (h : q_fr c) : ∃ k, k < 2 ^ 31 ∧ c = nI k ∧ k % 4 = 1 := by
  obtain ⟨k, k1, rfl⟩ := nI_of (Int32.not_lt.mpr h.1)
  have h2 := h.2
  rw [show (4 : Int32) = nI 4 from rfl, pk_rem k1 (by decide) (by decide)] at h2
  exact ⟨k, k1, rfl, (nI_eq (b := 1) (by omega) (by decide)).mp h2⟩
theorem q_fr_ne {c : Int32} (h : q_fr c) : c ≠ -1 ∧ c ≠ -2 ∧ c ≠ 2 ∧ ∀ o, o ≤ 1000 → c ≠ 4 * nI o := by
  obtain ⟨k, k1, rfl, k2⟩ := q_fr_n h
  refine ⟨fun e => ?_, fun e => ?_, fun e => ?_, fun o ho e => ?_⟩
  · have := nI_pos k1; rw [e] at this; exact this (by decide)
  · have := nI_pos k1; rw [e] at this; exact this (by decide)
  · have := (nI_eq (b := 2) k1 (by decide)).mp e; omega
  · rw [nI4] at e
    have := (nI_eq k1 (by omega)).mp e
    omega
/-- binding a variable in a term -/
theorem m_tr_b {c : Int32} {t : qT} (hc : q_fr c) : ∀ M, m_wf M → ∀ bn, bn + m_ht M ≤ 1000 → m_wf (m_tr true c t M bn) ∧ m_ty (m_tr true c t M bn) = m_ty M ∧ m_ht (m_tr true c t M bn) = m_ht M := by
  obtain ⟨n1, n2, n3, n4⟩ := q_fr_ne hc
  have ts : ∀ {k : Int32} {u : qT} {bn : Nat}, k ≠ c → m_ts true c t bn (k, u) = (k, u) := fun {k u bn} e => by
    unfold m_ts
    rw [if_pos rfl, if_neg (fun z => e (Prod.mk.inj z).1)]
  refine m_wf_cases ?_ ?_ ?_
  · intro u l r w1 w2 hty i1 i2 bn hb
    rw [m_ht_N] at hb
    obtain ⟨a1, a2, a3⟩ := i1 bn (by omega)
    obtain ⟨b1, b2, b3⟩ := i2 bn (by omega)
    rw [m_tr_N, ts n1.symm, if_neg (by decide)]
    exact ⟨m_wf_app a1 b1 (by rw [a2, b2]; exact hty), rfl, by rw [m_ht_N, m_ht_N, a3, b3]⟩
  · intro a l w1 i1 bn hb
    rw [m_ht_N] at hb
    obtain ⟨a1, a2, a3⟩ := i1 (bn + 1) (by omega)
    rw [m_tr_N, ts n2.symm, if_pos rfl]
    refine ⟨?_, rfl, by rw [m_ht_N, m_ht_N, a3]; rfl⟩
    have := m_wf_abs (a := a) a1
    rw [a2] at this
    exact this
  · intro k u hk bn hb
    rw [m_ht_N] at hb
    rw [m_tr_N]
    by_cases e : k = c ∧ u = t
    · have : m_ts true c t bn (k, u) = (4 * nI bn, t) := by
        unfold m_ts
        rw [if_pos rfl, if_pos (by rw [e.1, e.2])]
      rw [this]
      refine ⟨m_wf_lf (by rw [nI4]; exact m_lf_n (by omega) (by omega)), e.2.symm, rfl⟩
    · have : m_ts true c t bn (k, u) = (k, u) := by
        unfold m_ts
        rw [if_pos rfl, if_neg (fun z => e (Prod.mk.inj z))]
      rw [this]
      exact ⟨m_wf_lf hk, rfl, rfl⟩
/-- freeing what is bound outside -/
theorem m_tr_o {c : Int32} {t : qT} (hc : q_fr c) : ∀ M, m_wf M → ∀ bn, bn + m_ht M ≤ 1000 → m_of t M bn → m_wf (m_tr false c t M bn) ∧ m_ty (m_tr false c t M bn) = m_ty M ∧ m_ht (m_tr false c t M bn) = m_ht M := by
  obtain ⟨n1, n2, n3, n4⟩ := q_fr_ne hc
  have ts : ∀ {k : Int32} {u : qT} {bn : Nat}, k ≠ 4 * nI bn → m_ts false c t bn (k, u) = (k, u) := fun {k u bn} e => by
    unfold m_ts
    rw [if_neg (by decide), if_neg e]
  refine m_wf_cases ?_ ?_ ?_
  · intro u l r w1 w2 hty i1 i2 bn hb ho
    rw [m_ht_N] at hb
    rw [m_of_N, if_neg (by decide)] at ho
    obtain ⟨a1, a2, a3⟩ := i1 bn (by omega) ho.2.1
    obtain ⟨b1, b2, b3⟩ := i2 bn (by omega) ho.2.2
    rw [m_tr_N, ts (nI4_ne (by omega)).1, if_neg (by decide)]
    exact ⟨m_wf_app a1 b1 (by rw [a2, b2]; exact hty), rfl, by rw [m_ht_N, m_ht_N, a3, b3]⟩
  · intro a l w1 i1 bn hb ho
    rw [m_ht_N] at hb
    rw [m_of_N, if_pos rfl] at ho
    obtain ⟨a1, a2, a3⟩ := i1 (bn + 1) (by omega) ho.2.1
    rw [m_tr_N, ts (nI4_ne (by omega)).2, if_pos rfl]
    refine ⟨?_, rfl, by rw [m_ht_N, m_ht_N, a3]; rfl⟩
    have := m_wf_abs (a := a) a1
    rw [a2] at this
    exact this
  · intro k u hk bn hb ho
    rw [m_ht_N] at hb
    rw [m_of_N] at ho
    rw [m_tr_N]
    by_cases e : k = 4 * nI bn
    · have : m_ts false c t bn (k, u) = (c, t) := by
        unfold m_ts
        rw [if_neg (by decide), if_pos e]
      rw [this]
      refine ⟨m_wf_lf ⟨hc.1, fun z => absurd z n3⟩, (ho.1 e).symm, rfl⟩
    · rw [ts e]
      exact ⟨m_wf_lf hk, rfl, rfl⟩
section SP5
variable {sa : Nat → Nat} {B : Nat} {ρ : hp_L} {P : hp_P} {b : Bool} {n : Nat} {T : Nat → Int32 × Int32 × Int32} {Z : Prop} {G : qT → Prop} {C : sC} {H : List qM} {D : List qS} {S : qT → Prop} {base : Nat}
/-- the stretch of a sequent's hypotheses -/
theorem st_hyps {j : Nat} {s : qQ} (h : cI B C ρ P n T) (hj : C.2.1[j]? = some s) : ∃ A L W : List rwS, C.1.flatten = A ++ (L ++ W) ∧ hp_rd P 304 (nI (sq_k C.2.1 j)) = some (nI A.length) ∧ hp_rd P 304 (nI (sq_k C.2.1 j + s.1.length)) = some (nI (A.length + L.length)) ∧ ∀ c v t, pl n T v t → ((c, v) ∈ L ↔ ∃ M ∈ s.1, (c, t) ∈ m_fl M) := by
  have hs := h.s (Z := True) (G := fun _ => True) fun _ _ => True.intro
  have hrs := h.2.2.2.2.1
  have hc := h.2.2.2.2.2.2.1.2.2.2.1
  have hk := sq_k_le hj
  have hlen := hrs.len
  have h20 := (hs.rowsle).1
  generalize hkk : sq_k C.2.1 j = k at *
  have hd1 : C.1 = C.1.take k ++ ((C.1.drop k).take s.1.length ++ (C.1.drop k).drop s.1.length) := by rw [List.take_append_drop, List.take_append_drop]
  have htk : C.1.take (k + s.1.length) = C.1.take k ++ (C.1.drop k).take s.1.length := List.take_add
  refine ⟨(C.1.take k).flatten, ((C.1.drop k).take s.1.length).flatten, ((C.1.drop k).drop s.1.length).flatten, ?_, ?_, ?_, fun c v t hv => ?_⟩
  · conv => lhs; rw [hd1]
    rw [List.flatten_append, List.flatten_append]
  · rw [hp_rd_nI (by omega) (by omega), hc.2.2.2.2 k (by omega)]
  · rw [hp_rd_nI (by omega) (by omega), hc.2.2.2.2 (k + s.1.length) (by omega), htk, List.flatten_append, List.length_append]
  · have hmap : ((C.1.drop k).take s.1.length).map (fun R => R.map (rt T n)) = s.1.map m_fl := by
      rw [List.map_take, List.map_drop, hrs.1, sq_split hj]
      have : (sq_rows (C.2.1.take j)).length = k := hkk
      rw [List.map_append, List.drop_append_of_le_length (by rw [List.length_map]; omega), List.drop_of_length_le (by rw [List.length_map]; omega), List.nil_append, List.map_append, List.take_append_of_le_length (by rw [List.length_map]; omega), List.take_of_length_le (by rw [List.length_map]; omega)]
    constructor
    · intro hm
      obtain ⟨R, r1, r2⟩ := List.mem_flatten.mp hm
      have : R.map (rt T n) ∈ ((C.1.drop k).take s.1.length).map (fun R => R.map (rt T n)) := List.mem_map.mpr ⟨R, r1, rfl⟩
      rw [hmap] at this
      obtain ⟨M, m1, m2⟩ := List.mem_map.mp this
      refine ⟨M, m1, ?_⟩
      rw [m2]
      exact List.mem_map.mpr ⟨(c, v), r2, by unfold rt; rw [hv.ct]⟩
    · intro ⟨M, m1, m2⟩
      have : m_fl M ∈ s.1.map m_fl := List.mem_map.mpr ⟨M, m1, rfl⟩
      rw [← hmap] at this
      obtain ⟨R, r1, r2⟩ := List.mem_map.mp this
      rw [← r2] at m2
      obtain ⟨q, q1, q2⟩ := List.mem_map.mp m2
      have hq : rv n q := h.2.2.2.2.2.2.2 q (List.mem_flatten.mpr ⟨R, List.mem_of_mem_drop (List.mem_of_mem_take r1), q1⟩)
      obtain ⟨e1, e2⟩ := Prod.mk.inj q2
      have e3 : q.2 = v := (hq.pl (T := T)).eq (by show pl n T v (ct T n q.2); rw [e2]; exact hv) h.y.1.wf h.y.1.2.1 h.y.1.n31
      have : q = (c, v) := Prod.ext e1 e3
      rw [← this]
      exact List.mem_flatten.mpr ⟨R, r1, q1⟩
/-- an abstraction over a variable -/
noncomputable def mL (c : Int32) (t : qT) (X : qM) : qM := mN (-2) (qF t (m_ty X)) (m_tr true c t X 0) .leaf
theorem mL_wf {c : Int32} {t : qT} {X : qM} (hc : q_fr c) (h : m_wf X) (hh : m_ht X ≤ 1000) : m_wf (mL c t X) := by
  obtain ⟨a1, a2, -⟩ := m_tr_b (t := t) hc X h 0 (by omega)
  have := m_wf_abs (a := t) a1
  rw [a2] at this
  exact this
theorem mL_fl {c : Int32} {t : qT} {X : qM} : m_fl (mL c t X) = (-2, qF t (m_ty X)) :: m_fl (m_tr true c t X 0) := by
  unfold mL
  rw [m_fl_N]
  show _ :: (_ ++ []) = _
  rw [List.append_nil]
/-- 13 -/
def sp_13 (em : List qM) (sq : List qQ) (x a : Int32) (N : qQ) : Prop := ∃ V s X Y, en_at em x V ∧ q_fr (m_c V) ∧ en_at sq a s ∧ m_isE s.2 X Y ∧ (∀ M ∈ s.1, (m_c V, m_ty V) ∉ m_fl M) ∧ N = (hy_join none [] s.1, mE (mL (m_c V) (m_ty V) X) (mL (m_c V) (m_ty V) Y))
set_option maxHeartbeats 2000000 in
theorem st_82 {f d : Nat} {x y : Int32} (h : cI B C ρ P n T) (hf : 100000 ≤ f) (hc : C.2.1.length < 1000) : cO B sa (sp_13 C.2.2.2.2.2.2.2 C.2.1 x y) C ρ P n T (am_call B sa am_dfl am_tb f (d + 20) 82 [.ref (ρ.1 6), .int x, .int y] (hp_S sa ρ P)) := by
  have w := h.w
  have hwf := h.y.1.wf
  have hn := h.y.1.n31
  have E1 := st_eqOf (sa := sa) (f := f) (d := d + 16) (x := y) h (by omega)
  obtain ⟨f, rfl⟩ : ∃ g, f = g + 1 := ⟨f - 1, by omega⟩
  rw [am_c_82, am_s82_0]
  simp only [hx_6 w, Option.bind_some]
  rcases E1 with ⟨j, s, X, Y, p, ρ1, rfl, hj, hE, q1, h1, fr1, q2⟩ | ⟨hno, q1⟩
  · have ej : en_at C.2.1 (nI j) s := ⟨j, rfl, by have := (List.getElem?_eq_some_iff.mp hj).1; omega, hj⟩
    have w1 := h1.w
    have hs1 := h1.s (Z := True) (G := fun _ => True) fun _ _ => True.intro
    rw [q1, am_p_some, w_ob (fr1 cl_S) 6]
    simp only [ho_602 w1, hx_1 w1, Option.bind_some, en_isFree w1 h1.2.1, am_i_some, am_c_ne]
    by_cases e0 : ∃ M, en_at C.2.2.2.2.2.2.2 x M ∧ q_fr (m_c M)
    · rw [if_pos (bP_y e0)]
      obtain ⟨V, hV, hfr⟩ := e0
      obtain ⟨-, v1, ⟨u, v2, v3⟩, -⟩ := en_rd h1.2.1 hV
      obtain ⟨A, Xr, Yr, v, j1, sx, sy, pv⟩ := q2
      obtain ⟨g0, g1, g2, g3⟩ := eq4 (sa := sa) j1 P
      obtain ⟨A', L, W, l1, l2, l3, l4⟩ := st_hyps h1 hj
      have hsym := rw_hasSym (sa := sa) (f := f + 1) (d := d + 18) (c := m_c V) (v := u) w1 h1.2.2.2.2.2.2.1 (by omega) (show C.1.flatten ++ [] = A' ++ (L ++ W) by rw [List.append_nil]; exact l1) rfl rfl
      obtain ⟨f1, f2, -⟩ := hs1.first hj
      simp only [hr_104 w1, hl_104 w1, v1, hr_105 w1, hl_105 w1, v2, ho_603 w1, hr_304 w1, ho_604 w1, hr_405 w1, hl_405 w1, f1, hl_304 w1, l2, Option.bind_some, hx_4 w1, sq_conc hs1 hj, am_i_some, l3, hx_3 w1, hsym, am_c_eq]
      by_cases e1 : (m_c V, u) ∈ L
      · rw [if_pos e1, if_neg (by decide)]
        obtain ⟨M, m1, m2⟩ := (l4 _ _ _ v3).mp e1
        exact cO.no h1 (fr1 cl_S) (by omega) fun N ⟨V', s', X1, Y1, z1, z2, z3, z4, z5, z6⟩ => by
          obtain rfl := en_at_inj z1 hV
          obtain rfl := en_at_inj z3 ej
          exact z5 M m1 m2
      · rw [if_neg e1, if_pos rfl]
        have hnin : ∀ M ∈ s.1, (m_c V, m_ty V) ∉ m_fl M := fun M m1 m2 => e1 ((l4 _ _ _ v3).mpr ⟨M, m1, m2⟩)
        have hXM := h1.2.2.2.2.1.2 s.2 (List.mem_of_getElem? (sq_con hj))
        have hEe : s.2 = mE X Y := hE.2.2.2
        have hXh : m_ht X ≤ 120 ∧ m_ht Y ≤ 120 := by
          have := hXM.2.2
          rw [hEe] at this
          unfold mE at this
          rw [m_ht_N, m_ht_N] at this
          omega
        have wlX : m_wf (mL (m_c V) (m_ty V) X) := mL_wf hfr hE.1 (by omega)
        have wlY : m_wf (mL (m_c V) (m_ty V) Y) := mL_wf hfr hE.2.1 (by omega)
        have hYX : qF (m_ty V) (m_ty Y) = qF (m_ty V) (m_ty X) := by rw [hE.2.2.1]
        generalize hMM : mE (mL (m_c V) (m_ty V) X) (mL (m_c V) (m_ty V) Y) = MM
        have wM : m_wf MM := by rw [← hMM]; exact mE_wf wlX wlY hYX
        have eM : m_fl MM = w_eq (qF (m_ty V) (m_ty X)) ++ [((-2 : Int32), qF (m_ty V) (m_ty X))] ++ m_fl (m_tr true (m_c V) (m_ty V) X 0) ++ [((-2 : Int32), qF (m_ty V) (m_ty X))] ++ m_fl (m_tr true (m_c V) (m_ty V) Y 0) := by
          rw [← hMM, mE_fl, mL_fl, mL_fl, hYX]
          show w_eq (qF (m_ty V) (m_ty X)) ++ _ = _
          simp
        have hz := sl_H (S := ct_S T n) (base := m_tot (sq_rows C.2.1)) (H := hy_join none [] s.1) (M := MM)
        have h0 := h1.s (Z := ¬ sq_lim (ct_S T n) (m_tot (sq_rows C.2.1)) (hy_join none [] s.1, MM)) (G := q_un (ct_S T n) (hy_join none [] s.1 ++ [MM])) fun t z => Or.inl z
        have gq : q_un (ct_S T n) (hy_join none [] s.1 ++ [MM]) (qF (m_ty V) (m_ty X)) := qu_M (s := (-2, qF (m_ty V) (m_ty X))) (by rw [eM]; simp) q_sub_rf
        have gE1 : q_un (ct_S T n) (hy_join none [] s.1 ++ [MM]) (qF (qF (m_ty V) (m_ty X)) qB) := qu_M (s := (-1, qF (qF (m_ty V) (m_ty X)) qB)) (by rw [eM]; simp [w_eq]) q_sub_rf
        have gE2 : q_un (ct_S T n) (hy_join none [] s.1 ++ [MM]) (qF (qF (m_ty V) (m_ty X)) (qF (qF (m_ty V) (m_ty X)) qB)) := qu_M (s := (2, qF (qF (m_ty V) (m_ty X)) (qF (qF (m_ty V) (m_ty X)) qB))) (by rw [eM]; simp [w_eq]) q_sub_rf
        obtain ⟨ρm, Pm, vm, nm, Tm, m1, m2, m3, m4, m5⟩ := s_make (sa := sa) (f := f + 1) (d := d + 16) (c := 2) h0 (by omega) (Or.inl v3) (Or.inl pv) gq
        have m5 : plg (q_un (ct_S T n) (hy_join none [] s.1 ++ [MM])) nm Tm vm (qF (m_ty V) (m_ty X)) := m5
        obtain ⟨ρa, Pa, na, Ta, ba, a1, a2, a3, a4, a5⟩ := s_join (sa := sa) (f := f + 1) (d := d + 14) m2 (by omega) sl_good hj (Or.inl ⟨rfl, rfl⟩) hz
        have xa := m4.tr a4
        have fra := hp_fr.tr0 m3 a3
        have m5a := m5.xt m2.y.1.wf m2.y.1.n31 a4
        obtain ⟨ρc, Pc, nc, Tc, bc, c1, c2, c3, c4, c5⟩ := s_equals (sa := sa) (f := f + 1) (d := d + 15) (t := qF (m_ty V) (m_ty X)) a2 (by omega) m5a gE1 gE2 sl_good (sl_pre (by rw [eM]; simp; rfl))
        have xc := xa.tr c4
        have frc := hp_fr.tr0 fra c3
        have m5c := m5a.xt a2.y.1.wf a2.y.1.n31 c4
        obtain ⟨ρd, Pd, nd, Td, bd, d1, d2, d3, d4, d5⟩ := s_write (sa := sa) (f := f - 1) (d := d + 16) (c := -2) c2 m5c sl_good (sl_pre (by rw [eM]; simp; rfl))
        rw [show f - 1 + 2 = f + 1 by omega] at d1
        have xd := xc.tr d4
        have frd := hp_fr.tr0 frc d3
        have m5d := m5c.xt c2.y.1.wf c2.y.1.n31 d4
        obtain ⟨G0, G1, -, -⟩ := eq4 (sa := sa) (frd.2.2.1 _ _ j1) Pd
        obtain ⟨ρe, Pe, ne, Te, be, e1', e2, e3, e4, e5⟩ := s_trade (sa := sa) (f := f + 1) (d := d + 15) (bd := true) (c := m_c V) d2 (by omega) (sx.xt hwf hn xd) hE.1 hXh.1 sl_good (v3.xt hwf hn xd) (sl_pre (by rw [eM]; simp; rfl)) rfl rfl
        have xe := xd.tr e4
        have fre := hp_fr.tr0 frd e3
        have m5e := m5d.xt d2.y.1.wf d2.y.1.n31 e4
        obtain ⟨ρi, Pi, ni, Ti, bi, k1, k2, k3, k4, k5⟩ := s_write (sa := sa) (f := f - 1) (d := d + 16) (c := -2) e2 m5e sl_good (sl_pre (by rw [eM]; simp; rfl))
        rw [show f - 1 + 2 = f + 1 by omega] at k1
        have xi := xe.tr k4
        have fri := hp_fr.tr0 fre k3
        obtain ⟨-, L1, L2, -⟩ := eq4 (sa := sa) (fri.2.2.1 _ _ j1) Pi
        obtain ⟨ρl, Pl, nl, Tl, bl, o1, o2, o3, o4, o5⟩ := s_trade (sa := sa) (f := f + 1) (d := d + 15) (bd := true) (c := m_c V) k2 (by omega) (sy.xt hwf hn xi) hE.2.1 hXh.2 sl_good (v3.xt hwf hn xi) (sl_pre (E := []) (by rw [eM]; simp)) (x := nI (A.length + Xr.length)) (y := nI (A.length + Xr.length + Yr.length)) (by rw [List.length_append]) (by rw [List.length_append])
        rw [show [] ++ w_eq (qF (m_ty V) (m_ty X)) ++ [((-2 : Int32), qF (m_ty V) (m_ty X))] ++ m_fl (m_tr true (m_c V) (m_ty V) X 0) ++ [((-2 : Int32), qF (m_ty V) (m_ty X))] ++ m_fl (m_tr true (m_c V) (m_ty V) Y 0) = m_fl MM by rw [eM]; simp] at o2
        have ad := s_add (sa := sa) (f := f + 1) (d := d + 15) o2 (by omega) wM hc sl_hM sl_tot
        have fin := s_fin (R := sp_13 C.2.2.2.2.2.2.2 C.2.1 x (nI j)) (fun N => ⟨fun ⟨V', s', X1, Y1, z1, z2, z3, z4, z5, z6⟩ => by
          obtain rfl := en_at_inj z1 hV
          obtain rfl := en_at_inj z3 ej
          obtain ⟨rfl, rfl⟩ := m_isE_inj z4 hE
          rw [← hMM]
          exact z6, fun z => ⟨V, s, X, Y, hV, hfr, ej, hE, hnin, by rw [hMM]; exact z⟩⟩) h.y.1 ad ((fr1 cl_S).tr (hp_fr.tr0 fri o3).cs) (by omega) (xi.tr o4)
        simp only [ho_600 w1, g3, Option.bind_some, hx_7 w1, m1, am_i_some]
        rw [w_ob m3 6]
        simp only [ho_604 m2.w, Option.bind_some, hx_4 m2.w, a1, am_v_some]
        rw [w_ob a3 6]
        simp only [ho_603 a2.w, Option.bind_some, hx_3 a2.w, c1, am_v_some]
        rw [w_ob c3 6]
        simp only [ho_603 c2.w, Option.bind_some, hx_3 c2.w, d1, am_v_some]
        rw [w_ob d3 6]
        have e1'' := e1'
        rw [show bI true = 1 from rfl] at e1'' o1
        simp only [ho_603 d2.w, G0, G1, Option.bind_some, hx_3 d2.w, e1'', am_v_some]
        rw [w_ob e3 6]
        simp only [ho_603 e2.w, Option.bind_some, hx_3 e2.w, k1, am_v_some]
        rw [w_ob k3 6]
        simp only [ho_603 k2.w, L1, L2, Option.bind_some, hx_3 k2.w, o1, am_v_some]
        rw [w_ob o3 6]
        simp only [ho_604 o2.w, Option.bind_some, hx_4 o2.w]
        exact fin
    · rw [if_neg (fun z => z (bP_n e0))]
      exact cO.no h1 (fr1 cl_S) (by omega) fun N ⟨V', s', X1, Y1, z1, z2, z3, z4, z5, z6⟩ => e0 ⟨V', z1, z2⟩
  · rw [q1, am_p_null]
    exact cO.no h hp_fr.rf (by omega) fun N ⟨V', s', X1, Y1, z1, z2, z3, z4, z5, z6⟩ => hno ⟨s', X1, Y1, z3, z4⟩
/-- what abstractions bind is of their types -/
def m_bd : qM → Prop
  | .leaf => True
  | .inner c u _ l r => m_bd l ∧ m_bd r ∧ (Int32.ofNat c = -2 → ∀ a q, u = qF a q → m_of a l 0)
theorem m_bd_N {c : Int32} {u : qT} {l r : qM} : m_bd (mN c u l r) = (m_bd l ∧ m_bd r ∧ (c = -2 → ∀ a q, u = qF a q → m_of a l 0)) := by
  unfold mN
  show (_ ∧ _ ∧ (Int32.ofNat _ = -2 → _)) = _
  rw [q_code]
/-- 14: the term is (\v. b) x, with x free -/
def sp_14 (em : List qM) (x : Int32) (N : qQ) : Prop := ∃ M u b c a t, en_at em x M ∧ m_lo M = 0 ∧ M = mN (-1) u (mN (-2) a b .leaf) (mN c t .leaf .leaf) ∧ q_fr c ∧ N = ([], mE M (m_tr false c t b 0))
set_option maxHeartbeats 2000000 in
theorem st_83 {f d : Nat} {x : Int32} (h : cI B C ρ P n T) (hf : 100000 ≤ f) (hc : C.2.1.length < 1000) (hbd : ∀ M ∈ C.2.2.2.2.2.2.2, m_bd M) : cO B sa (sp_14 C.2.2.2.2.2.2.2 x) C ρ P n T (am_call B sa am_dfl am_tb f (d + 20) 83 [.ref (ρ.1 6), .int x] (hp_S sa ρ P)) := by
  have w := h.w
  have hwf := h.y.1.wf
  have hn := h.y.1.n31
  obtain ⟨f, rfl⟩ : ∃ g, f = g + 1 := ⟨f - 1, by omega⟩
  rw [am_c_83, am_s83_0]
  simp only [ho_602 w, Option.bind_some, hx_1 w, en_isClosed w h.2.1, am_i_some, am_c_eq, am_c_ne]
  by_cases e : ∃ M, en_at C.2.2.2.2.2.2.2 x M ∧ m_lo M = 0
  · rw [if_neg (bP_y e)]
    obtain ⟨M, hM, hlo⟩ := e
    obtain ⟨wM, r1, ⟨v, r2, r2'⟩, ⟨xl, r3, r3'⟩, ⟨xr, r4, r4'⟩, -, -, -, s1, s2⟩ := en_rd h.2.1 hM
    simp only [hr_104 w, hl_104 w, r1, Option.bind_some]
    by_cases e1 : m_c M = -1
    · rw [if_pos e1]
      -- an application
      obtain ⟨u, F, X, wF, wX, hty, rfl⟩ : ∃ u F X, m_wf F ∧ m_wf X ∧ m_ty F = qF (m_ty X) u ∧ M = mN (-1) u F X := by
        refine m_wf_cases (C := fun M => m_c M = -1 → ∃ u F X, m_wf F ∧ m_wf X ∧ m_ty F = qF (m_ty X) u ∧ M = mN (-1) u F X) ?_ ?_ ?_ M wM e1
        · exact fun u F X a b c _ _ _ => ⟨u, F, X, a, b, c, rfl⟩
        · intro a l _ _ z; rw [m_c_N] at z; exact absurd z (by decide)
        · intro c t hc z; rw [m_c_N] at z; exact absurd z (m_lf_ne hc).1
      rw [m_l_N] at r3'
      rw [m_r_N] at r4'
      have hF : en_at C.2.2.2.2.2.2.2 xl F := r3'.resolve_left fun z => by rw [z.2] at wF; exact wF.elim
      have hX : en_at C.2.2.2.2.2.2.2 xr X := r4'.resolve_left fun z => by rw [z.2] at wX; exact wX.elim
      obtain ⟨-, rF, -⟩ := en_rd h.2.1 hF
      obtain ⟨-, rX, ⟨vx, rX2, rX3⟩, -⟩ := en_rd h.2.1 hX
      simp only [hr_106 w, hl_106 w, r3, hr_107 w, hl_107 w, r4, rF, Option.bind_some]
      have inv : ∀ N, sp_14 C.2.2.2.2.2.2.2 x N → m_c F = -2 ∧ q_fr (m_c X) := fun N ⟨M', u', b', c', a', t', z1, z2, z3, z4, z5⟩ => by
        rw [en_at_inj z1 hM] at z3
        obtain ⟨-, -, z6, z7⟩ := mN_inj z3
        rw [z6, z7, m_c_N, m_c_N]
        exact ⟨rfl, z4⟩
      by_cases e2 : m_c F = -2
      · rw [if_neg (fun z => z e2)]
        obtain ⟨a, bb, wb, rfl⟩ : ∃ a bb, m_wf bb ∧ F = mN (-2) (qF a (m_ty bb)) bb .leaf := by
          refine m_wf_cases (C := fun F => m_c F = -2 → ∃ a bb, m_wf bb ∧ F = mN (-2) (qF a (m_ty bb)) bb .leaf) ?_ ?_ ?_ F wF e2
          · intro t l r _ _ _ _ _ z; rw [m_c_N] at z; exact absurd z (by decide)
          · exact fun a l wl _ _ => ⟨a, l, wl, rfl⟩
          · intro c t hc z; rw [m_c_N] at z; exact absurd z (m_lf_ne hc).2
        have hfree := en_isFree (sa := sa) (f := f) (d := d + 17) (x := xr) w h.2.1
        simp only [hx_1 w, Option.bind_some, hfree, am_i_some]
        by_cases e3 : q_fr (m_c X)
        · rw [if_pos (bP_y ⟨X, hX, e3⟩)]
          obtain ⟨c, t, rfl⟩ : ∃ c t, X = mN c t .leaf .leaf := by
            refine m_wf_cases (C := fun X => q_fr (m_c X) → ∃ c t, X = mN c t .leaf .leaf) ?_ ?_ ?_ X wX e3
            · intro t l r _ _ _ _ _ z; rw [m_c_N] at z; exact absurd rfl (q_fr_ne z).1
            · intro a l _ _ z; rw [m_c_N] at z; exact absurd rfl (q_fr_ne z).2.1
            · exact fun c t hc z => ⟨c, t, rfl⟩
          rw [m_c_N] at e3 rX
          rw [m_ty_N] at rX3
          have hof : m_of t bb 0 := by
            have := hbd _ (List.mem_of_getElem? hF.choose_spec.2.2)
            rw [m_bd_N] at this
            obtain ⟨q1, q2, -⟩ := qN_inj.mp hty
            have := this.2.2 rfl a (m_ty bb) rfl
            rw [show a = t from q2] at this
            exact this
          have hu : u = m_ty bb := (qN_inj.mp hty).2.2.symm
          have hbht : m_ht bb ≤ 120 := by
            rw [m_ht_N, m_ht_N] at s2
            omega
          obtain ⟨wo, to, ho⟩ := m_tr_o e3 bb wb 0 (by omega) hof
          generalize hM0 : mN (-1) u (mN (-2) (qF a (m_ty bb)) bb .leaf) (mN c t .leaf .leaf) = M at *
          have tyM : m_ty M = u := by rw [← hM0]; rfl
          have eF : m_fl M = ((-1 : Int32), u) :: ((-2 : Int32), qF a (m_ty bb)) :: (m_fl bb ++ [(c, t)]) := by
            rw [← hM0, m_fl_N, m_fl_N, m_fl_N]
            show _ :: ((_ :: (m_fl bb ++ [])) ++ (_ :: ([] ++ []))) = _
            simp
          generalize hMM : mE M (m_tr false c t bb 0) = MM
          have wMM : m_wf MM := by rw [← hMM]; exact mE_wf wM wo (by rw [to, tyM, hu])
          have eM : m_fl MM = w_eq u ++ (m_fl M ++ m_fl (m_tr false c t bb 0)) := by rw [← hMM, mE_fl, tyM]
          have h0 := h.s (Z := ¬ sq_lim (ct_S T n) (m_tot (sq_rows C.2.1)) ([], MM)) (G := q_un (ct_S T n) ([] ++ [MM])) fun t z => Or.inl z
          have gE1 : q_un (ct_S T n) ([] ++ [MM]) (qF u qB) := qu_M (s := (-1, qF u qB)) (by rw [eM]; simp [w_eq]) q_sub_rf
          have gE2 : q_un (ct_S T n) ([] ++ [MM]) (qF u (qF u qB)) := qu_M (s := (2, qF u (qF u qB))) (by rw [eM]; simp [w_eq]) q_sub_rf
          rw [tyM] at r2'
          obtain ⟨ρ1, P1, n1, T1, b1, a1, a2, a3, a4, a5⟩ := s_equals (sa := sa) (f := f + 1) (d := d + 15) h0 (by omega) (Or.inl r2') gE1 gE2 sl_good (sl_pre (by rw [eM]; rfl))
          obtain ⟨Dr, O1, hw1, hh1⟩ := a2.2.2.2.2.2
          obtain ⟨ρ2, P2, O2, b2, c1, c2, c3, c4, c5, c6, E, rfl⟩ := w_to (sa := sa) (f := f + 1) (d := d + 15) a2.w a2.2.1 hw1 (by omega) hM sl_good (sl_pre (by rw [eM]; simp; rfl))
          have sI2 := a2.nx hw1 hh1 c2 c3 c4 c5.sn ty_xt.rf c6
          have fr2 := hp_fr.tr0 a3 c5.sn
          simp only [ho_603 w, hr_105 w, hl_105 w, r2, ho_602 w, Option.bind_some, hx_3 w, a1, am_v_some]
          rw [w_ob a3 6]
          simp only [ho_603 a2.w, ho_602 a2.w, hg_303 a2.w, Option.bind_some, hx_1 a2.w, c1, am_v_some, hw1.2.1.1]
          rw [w_ob c5 6]
          simp only [ho_603 c2, ho_602 c2, Option.bind_some, rw_flag c2 c4.2.1, hg_303 c2, c4.2.1.1]
          cases b2 with
          | true =>
            rw [if_neg (by decide)]
            refine Or.inr ⟨fun N hN => ?_, ρ2, P2, n1, T1, am_rz_0, sI2.u, fr2.cs.up (by omega), a4⟩
            obtain ⟨M', u', b', c', a', t', z1, z2, z3, z4, z5⟩ := hN
            rw [en_at_inj z1 hM, ← hM0] at z3
            obtain ⟨-, -, z6, z7⟩ := mN_inj z3
            obtain ⟨-, -, z8, -⟩ := mN_inj z6
            obtain ⟨z9, z10, -, -⟩ := mN_inj z7
            rw [z5, en_at_inj z1 hM, ← z8, ← z9, ← z10, hMM]
            exact c4.z
          | false =>
            rw [if_pos (by decide)]
            have hb1 : b1 = false := c6 rfl
            subst hb1
            have eO1 := hw1.2.2.2.2.1 rfl
            have eO2 := c4.2.2.2.2.1 rfl
            rw [List.map_append, eO1] at eO2
            have eE : E.map (rt T1 n1) = m_fl M := List.append_cancel_left eO2
            rw [eF] at eE
            obtain ⟨s0, E, rfl, -, eE⟩ := List.map_eq_cons_iff.mp eE
            obtain ⟨s1', E, rfl, -, eE⟩ := List.map_eq_cons_iff.mp eE
            obtain ⟨Eb, Ex, rfl, eEb, eEx⟩ := List.map_eq_append_iff.mp eE
            have hEx : Ex.length = 1 := by have := congrArg List.length eEx; rw [List.length_map] at this; exact this
            have hXe : (C.1 ++ Dr).flatten ++ (O1 ++ s0 :: s1' :: (Eb ++ Ex)) = ((C.1 ++ Dr).flatten ++ O1 ++ [s0, s1']) ++ (Eb ++ Ex) := by simp
            have hx31 := c4.2.1.Xle
            have hl1 : ((C.1 ++ Dr).flatten ++ O1 ++ [s0, s1']).length = ((C.1 ++ Dr).flatten ++ O1).length + 2 := by rw [List.length_append]; rfl
            have hl2 : ((C.1 ++ Dr).flatten ++ (O1 ++ s0 :: s1' :: (Eb ++ Ex))).length = ((C.1 ++ Dr).flatten ++ O1).length + 2 + Eb.length + 1 := by
              have : (Eb ++ Ex).length = Eb.length + 1 := by rw [List.length_append, hEx]
              rw [hXe, List.length_append, hl1, this]; omega
            obtain ⟨-, rX', ⟨vx', rX2', rX3'⟩, -⟩ := en_rd c3 hX
            rw [m_c_N] at rX'
            rw [m_ty_N] at rX3'
            obtain ⟨ρ3, P3, O3, b3, d1, d2, d3, d4, d5⟩ := w_trade' (sa := sa) (f := f + 1) (d := d + 15) (bd := false) (c := c) c2 c4 (by omega) hXe wb eEb hbht sl_good rX3' (sl_pre (E := []) (by rw [eM]; simp)) (x := nI ((C.1 ++ Dr).flatten ++ O1).length + 2) (y := nI ((C.1 ++ Dr).flatten ++ (O1 ++ s0 :: s1' :: (Eb ++ Ex))).length - 1) (by rw [hl1]; exact nI_add _ 2) (by rw [hl1, hl2, nI_pred])
            have sI3 := sI2.nx c4 (fun _ => hh1 rfl) d2 (c3.fr d4.wr fun r p q => wt_en p q) d3 d4.wr.sw ty_xt.rf d5
            rw [show [] ++ w_eq u ++ m_fl M ++ m_fl (m_tr false c t bb 0) = m_fl MM by rw [eM]; simp] at sI3
            have ad := s_add (sa := sa) (f := f + 1) (d := d + 15) sI3 (by omega) wMM hc sl_hM sl_tot
            have fin := s_fin (R := sp_14 C.2.2.2.2.2.2.2 x) (fun N => ⟨fun ⟨M', u', b', c', a', t', z1, z2, z3, z4, z5⟩ => by
              rw [en_at_inj z1 hM, ← hM0] at z3
              obtain ⟨-, -, z6, z7⟩ := mN_inj z3
              obtain ⟨-, -, z8, -⟩ := mN_inj z6
              obtain ⟨z9, z10, -, -⟩ := mN_inj z7
              rw [z5, en_at_inj z1 hM, ← z8, ← z9, ← z10, hMM], fun z => ⟨M, u, bb, c, _, t, hM, hlo, hM0.symm, e3, by rw [hMM]; exact z⟩⟩) h.y.1 ad (hp_fr.tr0 fr2 d4.wr.sw).cs (by omega) a4
            rw [show bI false = 0 from rfl] at d1
            simp only [hr_104 c2, hl_104 c2, rX', hr_105 c2, hl_105 c2, rX2', Option.bind_some, hx_3 c2, d1, am_v_some]
            rw [w_ob d4 6]
            simp only [ho_604 d2, Option.bind_some, hx_4 d2]
            exact fin
        · rw [if_neg (fun z => z (bP_n fun ⟨X', z1, z2⟩ => e3 (by rw [en_at_inj hX z1]; exact z2)))]
          exact cO.no h hp_fr.rf (by omega) fun N z => e3 (inv N z).2
      · rw [if_pos e2]
        exact cO.no h hp_fr.rf (by omega) fun N z => e2 (inv N z).1
    · rw [if_neg e1]
      exact cO.no h hp_fr.rf (by omega) fun N ⟨M', u', b', c', a', t', z1, z2, z3, z4, z5⟩ => e1 (by rw [en_at_inj hM z1, z3, m_c_N])
  · rw [if_pos (bP_n e)]
    exact cO.no h hp_fr.rf (by omega) fun N ⟨M', u', b', c', a', t', z1, z2, z3, z4, z5⟩ => e ⟨M', z1, z2⟩
end SP5
