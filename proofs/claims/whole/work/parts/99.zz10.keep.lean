/-! THE REFERENCE, 47: keep -/
section KP3
variable {Z : Prop} {G : qT → Prop} {L : List qM} {sa : Nat → Nat} {B : Nat} {ρ : hp_L} {K : kS} {A : sV} {S : qT → Prop} {ws : List Int32} {P P' : hp_P} {flt : Int32} {n : Nat} {T : Nat → Int32 × Int32 × Int32} {ns : List qM} {j a nk nt ti : Nat} {s : qQ}
theorem im_rr {r : Nat} (h : rr_S r = true) : im_S r = false := by
  have n1 := rr_ne h (s := 912) rfl
  have n2 := rr_ne h (s := 927) rfl
  exact decide_eq_false (by omega)
theorem kJ.im {b : Bool} (J : kJ S A (P, n, T, ns, b)) (fr : mfr im_S P P') : kJ S A (P', n, T, ns, b) := ⟨J.1.im fr, J.2.1.cg J.1.wf J.1.n31 (fun r hr => fr.1 r (im_rr hr)) fr.2 ty_xt.rf ⟨[], (List.append_nil _).symm⟩, J.2.2⟩
set_option maxHeartbeats 4000000 in
/-- behind the marks -/
theorem k_keep {f d : Nat} {b : Bool} (w : hp_w B ρ) (J : kJ S A (hp_sI P 945 (bI false), n, T, ns, false)) (h45 : P.1 945 = bI b) (hI : aI S A) (ha : A.1[a]? = some s) (h1 : A.2.1 ≤ j) (h3 : j ≤ a) (h8 : A.2.2.2.2.2.1.length < 8000) (h16 : A.2.2.2.2.2.2.length < 16000) (tq : r_tq P j nk nt (A.2.2.1 j).2.1 (A.2.2.1 j).2.2) (rc : r_cut n T ns nk nt (A.2.2.1 j).1 (A.1.take j) (A.2.2.2.2.2.2.take (A.2.2.1 j).2.2)) (hti : ns[ti]? = some s.2) (hf : 400000 ≤ f) :
    ∃ K', am_go B sa am_dfl (am_call B sa am_dfl am_tb f (d + 4)) am_r200 (f - 2) 102 [(0, .ref (ρ.1 9)), (2, .int (nI j)), (3, .int (nI ti)), (4, .int (nI nk))] [.int (nI nt)] (hp_S sa ρ P) = some (none, hp_S sa ρ K'.1) ∧ kJ (q_un (A.2.2.1 j).1 [s.2]) (a_new (a_cut A j) A.2.1 (q_un (A.2.2.1 j).1 [s.2]) [([], s.2)] [] []) K' ∧ mfr dW_S P K'.1 := by
  have h2 : j ≤ A.1.length := by have := (List.getElem?_eq_some_iff.mp ha).1; omega
  have al := (List.getElem?_eq_some_iff.mp ha).1
  have l1 : A.1.length ≤ 1000 := J.2.1.2.2.1.1.2
  have l2 : m_tot (sq_rows A.1) ≤ 20000 := J.2.1.2.2.1.2.2.1.2
  have l6 : ns.length ≤ 60000 := J.1.2.1.1.2
  have n8 : n ≤ 8000 := J.1.1.1.2
  obtain ⟨⟨c1, c2, c3⟩, c4, c5, c6, c7, c8⟩ := rc
  have kT : kI True S ns (P, n, T, ns, b) := ⟨J.1.1.cg (hI_ne (by decide)).symm fun _ _ _ => rfl, J.1.2.1.cg (hI_ne (by decide)).symm fun _ _ _ => rfl, h45, fun _ => True.intro, J.1.2.2.2.2⟩
  obtain ⟨f, rfl⟩ : ∃ g, f = g + 3 := ⟨f - 3, by omega⟩
  -- mark
  obtain ⟨P1, a1, a2, a3, a4⟩ := m_mark (sa := sa) (f := f + 3) (d := d + 3) (M := s.2) (t := ti) (nk := nk) (nt := nt) w kT mfr.rf c1 c3 hti (by omega)
  have e17 : P1.1 917 = nI ns.length := by rw [(im_k a2 (by decide) (by decide)).1]; exact kT.2.1.1.1
  have e04 : P1.1 904 = nI n := by rw [(im_k a2 (by decide) (by decide)).1]; exact kT.1.1.1
  have im1 : mfr im_S (hp_sI P 945 (bI false)) (hp_sI P1 945 (bI false)) := ⟨fun r hr => ⟨by
    by_cases e : r = 945
    · rw [e, hI_eq, hI_eq]
    · rw [hI_ne e, hI_ne e]; exact (a2.1 r hr).1, (a2.1 r hr).2⟩, a2.2⟩
  have J1 : kJ S A (hp_sI P1 945 (bI false), n, T, ns, false) := J.im im1
  -- cut
  obtain ⟨P2, b1, b2, b3⟩ := m_cutTo (sa := sa) (f := f + 3) (d := d + 1) (P := P1) w J1 hI h1 h2 (tq.go fun r hr => a2.1 r (im_rr hr)) ⟨⟨c1, c2, c3⟩, c4, c5, c6, c7, c8⟩ (by omega)
  show ∃ K', am_go _ _ _ _ _ (f + 1) _ _ _ _ = _ ∧ _
  rw [am_s200_102]
  simp only [hx_9 w, Option.bind_some, a1, am_v_some, hg_917 w, e17, hg_904 w, e04, b1]
  rw [if_pos (Or.inl True.intro)]
  simp only [hs_945 w, Option.bind_some]
  have b3 : kJ (A.2.2.1 j).1 (a_cut A j) (hp_sI P2 945 0, nt, T, ns.take nk, false) := b3
  have rowP : ∀ r, im_S r = false → cu_S r = false → (hp_sI P2 945 0).2 r = P.2 r := fun r x y => ((b2.1 r y).2).trans (a2.1 r x).2
  have row12 : (hp_sI P2 945 0).2 912 = P1.2 912 := (b2.1 912 rfl).2
  have row27 : (hp_sI P2 945 0).2 927 = P1.2 927 := (b2.1 927 rfl).2
  have frP3 : mfr dW_S P (hp_sI P2 945 0) := by
    refine ((a2.up fun r hr => ?_).tr (b2.up fun r hr => ?_)).tr (mfr.sI rfl)
    · have := of_decide_eq_false hr
      exact decide_eq_false (by omega)
    · have := of_decide_eq_false hr
      exact decide_eq_false (by omega)
  generalize hP3 : hp_sI P2 945 0 = P3 at *
  -- limits
  have wM : m_wf s.2 := (J.1.row hti).2.1
  have sm : s ∈ A.1 := List.mem_of_getElem? ha
  have gl : ∀ t, q_un (A.2.2.1 j).1 [s.2] t → S t := fun t ht => by
    rcases ht with z | z
    · exact aH_t hI h1 h2 t z
    · exact hI.1.2.2.2.2.2 t (q_of_mem (sq_mc sm) z)
  have mt := m_tot_keep ha h3
  have kz' : kz False (q_un (A.2.2.1 j).1 [s.2]) (ns.take nk ++ ([s.2].flatMap m_subs ++ [])) := by
    refine kz_Q (Z := False) (rows := [s.2]) (E := []) b3 ?_ (fun X hX => by rw [List.mem_singleton.mp hX]; exact wM) (fun X hX => by rw [List.mem_singleton.mp hX]; exact hI.2.2.2.2.2.2.2.1 _ (sq_mc sm)) (fun z => z (hI.2.2.1.mono gl)) (fun X hX => ?_) (fun z => ?_) (Nat.zero_le _) (fun X hX => by cases hX)
    · show (A.2.2.2.2.2.2.take _).length < 16000
      rw [List.length_take]; omega
    · rw [List.mem_singleton.mp hX]
      have := (J.1.row hti).2.2.2.2.2
      exact ⟨fun z => by omega, fun z => by omega⟩
    · have e : m_tot [s.2] = (m_fl s.2).length := by rw [m_tot_c]; rfl
      rw [e] at z
      have z : 20000 < m_tot (sq_rows (A.1.take j)) + (m_fl s.2).length := z
      omega
  have inL : ∀ X, m_sub X s.2 → X ∈ ns.take nk ++ ([s.2].flatMap m_subs ++ []) := fun X hX => List.mem_append.mpr (Or.inr (List.mem_append.mpr (Or.inl (List.mem_flatMap.mpr ⟨s.2, List.mem_singleton.mpr rfl, m_subs_mem.mpr hX⟩))))
  -- types
  have t0 : tyL (q_un (A.2.2.1 j).1 [s.2]) (ns.take nk ++ ([s.2].flatMap m_subs ++ [])) (P, n, T, ns, b) (P1.2 912).2 nt P3 (ns.take nk) nt P3 nt T :=
    ⟨b3.1.mono id (fun t ht => Or.inl ht) (fun X hX => List.mem_append.mpr (Or.inl hX)), ty_xt.rf, Nat.le_refl _, fun i x y => by omega, fun i _ => by rw [row12], fun r i x y _ => by rw [rowP r (decide_eq_false (by omega)) (decide_eq_false (by omega))], mfr.rf⟩
  obtain ⟨f1, P4, n2, T2, d1, d2, d3⟩ := ty_loop (sa := sa) (x3 := nI ti) (x4 := nI nk) (x6 := nI ns.length) (f0 := f + 3) (d := d + 2) w kT kz' c1 c2 (fun i x y z => ⟨Or.inr (a3.2.2.2.1 i x y z), a4 i x x y z⟩) (by omega) _ nt f P3 nt T rfl (Nat.le_refl _) c1 t0 (by show n - nt + 1 ≤ f; omega)
  have d1 : f ≤ f1 + (n - nt + 1) := d1
  have d2 : am_go B sa am_dfl (am_call B sa am_dfl am_tb (f + 3) (d + 4)) am_r200 f 139 [(0, .ref (ρ.1 9)), (3, .int (nI ti)), (4, .int (nI nk)), (5, .int (nI nt)), (6, .int (nI ns.length)), (7, .int (nI n)), (8, .int (nI nt))] [] (hp_S sa ρ P3) = _ := d2
  rw [d2]
  obtain ⟨t1, t2, t3, t4, t5, t6, t7⟩ := d3
  have tm : ∀ r, r ≠ 912 → ¬ (904 ≤ r ∧ r ≤ 911) → r ≠ 945 → P4.1 r = P3.1 r ∧ P4.2 r = P3.2 r := fun r x y z => t7.1 r (by
    unfold tm_S tx_S tn_S
    rw [decide_eq_false y, decide_eq_false z, decide_eq_false x]; rfl)
  -- nodes
  have u0 : ndU (ns.take nk ++ ([s.2].flatMap m_subs ++ [])) (P, n, T, ns, b) (P1.2 927).2 (P1.2 912).2 nk nt := fun i X x y z => by
    obtain ⟨y1, y2, y3, y4⟩ := a3.2.2.2.2.2 i x x (List.getElem?_eq_some_iff.mp y).1 z
    exact ⟨inL X (a3.2.2.1 i X x y z), y1, y2, y3, y4⟩
  have m0 : ndL (q_un (A.2.2.1 j).1 [s.2]) (ns.take nk ++ ([s.2].flatMap m_subs ++ [])) (P, n, T, ns, b) (P1.2 927).2 (P1.2 912).2 nk nt P4 n2 T2 nk P4 (ns.take nk) :=
    ⟨t1, ⟨[], (List.append_nil _).symm⟩, by rw [List.length_take]; omega, fun i x y z => t4 i x y z, fun i X x y => by omega, fun i _ => by rw [(tm 927 (by decide) (by decide) (by decide)).2, row27], fun r i x y _ => by rw [(tm r (by omega) (by omega) (by omega)).2, rowP r (decide_eq_false (by omega)) (decide_eq_false (by omega))], mfr.rf⟩
  obtain ⟨f2, P5, ns2, g1, g2, g3⟩ := nd_loop (sa := sa) (x3 := nI ti) (f0 := f + 3) (d := d + 2) w kT kz' c1 c3 u0 t2 (by omega) _ nk f1 P4 (ns.take nk) rfl (Nat.le_refl _) c3 m0 (by show 3 * (ns.length - nk) + 1 ≤ f1; omega)
  have g1 : f1 ≤ f2 + 3 * (ns.length - nk) := g1
  have g2 : am_go B sa am_dfl (am_call B sa am_dfl am_tb (f + 3) (d + 4)) am_r200 f1 256 [(0, .ref (ρ.1 9)), (3, .int (nI ti)), (4, .int (nI nk)), (5, .int (nI nt)), (6, .int (nI ns.length)), (8, .int (nI nk))] [] (hp_S sa ρ P4) = am_go B sa am_dfl (am_call B sa am_dfl am_tb (f + 3) (d + 4)) am_r200 f2 256 [(0, .ref (ρ.1 9)), (3, .int (nI ti)), (4, .int (nI nk)), (5, .int (nI nt)), (6, .int (nI ns.length)), (8, .int (nI ns.length))] [] (hp_S sa ρ P5) := g2
  rw [g2]
  obtain ⟨v1, v2, v3, v4, v5, v6, v7, v8⟩ := g3
  have nm : ∀ r, ¬ (917 ≤ r ∧ r ≤ 927) → r ≠ 912 → r ≠ 945 → P5.1 r = P4.1 r ∧ P5.2 r = P4.2 r := fun r x y z => v8.1 r (by
    unfold nm_S nx_S nn_S im_S
    rw [decide_eq_false (by omega), decide_eq_false z, decide_eq_false (by omega)]; rfl)
  have tl := (List.getElem?_eq_some_iff.mp hti).1
  obtain ⟨q5, eq5⟩ := v2
  have eq5 : ns2 = ns.take nk ++ q5 := eq5
  have rr5 : ∀ r, rr_S r = true → P5.1 r = P3.1 r ∧ P5.2 r = P3.2 r := fun r hr => by
    have e1 : ¬ (917 ≤ r ∧ r ≤ 927) ∧ ¬ (904 ≤ r ∧ r ≤ 912) ∧ r ≠ 945 := by
      unfold rr_S at hr
      rcases Bool.or_eq_true_iff.mp hr with z | z
      · have := of_decide_eq_true z; omega
      · have := of_decide_eq_true z; omega
    have x1 := nm r e1.1 (by omega) e1.2.2
    have x2 := tm r (by omega) (by omega) e1.2.2
    exact ⟨x1.1.trans x2.1, x1.2.trans x2.2⟩
  have r5 : rI (a_cut A j) (P5, n2, T2, ns2, false) := b3.2.1.cg b3.1.wf b3.1.n31 rr5 (fun r => (v8.2 r).trans (t7.2 r)) t2 ⟨q5, eq5⟩
  have lj : (a_cut A j).1.length = j := by show (A.1.take j).length = j; rw [List.length_take]; omega
  -- open, close
  obtain ⟨K6, o1, o2, o3, o4, o5⟩ := d_open2 (sa := sa) (f := f + 2) (d := d + 2) (K := (P5, n2, T2, ns2, false)) w v1 r5 (by rw [lj]; omega)
  have o1 : am_call B sa am_dfl am_tb (f + 3) (d + 4) 158 [.ref (ρ.1 9)] (hp_S sa ρ P5) = some (none, hp_S sa ρ K6.1) := o1
  have kI6 : K6.2.2.2.2 = false := by rw [o4]
  have fin : ∀ {c : Int32}, nq (P5, n2, T2, ns2, false) c s.2 → ∃ K', (am_v (am_call B sa am_dfl am_tb (f + 3) (d + 4) 159 [.ref (ρ.1 9), .int c, .int 23] (hp_S sa ρ K6.1)) fun g => some ((none : Option Value), g)) = some (none, hp_S sa ρ K'.1) ∧ kJ (q_un (A.2.2.1 j).1 [s.2]) (a_new (a_cut A j) A.2.1 (q_un (A.2.2.1 j).1 [s.2]) [([], s.2)] [] []) K' ∧ mfr dW_S P K'.1 := by
    intro c hc
    obtain ⟨K', x1, x2, x3, x4, x5⟩ := d_close (sa := sa) (f := f + 3) (d := d + 2) (st := 23) (c := c) (M := s.2) w o2 (nq.v (nq.gD hc o3)) (fun z => by
      have z : 20000 < m_tot (sq_rows (A.1.take j)) + 0 + (m_fl s.2).length := z
      omega) (by rw [lj]; omega) (by show (A.2.2.2.2.2.1.take _).length < 8000; rw [List.length_take]; omega) (by show (A.2.2.2.2.2.2.take _).length < 16000; rw [List.length_take]; omega) (by omega)
    rw [x1, am_v_some]
    have fr' : mfr dW_S P K'.1 := by
      refine frP3.tr ((t7.up fun r hr => ?_).tr ((v8.up fun r hr => ?_).tr (o3.W.1.tr x2.1)))
      · have := of_decide_eq_false hr
        unfold tm_S tx_S tn_S
        rw [decide_eq_false (by omega), decide_eq_false (by omega), decide_eq_false (by omega)]; rfl
      · have := of_decide_eq_false hr
        unfold nm_S nx_S nn_S im_S
        rw [decide_eq_false (by omega), decide_eq_false (by omega), decide_eq_false (by omega)]; rfl
    rcases x5 with ⟨eb, -⟩ | ⟨eb, ht, h60, hN⟩
    · exact (x3.2.2.2.1 eb).elim
    · have xt : ty_xt nt T K'.2.1 K'.2.2.1 := t2.tr (o3.2.1.tr x2.2.1)
      obtain ⟨eS, lim⟩ := q_good_end (Q := [s.2].flatMap m_subs ++ []) (H := []) b3 x3 hN xt ht h60
      have bd : K'.2.2.2.1.length ≤ 2 * (m_tot (sq_rows (a_cut A j).1) + m_tot ([] ++ [s.2])) + (a_cut A j).2.2.2.2.2.2.length := by
        have y1 := x3.le
        rw [List.length_append] at y1
        have y2 := b3.2.2.2
        have y3 := rows_len (rows := [s.2])
        have y2 : (ns.take nk).length ≤ 2 * m_tot (sq_rows (a_cut A j).1) + (a_cut A j).2.2.2.2.2.2.length := y2
        show _ ≤ 2 * (_ + m_tot [s.2]) + _
        omega
      have th := r_th_new (fm := A.2.1) (ks := []) (os := []) o2.2.1 hN x4 x3 eS bd (Or.inl ⟨rfl, by decide⟩)
      refine ⟨K', rfl, ⟨?_, ⟨?_, hN.2.1, hN.2.2.1, th, hN.2.2.2.1⟩, eS, ?_⟩, fr'⟩
      · have := x3.gd eb
        rw [eS] at this
        exact this
      · show r_sg K' (A.2.2.2.1 ++ []) (A.2.2.2.2.1 ++ [])
        rw [List.append_nil, List.append_nil]; exact hN.1
      · show _ ≤ 2 * m_tot (sq_rows ((a_cut A j).1 ++ [([], s.2)])) + _
        rw [sq_rows_N, m_tot_ap]; exact bd
  obtain ⟨f2, rfl⟩ : ∃ g, f2 = g + 1 := ⟨f2 - 1, by omega⟩
  rw [am_s200_256]
  simp only [am_c_ge, am_c_lt, hx_9 w, Option.bind_some, o1, am_v_some]
  rw [if_pos (Int32.le_refl _)]
  have e27 : K6.1.2 927 = P5.2 927 := o5 927 (by decide) (by decide)
  by_cases lt : ti < nk
  · rw [if_pos (nI_lt lt (by omega))]
    exact fin ⟨ti, by omega, rfl, by
      show ns2[ti]? = some s.2
      rw [eq5, List.getElem?_append_left (by rw [List.length_take]; omega), List.getElem?_take, if_pos lt]; exact hti⟩
  · rw [if_neg (nI_nlt (by omega) (by omega))]
    have l27 : (K6.1.2 927).1 = 60000 := o2.1.2.1.2.1.2.1
    have q27 : hp_rd K6.1 927 (nI ti) = some ((P5.2 927).2 ti) := by rw [← e27]; exact hp_rd_nI (by rw [l27]; omega) (by omega)
    simp only [hr_927 w, hl_927 w, q27, Option.bind_some]
    exact fin (v5 ti s.2 (by omega) tl hti (a3.2.2.2.2.1 (by omega)))
end KP3
