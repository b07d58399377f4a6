/-! THE REFERENCE, 28: a new type, the step -/
section TY2
variable {Z : Prop} {G : qT → Prop} {L : List qM} {sa : Nat → Nat} {B : Nat} {ρ : hp_L} {K K' K0 K1 : kS} {P : hp_P} {vs : List Int32} {A : sV} {S : qT → Prop} {k fr : Nat} {ws wr : List Int32} {H : List qM} {M : qM}
theorem r_sq.cg2 {P' : hp_P} {sq : List qQ} (h : r_sq K sq) (h0 : ∀ r, 932 ≤ r → r ≤ 934 → P'.1 r = K.1.1 r) (h1 : ∀ r, 935 ≤ r → r ≤ 937 → P'.2 r = K.1.2 r) (h2 : P'.2 943 = K.1.2 943) (hl : ∀ r, (P'.2 r).1 = (K.1.2 r).1) : r_sq (P', K.2) sq := by
  unfold r_sq r_row at h ⊢
  rw [show (P', K.2).1 = P' from rfl, h0 932 (by decide) (by decide), h0 933 (by decide) (by decide), h0 934 (by decide) (by decide), h1 935 (by decide) (by decide), h1 936 (by decide) (by decide), h1 937 (by decide) (by decide), h2]
  exact ⟨h.1, h.2.1, h.2.2.1, fun r a b => by rw [hl]; exact h.2.2.2.1 r a b, h.2.2.2.2⟩
set_option maxHeartbeats 8000000 in
/-- the end of a new type -/
theorem e_21c {f d g : Nat} {x6 x7 o1 o2 : Int32} {old made : qT} {p : qM} {kk : Nat} {wr : List Int32} (w : hp_w B ρ) (J : kJ S A K0) (hI : aI S A) (hs : A.1.length + 2 ≤ 1000) (h8 : A.2.2.2.2.2.1.length < 8000) (h16 : A.2.2.2.2.2.2.length < 16000)
    (hsp : sp_21 A.1 A.2.2.2.1 A.2.2.2.2.1 (wd wr 1) old made p kk) (hl : 2 ≤ wr.length) (htot : m_tot (sq_rows A.1) + (m_fl (n21a old made A.2.2.2.2.1.length)).length + (m_fl (n21b old made A.2.2.2.2.1.length p)).length ≤ 20000)
    (k1 : kI Z (q_un S [n21a old made A.2.2.2.2.1.length, n21b old made A.2.2.2.2.1.length p]) (K0.2.2.2.1 ++ [n21a old made A.2.2.2.2.1.length, n21b old made A.2.2.2.2.1.length p].flatMap m_subs) K1) (r1 : rI A K1) (eb : K1.2.2.2.2 = false) (xt : ty_xt K0.2.1 K0.2.2.1 K1.2.1 K1.2.2.1) (dx : mfr dx_S K0.1 K1.1) (h49 : K1.1.1 949 = nI (fr + 2)) (tk' : (K1.1.2 914).2 A.2.2.2.1.length = nI kk)
    (t6 : pl K1.2.1 K1.2.2.1 x6 (qF old made)) (t7 : pl K1.2.1 K1.2.2.1 x7 (qF made old)) (q1 : nq K1 o1 (n21a old made A.2.2.2.2.1.length)) (q2 : nq K1 o2 (n21b old made A.2.2.2.2.1.length p)) (hf : 60000 ≤ f) :
    eO sa ρ S A 21 fr wr K0 (am_go B sa am_dfl (am_call B sa am_dfl am_tb (f + 1) (d + 3)) am_r172 (g + 1) 372 [(0, .ref (ρ.1 9)), (6, .int x6), (7, .int x7), (12, .int o1), (14, .int o2)] [.int 1, .ref (ρ.1 9)] (hp_S sa ρ K1.1)) := by
  rw [am_s172_372]
  obtain ⟨s0, xx, vs, -, -, -, -, -, -, l40, l200, -, -, -⟩ := id hsp
  generalize hN1 : n21a old made A.2.2.2.2.1.length = N1 at *
  generalize hN2 : n21b old made A.2.2.2.2.1.length p = N2 at *
  have kF : kI False (q_un S [N1, N2]) (K0.2.2.2.1 ++ [N1, N2].flatMap m_subs) K1 := by
    refine ⟨k1.1, k1.2.1, k1.2.2.1, fun z => ?_, k1.2.2.2.2⟩
    rw [eb] at z; cases z
  have h45 := k1.2.2.1
  rw [eb] at h45
  simp only [hx_9 w, Option.bind_some]
  rw [m_need1 w h45 (by decide), am_i_some]
  simp only [am_c_ne]
  rw [if_pos (by decide)]
  simp only [hx_9 w, Option.bind_some]
  obtain ⟨K2, a1, a2, a3, a4, a5, a6⟩ := d_open4 (sa := sa) (f := f) (d := d + 1) w kF r1.r4 (by omega)
  rw [a1, am_v_some]
  simp only [hx_9 w, Option.bind_some]
  have e0 : m_tot ([] : List qM) = 0 := rfl
  obtain ⟨K3, b1, b2, b3, b4, b5⟩ := d_close4 (sa := sa) (f := f + 1) (d := d + 1) (c := o1) (st := 21) (M := N1) (H := []) w a2 a3 (fun _ => a4) (q1.gD a5).v (fun z => by omega) (by omega) h8 h16 (by omega)
  rw [b1, am_v_some]
  simp only [hx_9 w, Option.bind_some]
  rcases b5 with eb3 | ⟨eb3, ht3, -, n3⟩
  · exact (b3.2.2.2.1 eb3).elim
  let A2 : sV := (A.1 ++ [([], N1)], A.2)
  have l2 : A2.1.length = A.1.length + 1 := by show (A.1 ++ [([], N1)]).length = _; rw [List.length_append]; rfl
  have r4' : r4 A2 K3 := ⟨n3.1, n3.2.1, n3.2.2.1, True.intro, n3.2.2.2.1⟩
  obtain ⟨K4, c1, c2, c3, c4, c5, c6⟩ := d_open4 (sa := sa) (f := f) (d := d + 1) w b3 r4' (by omega)
  rw [c1, am_v_some]
  simp only [hx_9 w, Option.bind_some]
  have et2 : m_tot (sq_rows A2.1) = m_tot (sq_rows A.1) + (m_fl N1).length := by
    show m_tot (sq_rows (A.1 ++ [([], N1)])) = _
    rw [sq_rows_N, m_tot_ap]; rfl
  have D4 : kDF dW_S K1 K4 := (a5.W.tr b2).tr c5.W
  obtain ⟨K5, d1, d2, d3, d4, d5⟩ := d_close4 (sa := sa) (f := f + 1) (d := d + 1) (c := o2) (st := 21) (M := N2) (H := []) w c2 c3 (fun _ => c4) (q2.gD D4).v (fun z => by rw [et2] at z; omega) (by omega) h8 h16 (by omega)
  rw [d1, am_v_some]
  simp only [hx_9 w, Option.bind_some]
  rcases d5 with eb5 | ⟨eb5, ht5, -, n5⟩
  · exact (d3.2.2.2.1 eb5).elim
  have D5 : kDF dW_S K1 K5 := D4.tr d2
  have nE : K5.2.1 = K1.2.1 ∧ K5.2.2.1 = K1.2.2.1 ∧ K5.2.2.2.1 = K1.2.2.2.1 := by
    have e1 : K4.2.1 = K1.2.1 := by rw [show K4.2.1 = K3.2.1 from congrArg (fun z => z.1) c6, b4.1]; exact congrArg (fun z => z.1) a6
    have e2 : K4.2.2.1 = K1.2.2.1 := by rw [show K4.2.2.1 = K3.2.2.1 from congrArg (fun z => z.2.1) c6, b4.2.1]; exact congrArg (fun z => z.2.1) a6
    have e3 : K4.2.2.2.1 = K1.2.2.2.1 := by rw [show K4.2.2.2.1 = K3.2.2.2.1 from congrArg (fun z => z.2.2.1) c6, b4.2.2]; exact congrArg (fun z => z.2.2.1) a6
    exact ⟨d4.1.trans e1, d4.2.1.trans e2, d4.2.2.trans e3⟩
  obtain ⟨n1, n2, n3', n4, n5', n6, n7, n8⟩ := n5
  -- the state is noted
  have s32 : K5.1.1 932 = nI (A.1.length + 2) := by
    have := n3'.1.1
    rw [List.length_append, l2] at this
    exact this
  have nt := d_note (sa := sa) (f := f) (d := d + 2) (s := A.1.length) (P := K5.1) w d3.2.1.1.1 d3.1.1.1 n2.1 n2.2.2.2.1 (fun r a b => n3'.2.2.2.1 r (by omega) (by omega)) (by omega)
  simp only [hg_932 w, s32, Option.bind_some, hx_9 w]
  rw [show nI (A.1.length + 2) - 2 = nI A.1.length from by rw [show (2 : Int32) = nI 2 from rfl, pk_sub (by omega)]; rfl, nt, am_v_some]
  obtain ⟨m9, m0, m1, m2⟩ := nt_r (P := K5.1) (s := A.1.length) (a := K5.2.2.2.1.length) (b := K5.2.1) (c := A.2.2.2.2.2.1.length) (e := A.2.2.2.2.2.2.length) (by omega)
  generalize hQ : nt_P K5.1 A.1.length K5.2.2.2.1.length K5.2.1 A2.2.2.2.2.2.1.length A2.2.2.2.2.2.2.length = Q at *
  have hQ' : nt_P K5.1 A.1.length K5.2.2.2.1.length K5.2.1 A.2.2.2.2.2.1.length A.2.2.2.2.2.2.length = Q := hQ
  have Q2 : ∀ {r}, ¬ (939 ≤ r ∧ r ≤ 942) → Q.2 r = K5.1.2 r := fun {r} a => by rw [← hQ]; exact nt_2 a
  have Q1 : ∀ {r}, Q.1 r = K5.1.1 r := fun {r} => by rw [← hQ]; rfl
  have Ql : ∀ r, (Q.2 r).1 = (K5.1.2 r).1 := fun r => by rw [← hQ, nt_l]
  have e15 : Q.1 915 = nI A.2.2.2.2.1.length := Q1.trans n1.2.2.2.1
  have e13 : Q.1 913 = nI A.2.2.2.1.length := Q1.trans n1.1
  have l916 : (Q.2 916).1 = 202 := (Ql 916).trans n1.2.2.2.2.1
  have ck1 : hp_ck Q 916 (nI A.2.2.2.2.1.length) = some () := hp_ck_nI (by rw [l916]; omega) (by omega)
  have ck2 : ∀ v, hp_ck (hp_sA Q 916 (nI A.2.2.2.2.1.length) v) 916 (nI (A.2.2.2.2.1.length + 1)) = some () := fun v => hp_ck_nI (by rw [hA_len, l916]; omega) (by omega)
  have e13' : ∀ v u x y, (hp_sI (hp_sA (hp_sA Q 916 x v) 916 y u) 915 (nI (A.2.2.2.2.1.length + 2))).1 913 = nI A.2.2.2.1.length := fun v u x y => by rw [hI_ne (by decide)]; exact e13
  simp only [hr_916 w, hg_915 w, e15, ht_916 w, ck1, hA_I, nI_1, ck2, hs_915 w, Option.bind_some]
  rw [show nI A.2.2.2.2.1.length + 2 = nI (A.2.2.2.2.1.length + 2) from nI_add _ 2]
  simp only [hg_913 w, e13', hs_913 w, nI_1, Option.bind_some]
  -- what stands now
  have h916 : ((t2P Q A.2.2.2.2.1.length A.2.2.2.1.length x6 x7).2 916).2 = upd (upd (Q.2 916).2 A.2.2.2.2.1.length x6) (A.2.2.2.2.1.length + 1) x7 := by
    show ((hp_sA (hp_sA Q 916 (nI _) x6) 916 (nI _) x7).2 916).2 = _
    rw [hA_eq, hA_eq, nI_clamp (by omega), nI_clamp (by omega)]
  have e914 : (K5.1.2 914).2 = (K1.1.2 914).2 := by rw [(D5.2.2.2.2 914 (Or.inr rfl)).2]
  have eS : ct_S K5.2.2.1 K5.2.1 = q_un (q_un S [N1]) [N2] := by
    rw [q_un_2]
    funext u
    refine propext ⟨d3.2.2.2.2.1 u, fun z => ?_⟩
    rcases z with z | ⟨X, hX, s, hs', hu⟩
    · rw [← J.2.2.1] at z
      exact z.xt J.1.wf J.1.n31 (xt.tr D5.2.1)
    · rcases List.mem_cons.mp hX with z | z
      · rw [z] at hs'
        exact d3.ty (q1.gD D5) ⟨N1, List.mem_singleton.mpr rfl, s, hs', hu⟩
      · rw [List.mem_singleton.mp z] at hs'
        exact d3.ty (q2.gD D5) ⟨N2, List.mem_singleton.mpr rfl, s, hs', hu⟩
  have bd : K5.2.2.2.1.length ≤ 2 * m_tot (sq_rows (A.1 ++ [([], N1), ([], N2)])) + A.2.2.2.2.2.2.length := by
    have h1 := d3.le
    rw [List.length_append, m_subs_tot] at h1
    have h2 := J.2.2.2
    have e : m_tot (sq_rows (A.1 ++ [([], N1), ([], N2)])) = m_tot (sq_rows A.1) + m_tot [N1, N2] := by
      unfold sq_rows
      rw [List.flatMap_append, m_tot_ap]; rfl
    rw [e]
    omega
  have row : ∀ {v X}, nq K1 v X → (m_fl X).length ≤ 4000 ∧ m_ht X ≤ 120 := fun {v X} ⟨i, _, _, hi⟩ => ⟨(k1.row hi).2.2.2.2.2.1, (k1.row hi).2.2.2.2.2.2⟩
  have good := d3.1.good
  have lim : lim21 S (m_tot (sq_rows A.1)) N1 N2 := by
    have g2 : q_good (q_un (q_un S [N1]) [N2]) := by rw [eS] at good; exact good
    have g1 : q_good (q_un S ([] ++ [N1])) := ⟨fun t ht => g2.1 t (Or.inl ht), by
      obtain ⟨l, l1, l2⟩ := g2.2
      exact ⟨l, l1, fun t ht => l2 t (Or.inl ht)⟩⟩
    refine ⟨⟨Nat.zero_le _, fun X hX => ?_, ?_, g1⟩, ⟨Nat.zero_le _, fun X hX => ?_, ?_, g2⟩⟩
    · rw [List.mem_singleton.mp hX]; exact row q1
    · show m_tot (sq_rows A.1) + m_tot ([] : List qM) + (m_fl N1).length ≤ 20000
      omega
    · rw [List.mem_singleton.mp hX]; exact row q2
    · show m_tot (sq_rows A.1) + (m_fl N1).length + m_tot ([] : List qM) + (m_fl N2).length ≤ 20000
      omega
  have kI5 : kI False (ct_S K5.2.2.1 K5.2.1) K5.2.2.2.1 K5 := d3.gd eb5
  have ksN : ∀ r, ks_S r = true → (t2P Q A.2.2.2.2.1.length A.2.2.2.1.length x6 x7).1 r = K5.1.1 r ∧ (t2P Q A.2.2.2.2.1.length A.2.2.2.1.length x6 x7).2 r = K5.1.2 r := fun r hr => by
    have z1 := ks_ne hr (s := 913) rfl
    have z2 := ks_ne hr (s := 915) rfl
    have z3 := ks_ne hr (s := 916) rfl
    have y1 := ks_ne hr (s := 939) rfl
    have y2 := ks_ne hr (s := 940) rfl
    have y3 := ks_ne hr (s := 941) rfl
    have y4 := ks_ne hr (s := 942) rfl
    exact ⟨(t2_1 z1 z2).trans Q1, (t2_2 z3).trans (Q2 (by omega))⟩
  have eA : A.1 ++ [([], N1), ([], N2)] = A2.1 ++ [([], N2)] := by
    show _ = (A.1 ++ [([], N1)]) ++ [([], N2)]
    rw [List.append_assoc]; rfl
  refine ⟨(t2P Q A.2.2.2.2.1.length A.2.2.2.1.length x6 x7, K5.2), rfl, ?_, Or.inl ⟨2, _, _, aL_2 (by decide), hl, Or.inr (Or.inr (Or.inr (Or.inr ⟨rfl, old, made, p, kk, hsp, by rw [hN1, hN2]; exact lim, rfl, rfl⟩))), ⟨?_, ⟨?_, ?_, ?_, ?_, ?_⟩, ?_, ?_⟩, ?_⟩⟩
  · refine (dx.W.tr D5.1).tr ?_
    rw [← hQ]
    exact (((((((mfr.sA rfl).tr (mfr.sA rfl)).tr (mfr.sA rfl)).tr (mfr.sA rfl)).tr (mfr.sA rfl)).tr (mfr.sA rfl)).tr (mfr.sI rfl)).tr (mfr.sI rfl)
  · rw [hN1, hN2]
    have := kI5.cg ksN
    rw [eS] at this
    exact this
  · show r_sg _ (A.2.2.2.1 ++ [kk]) (A.2.2.2.2.1 ++ [qF old made, qF made old])
    refine ⟨?_, ?_, fun c x hc => ?_, ?_, ?_, fun c t hc => ?_⟩
    · rw [List.length_append]; exact hI_eq
    · show ((t2P _ _ _ _ _).2 914).1 = _
      rw [t2_l, Ql]; exact n1.2.1
    · show ((t2P _ _ _ _ _).2 914).2 c = _
      rw [t2_2 (by decide), Q2 (by decide)]
      rcases rw_push_g hc with z | ⟨z1, z2⟩
      · exact n1.2.2.1 c x z
      · rw [z1, z2, e914]; exact tk'
    · rw [List.length_append]
      show (t2P _ _ _ _ _).1 915 = _
      unfold t2P
      rw [hI_ne (by decide), hI_eq]; rfl
    · show ((t2P _ _ _ _ _).2 916).1 = _
      rw [t2_l, Ql]; exact n1.2.2.2.2.1
    · show pl K5.2.1 K5.2.2.1 (((t2P _ _ _ _ _).2 916).2 c) t
      rw [h916]
      rw [show A.2.2.2.2.1 ++ [qF old made, qF made old] = (A.2.2.2.2.1 ++ [qF old made]) ++ [qF made old] from by rw [List.append_assoc]; rfl] at hc
      rcases rw_push_g hc with z | ⟨z1, z2⟩
      · have zl := (List.getElem?_eq_some_iff.mp z).1
        rw [List.length_append] at zl
        have zl : c < A.2.2.2.2.1.length + 1 := zl
        rw [pk_un (by omega)]
        rcases rw_push_g z with y | ⟨y1, y2⟩
        · rw [pk_un (by have := (List.getElem?_eq_some_iff.mp y).1; omega), Q2 (by decide)]
          exact n1.2.2.2.2.2 c t y
        · rw [y1, y2, pk_us, nE.1, nE.2.1]; exact t6
      · rw [List.length_append] at z1
        have z1 : c = A.2.2.2.2.1.length + 1 := z1
        rw [z1, z2, pk_us, nE.1, nE.2.1]; exact t7
  · exact n2.cg ((t2_1 (by decide) (by decide)).trans Q1) ((t2_1 (by decide) (by decide)).trans Q1) ((t2_2 (by decide)).trans (Q2 (by decide))) ((t2_2 (by decide)).trans (Q2 (by decide)))
  · show r_sq _ (A.1 ++ [([], n21a old made A.2.2.2.2.1.length), ([], n21b old made A.2.2.2.2.1.length p)])
    rw [hN1, hN2, eA]
    exact n3'.cg2 (fun r a b => (t2_1 (by omega) (by omega)).trans Q1) (fun r a b => (t2_2 (by omega)).trans (Q2 (by omega))) ((t2_2 (by decide)).trans (Q2 (by decide))) (fun r => t2_l.trans (Ql r))
  · have el : (A.1 ++ [([], n21a old made A.2.2.2.2.1.length), ([], n21b old made A.2.2.2.2.1.length p)]).length = A.1.length + 2 := by rw [List.length_append]; rfl
    refine ⟨⟨?_, fun j a b => ?_, fun a => ?_⟩, fun j a b => ?_, fun i j a _ b c => ?_⟩
    · show A.1.length + 2 ≤ (A.1 ++ [([], n21a old made A.2.2.2.2.1.length), ([], n21b old made A.2.2.2.2.1.length p)]).length
      rw [el]; exact Nat.le_refl _
    · have a : A.1.length + 2 ≤ j := a
      have b : j < (A.1 ++ [([], n21a old made A.2.2.2.2.1.length), ([], n21b old made A.2.2.2.2.1.length p)]).length := b
      rw [el] at b
      omega
    · right
      show ((t2P _ _ _ _ _).2 938).2 (A.1.length + 2 - 1) = 21
      rw [t2_2 (by decide), Q2 (by decide), show A.1.length + 2 - 1 = A2.1.length by rw [l2]; rfl]
      exact n5'
    · have a : A.1.length + 2 ≤ j := a
      have b : j ≤ (A.1 ++ [([], n21a old made A.2.2.2.2.1.length), ([], n21b old made A.2.2.2.2.1.length p)]).length := b
      rw [el] at b
      have ej : j = A.1.length + 2 := by omega
      have eth : (a_new A (A.1.length + 2) (q_un (q_un S [n21a old made A.2.2.2.2.1.length]) [n21b old made A.2.2.2.2.1.length p]) [([], n21a old made A.2.2.2.2.1.length), ([], n21b old made A.2.2.2.2.1.length p)] [kk] [qF old made, qF made old]).2.2.1 j = (q_un (q_un S [n21a old made A.2.2.2.2.1.length]) [n21b old made A.2.2.2.2.1.length p], A.2.2.2.2.2.1.length, A.2.2.2.2.2.2.length) := by
        show (if j = A.1.length + 2 then _ else _) = _
        rw [if_pos ej]
      rw [eth]
      refine ⟨K5.2.2.2.1.length, K5.2.1, ⟨fun z => by omega, fun _ => ?_⟩, ?_⟩
      · show ((t2P _ _ _ _ _).2 939).2 _ = _ ∧ ((t2P _ _ _ _ _).2 940).2 _ = _ ∧ ((t2P _ _ _ _ _).2 941).2 _ = _ ∧ ((t2P _ _ _ _ _).2 942).2 _ = _
        rw [t2_2 (by decide), t2_2 (by decide), t2_2 (by decide), t2_2 (by decide), m9, m0, m1, m2, ej, pk_un (by omega), pk_un (by omega), pk_un (by omega), pk_un (by omega)]
        have z := n8.2 (by omega)
        rw [Nat.add_sub_cancel, l2] at z
        rw [← d4.2.2, ← d4.1] at z
        exact z
      · show r_cut K5.2.1 K5.2.2.1 K5.2.2.2.1 K5.2.2.2.1.length K5.2.1 (q_un (q_un S [n21a old made A.2.2.2.2.1.length]) [n21b old made A.2.2.2.2.1.length p]) ((A.1 ++ [([], n21a old made A.2.2.2.2.1.length), ([], n21b old made A.2.2.2.2.1.length p)]).take j) (A.2.2.2.2.2.2.take A.2.2.2.2.2.2.length)
        rw [List.take_of_length_le (by rw [el]; omega), List.take_length, hN1, hN2]
        refine ⟨⟨Nat.le_refl _, d3.2.2.2.2.2.2.1, Nat.le_refl _⟩, eS, fun X hX => ?_, fun X hX => ?_, fun X hX t ht => ?_, bd⟩
        · rw [List.take_length]
          rw [eA] at hX
          obtain ⟨s, hs', hX⟩ := List.mem_flatMap.mp hX
          obtain ⟨i, hi, es⟩ := List.mem_iff_getElem.mp hs'
          have hr := n3'.2.2.2.2.2 i s (List.getElem?_eq_some_iff.mpr ⟨hi, es⟩)
          rcases List.mem_append.mp hX with z | z
          · obtain ⟨i', hi', e'⟩ := List.mem_iff_getElem.mp z
            exact (hr.2.2.2.2 i' X (List.getElem?_eq_some_iff.mpr ⟨hi', e'⟩)).mem
          · rw [List.mem_singleton.mp z]; exact hr.1.mem
        · rw [List.take_length]
          obtain ⟨i, hi, es⟩ := List.mem_iff_getElem.mp hX
          exact (n2.2.2.2.2.2 i X (List.getElem?_eq_some_iff.mpr ⟨hi, es⟩)).mem
        · rw [List.take_length] at hX
          obtain ⟨i, hi, es⟩ := List.mem_iff_getElem.mp hX
          exact (d3.cl i X (List.getElem?_eq_some_iff.mpr ⟨hi, es⟩)).1 t ht
    · have a : A.1.length + 2 ≤ i := a
      have c : j ≤ (A.1 ++ [([], n21a old made A.2.2.2.2.1.length), ([], n21b old made A.2.2.2.2.1.length p)]).length := c
      rw [el] at c
      have ei : i = A.1.length + 2 := by omega
      have ej : j = A.1.length + 2 := by omega
      have z : ((t2P Q A.2.2.2.2.1.length A.2.2.2.1.length x6 x7).2 939).2 (A.1.length + 2 - 1) = nI K5.2.2.2.1.length := by
        rw [t2_2 (by decide), m9, pk_un (by omega)]
        have z := (n8.2 (by omega)).1
        rw [Nat.add_sub_cancel, l2] at z
        rw [← d4.2.2] at z
        exact z
      rw [ei, ej]
      exact ⟨_, _, Nat.le_refl _, d3.2.1.1.2, z, z⟩
  · exact n4.go (K' := (t2P Q A.2.2.2.2.1.length A.2.2.2.1.length x6 x7, K5.2)) fun r => t2_l.trans (Ql r)
  · show ct_S K5.2.2.1 K5.2.1 = _
    rw [hN1, hN2]; exact eS
  · show K5.2.2.2.1.length ≤ 2 * m_tot (sq_rows (A.1 ++ [([], n21a old made A.2.2.2.2.1.length), ([], n21b old made A.2.2.2.2.1.length p)])) + _
    rw [hN1, hN2]; exact bd
  · show (t2P _ _ _ _ _).1 949 = _
    rw [t2_1 (by decide) (by decide), Q1, (D5.2.2.2.2 949 (by decide)).1]; exact h49
end TY2
