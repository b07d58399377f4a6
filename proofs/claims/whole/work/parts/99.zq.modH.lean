/-! THE REFERENCE, 29: a new type, its terms -/
theorem mK_wf1 {c : Nat} {t : qT} (h : 1 ≤ c) (h2 : c ≤ 1000) : m_wf (mK c t) := by
  rw [mK_eq]; exact m_wf_lf (m_lf_n (by omega) (by omega))
theorem n21a_wf1 {old made : qT} {to : Nat} (h : 1 ≤ to) (h2 : to ≤ 900) : m_wf (n21a old made to) := mE_wf (m_wf_app (mK_wf1 h (by omega)) (m_wf_app (mK_wf1 (by omega) (by omega)) mV_wf rfl) rfl) mV_wf rfl
theorem n21b_wf1 {old made : qT} {to : Nat} {p : qM} (h : 1 ≤ to) (h2 : to ≤ 900) (hp : m_wf p) (ht : m_ty p = qF old qB) : m_wf (n21b old made to p) := mE_wf (m_wf_app hp mV_wf ht) (mE_wf (m_wf_app (mK_wf1 (by omega) (by omega)) (m_wf_app (mK_wf1 h (by omega)) mV_wf rfl) rfl) mV_wf rfl) rfl
section TY3
variable {Z : Prop} {G : qT → Prop} {L : List qM} {sa : Nat → Nat} {B : Nat} {ρ : hp_L} {K K' K0 K1 K2 : kS} {P : hp_P} {vs : List Int32} {A : sV} {S : qT → Prop} {k fr : Nat} {ws wr : List Int32} {H : List qM} {M : qM}
set_option maxHeartbeats 8000000 in
/-- from the new type on -/
theorem e_21b {f d g : Nat} {y0 y1 v3 v5 : Int32} {old made : qT} {p : qM} {kk : Nat} {wr : List Int32} (w : hp_w B ρ) (J : kJ S A K0) (hI : aI S A) (hs : A.1.length + 2 ≤ 1000) (h8 : A.2.2.2.2.2.1.length < 8000) (h16 : A.2.2.2.2.2.2.length < 16000)
    (hsp : sp_21 A.1 A.2.2.2.1 A.2.2.2.2.1 (wd wr 1) old made p kk) (hl : 2 ≤ wr.length) (wp : m_wf p) (tp : m_ty p = qF old qB)
    (kz' : kz (Zc S A 21 wr) (q_un S [n21a old made A.2.2.2.2.1.length, n21b old made A.2.2.2.2.1.length p]) (K0.2.2.2.1 ++ [n21a old made A.2.2.2.2.1.length, n21b old made A.2.2.2.2.1.length p].flatMap m_subs)) (hzl : ¬ lim21 S (m_tot (sq_rows A.1)) (n21a old made A.2.2.2.2.1.length) (n21b old made A.2.2.2.2.1.length p) → Zc S A 21 wr)
    (k2 : kI (Zc S A 21 wr) (q_un S [n21a old made A.2.2.2.2.1.length, n21b old made A.2.2.2.2.1.length p]) (K0.2.2.2.1 ++ [n21a old made A.2.2.2.2.1.length, n21b old made A.2.2.2.2.1.length p].flatMap m_subs) K2) (r2 : rI A K2) (e2 : K2.2.1 = K0.2.1 ∧ K2.2.2.1 = K0.2.2.1 ∧ K2.2.2.2.1 = K0.2.2.2.1) (dx : mfr dx_S K0.1 K2.1) (h49 : K2.1.1 949 = nI (fr + 2)) (tk' : (K2.1.2 914).2 A.2.2.2.1.length = nI kk)
    (i1 : ty_in K2.2.1 y1) (i0 : ty_in K2.2.1 y0) (em : qN (nI A.2.2.2.1.length) (ct K2.2.2.1 K2.2.1 y1) (ct K2.2.2.1 K2.2.1 y0) = made) (t5 : pl K2.2.1 K2.2.2.1 v5 old) (qp : nq K2 v3 p) (hf : 75000 ≤ f) :
    eO sa ρ S A 21 fr wr K0 (am_go B sa am_dfl (am_call B sa am_dfl am_tb (f + 6) (d + 6)) am_r172 (g + 4) 183 [(0, .ref (ρ.1 9)), (3, .int v3), (4, .int v5)] [.int y0, .int y1, .int (nI A.2.2.2.1.length), .ref (ρ.1 9)] (hp_S sa ρ K2.1)) := by
  have hol := hI.2.2.2.2.1.1
  have ol : 1 ≤ A.2.2.2.2.1.length := by have := (List.getElem?_eq_some_iff.mp hol).1; omega
  have ol2 := hI.2.2.2.2.1.2
  have wN1 : m_wf (n21a old made A.2.2.2.2.1.length) := n21a_wf1 ol (by omega)
  have wN2 : m_wf (n21b old made A.2.2.2.2.1.length p) := n21b_wf1 ol (by omega) wp tp
  -- the parts are among the terms
  have mN1 : n21a old made A.2.2.2.2.1.length ∈ K0.2.2.2.1 ++ [n21a old made A.2.2.2.2.1.length, n21b old made A.2.2.2.2.1.length p].flatMap m_subs := List.mem_append.mpr (Or.inr (List.mem_flatMap.mpr ⟨_, List.mem_cons_self, m_subs_mem.mpr (m_sub_self wN1)⟩))
  have mN2 : n21b old made A.2.2.2.2.1.length p ∈ K0.2.2.2.1 ++ [n21a old made A.2.2.2.2.1.length, n21b old made A.2.2.2.2.1.length p].flatMap m_subs := List.mem_append.mpr (Or.inr (List.mem_flatMap.mpr ⟨_, List.mem_cons_of_mem _ List.mem_cons_self, m_subs_mem.mpr (m_sub_self wN2)⟩))
  have wU := mK_wf1 (t := qF old made) ol (by omega)
  have wD := mK_wf1 (t := qF made old) (c := A.2.2.2.2.1.length + 1) (by omega) (by omega)
  have wDx : m_wf (mN (-1) old (mK (A.2.2.2.2.1.length + 1) (qF made old)) (mV made)) := m_wf_app wD mV_wf rfl
  have wUDx : m_wf (mN (-1) made (mK A.2.2.2.2.1.length (qF old made)) (mN (-1) old (mK (A.2.2.2.2.1.length + 1) (qF made old)) (mV made))) := m_wf_app wU wDx rfl
  have wUr : m_wf (mN (-1) made (mK A.2.2.2.2.1.length (qF old made)) (mV old)) := m_wf_app wU mV_wf rfl
  have wDUr : m_wf (mN (-1) old (mK (A.2.2.2.2.1.length + 1) (qF made old)) (mN (-1) made (mK A.2.2.2.2.1.length (qF old made)) (mV old))) := m_wf_app wD wUr rfl
  have wpr : m_wf (mN (-1) qB p (mV old)) := m_wf_app wp mV_wf tp
  have mUDx := kz'.sub mN1 (Or.inr (Or.inl (Or.inr (Or.inr (m_sub_self wUDx)))))
  have mx := kz'.sub mN1 (Or.inr (Or.inr (m_sub_self (mV_wf (t := made)))))
  have mU := kz'.sub mUDx (Or.inr (Or.inl (m_sub_self wU)))
  have mDx := kz'.sub mUDx (Or.inr (Or.inr (m_sub_self wDx)))
  have mD := kz'.sub mDx (Or.inr (Or.inl (m_sub_self wD)))
  have mpr := kz'.sub mN2 (Or.inr (Or.inl (Or.inr (Or.inr (m_sub_self wpr)))))
  have mr := kz'.sub mpr (Or.inr (Or.inr (m_sub_self (mV_wf (t := old)))))
  have mfx : mE (mN (-1) old (mK (A.2.2.2.2.1.length + 1) (qF made old)) (mN (-1) made (mK A.2.2.2.2.1.length (qF old made)) (mV old))) (mV old) ∈ K0.2.2.2.1 ++ [n21a old made A.2.2.2.2.1.length, n21b old made A.2.2.2.2.1.length p].flatMap m_subs := kz'.sub mN2 (Or.inr (Or.inr (m_sub_self (mE_wf wDUr mV_wf rfl))))
  have mDUr := kz'.sub mfx (Or.inr (Or.inl (Or.inr (Or.inr (m_sub_self wDUr)))))
  have mUr := kz'.sub mDUr (Or.inr (Or.inr (m_sub_self wUr)))
  have gm : q_un S [n21a old made A.2.2.2.2.1.length, n21b old made A.2.2.2.2.1.length p] made := by have := (kz'.ty mx).1; exact this
  have gto : q_un S [n21a old made A.2.2.2.2.1.length, n21b old made A.2.2.2.2.1.length p] (qF old made) := by have := (kz'.ty mU).1; exact this
  have gfro : q_un S [n21a old made A.2.2.2.2.1.length, n21b old made A.2.2.2.2.1.length p] (qF made old) := by have := (kz'.ty mD).1; exact this
  rw [am_s172_183]
  simp only [hx_9 w, Option.bind_some]
  have tt := k_typeOf (sa := sa) (f := f + 6) (d := d + 4) (q := (nI A.2.2.2.1.length, y1, y0)) w kz' k2 i1 i0 (by dsimp only; rw [em]; exact gm) (by omega)
  dsimp only at tt
  rw [em] at tt
  obtain ⟨vm, K3, a1, a2, a3⟩ := tt
  rw [a1, am_i_some]
  simp only [a2.1.bad w, Option.bind_some, am_c_eq]
  -- all from the types on
  have rest : ∀ {K5 : kS} {x6 x7 : Int32}, kR (Zc S A 21 wr) (q_un S [n21a old made A.2.2.2.2.1.length, n21b old made A.2.2.2.2.1.length p]) (K0.2.2.2.1 ++ [n21a old made A.2.2.2.2.1.length, n21b old made A.2.2.2.2.1.length p].flatMap m_subs) K2 K5 → tv K5 vm made → tv K5 x6 (qF old made) → tv K5 x7 (qF made old) → eO sa ρ S A 21 fr wr K0 (am_go B sa am_dfl (am_call B sa am_dfl am_tb (f + 6) (d + 6)) am_r172 (g + 3) 228 [(0, .ref (ρ.1 9)), (3, .int v3), (4, .int v5), (5, .int vm), (6, .int x6)] [.int x7] (hp_S sa ρ K5.1)) := by
    intro K5 x6 x7 R5 tm t6 t7
    rw [am_s172_228]
    have c15 : ∀ {K : kS}, kR (Zc S A 21 wr) (q_un S [n21a old made A.2.2.2.2.1.length, n21b old made A.2.2.2.2.1.length p]) (K0.2.2.2.1 ++ [n21a old made A.2.2.2.2.1.length, n21b old made A.2.2.2.2.1.length p].flatMap m_subs) K2 K → K.1.1 915 = nI A.2.2.2.2.1.length := fun {K} r => (r.2.1.1 915 rfl).1.trans r2.1.2.2.2.1
    simp only [hx_9 w, Option.bind_some]
    have told : tv K5 v5 old := (pl_tv t5).go k2 R5
    obtain ⟨ox, K6, b1, b2, b3⟩ := k_free (sa := sa) (f := f + 6) (d := d + 3) (x := 0) w kz' R5.1 tm (by decide) mx (by omega)
    have b1 : am_call B sa am_dfl am_tb (f + 6) (d + 6) 132 [.ref (ρ.1 9), .int 0, .int vm] (hp_S sa ρ K5.1) = _ := b1
    rw [b1, am_i_some]
    simp only [hx_9 w, Option.bind_some]
    have R6 := R5.tr b2
    obtain ⟨or', K7, c1, c2, c3⟩ := k_free (sa := sa) (f := f + 6) (d := d + 3) (x := 0) w kz' R6.1 (told.go R5.1 b2) (by decide) mr (by omega)
    have c1 : am_call B sa am_dfl am_tb (f + 6) (d + 6) 132 [.ref (ρ.1 9), .int 0, .int v5] (hp_S sa ρ K6.1) = _ := c1
    rw [c1, am_i_some]
    have R7 := R6.tr c2
    simp only [hg_915 w, c15 R7, hx_9 w, Option.bind_some]
    rw [mK_eq] at mU mD
    obtain ⟨ou, K8, d1, d2, d3⟩ := k_const (sa := sa) (f := f + 6) (d := d + 3) (x := A.2.2.2.2.1.length) w kz' R7.1 ((t6.go R5.1 b2).go R6.1 c2) (by omega) mU (by omega)
    rw [d1, am_i_some]
    have R8 := R7.tr d2
    simp only [hg_915 w, c15 R8, hx_9 w, Option.bind_some, nI_1]
    obtain ⟨od, K9, e1, e2', e3⟩ := k_const (sa := sa) (f := f + 6) (d := d + 3) (x := A.2.2.2.2.1.length + 1) w kz' R8.1 (((t7.go R5.1 b2).go R6.1 c2).go R7.1 d2) (by omega) mD (by omega)
    rw [e1, am_i_some]
    have R9 := R8.tr e2'
    simp only [hx_9 w, Option.bind_some]
    rw [← mK_eq] at d3 e3
    obtain ⟨oa, K10, g1, g2, g3⟩ := k_apply (sa := sa) (f := f + 6) (d := d + 3) w kz' R9.1 e3 (((b3.go c2).go d2).go e2') (u := old) rfl mDx (by omega)
    rw [g1, am_i_some]
    have R10 := R9.tr g2
    simp only [hx_9 w, Option.bind_some]
    obtain ⟨ob, K11, h1, h2, h3⟩ := k_apply (sa := sa) (f := f + 6) (d := d + 3) w kz' R10.1 ((d3.go e2').go g2) g3 (u := made) rfl mUDx (by omega)
    rw [h1, am_i_some]
    have R11 := R10.tr h2
    simp only [hx_9 w, Option.bind_some]
    obtain ⟨o1, K12, l1, l2, l3⟩ := k_equation (sa := sa) (f := f + 6) (d := d + 2) w kz' R11.1 h3 (((((b3.go c2).go d2).go e2').go g2).go h2) rfl mN1 (by omega)
    rw [l1, am_i_some]
    have R12 := R11.tr l2
    simp only [hx_9 w, Option.bind_some]
    have rr : nv K12 or' (mV old) := (((((c3.go d2).go e2').go g2).go h2).go l2)
    obtain ⟨oc, K13, m1, m2, m3⟩ := k_apply (sa := sa) (f := f + 6) (d := d + 3) w kz' R12.1 ((((d3.go e2').go g2).go h2).go l2) rr (u := made) rfl mUr (by omega)
    rw [m1, am_i_some]
    have R13 := R12.tr m2
    simp only [hx_9 w, Option.bind_some]
    obtain ⟨oe, K14, n1, n2, n3⟩ := k_apply (sa := sa) (f := f + 6) (d := d + 3) w kz' R13.1 ((((e3.go g2).go h2).go l2).go m2) m3 (u := old) rfl mDUr (by omega)
    rw [n1, am_i_some]
    have R14 := R13.tr n2
    simp only [hx_9 w, Option.bind_some]
    obtain ⟨of', K15, p1, p2, p3⟩ := k_equation (sa := sa) (f := f + 6) (d := d + 2) w kz' R14.1 n3 ((rr.go m2).go n2) rfl mfx (by omega)
    rw [p1, am_i_some]
    have R15 := R14.tr p2
    simp only [hx_9 w, Option.bind_some]
    obtain ⟨og, K16, q1, q2, q3⟩ := k_apply (sa := sa) (f := f + 6) (d := d + 3) w kz' R15.1 (qp.go R15).v (((rr.go m2).go n2).go p2) (u := qB) tp mpr (by omega)
    rw [q1, am_i_some]
    have R16 := R15.tr q2
    simp only [hx_9 w, Option.bind_some]
    obtain ⟨o2, K17, s1, s2, s3⟩ := k_equation (sa := sa) (f := f + 6) (d := d + 2) w kz' R16.1 q3 (p3.go q2) rfl mN2 (by omega)
    rw [s1, am_i_some]
    have s3 : nv K17 o2 (n21b old made A.2.2.2.2.1.length p) := s3
    have R17 := R16.tr s2
    have xt : ty_xt K0.2.1 K0.2.2.1 K17.2.1 K17.2.2.1 := by have := R17.2.2.1; rw [e2.1, e2.2.1] at this; exact this
    have pf : ∃ q, K17.2.2.2.1 = K0.2.2.2.1 ++ q := by have := R17.2.2.2.1; rw [e2.2.2] at this; exact this
    have r17 : rI A K17 := r2.go k2 R17
    have dx17 : mfr dx_S K0.1 K17.1 := dx.tr R17.dx
    simp only [R17.1.bad w, Option.bind_some, am_c_ne]
    rcases bI_cases K17.2.2.2.2 with ⟨eb, -⟩ | ⟨eb, -⟩
    · rw [eb, if_neg (show ¬ bI false ≠ 0 from fun z => z rfl)]
      have q12 : nv K17 o1 (n21a old made A.2.2.2.2.1.length) := ((((l3.go m2).go n2).go p2).go q2).go s2
      have wide : ∀ {v X}, nq K17 v X → hp_rd K17.1 922 v = some (nI (m_fl X).length) ∧ (m_fl X).length ≤ 4000 := fun {v X} ⟨i, _, i2, i3⟩ => by
        have row := R17.1.row i3
        rw [i2, R17.1.2.1.rd (by decide) (by decide) (List.getElem?_eq_some_iff.mp i3).1, row.2.2.1]
        exact ⟨rfl, row.2.2.2.2.2.1⟩
      obtain ⟨w1, w1'⟩ := wide (q12.q eb)
      obtain ⟨w2, w2'⟩ := wide (s3.q eb)
      have e34 := r17.2.2.1.2.2.1
      simp only [hg_934 w, e34.1, hr_922 w, hl_922 w, w1, w2, Option.bind_some, am_c_gt, nI_add]
      have h45 := R17.1.2.2.1
      rw [eb] at h45
      by_cases ct' : m_tot (sq_rows A.1) + (m_fl (n21a old made A.2.2.2.2.1.length)).length + (m_fl (n21b old made A.2.2.2.2.1.length p)).length ≤ 20000
      · rw [if_neg (show ¬ (20000 : Int32) < nI (m_tot (sq_rows A.1) + (m_fl (n21a old made A.2.2.2.2.1.length)).length + (m_fl (n21b old made A.2.2.2.2.1.length p)).length) from nI_nlt (a := 20000) ct' (by decide))]
        have t6' : tv K17 x6 (qF old made) := fun z => by
          have R := ((((((((((((b2.tr c2).tr d2).tr e2').tr g2).tr h2).tr l2).tr m2).tr n2).tr p2).tr q2).tr s2))
          exact (t6.go R5.1 R) z
        have t7' : tv K17 x7 (qF made old) := fun z => by
          have R := ((((((((((((b2.tr c2).tr d2).tr e2').tr g2).tr h2).tr l2).tr m2).tr n2).tr p2).tr q2).tr s2))
          exact (t7.go R5.1 R) z
        exact e_21c (B := B) (sa := sa) (f := f + 5) (g := g + 1) (d := d + 3) w J hI hs h8 h16 hsp hl ct' R17.1 r17 eb xt dx17 ((R17.2.1.1 949 rfl).1.trans h49) (by rw [(R17.2.1.1 914 rfl).2]; exact tk') (t6'.pl eb) (t7'.pl eb) (q12.q eb) (s3.q eb) (by omega)
      · rw [if_pos (show (20000 : Int32) < nI (m_tot (sq_rows A.1) + (m_fl (n21a old made A.2.2.2.2.1.length)).length + (m_fl (n21b old made A.2.2.2.2.1.length p)).length) from nI_lt (a := 20000) (by omega) (by omega)), am_s172_372]
        simp only [hx_9 w, Option.bind_some]
        rw [m_need0 w h45, am_i_some]
        simp only [am_c_ne]
        rw [if_neg (fun z => z rfl)]
        refine eO.bad (K' := kB K17 true) (Z := True) (hzl fun y => ct' ?_) (kB.I R17.1 fun _ => True.intro) (kB.r r17 R17.1) xt pf (dx17.tr kB.dx) rfl
        have := y.2.2.2.1
        have e0 : m_tot ([] : List qM) = 0 := rfl
        dsimp only at this
        omega
    · rw [eb, if_pos (show bI true ≠ 0 by decide)]
      exact eO.bad (R17.1.2.2.2.1 eb) R17.1 r17 xt pf dx17 eb
  rcases bI_cases K3.2.2.2.2 with ⟨eb, e⟩ | ⟨eb, e⟩
  · rw [e, if_pos rfl]
    simp only [hx_9 w, Option.bind_some]
    obtain ⟨x6, K4, b1, b2, b3⟩ := k_fun (sa := sa) (f := f + 6) (d := d + 3) w kz' a2.1 (t5.xt k2.wf k2.n31 a2.2.2.1) (a3.pl eb) gto (by omega)
    rw [b1, am_i_some]
    simp only [b2.1.bad w, Option.bind_some]
    have tm4 := a3.go a2.1 b2
    rcases bI_cases K4.2.2.2.2 with ⟨eb4, e4⟩ | ⟨eb4, e4⟩
    · rw [e4, if_pos rfl]
      simp only [hx_9 w, Option.bind_some]
      obtain ⟨x7, K5, c1, c2, c3⟩ := k_fun (sa := sa) (f := f + 6) (d := d + 3) w kz' b2.1 (tm4.pl eb4) (t5.xt k2.wf k2.n31 (a2.tr b2).2.2.1) gfro (by omega)
      rw [c1, am_i_some]
      exact rest ((a2.tr b2).tr c2) (tm4.go b2.1 c2) (b3.go b2.1 c2) c3
    · rw [e4, if_neg (by decide)]
      exact rest (a2.tr b2) tm4 b3 (tv_0 eb4)
  · rw [e, if_neg (by decide)]
    exact rest a2 a3 (tv_0 eb) (tv_0 eb)
end TY3
