/-! STEPS of the class, 8: newConstant -/
section SP9
variable {sa : Nat → Nat} {B : Nat} {ρ : hp_L} {P : hp_P} {b : Bool} {n : Nat} {T : Nat → Int32 × Int32 × Int32} {Z : Prop} {G : qT → Prop} {C : sC} {H : List qM} {D : List qS} {Rs : List (List rwS)} {O : List rwS} {kk : Int32 → Nat}
theorem tyJ.imo {P' : hp_P} (h : tyJ P n T) (k : ty_imo P P') : tyJ P' n T := ⟨⟨k.okk h.1.1, h.1.2.1, by rw [k.len]; exact h.1.2.2⟩, h.2⟩
theorem rwI.imo {P' : hp_P} (h : rwI P Rs O b) (k : ty_imo P P') : rwI P' Rs O b := h.cg fun r a b => ⟨by rw [k.1], k.2.1 r (by omega)⟩
theorem wI.imo {P' : hp_P} (h : wI Z G P n T Rs O b D) (k : ty_imo P P') : wI Z G P' n T Rs O b D := ⟨h.1.imo k, h.2.1.imo k, h.2.2⟩
theorem sI.imo {P' : hp_P} (h : sI Z G B C ρ P n T H D b) (k : ty_imo P P') : sI Z G B C ρ P' n T H D b := by
  obtain ⟨h1, h2, h3, h4, h5, Dr, O, h6, h7⟩ := h
  have e1 : P'.1 = P.1 := k.1
  exact ⟨h1, h2.cg (by rw [e1]) (by rw [e1]) fun r a b => k.2.1 r (by omega), h3.cg (by rw [e1]) (by rw [e1]) (k.2.1 500 (by decide)) (k.2.1 501 (by decide)), h4.cg fun r a b => ⟨by rw [e1], k.2.1 r (by omega)⟩, h5, Dr, O, h6.imo k, h7⟩
/-- hasVariablesOf of a stretch, one of whose types it is -/
theorem st_92 {f d : Nat} {L A W : List rwS} {v : Int32} {t : qT} (hk0 : ∀ c, c < 0 → kk c = 0) (har : ty_ar kk T n) (w : hp_w B ρ) (y : tyI P n T) (h : rwI P Rs O b) (hf : 50000 ≤ f) (hv : ∀ s ∈ L, rv n s) (hX : Rs.flatten ++ O = A ++ (L ++ W)) (hp : pl n T v t) (ht : ∃ s ∈ L, (rt T n s).2 = t) {x e : Int32} (hx : x = nI A.length) (he : e = nI (A.length + L.length)) :
    ∃ P', am_call B sa am_dfl am_tb f (d + 5) 92 [.ref (ρ.1 6), .int x, .int e, .int v] (hp_S sa ρ P) = some (some (.int (bP (∀ c, vs_in (L.map (rt T n)) c → q_sub (q_vr c) t))), hp_S sa ρ P') ∧ ty_imo P P' := by
  have hwf := y.wf
  have hdi := y.2.1
  have hn := y.n31
  obtain ⟨a, a1, rfl, rfl⟩ := hp
  have tyo : ∀ {P P' : hp_P}, tyI P n T → ty_imo P P' → tyI P' n T := fun y k => ⟨k.okk y.1, y.2.1, by rw [k.len]; exact y.2.2⟩
  obtain ⟨P1, u1, u2, u3⟩ := ty_unmark (sa := sa) (f := f) (d := d + 3) w y.1 (by omega)
  have y1 := tyo y u2
  have im1 : ty_im P1 n (fun _ => false) := fun i hi => by rw [u3 i hi]; rfl
  have im2 := ty_im_mark im1 a1 hn
  have imo2 : ty_imo P1 (hp_sA P1 706 (nI a) (nI a)) := ty_imo.sA
  have y2 := tyo y1 imo2
  obtain ⟨P3, s1, s2, s3⟩ := ty_spread (sa := sa) (f := f) (d := d + 2) w y2.1 im2 (by omega)
  have y3 := tyo y2 s2
  have s3 : ty_im P3 n (ty_mL T n [((0 : Int32), nI a)]) := s3
  have mv1 := ty_mvars (sa := sa) (f := f) (d := d + 3) w y3.1 s3 (by omega)
  obtain ⟨P4, v1, v2, v3⟩ := ty_unmark (sa := sa) (f := f) (d := d + 3) w y3.1 (by omega)
  have y4 := tyo y3 v2
  have h4 : rwI P4 Rs O b := h.imo (u2.tr (imo2.tr (s2.tr v2)))
  obtain ⟨P5, m1, m2, m3⟩ := rw_markTypes (sa := sa) (f := f) (d := d + 2) (M := fun _ => false) w y4 h4 (by omega) hv hX (fun i hi => by rw [v3 i hi]; rfl) hx he
  have y5 := tyo y4 m2
  obtain ⟨P6, t1, t2, t3⟩ := ty_spread (sa := sa) (f := f) (d := d + 2) w y5.1 m3 (by omega)
  have y6 := tyo y5 t2
  have t3 : ty_im P6 n (ty_mL T n L) := t3
  have mv2 := ty_mvars (sa := sa) (f := f) (d := d + 3) w y6.1 t3 (by omega)
  obtain ⟨f, rfl⟩ : ∃ g, f = g + 1 := ⟨f - 1, by omega⟩
  have hmk := ty_mark (sa := sa) (f := f) (d := d + 3) w y1.1 a1
  refine ⟨P6, ?_, u2.tr (imo2.tr (s2.tr (v2.tr (m2.tr t2))))⟩
  rw [am_c_92, am_s92_0]
  simp only [ho_600 w, Option.bind_some, hx_7 w, u1, am_v_some, hmk, s1, mv1, am_i_some, v1, ho_603 w, hx_3 w, m1, t1, mv2, am_c_ne]
  have hv1 : ∀ s ∈ [((0 : Int32), nI a)], rv n s := fun s hs => by rw [List.mem_singleton.mp hs]; exact ⟨a, a1, rfl⟩
  have n1 := ty_vl_nd (Mk := ty_mL T n [((0 : Int32), nI a)]) hk0 hwf hdi hn har n (Nat.le_refl _)
  have n2 := ty_vl_nd (Mk := ty_mL T n L) hk0 hwf hdi hn har n (Nat.le_refl _)
  have in1 : ∀ c, c ∈ ty_vl T (ty_mL T n [((0 : Int32), nI a)]) n ↔ c < 0 ∧ q_sub (q_vr c) (ct T n (nI a)) := fun c => by
    rw [ty_vl_in hk0 hwf hdi hn har hv1]
    exact ⟨fun ⟨z1, s, z2, z3⟩ => ⟨z1, by rw [List.mem_singleton.mp z2] at z3; exact z3⟩, fun ⟨z1, z2⟩ => ⟨z1, _, List.mem_singleton.mpr rfl, z2⟩⟩
  have in2 : ∀ c, c ∈ ty_vl T (ty_mL T n L) n ↔ vs_in (L.map (rt T n)) c := fun c => ty_vl_in hk0 hwf hdi hn har hv
  obtain ⟨s0, s01, s02⟩ := ht
  have hsub : ∀ c ∈ ty_vl T (ty_mL T n [((0 : Int32), nI a)]) n, c ∈ ty_vl T (ty_mL T n L) n := fun c hc => by
    obtain ⟨z1, z2⟩ := (in1 c).mp hc
    exact (in2 c).mpr ⟨z1, rt T n s0, List.mem_map.mpr ⟨s0, s01, rfl⟩, by rw [s02]; exact z2⟩
  have key := nd_eq n1 n2 hsub
  rw [ty_vl_len, ty_vl_len] at key
  have hcond : (∀ c ∈ ty_vl T (ty_mL T n L) n, c ∈ ty_vl T (ty_mL T n [((0 : Int32), nI a)]) n) ↔ ∀ c, vs_in (L.map (rt T n)) c → q_sub (q_vr c) (ct T n (nI a)) :=
    ⟨fun z c hc => ((in1 c).mp (z c ((in2 c).mpr hc))).2, fun z c hc => (in1 c).mpr ⟨((in2 c).mp hc).1, z c ((in2 c).mp hc)⟩⟩
  rw [hcond] at key
  have l1 := ty_mv_le (T := T) (ty_mL T n L) n
  have l2 := ty_mv_le (T := T) (ty_mL T n [((0 : Int32), nI a)]) n
  by_cases e0 : ty_mv T (ty_mL T n L) n = ty_mv T (ty_mL T n [((0 : Int32), nI a)]) n
  · rw [if_neg (fun z => z (by rw [e0])), bP_t (key.mp e0), am_rz_1]
  · rw [if_pos (fun z => e0 ((nI_eq (by omega) (by omega)).mp z)), bP_f (fun z => e0 (key.mpr z)), am_rz_0]
/-- a constant more -/
def c_ow (C : sC) (t : List qT) : sC := (C.1, C.2.1, C.2.2.1, C.2.2.2.1, C.2.2.2.2.1, C.2.2.2.2.2.1 ++ t, C.2.2.2.2.2.2)
/-- the outcome of the definition of a constant -/
def cO20 (B : Nat) (sa : Nat → Nat) (R : qQ → Prop) (C : sC) (ρ : hp_L) (P : hp_P) (n : Nat) (T : Nat → Int32 × Int32 × Int32) (x : Option (Option Value × am_S)) : Prop :=
  (∃ N ρ' P' n' T' Rn, R N ∧ sq_lim (ct_S T n) (m_tot (sq_rows C.2.1)) N ∧ x = some (some (.int 1), hp_S sa ρ' P') ∧ cI B (c_new (c_ow C [m_ty (m_r N.2)]) (C.2.1.length + 1) n' Rn N) ρ' P' n' T' ∧ hp_fr cl_S 2 ρ P ρ' P' ∧ ty_xt n T n' T' ∧ ct_S T' n' = q_un (ct_S T n) (N.1 ++ [N.2])) ∨
  ((∀ N, R N → ¬ sq_lim (ct_S T n) (m_tot (sq_rows C.2.1)) N) ∧ ∃ ρ' P' n' T', x = some (some (.int 0), hp_S sa ρ' P') ∧ uI B C ρ' P' n' T' ∧ hp_fr cl_S 2 ρ P ρ' P' ∧ ty_xt n T n' T')
/-- 20 -/
def sp_20 (em : List qM) (ow : List qT) (x : Int32) (N : qQ) : Prop := ∃ M, en_at em x M ∧ m_lo M = 0 ∧ ow.length < 200 ∧ (∀ s ∈ m_fl M, ¬ q_fr s.1) ∧ (∀ c, vs_in (m_fl M) c → q_sub (q_vr c) (m_ty M)) ∧ N = ([], mE (mN (4 * nI ow.length + 2) (m_ty M) .leaf .leaf) M)
theorem q_ar_F {a t : qT} (h2 : kk 2 = 2) (ha : q_ar kk a) (ht : q_ar kk t) (na : a ≠ qE) (nt : t ≠ qE) : q_ar kk (qF a t) := by
  unfold qF
  rw [q_ar_N, h2]
  exact ⟨⟨fun z => absurd z (by decide), fun z => absurd z na⟩, ⟨fun z => absurd z (by decide), fun z => absurd z nt⟩, ha, ht, by decide⟩
theorem q_ar_sub {u : qT} : ∀ {t : qT}, q_ar kk t → q_sub u t → q_ar kk u
  | .leaf _, _, h => h.elim
  | .branch c l r, ha, h => by
    rcases h with e | e | e
    · rw [e]; exact ha
    · exact q_ar_sub ha.2.2.1 e
    · exact q_ar_sub ha.2.2.2.1 e
theorem ct_S_ne {t : qT} (hw : ty_wf T n) (hn : n < 2 ^ 31) (h : ct_S T n t) : t ≠ qE := by
  obtain ⟨i, i1, i2⟩ := h
  rw [← i2, ct_at hw hn i1]
  exact qN_ne
/-- the class with another signature -/
theorem cI.sg {P' : hp_P} {t : List qT} (h : cI B C ρ P n T) (fr : hp_fr sg_S 0 ρ P ρ P') (hs : sgI P' n T C.2.2.2.2.1 (C.2.2.2.2.2.1 ++ t)) : cI B (c_ow C t) ρ P' n T := by
  obtain ⟨h1, h2, h3, h4, h5, h6, h7, h8⟩ := h
  exact ⟨h1, h2.fr fr fun r a b => decide_eq_false (by omega), hs, h4.cg fun r a b => ⟨(fr.2.1 r (decide_eq_false (by omega))).1, (fr.2.1 r (decide_eq_false (by omega))).2.1⟩, h5, h6.fr fr fun r a b => decide_eq_false (by omega), h7.fr fr fun r a b => decide_eq_false (by omega), h8⟩
theorem sI.uo {t : List qT} (h : sI Z G B (c_ow C t) ρ P n T H D b) : uI B C ρ P n T := by
  have hs := sgI.W (Q := []) (Q' := t) (tk := C.2.2.2.2.1) (ow := C.2.2.2.2.2.1) (by rw [List.append_nil]; exact h.2.2.1)
  obtain ⟨h1, h2, -, h4, h5, Dr, O, h6, -⟩ := h
  exact ⟨h1, h2, hs, ⟨[], C.2.2.2.1, by rw [List.append_nil]; exact h4, fun _ _ => rfl⟩, h5, h6.1, ⟨Dr, O, b, h6.2.1⟩, fun s hs => h6.2.2.1 s (by rw [List.flatten_append]; exact List.mem_append.mpr (Or.inl (List.mem_append.mpr (Or.inl hs))))⟩
set_option maxHeartbeats 2000000 in
theorem st_91 {f d : Nat} {x : Int32} (h : cI B C ρ P n T) (hf : 100000 ≤ f) (hc : C.2.1.length < 1000) (hk0 : ∀ c, c < 0 → kk c = 0) (hark : ∀ t, ct_S T n t → q_ar kk t) (hem : ∀ M ∈ C.2.2.2.2.2.2.2, ∀ s ∈ m_fl M, q_ar kk s.2) (hk2 : kk 2 = 2) (hkB : q_ar kk qB) : cO20 B sa (sp_20 C.2.2.2.2.2.2.2 C.2.2.2.2.2.1 x) C ρ P n T (am_call B sa am_dfl am_tb f (d + 20) 91 [.ref (ρ.1 6), .int x] (hp_S sa ρ P)) := by
  have w := h.w
  have hwf := h.y.1.wf
  have hn := h.y.1.n31
  obtain ⟨f, rfl⟩ : ∃ g, f = g + 1 := ⟨f - 1, by omega⟩
  rw [am_c_91, am_s91_0]
  simp only [ho_602 w, Option.bind_some, hx_1 w, en_isClosed w h.2.1, am_i_some, am_c_ne]
  by_cases e : ∃ M, en_at C.2.2.2.2.2.2.2 x M ∧ m_lo M = 0
  · rw [if_pos (bP_y e)]
    obtain ⟨M, hM, hlo⟩ := e
    obtain ⟨wM, -, ⟨v, r1, r2⟩, -, -, -, -, -, s1, s2⟩ := en_rd h.2.1 hM
    obtain ⟨P1, a1, a2, a3, a4, a5, a6⟩ := sg_addC (sa := sa) (f := f) (d := d + 18) w h.2.2.1 r2
    have hol := h.2.2.1.2.2.2.1
    have ho2 := h.2.2.1.2.2.1
    simp only [hr_105 w, hl_105 w, r1, ho_601 w, Option.bind_some, hx_5 w, a1, am_i_some]
    by_cases e1 : C.2.2.2.2.2.1.length < 200
    · rw [if_pos e1] at a2
      rw [if_pos e1, if_pos (nI_ne_m1 (by omega))]
      have h1 := h.sg a3 a2
      generalize hcc : C.2.2.2.2.2.1.length = cc at *
      have hcode : 4 * nI cc + 2 = nI (4 * cc + 2) := by rw [nI4]; exact nI_add (4 * cc) 2
      have wK : m_wf (mN (4 * nI cc + 2) (m_ty M) .leaf .leaf) := m_wf_lf (by rw [hcode]; exact m_lf_n (by omega) (by omega))
      generalize hMM : mE (mN (4 * nI cc + 2) (m_ty M) .leaf .leaf) M = MM
      have wMM : m_wf MM := by rw [← hMM]; exact mE_wf wK wM rfl
      have eM : m_fl MM = w_eq (m_ty M) ++ [(4 * nI cc + 2, m_ty M)] ++ m_fl M := by
        rw [← hMM, mE_fl, m_ty_N, m_fl_N]
        show w_eq (m_ty M) ++ ((_ :: ([] ++ [])) ++ m_fl M) = _
        simp
      have hRn : m_ty (m_r MM) = m_ty M := by rw [← hMM]; rfl
      have inv : ∀ N, sp_20 C.2.2.2.2.2.2.2 C.2.2.2.2.2.1 x N → (∀ s ∈ m_fl M, ¬ q_fr s.1) ∧ (∀ c, vs_in (m_fl M) c → q_sub (q_vr c) (m_ty M)) ∧ N = ([], MM) := fun N ⟨M', z1, z2, z3, z4, z5, z6⟩ => by
        obtain rfl := en_at_inj z1 hM
        rw [hcc, hMM] at z6
        exact ⟨z4, z5, z6⟩
      have h0 := h1.s (Z := ¬ sq_lim (ct_S T n) (m_tot (sq_rows C.2.1)) ([], MM)) (G := q_un (ct_S T n) ([] ++ [MM])) fun t z => Or.inl z
      have gE1 : q_un (ct_S T n) ([] ++ [MM]) (qF (m_ty M) qB) := qu_M (s := (-1, qF (m_ty M) qB)) (by rw [eM]; simp [w_eq]) q_sub_rf
      have gE2 : q_un (ct_S T n) ([] ++ [MM]) (qF (m_ty M) (qF (m_ty M) qB)) := qu_M (s := (2, qF (m_ty M) (qF (m_ty M) qB))) (by rw [eM]; simp [w_eq]) q_sub_rf
      obtain ⟨ρb, Pb, nb, Tb, bb, b1, b2, b3, b4, b5⟩ := s_equals (sa := sa) (f := f + 1) (d := d + 15) h0 (by omega) (Or.inl r2) gE1 gE2 sl_good (sl_pre (by rw [eM]; simp; rfl))
      obtain ⟨ρc, Pc, nc, Tc, bc, c1, c2, c3, c4, c5⟩ := s_write (sa := sa) (f := f - 1) (d := d + 16) (c := 4 * nI cc + 2) b2 (Or.inl (r2.xt hwf hn b4)) sl_good (sl_pre (by rw [eM]; simp; rfl))
      rw [show f - 1 + 2 = f + 1 by omega] at c1
      obtain ⟨Dr, O1, hw1, hh1⟩ := c2.2.2.2.2.2
      obtain ⟨ρd, Pd, O2, bd, d1, d2, d3, d4, d5, d6, E, rfl⟩ := w_to (sa := sa) (f := f + 1) (d := d + 15) c2.w c2.2.1 hw1 (by omega) hM sl_good (sl_pre (E := []) (by rw [eM]; simp))
      have sI2 := c2.nx hw1 hh1 d2 d3 d4 d5.sn ty_xt.rf d6
      have xc := b4.tr c4
      have fr2 : hp_fr cl_S 0 ρ P ρd Pd := hp_fr.tr0 a3.cg (hp_fr.tr0 b3 (hp_fr.tr0 c3 d5.sn)).cs
      simp only [ho_603 w, Option.bind_some, hx_3 w, b1, am_v_some]
      rw [w_ob b3 6]
      simp only [ho_603 b2.w, Option.bind_some, hx_3 b2.w, c1, am_v_some]
      rw [w_ob c3 6]
      simp only [ho_603 c2.w, ho_602 c2.w, hg_303 c2.w, Option.bind_some, hx_1 c2.w, d1, am_v_some, hw1.2.1.1]
      rw [w_ob d5 6]
      simp only [ho_603 d2, Option.bind_some, rw_flag d2 d4.2.1, hg_303 d2, d4.2.1.1, hx_3 d2]
      cases bd with
      | true =>
        rw [if_pos (by decide)]
        exact Or.inr ⟨fun N hN => by rw [(inv N hN).2.2]; exact d4.z, ρd, Pd, nc, Tc, am_rz_0, sI2.uo, fr2.up (by omega), xc⟩
      | false =>
        rw [if_neg (by decide)]
        have hb1 : bc = false := d6 rfl
        subst hb1
        have eO1 := hw1.2.2.2.2.1 rfl
        have eO2 := d4.2.2.2.2.1 rfl
        rw [List.map_append, eO1] at eO2
        have eE : E.map (rt Tc nc) = m_fl M := List.append_cancel_left eO2
        have hXe : (C.1 ++ Dr).flatten ++ (O1 ++ E) = ((C.1 ++ Dr).flatten ++ O1) ++ (E ++ []) := by simp
        have hl2 : ((C.1 ++ Dr).flatten ++ (O1 ++ E)).length = ((C.1 ++ Dr).flatten ++ O1).length + E.length := by rw [← List.append_assoc, List.length_append]
        have hEv : ∀ s ∈ E, rv nc s := fun s hs => d4.2.2.1 s (by simp [hs])
        have hfree : am_call B sa am_dfl am_tb (f + 1) (d + 19) 65 [.ref (ρd.1 3), .int (nI ((C.1 ++ Dr).flatten ++ O1).length), .int (nI ((C.1 ++ Dr).flatten ++ (O1 ++ E)).length)] (hp_S sa ρd Pd) = some (some (.int (bP (∃ s ∈ E, q_fr s.1))), hp_S sa ρd Pd) := rw_hasFree (sa := sa) (f := f + 1) (d := d + 18) d2 d4.2.1 (by omega) hXe (x := nI ((C.1 ++ Dr).flatten ++ O1).length) (y := nI ((C.1 ++ Dr).flatten ++ (O1 ++ E)).length) rfl (by rw [hl2])
        rw [show (c_ow C [m_ty M]).1 = C.1 from rfl]
        simp only [hfree, am_i_some]
        have hfe : (∃ s ∈ E, q_fr s.1) ↔ ∃ s ∈ m_fl M, q_fr s.1 := by
          rw [← eE]
          exact ⟨fun ⟨s, z1, z2⟩ => ⟨rt Tc nc s, List.mem_map.mpr ⟨s, z1, rfl⟩, z2⟩, fun ⟨q, z1, z2⟩ => by
            obtain ⟨s, z3, z4⟩ := List.mem_map.mp z1
            exact ⟨s, z3, by rw [← z4] at z2; exact z2⟩⟩
        by_cases e2 : ∃ s ∈ E, q_fr s.1
        · rw [if_pos (bP_y e2)]
          obtain ⟨q, z1, z2⟩ := hfe.mp e2
          exact Or.inr ⟨fun N hN => absurd z2 ((inv N hN).1 q z1), ρd, Pd, nc, Tc, am_rz_0, sI2.uo, fr2.up (by omega), xc⟩
        · rw [if_neg (fun z => z (bP_n e2))]
          have hnof : ∀ s ∈ m_fl M, ¬ q_fr s.1 := fun s z1 z2 => e2 (hfe.mpr ⟨s, z1, z2⟩)
          have arC : ty_ar kk Tc nc := fun i hi => by
            have hG := sI2.2.2.2.2.2
            obtain ⟨Dr', O', hwx, -⟩ := hG
            rcases hwx.2.2.2.1 _ ⟨i, hi, rfl⟩ with z | ⟨X, z1, q, z2, z3⟩
            · exact hark _ z
            · rw [List.nil_append] at z1
              rw [List.mem_singleton.mp z1] at z2
              have hMar := hem M (List.mem_of_getElem? hM.choose_spec.2.2)
              have htar := hark _ r2.S
              have htne := ct_S_ne hwf hn r2.S
              have hFB := q_ar_F hk2 htar hkB htne qN_ne
              have hFF := q_ar_F hk2 htar hFB htne qN_ne
              have hall : ∀ q ∈ m_fl MM, q_ar kk q.2 := fun q hq => by
                rw [eM] at hq
                rcases List.mem_append.mp hq with hq | hq
                · rcases List.mem_append.mp hq with hq | hq
                  · rcases List.mem_cons.mp hq with hq | hq
                    · rw [hq]; exact hkB
                    · rcases List.mem_cons.mp hq with hq | hq
                      · rw [hq]; exact hFB
                      · rw [List.mem_singleton.mp hq]; exact hFF
                  · rw [List.mem_singleton.mp hq]; exact htar
                · exact hMar q hq
              exact q_ar_sub (hall q z2) z3
          obtain ⟨c0, R0, hhd⟩ := m_fl_hd wM
          have pvc := r2.xt hwf hn xc
          obtain ⟨Pe, e3, e4⟩ := st_92 (sa := sa) (f := f + 1) (d := d + 14) hk0 arC d2 d4.1.1 d4.2.1 (by omega) hEv hXe pvc (by
            have : (c0, m_ty M) ∈ E.map (rt Tc nc) := by rw [eE, hhd]; exact List.mem_cons_self
            obtain ⟨s, z1, z2⟩ := List.mem_map.mp this
            exact ⟨s, z1, by rw [z2]⟩) (x := nI ((C.1 ++ Dr).flatten ++ O1).length) (e := nI ((C.1 ++ Dr).flatten ++ (O1 ++ E)).length) rfl (by rw [hl2])
          rw [eE] at e3
          have e3' : am_call B sa am_dfl am_tb (f + 1) (d + 19) 92 [.ref (ρd.1 6), .int (nI ((C.1 ++ Dr).flatten ++ O1).length), .int (nI ((C.1 ++ Dr).flatten ++ (O1 ++ E)).length), .int v] (hp_S sa ρd Pd) = some (some (.int (bP (∀ c, vs_in (m_fl M) c → q_sub (q_vr c) (m_ty M)))), hp_S sa ρd Pe) := e3
          have htop : Pd.1 303 = nI ((C.1 ++ Dr).flatten ++ (O1 ++ E)).length := d4.2.1.1
          simp only [ho_603 d2, hg_303 d2, htop, hx_6 d2, Option.bind_some, e3', am_i_some]
          have fr3 : hp_fr cl_S 0 ρ P ρd Pe := hp_fr.tr0 fr2 (e4.fr (ρ := ρd)).wy.sw.cs
          have sI3 := sI2.imo e4
          rw [show [] ++ w_eq (m_ty M) ++ [(4 * nI cc + 2, m_ty M)] ++ m_fl M = m_fl MM by rw [eM]; simp] at sI3
          by_cases e5 : ∀ c, vs_in (m_fl M) c → q_sub (q_vr c) (m_ty M)
          · rw [if_pos (bP_y e5)]
            have ad := s_addFirm (sa := sa) (f := f + 1) (d := d + 14) sI3 (by omega) wMM hc sl_hM sl_tot
            simp only [ho_604 d2, Option.bind_some, hx_4 d2]
            rcases ad with ⟨k1, ρ', P', Rn, k2, k3, k4, k5⟩ | ⟨k1, ρ', P', H', D', k2, k3, k4⟩
            · left
              obtain ⟨c1', c2'⟩ := k3.c
              have hwf' := c1'.y.1.wf
              have hn' := c1'.y.1.n31
              have hrs := c1'.2.2.2.2.1
              have e1' : ct_S Tc nc = q_un (ct_S T n) ([] ++ [MM]) := by
                funext t
                refine propext ⟨c2' t, fun z => z.elim (fun z => z.xt hwf hn xc) fun ⟨X, x1, x2⟩ => q_of_S hrs c1'.2.2.2.2.2.2.2 hwf' hn' ⟨X, ?_, x2⟩⟩
                show X ∈ sq_rows (C.2.1 ++ [([], MM)])
                rw [sq_rows_ap, sq_rows_1]
                exact List.mem_append.mpr (Or.inr x1)
              have hle := (k3.rowsle).2.1
              have hlim : sq_lim (ct_S T n) (m_tot (sq_rows C.2.1)) ([], MM) := by
                refine ⟨k5, fun X hX => (hrs.2 X ?_).2, ?_, by rw [← e1']; exact c1'.y.1.good⟩
                · show X ∈ sq_rows (C.2.1 ++ [([], MM)])
                  rw [sq_rows_ap, sq_rows_1]
                  exact List.mem_append.mpr (Or.inr hX)
                · have h1 : m_tot (sq_rows (C.2.1 ++ [([], MM)])) ≤ 20000 := hle
                  rw [sq_rows_ap, sq_rows_1, m_tot_ap, m_tot_ap] at h1
                  have h2 : m_tot [MM] = (m_fl MM).length := by unfold m_tot; simp
                  dsimp only at h1 ⊢
                  omega
              refine ⟨([], MM), ρ', P', nc, Tc, Rn, ⟨M, hM, hlo, by omega, hnof, e5, by rw [hcc, hMM]⟩, hlim, by rw [k2, am_i_some]; exact am_rz_1, ?_, (hp_fr.tr0 fr3 k4).up (by omega), xc, e1'⟩
              dsimp only
              rw [hRn]
              exact c1'
            · right
              exact ⟨fun N hN => by rw [(inv N hN).2.2]; exact k1, ρ', P', nc, Tc, by rw [k2, am_i_some]; exact am_rz_0, k3.uo, (hp_fr.tr0 fr3 k4).up (by omega), xc⟩
          · rw [if_neg (fun z => z (bP_n e5))]
            exact Or.inr ⟨fun N hN => absurd (inv N hN).2.1 e5, ρd, Pe, nc, Tc, am_rz_0, sI3.uo, fr3.up (by omega), xc⟩
    · rw [if_neg e1, if_neg (fun z => z rfl)]
      refine Or.inr ⟨fun N ⟨M', z1, z2, z3, z4, z5, z6⟩ => absurd z3 e1, ρ, P1, n, T, am_rz_0, ?_, a3.cg.up (by omega), ty_xt.rf⟩
      rw [if_neg e1] at a2
      have h1 := h.sg (t := []) a3 (by rw [List.append_nil]; exact a2)
      exact (h1.s (Z := True) (G := fun _ => True) fun _ _ => True.intro).uo
  · rw [if_neg (fun z => z (bP_n e))]
    exact Or.inr ⟨fun N ⟨M', z1, z2, z3⟩ => absurd ⟨M', z1, z2⟩ e, ρ, P, n, T, am_rz_0, h.u, hp_fr.rf.up (by omega), ty_xt.rf⟩
end SP9
