/-! STEPS of the class, 11: newConstructor, the rest -/
section SPC
variable {sa : Nat → Nat} {B : Nat} {ρ : hp_L} {P : hp_P} {b : Bool} {n : Nat} {T : Nat → Int32 × Int32 × Int32} {Z : Prop} {G : qT → Prop} {C : sC} {H : List qM} {D : List qS} {kk : Int32 → Nat}
theorem sg_add2 {f d : Nat} {v v' : Int32} {tk : List Nat} {ow : List qT} (w : hp_w B ρ) (h : sgI P n T tk ow) :
    ∃ u u' P1 P', am_call B sa am_dfl am_tb (f + 1) (d + 1) 26 [.ref (ρ.1 5), .int v] (hp_S sa ρ P) = some (some (.int u), hp_S sa ρ P1) ∧ am_call B sa am_dfl am_tb (f + 1) (d + 1) 26 [.ref (ρ.1 5), .int v'] (hp_S sa ρ P1) = some (some (.int u'), hp_S sa ρ P') ∧ hp_fr sg_S 0 ρ P ρ P' ∧ P'.2 500 = P.2 500 ∧ (P'.2 501).1 = 200 ∧ (∀ c, c < ow.length → (P'.2 501).2 c = (P.2 501).2 c) ∧
      (ow.length + 2 ≤ 200 → u = nI ow.length ∧ u' = nI (ow.length + 1) ∧ ∀ t t', pl n T v t → pl n T v' t' → sgI P' n T tk (ow ++ [t, t'])) ∧ (¬ ow.length + 2 ≤ 200 → u = -1 ∨ u' = -1) := by
  obtain ⟨h0, h1, h2, h3, h4, h5⟩ := h
  have c1 := sg_addC0 (sa := sa) (f := f) (d := d) (v := v) w h1 h3 h4
  by_cases e1 : ow.length < 200
  · rw [if_pos e1, if_pos e1] at c1
    have k1 : (hp_sI (hp_sA P 501 (nI ow.length) v) 503 (nI (ow.length + 1))).1 503 = nI (ow.length + 1) := hI_eq
    have k2 : ((hp_sI (hp_sA P 501 (nI ow.length) v) 503 (nI (ow.length + 1))).2 501).1 = 200 := by rw [hI_A, hA_len]; exact h4
    have c2 := sg_addC0 (sa := sa) (f := f) (d := d) (v := v') w k1 (by omega) k2
    have fr1 : hp_fr sg_S 0 ρ P ρ (hp_sI (hp_sA P 501 (nI ow.length) v) 503 (nI (ow.length + 1))) := hp_fr.tr0 (hp_fr.sA (sg_S_t (by decide))) (hp_fr.sI (sg_S_t (by decide)))
    have r1 : ∀ c, ((hp_sI (hp_sA P 501 (nI ow.length) v) 503 (nI (ow.length + 1))).2 501).2 c = if c = ow.length then v else (P.2 501).2 c := fun c => by
      rw [hI_A, hA_eq, nI_clamp (by omega)]
      show upd _ _ _ c = _
      by_cases e : c = ow.length
      · rw [e, pk_us, if_pos rfl]
      · rw [pk_un e, if_neg e]
    by_cases e2 : ow.length + 1 < 200
    · rw [if_pos e2, if_pos e2] at c2
      refine ⟨_, _, _, _, c1, c2, hp_fr.tr0 fr1 (hp_fr.tr0 (hp_fr.sA (sg_S_t (by decide))) (hp_fr.sI (sg_S_t (by decide)))), ?_, ?_, fun c hc => ?_, fun _ => ⟨rfl, rfl, fun t t' ht ht' => ?_⟩, fun z => by omega⟩
      · rw [hI_A, hA_ne (by decide), hI_A, hA_ne (by decide)]
      · rw [hI_A, hA_len]; exact k2
      · rw [hI_A, hA_eq, nI_clamp (by omega)]
        show upd _ _ _ c = _
        rw [pk_un (by omega), r1, if_neg (by omega)]
      · refine ⟨?_, ?_, ?_, ?_, ?_, fun c y hc => ?_⟩
        · rw [hI_ne (by decide), hA_I, hI_ne (by decide), hA_I, hI_A, hA_ne (show (500 : Nat) ≠ 501 by decide), hI_A, hA_ne (show (500 : Nat) ≠ 501 by decide)]
          exact h0
        · rw [hI_eq, List.length_append]; rfl
        · rw [List.length_append]; omega
        · rw [List.length_append]; show ow.length + 2 ≤ 200; omega
        · rw [hI_A, hA_len]; exact k2
        · rw [hI_A, hA_eq, nI_clamp (by omega)]
          show pl n T (upd _ _ _ c) y
          rw [show ow ++ [t, t'] = (ow ++ [t]) ++ [t'] by simp] at hc
          rcases rw_push_g hc with z | ⟨z1, z2⟩
          · have hcl : c < (ow ++ [t]).length := (List.getElem?_eq_some_iff.mp z).1
            rw [List.length_append] at hcl
            have hcl : c < ow.length + 1 := hcl
            rw [pk_un (by omega), r1]
            rcases rw_push_g z with q | ⟨q1, q2⟩
            · have : c < ow.length := (List.getElem?_eq_some_iff.mp q).1
              rw [if_neg (by omega)]
              exact h5 c y q
            · rw [if_pos q1, q2]; exact ht
          · rw [z1, List.length_append]
            show pl n T (upd _ _ _ (ow.length + 1)) y
            rw [pk_us, z2]
            exact ht'
    · rw [if_neg e2, if_neg e2] at c2
      exact ⟨_, _, _, _, c1, c2, fr1, by rw [hI_A, hA_ne (by decide)], k2, fun c hc => by rw [r1, if_neg (by omega)], fun z => absurd z (by omega), fun _ => Or.inr rfl⟩
  · rw [if_neg e1, if_neg e1] at c1
    have c2 := sg_addC0 (sa := sa) (f := f) (d := d) (v := v') w h1 h3 h4
    rw [if_neg e1, if_neg e1] at c2
    exact ⟨_, _, _, _, c1, c2, hp_fr.rf, rfl, h4, fun _ _ => rfl, fun z => absurd z (by omega), fun _ => Or.inl rfl⟩
theorem plg.neg {v : Int32} {t : qT} (h : plg G n T v t) (hn : n < 2 ^ 31) : (v < 0 ∧ ¬ q_good G) ∨ (¬ v < 0 ∧ pl n T v t) := by
  rcases h with h | ⟨h1, h2⟩
  · right
    have h' := h
    obtain ⟨a, a1, a2, -⟩ := h'
    exact ⟨by rw [a2]; exact nI_pos (by omega), h⟩
  · exact Or.inl ⟨by rw [h1]; decide, h2⟩
/-- what goes on from a class can be led back to it -/
theorem sI.ug {C2 : sC} {R : List (List rwS)} {Q : List qQ} {q1 : List Nat} {q2 : List qT} (h : sI Z G B C2 ρ P n T H D b) (e1 : C2.1 = C.1 ++ R) (e2 : C2.2.1 = C.2.1 ++ Q) (e3 : C2.2.2.1 = C.2.2.1) (e4 : ∀ j, j ≤ C.2.1.length → C2.2.2.2.1 j = C.2.2.2.1 j) (e5 : C2.2.2.2.2.1 = C.2.2.2.2.1 ++ q1) (e6 : C2.2.2.2.2.2.1 = C.2.2.2.2.2.1 ++ q2) (e7 : C2.2.2.2.2.2.2 = C.2.2.2.2.2.2) (hr : rsI n T C.1 (sq_rows C.2.1)) : uI B C ρ P n T := by
  obtain ⟨a1, a2, a3, a4, a5, Dr, O, a6, -⟩ := h
  rw [e7] at a2
  rw [e5, e6] at a3
  rw [e2, e3] at a4
  rw [e1] at a6
  refine ⟨a1, a2, a3.W, ⟨Q, _, a4, e4⟩, hr, a6.1, ⟨R ++ Dr, O, b, by rw [← List.append_assoc]; exact a6.2.1⟩, fun s hs => a6.2.2.1 s ?_⟩
  rw [List.flatten_append, List.flatten_append]
  exact List.mem_append.mpr (Or.inl (List.mem_append.mpr (Or.inl (List.mem_append.mpr (Or.inl hs)))))
theorem sI.sg {P' : hp_P} {t : List qT} (h : sI Z G B C ρ P n T H D b) (fr : hp_fr sg_S 0 ρ P ρ P') (hs : sgI P' n T C.2.2.2.2.1 (C.2.2.2.2.2.1 ++ t)) : sI Z G B (c_ow C t) ρ P' n T H D b := by
  obtain ⟨h1, h2, h3, h4, h5, Dr, O, h6, h7⟩ := h
  exact ⟨h1, h2.fr fr fun r a b => decide_eq_false (by omega), hs, h4.cg fun r a b => ⟨(fr.2.1 r (decide_eq_false (by omega))).1, (fr.2.1 r (decide_eq_false (by omega))).2.1⟩, h5, Dr, O, ⟨h6.1.fr fr fun r a b => decide_eq_false (by omega), h6.2.1.fr fr fun r a b => decide_eq_false (by omega), h6.2.2⟩, h7⟩
theorem z21a {S : qT → Prop} {base : Nat} {N1 N2 : qM} {D E : List qS} (e : m_fl N1 = D ++ E) : 4000 < D.length → ¬ lim21 S base N1 N2 := fun z k => by
  have := (k.1.2.1 N1 (List.mem_append.mpr (Or.inr (List.mem_singleton.mpr rfl)))).1
  rw [e, List.length_append] at this
  omega
theorem z21b {S : qT → Prop} {base : Nat} {N1 N2 : qM} {D E : List qS} (e : m_fl N2 = D ++ E) : 4000 < D.length → ¬ lim21 S base N1 N2 := fun z k => by
  have := (k.2.2.1 N2 (List.mem_append.mpr (Or.inr (List.mem_singleton.mpr rfl)))).1
  rw [e, List.length_append] at this
  omega
theorem z21g {S : qT → Prop} {base : Nat} {N1 N2 : qM} : ¬ q_good (q_un (q_un S [N1]) [N2]) → ¬ lim21 S base N1 N2 := fun z k => z k.2.2.2.2
theorem qu2a {S : qT → Prop} {N1 N2 : qM} {s : qS} {t : qT} (h : s ∈ m_fl N1) (ht : q_sub t s.2) : q_un (q_un S [N1]) [N2] t := Or.inl (Or.inr ⟨N1, List.mem_singleton.mpr rfl, s, h, ht⟩)
theorem qu2b {S : qT → Prop} {N1 N2 : qM} {s : qS} {t : qT} (h : s ∈ m_fl N2) (ht : q_sub t s.2) : q_un (q_un S [N1]) [N2] t := Or.inr ⟨N2, List.mem_singleton.mpr rfl, s, h, ht⟩
set_option maxHeartbeats 4000000 in
theorem st_93 {f d : Nat} {x : Int32} (h : cI B C ρ P n T) (hf : 200000 ≤ f) (hc : C.2.1.length < 999) (hk0 : ∀ c, c < 0 → kk c = 0) (har : ty_ar kk T n) (hty : ∀ s ∈ C.2.1, m_ty s.2 = qB) : cO21 B sa (sp_21 C.2.1 C.2.2.2.2.1 C.2.2.2.2.2.1 x) C ρ P n T (am_call B sa am_dfl am_tb f (d + 20) 93 [.ref (ρ.1 6), .int x] (hp_S sa ρ P)) := by
  have w := h.w
  have hwf := h.y.1.wf
  have hn := h.y.1.n31
  have hs := h.s (Z := True) (G := fun _ => True) fun _ _ => True.intro
  obtain ⟨f, rfl⟩ : ∃ g, f = g + 1 := ⟨f - 1, by omega⟩
  rw [am_c_93, am_s93_0]
  simp only [ho_604 w, hx_4 w, Option.bind_some, sq_has hs, am_i_some, am_c_eq]
  have no : (∀ o m p k, ¬ sp_21 C.2.1 C.2.2.2.2.1 C.2.2.2.2.2.1 x o m p k) → cO21 B sa (sp_21 C.2.1 C.2.2.2.2.1 C.2.2.2.2.2.1 x) C ρ P n T (am_rz 0 (hp_S sa ρ P)) := fun hno => Or.inr ⟨fun o m p k z => absurd z (hno o m p k), ρ, P, n, T, am_rz_0, h.u, hp_fr.rf.up (by omega), ty_xt.rf⟩
  by_cases e1 : ∃ s, en_at C.2.1 x s
  · rw [if_neg (bP_y e1)]
    obtain ⟨s, j, rfl, j31, hj⟩ := e1
    have ej : en_at C.2.1 (nI j) s := ⟨j, rfl, j31, hj⟩
    obtain ⟨-, -, hk20, -⟩ := hs.first hj
    simp only [sq_hyps hs hj, am_i_some, am_c_le]
    by_cases e2 : s.1 = []
    · rw [if_pos (by rw [e2]; decide)]
      obtain ⟨A, L, q1, q2, q3, -, q5, q6⟩ := hs.row (sq_con hj)
      have wS := (h.2.2.2.2.1.2 s.2 (List.mem_of_getElem? (sq_con hj))).1
      have tS := hty s (List.mem_of_getElem? hj)
      obtain ⟨W, hW⟩ := q1.1
      have hX : C.1.flatten ++ [] = A ++ (L ++ W) := by rw [List.append_nil]; exact hW
      have hrw := h.2.2.2.2.2.2.1
      obtain ⟨c0, R0, hhd⟩ := m_fl_hd wS
      have hLm := q1.2.1
      rw [hhd] at hLm
      obtain ⟨s0, L', rfl, hs0, hL'⟩ := List.map_eq_cons_iff.mp hLm
      have hc0 : s0.1 = m_c s.2 := by
        have := (Prod.mk.inj hs0).1
        rw [this]
        have e := m_eta wS
        rw [e, m_fl_N] at hhd
        exact ((Prod.mk.inj (List.cons.inj hhd).1).1).symm
      have rd0 := (hrw.rd (k := A.length) (s := s0) (by rw [hX]; simp)).1
      rw [hc0] at rd0
      simp only [ho_603 w, ho_604 w, hx_4 w, hr_304 w, sq_conc hs hj, am_i_some, hl_304 w, q2, hr_301 w, hl_301 w, rd0, Option.bind_some]
      by_cases e3 : m_c s.2 = -1
      · rw [if_pos e3]
        obtain ⟨u, p, xx, wp, wx, hpt, hsE⟩ : ∃ u p xx, m_wf p ∧ m_wf xx ∧ m_ty p = qF (m_ty xx) u ∧ s.2 = mN (-1) u p xx := by
          refine m_wf_cases (C := fun M => m_c M = -1 → ∃ u F X, m_wf F ∧ m_wf X ∧ m_ty F = qF (m_ty X) u ∧ M = mN (-1) u F X) ?_ ?_ ?_ s.2 wS e3
          · exact fun u F X a b c _ _ _ => ⟨u, F, X, a, b, c, rfl⟩
          · intro a l _ _ z; rw [m_c_N] at z; exact absurd z (by decide)
          · intro c t hc z; rw [m_c_N] at z; exact absurd z (m_lf_ne hc).1
        have hu : u = qB := by rw [hsE, m_ty_N] at tS; exact tS
        subst hu
        have hfl : m_fl s.2 = (-1, qB) :: (m_fl p ++ m_fl xx) := by rw [hsE, m_fl_N]
        have hR0 : R0 = m_fl p ++ m_fl xx := by rw [hfl] at hhd; exact (List.cons.inj hhd).2.symm
        rw [hR0] at hL'
        obtain ⟨Lp, Lx, rfl, hLp, hLx⟩ := List.map_eq_append_iff.mp hL'
        have hA1 : (A ++ [s0]).length = A.length + 1 := by simp
        have hX1 : C.1.flatten ++ [] = (A ++ [s0]) ++ (Lp ++ (Lx ++ W)) := by rw [hX]; simp
        have hX1' : C.1.flatten = (A ++ [s0]) ++ (Lp ++ (Lx ++ W)) := by rw [← hX1, List.append_nil]
        have hLv : ∀ q ∈ Lp, rv n q := fun q hq => q1.2.2 q (by simp [hq])
        have hen := rw_endOf (sa := sa) (f := f + 1) (d := d + 18) (T := T) (n := n) w hrw (by omega) hX1 wp hLp rfl
        rw [hA1] at hen
        have hfree : am_call B sa am_dfl am_tb (f + 1) (d + 19) 65 [.ref (ρ.1 3), .int (nI (A.length + 1)), .int (nI (A.length + 1 + Lp.length))] (hp_S sa ρ P) = some (some (.int (bP (∃ s ∈ Lp, q_fr s.1))), hp_S sa ρ P) := rw_hasFree (sa := sa) (f := f + 1) (d := d + 18) w hrw (by omega) hX1 (by rw [hA1]) (by rw [hA1])
        simp only [ho_603 w, hx_3 w, Option.bind_some, nI_1, hen, am_i_some, hfree]
        have hfe : (∃ s ∈ Lp, q_fr s.1) ↔ ∃ s ∈ m_fl p, q_fr s.1 := by
          rw [← hLp]
          exact ⟨fun ⟨s, z1, z2⟩ => ⟨rt T n s, List.mem_map.mpr ⟨s, z1, rfl⟩, z2⟩, fun ⟨q, z1, z2⟩ => by
            obtain ⟨s, z3, z4⟩ := List.mem_map.mp z1
            exact ⟨s, z3, by rw [← z4] at z2; exact z2⟩⟩
        have inv : ∀ o m p' k, sp_21 C.2.1 C.2.2.2.2.1 C.2.2.2.2.2.1 (nI j) o m p' k → (∀ q ∈ m_fl p, ¬ q_fr q.1) ∧ ∃ vs, vs_of (m_fl p) vs ∧ vs.length ≤ 2 ∧ C.2.2.2.2.1.length < 40 ∧ C.2.2.2.2.2.1.length + 2 ≤ 200 ∧ o = m_ty xx ∧ m = q_k (nI C.2.2.2.2.1.length) vs ∧ p' = p ∧ k = vs.length := fun o m p' k ⟨s', xx', vs', b1, b2, b3, b4, b5, b6, b7, b8, b9, b10, b11⟩ => by
          obtain rfl := en_at_inj b1 ej
          obtain ⟨-, -, rfl, rfl⟩ := mN_inj (hsE.symm.trans b3)
          exact ⟨b4, vs', b5, b6, b7, b8, b9, b10, rfl, b11⟩
        by_cases e4 : ∃ s ∈ Lp, q_fr s.1
        · rw [if_neg (bP_y e4)]
          obtain ⟨q, z1, z2⟩ := hfe.mp e4
          exact no fun o m p' k z => (inv o m p' k z).1 q z1 z2
        · rw [if_pos (bP_n e4)]
          have hnof : ∀ q ∈ m_fl p, ¬ q_fr q.1 := fun q z1 z2 => e4 (hfe.mpr ⟨q, z1, z2⟩)
          have nt := st_94 (sa := sa) (f := f + 1) (d := d + 14) (K := m_fl p) h (by omega) hk0 har hX1' hLv hLp (x := nI (A.length + 1)) (e := nI (A.length + 1 + Lp.length)) (by rw [hA1]) (by rw [hA1])
          simp only [hx_6 w, Option.bind_some]
          obtain ⟨cx, Rx, hhx⟩ := m_fl_hd wx
          rw [hhx] at hLx
          obtain ⟨sx, Lx, rfl, hsx, -⟩ := List.map_eq_cons_iff.mp hLx
          have hsxv : rv n sx := q1.2.2 sx (by simp)
          have hold : pl n T sx.2 (m_ty xx) := by
            have := hsxv.pl (T := T)
            rw [hsx] at this
            exact this
          have rdx : ∀ {C' : sC} {ρ' : hp_L} {P' : hp_P} {n' : Nat} {T' : Nat → Int32 × Int32 × Int32}, cI B C' ρ' P' n' T' → C'.1 = C.1 → hp_rd P' 302 (nI (A.length + 1 + Lp.length)) = some sx.2 := fun h' e => by
            have hr := h'.2.2.2.2.2.2.1
            rw [e] at hr
            refine (hr.rd (s := sx) ?_).2.1
            rw [hX1, List.getElem?_append_right (by rw [hA1]; omega), hA1, Nat.add_sub_cancel_left, List.getElem?_append_right (Nat.le_refl _), Nat.sub_self]
            rfl
          rcases nt with ⟨vs, v17, ρ1, P1, n1, T1, hvs, hvl, htk, nq, h1, fr1, xt1, mo⟩ | ⟨hno, P1, nq, h1, fr1⟩
          rotate_left
          · -- no new type
            have w1 := h1.w
            have mk1 := tm_make_no (sa := sa) (B := B) (f := f) (d := d + 18) (o := ρ.1 7) (σ := hp_S sa ρ P1) (c := 2) (l := sx.2) (r := -2) (Or.inr rfl)
            have mk2 := tm_make_no (sa := sa) (B := B) (f := f) (d := d + 18) (o := ρ.1 7) (σ := hp_S sa ρ P1) (c := 2) (l := -2) (r := sx.2) (Or.inl rfl)
            obtain ⟨u, u', P2, P3, c1, c2, c3, c4, c5, c6, -, -⟩ := sg_add2 (sa := sa) (f := f) (d := d + 18) (v := -2) (v' := -2) w1 h1.2.2.1
            simp only [nq, am_i_some, ho_603 w1, hr_302 w1, hl_302 w1, rdx h1 rfl, ho_600 w1, Option.bind_some, hx_7 w1, mk1, mk2, ho_601 w1, hx_5 w1, c1, c2, am_c_lt]
            rw [if_pos (by decide)]
            have hu := ((show cI B (c_tk C []) ρ P1 n T by unfold c_tk; rw [List.append_nil]; exact h1).s (Z := True) (G := fun _ => True) fun _ _ => True.intro).u_sg c3 c4 c5 c6
            refine Or.inr ⟨fun o m p' k z => ?_, ρ, P3, n, T, am_rz_0, hu, (hp_fr.tr0 fr1 c3.cg).up (by omega), ty_xt.rf⟩
            obtain ⟨-, vs', y1, y2, y3, -⟩ := inv o m p' k z
            exact absurd (hno vs' y1) (by omega)
          · generalize hmd : q_k (nI C.2.2.2.2.1.length) vs = made at mo
            generalize hol : m_ty xx = old at hold hpt
            generalize hto : C.2.2.2.2.2.1.length = to at *
            have hmne : made ≠ qE := by rw [← hmd]; exact qN_ne
            have hone : old ≠ qE := ct_S_ne hwf hn hold.S
            have eN1 := n21a_fl (old := old) (made := made) (to := to)
            have eN2 := n21b_fl (old := old) (made := made) (to := to) (p := p)
            generalize hN1 : n21a old made to = N1 at eN1
            generalize hN2 : n21b old made to p = N2 at eN2
            have gmade : q_un (q_un (ct_S T n) [N1]) [N2] made := qu2a (s := (-1, made)) (by rw [eN1]; simp) (by rw [← hmd]; exact q_sub_rf)
            have gthere : q_un (q_un (ct_S T n) [N1]) [N2] (qF old made) := qu2a (s := (4 * nI to + 2, qF old made)) (by rw [eN1]; simp) q_sub_rf
            have gback : q_un (q_un (ct_S T n) [N1]) [N2] (qF made old) := qu2a (s := (4 * nI (to + 1) + 2, qF made old)) (by rw [eN1]; simp) q_sub_rf
            have hS1 : ∀ t, ct_S T1 n1 t → q_un (q_un (ct_S T n) [N1]) [N2] t := fun t ht => by
              rcases mo with ⟨-, m2⟩ | ⟨-, m2, m3, -⟩
              · rcases m2 t ht with z | z
                · exact Or.inl (Or.inl z)
                · rw [z]; exact gmade
              · rw [m2, m3] at ht; exact Or.inl (Or.inl ht)
            have p17 : plg (q_un (q_un (ct_S T n) [N1]) [N2]) n1 T1 v17 made := by
              rcases mo with ⟨m1, -⟩ | ⟨m1, -, -, m4⟩
              · exact Or.inl m1
              · exact Or.inr ⟨m1, m4 _ (fun t z => Or.inl (Or.inl z)) gmade⟩
            have hR : ∀ o m p' k, sp_21 C.2.1 C.2.2.2.2.1 C.2.2.2.2.2.1 (nI j) o m p' k → n21a o m C.2.2.2.2.2.1.length = N1 ∧ n21b o m C.2.2.2.2.2.1.length p' = N2 ∧ to + 2 ≤ 200 := fun o m p' k z => by
              obtain ⟨-, vs', y1, y2, y3, y4, y5, y6, y7, y8⟩ := inv o m p' k z
              rw [y5, y6, y7, ← vs_of_inj hvs y1 hvl, hmd, hol, hto, hN1, hN2]
              exact ⟨rfl, rfl, by omega⟩
            -- a refusal from here on
            have ref : ∀ {ρ' : hp_L} {P' : hp_P} {n' : Nat} {T' : Nat → Int32 × Int32 × Int32}, (to + 2 ≤ 200 → ¬ lim21 (ct_S T n) (m_tot (sq_rows C.2.1)) N1 N2) → uI B C ρ' P' n' T' → hp_fr cl_S 0 ρ P ρ' P' → ty_xt n T n' T' → cO21 B sa (sp_21 C.2.1 C.2.2.2.2.1 C.2.2.2.2.2.1 (nI j)) C ρ P n T (am_rz 0 (hp_S sa ρ' P')) := fun hz hu fr xt => Or.inr ⟨fun o m p' k z => by
              obtain ⟨z1, z2, z3⟩ := hR o m p' k z
              rw [hto] at z1 z2 ⊢
              rw [z1, z2]
              exact hz z3, _, _, _, _, am_rz_0, hu, fr.up (by omega), xt⟩
            have w1 := h1.w
            have h0 := h1.s (Z := ¬ lim21 (ct_S T n) (m_tot (sq_rows C.2.1)) N1 N2) hS1
            obtain ⟨ρ2, P2, v22, n2, T2, a1, a2, a3, a4, a5⟩ := s_make (sa := sa) (f := f + 1) (d := d + 16) (c := 2) h0 (by omega) (Or.inl (hold.xt hwf hn xt1)) p17 gthere
            have a5 : plg (q_un (q_un (ct_S T n) [N1]) [N2]) n2 T2 v22 (qF old made) := a5
            have x2 := xt1.tr a4
            obtain ⟨ρ3, P3, v24, n3, T3, b1, b2, b3, b4, b5⟩ := s_make (sa := sa) (f := f + 1) (d := d + 16) (c := 2) a2 (by omega) (p17.xt h1.y.1.wf h1.y.1.n31 a4) (Or.inl (hold.xt hwf hn x2)) gback
            have b5 : plg (q_un (q_un (ct_S T n) [N1]) [N2]) n3 T3 v24 (qF made old) := b5
            have x3 := x2.tr b4
            have w3 := b2.w
            have p22 := a5.xt a2.y.1.wf a2.y.1.n31 b4
            have p17' := p17.xt h1.y.1.wf h1.y.1.n31 (a4.tr b4)
            have pold := hold.xt hwf hn x3
            obtain ⟨u, u', P4, P5, c1, c2, c3, c4, c5, c6, c7, c8⟩ := sg_add2 (sa := sa) (f := f) (d := d + 18) (v := v22) (v' := v24) w3 b2.2.2.1
            have c6 : ∀ c, c < C.2.2.2.2.2.1.length → (P5.2 501).2 c = (P3.2 501).2 c := c6
            have fr5 : hp_fr cl_S 0 ρ P ρ3 P5 := hp_fr.tr0 fr1 (hp_fr.tr0 (hp_fr.tr0 a3 b3).cs c3.cg)
            have hu5 := b2.u_sg c3 c4 c5 c6
            simp only [nq, am_i_some]
            rw [w_ob fr1 6]
            simp only [ho_603 w1, hr_302 w1, hl_302 w1, rdx h1 rfl, ho_600 w1, Option.bind_some, hx_7 w1, a1, am_i_some]
            rw [w_ob a3 6]
            simp only [ho_600 a2.w, Option.bind_some, hx_7 a2.w, b1, am_i_some]
            rw [w_ob b3 6]
            simp only [ho_601 w3, Option.bind_some, hx_5 w3, c1, c2, am_i_some, am_c_lt, am_c_ne]
            rcases p22.neg b2.y.1.n31 with ⟨y1, y2⟩ | ⟨y1, y2⟩
            · rw [if_pos y1]
              exact ref (fun _ => z21g y2) hu5 fr5 x3
            · rw [if_neg y1]
              rcases b5.neg b2.y.1.n31 with ⟨y3, y4⟩ | ⟨y3, y4⟩
              · rw [if_pos y3]
                exact ref (fun _ => z21g y4) hu5 fr5 x3
              · rw [if_neg y3]
                have c7 : to + 2 ≤ 200 → u = nI to ∧ u' = nI (to + 1) ∧ ∀ t t', pl n3 T3 v22 t → pl n3 T3 v24 t' → sgI P5 n3 T3 (C.2.2.2.2.1 ++ [vs.length]) (C.2.2.2.2.2.1 ++ [t, t']) := by rw [← hto]; exact c7
                have c8 : ¬ to + 2 ≤ 200 → u = -1 ∨ u' = -1 := by rw [← hto]; exact c8
                by_cases e5 : to + 2 ≤ 200
                rotate_left
                · by_cases eu : u = -1
                  · rw [if_pos eu]
                    exact ref (fun z => absurd z e5) hu5 fr5 x3
                  · rw [if_neg eu, if_neg (fun z => z ((c8 e5).resolve_left eu))]
                    exact ref (fun z => absurd z e5) hu5 fr5 x3
                · obtain ⟨ku, ku', ks⟩ := c7 e5
                  rw [if_neg (by rw [ku]; exact nI_ne_m1 (by omega)), if_pos (by rw [ku']; exact nI_ne_m1 (by omega)), ku, ku']
                  have g0 := b2.sg (t := [qF old made, qF made old]) c3 (ks _ _ y2 y4)
                  have w5 := g0.w
                  have hol200 : 2 ≤ to := by rw [← hto]; exact h.2.2.1.2.2.1
                  have wN1 : m_wf N1 := by rw [← hN1]; exact n21a_wf hol200 (by omega)
                  have wN2 : m_wf N2 := by rw [← hN2]; exact n21b_wf hol200 (by omega) wp hpt
                  have gE1 : q_un (q_un (ct_S T n) [N1]) [N2] (qF made qB) := qu2a (s := (-1, qF made qB)) (by rw [eN1]; simp [w_eq]) q_sub_rf
                  have gE2 : q_un (q_un (ct_S T n) [N1]) [N2] (qF made (qF made qB)) := qu2a (s := (2, qF made (qF made qB))) (by rw [eN1]; simp [w_eq]) q_sub_rf
                  obtain ⟨ρa, Pa, na, Ta, ba, o1, o2, o3, o4, o5⟩ := s_equals (sa := sa) (f := f + 1) (d := d + 15) g0 (by omega) p17' gE1 gE2 z21g (z21a (by rw [eN1]; simp; rfl))
                  have pA22 := (show plg (q_un (q_un (ct_S T n) [N1]) [N2]) n3 T3 v22 (qF old made) from Or.inl y2).xt g0.y.1.wf g0.y.1.n31 o4
                  have pA24 := b5.xt g0.y.1.wf g0.y.1.n31 o4
                  have pA17 := p17'.xt g0.y.1.wf g0.y.1.n31 o4
                  obtain ⟨ρb, Pb, nb, Tb, bb, r1, r2, r3, r4, r5⟩ := s_applied (sa := sa) (f := f + 1) (d := d + 15) (c := 4 * nI to + 2) o2 (by omega) pA22 hmne z21g (z21a (by rw [eN1]; simp; rfl))
                  have pB24 := pA24.xt o2.y.1.wf o2.y.1.n31 r4
                  have pB17 := pA17.xt o2.y.1.wf o2.y.1.n31 r4
                  obtain ⟨ρc, Pc, nc, Tc, bc, s1, s2, s3, s4, s5⟩ := s_applied (sa := sa) (f := f + 1) (d := d + 15) (c := 4 * nI (to + 1) + 2) r2 (by omega) pB24 hone z21g (z21a (by rw [eN1]; simp; rfl))
                  have pC17 := pB17.xt r2.y.1.wf r2.y.1.n31 s4
                  obtain ⟨ρd, Pd, nd, Td, bd, t1, t2, t3, t4, t5⟩ := s_write (sa := sa) (f := f - 1) (d := d + 16) (c := 1) s2 pC17 z21g (z21a (by rw [eN1]; simp; rfl))
                  rw [show f - 1 + 2 = f + 1 by omega] at t1
                  have pD17 := pC17.xt s2.y.1.wf s2.y.1.n31 t4
                  obtain ⟨ρe, Pe, ne, Te, be, u1, u2, u3, u4, u5⟩ := s_write (sa := sa) (f := f - 1) (d := d + 16) (c := 1) t2 pD17 z21g (z21a (E := []) (by rw [eN1]; simp))
                  rw [show f - 1 + 2 = f + 1 by omega] at u1
                  rw [show [] ++ w_eq made ++ [((-1 : Int32), made), (4 * nI to + 2, qF old made)] ++ [((-1 : Int32), old), (4 * nI (to + 1) + 2, qF made old)] ++ [((1 : Int32), made)] ++ [((1 : Int32), made)] = m_fl N1 by rw [eN1]; simp] at u2
                  have ad := s_add (sa := sa) (f := f + 1) (d := d + 15) u2 (by omega) wN1 (show C.2.1.length < 1000 by omega) (fun z k => by have := (k.1.2.1 N1 (List.mem_append.mpr (Or.inr (List.mem_singleton.mpr rfl)))).2; omega) (fun z k => by have := k.1.2.2.1; dsimp only at this; have z : 20000 < m_tot (sq_rows C.2.1) + m_tot [] + (m_fl N1).length := z; omega)
                  have xe := x3.tr (o4.tr (r4.tr (s4.tr (t4.tr u4))))
                  have fre : hp_fr cl_S 0 ρ P ρe Pe := hp_fr.tr0 fr5 (hp_fr.tr0 o3 (hp_fr.tr0 r3 (hp_fr.tr0 s3 (hp_fr.tr0 t3 u3)))).cs
                  simp only [ho_603 w5, Option.bind_some, hx_3 w5, o1, am_v_some]
                  rw [w_ob o3 6]
                  simp only [ho_603 o2.w, Option.bind_some, hx_3 o2.w, r1, am_v_some]
                  rw [w_ob r3 6]
                  simp only [ho_603 r2.w, Option.bind_some, hx_3 r2.w, s1, am_v_some]
                  rw [w_ob s3 6]
                  simp only [ho_603 s2.w, Option.bind_some, hx_3 s2.w, t1, am_v_some]
                  rw [w_ob t3 6]
                  simp only [ho_603 t2.w, Option.bind_some, hx_3 t2.w, u1, am_v_some]
                  rw [w_ob u3 6]
                  simp only [ho_604 u2.w, Option.bind_some, hx_4 u2.w]
                  have hrsE : ∀ {n' : Nat} {T' : Nat → Int32 × Int32 × Int32}, ty_xt n T n' T' → rsI n' T' C.1 (sq_rows C.2.1) := fun xx => h.2.2.2.2.1.xt h.2.2.2.2.2.2.2 hwf hn xx
                  rcases ad with ⟨k1, ρ6, P6, R1, k2, k3, k4, k5⟩ | ⟨k1, ρ6, P6, H', D', k2, k3, k4⟩
                  · rw [k2, am_i_some, if_pos (show (1 : Int32) ≠ 0 by decide)]
                    have w6 := k3.w
                    have fr6 : hp_fr cl_S 0 ρ P ρ6 P6 := hp_fr.tr0 fre k4
                    rw [w_ob k4 6]
                    have hsrc : srcB n T (C.1 ++ R1) (A ++ [s0]) Lp p := ⟨⟨sx :: Lx ++ W ++ R1.flatten, by rw [List.flatten_append, hX1']; simp⟩, hLp, hLv⟩
                    have hb3 : m_tot (sq_rows (C.2.1 ++ [([], N1)])) = m_tot (sq_rows C.2.1) + (m_fl N1).length := by
                      rw [sq_rows_ap, sq_rows_1, m_tot_ap, m_tot_ap]
                      unfold m_tot
                      simp
                    have gB1 : q_un (q_un (ct_S T n) [N1]) [N2] (qF qB qB) := qu2b (s := (-1, qF qB qB)) (by rw [eN2]; simp [w_eq]) q_sub_rf
                    have gB2 : q_un (q_un (ct_S T n) [N1]) [N2] (qF qB (qF qB qB)) := qu2b (s := (2, qF qB (qF qB qB))) (by rw [eN2]; simp [w_eq]) q_sub_rf
                    have gO1 : q_un (q_un (ct_S T n) [N1]) [N2] (qF old qB) := qu2b (s := (-1, qF old qB)) (by rw [eN2]; simp [w_eq]) q_sub_rf
                    have gO2 : q_un (q_un (ct_S T n) [N1]) [N2] (qF old (qF old qB)) := qu2b (s := (2, qF old (qF old qB))) (by rw [eN2]; simp [w_eq]) q_sub_rf
                    obtain ⟨ρg, Pg, ng, Tg, bg, A1, A2, A3, A4, A5⟩ := s_equals (sa := sa) (f := f + 1) (d := d + 15) k3 (by omega) (Or.inl k3.y.B) gB1 gB2 z21g (z21b (by rw [eN2]; simp; rfl))
                    obtain ⟨ρh, Ph, nh, Th, bh, B1, B2, B3, B4, B5⟩ := s_write (sa := sa) (f := f - 1) (d := d + 16) (c := -1) A2 (Or.inl A2.y.B) z21g (z21b (by rw [eN2]; simp; rfl))
                    rw [show f - 1 + 2 = f + 1 by omega] at B1
                    have xh := xe.tr (A4.tr B4)
                    obtain ⟨ρi, Pi, ni, Ti, bi, C1, C2, C3, C4, C5⟩ := s_copy (sa := sa) (f := f + 1) (d := d + 15) B2 (by omega) (hsrc.xt hwf hn xh) z21g (z21b (by rw [eN2]; simp; rfl)) (x := nI (A.length + 1)) (y := nI (A.length + 1 + Lp.length)) (by rw [hA1]) (by rw [hA1])
                    have xi := xh.tr C4
                    obtain ⟨ρj, Pj, nj, Tj, bj, D1, D2, D3, D4, D5⟩ := s_write (sa := sa) (f := f - 1) (d := d + 16) (c := 1) C2 (Or.inl (hold.xt hwf hn xi)) z21g (z21b (by rw [eN2]; simp; rfl))
                    rw [show f - 1 + 2 = f + 1 by omega] at D1
                    have xj := xi.tr D4
                    obtain ⟨ρk, Pk, nk, Tk, bk, E1, E2, E3, E4, E5⟩ := s_equals (sa := sa) (f := f + 1) (d := d + 15) D2 (by omega) (Or.inl (hold.xt hwf hn xj)) gO1 gO2 z21g (z21b (by rw [eN2]; simp; rfl))
                    have xk := xj.tr E4
                    have x3k : ty_xt n3 T3 nk Tk := (o4.tr (r4.tr (s4.tr (t4.tr u4)))).tr (A4.tr (B4.tr (C4.tr (D4.tr E4))))
                    have q24 := b5.xt g0.y.1.wf g0.y.1.n31 x3k
                    have q22 := (show plg (q_un (q_un (ct_S T n) [N1]) [N2]) n3 T3 v22 (qF old made) from Or.inl y2).xt g0.y.1.wf g0.y.1.n31 x3k
                    obtain ⟨ρl, Pl, nl, Tl, bl, F1, F2, F3, F4, F5⟩ := s_applied (sa := sa) (f := f + 1) (d := d + 15) (c := 4 * nI (to + 1) + 2) E2 (by omega) q24 hone z21g (z21b (by rw [eN2]; simp; rfl))
                    obtain ⟨ρm, Pm, nm, Tm, bm, G1, G2, G3, G4, G5⟩ := s_applied (sa := sa) (f := f + 1) (d := d + 15) (c := 4 * nI to + 2) F2 (by omega) (q22.xt E2.y.1.wf E2.y.1.n31 F4) hmne z21g (z21b (by rw [eN2]; simp; rfl))
                    have xm := xk.tr (F4.tr G4)
                    obtain ⟨ρn, Pn, nn, Tn, bn, H1, H2, H3, H4, H5⟩ := s_write (sa := sa) (f := f - 1) (d := d + 16) (c := 1) G2 (Or.inl (hold.xt hwf hn xm)) z21g (z21b (by rw [eN2]; simp; rfl))
                    rw [show f - 1 + 2 = f + 1 by omega] at H1
                    have xn := xm.tr H4
                    obtain ⟨ρo, Po, no', To, bo, I1, I2, I3, I4, I5⟩ := s_write (sa := sa) (f := f - 1) (d := d + 16) (c := 1) H2 (Or.inl (hold.xt hwf hn xn)) z21g (z21b (E := []) (by rw [eN2]; simp))
                    rw [show f - 1 + 2 = f + 1 by omega] at I1
                    have xo := xn.tr I4
                    rw [show [] ++ w_eq qB ++ [((-1 : Int32), qB)] ++ m_fl p ++ [((1 : Int32), old)] ++ w_eq old ++ [((-1 : Int32), old), (4 * nI (to + 1) + 2, qF made old)] ++ [((-1 : Int32), made), (4 * nI to + 2, qF old made)] ++ [((1 : Int32), old)] ++ [((1 : Int32), old)] = m_fl N2 by rw [eN2]; simp] at I2
                    have fro : hp_fr cl_S 0 ρ P ρo Po := hp_fr.tr0 fr6 (hp_fr.tr0 A3 (hp_fr.tr0 B3 (hp_fr.tr0 C3 (hp_fr.tr0 D3 (hp_fr.tr0 E3 (hp_fr.tr0 F3 (hp_fr.tr0 G3 (hp_fr.tr0 H3 I3)))))))).cs
                    have ad2 := s_addFirm (sa := sa) (f := f + 1) (d := d + 14) I2 (by omega) wN2 (show (C.2.1 ++ [([], N1)]).length < 1000 by rw [List.length_append]; show C.2.1.length + 1 < 1000; omega) (fun z k => by have := (k.2.2.1 N2 (List.mem_append.mpr (Or.inr (List.mem_singleton.mpr rfl)))).2; omega) (fun z k => by
                      have hk := k.2.2.2.1
                      dsimp only at hk
                      have z : 20000 < m_tot (sq_rows (C.2.1 ++ [([], N1)])) + m_tot [] + (m_fl N2).length := z
                      rw [hb3] at z
                      omega)
                    simp only [ho_603 w6, Option.bind_some, hx_3 w6, A1, am_v_some]
                    rw [w_ob A3 6]
                    simp only [ho_603 A2.w, Option.bind_some, hx_3 A2.w, B1, am_v_some]
                    rw [w_ob B3 6]
                    simp only [ho_603 B2.w, Option.bind_some, hx_3 B2.w, C1, am_v_some]
                    rw [w_ob C3 6]
                    simp only [ho_603 C2.w, Option.bind_some, hx_3 C2.w, D1, am_v_some]
                    rw [w_ob D3 6]
                    simp only [ho_603 D2.w, Option.bind_some, hx_3 D2.w, E1, am_v_some]
                    rw [w_ob E3 6]
                    simp only [ho_603 E2.w, Option.bind_some, hx_3 E2.w, F1, am_v_some]
                    rw [w_ob F3 6]
                    simp only [ho_603 F2.w, Option.bind_some, hx_3 F2.w, G1, am_v_some]
                    rw [w_ob G3 6]
                    simp only [ho_603 G2.w, Option.bind_some, hx_3 G2.w, H1, am_v_some]
                    rw [w_ob H3 6]
                    simp only [ho_603 H2.w, Option.bind_some, hx_3 H2.w, I1, am_v_some]
                    rw [w_ob I3 6]
                    simp only [ho_604 I2.w, Option.bind_some, hx_4 I2.w]
                    rcases ad2 with ⟨l1, ρ7, P7, R2, l2, l3, l4, l5⟩ | ⟨l1, ρ7, P7, H7, D7, l2, l3, l4⟩
                    · left
                      obtain ⟨cc1, cc2⟩ := l3.c
                      have hwf' := cc1.y.1.wf
                      have hn' := cc1.y.1.n31
                      have hrs := cc1.2.2.2.2.1
                      have hrows : sq_rows (C.2.1 ++ [([], N1)] ++ [([], N2)]) = sq_rows C.2.1 ++ [N1] ++ [N2] := by
                        rw [sq_rows_ap, sq_rows_ap, sq_rows_1, sq_rows_1]
                        simp
                      have hrs' : ∀ X ∈ sq_rows C.2.1 ++ [N1] ++ [N2], m_wf X ∧ (m_fl X).length ≤ 4000 ∧ m_ht X ≤ 120 := fun X hX => hrs.2 X (by show X ∈ sq_rows (C.2.1 ++ [([], N1)] ++ [([], N2)]); rw [hrows]; exact hX)
                      have eS : ct_S To no' = q_un (q_un (ct_S T n) [N1]) [N2] := by
                        funext t
                        refine propext ⟨cc2 t, fun z => ?_⟩
                        have inr : ∀ X, X ∈ sq_rows C.2.1 ++ [N1] ++ [N2] → ∀ q ∈ m_fl X, q_sub t q.2 → ct_S To no' t := fun X hX q hq hs => q_of_S hrs cc1.2.2.2.2.2.2.2 hwf' hn' ⟨X, by show X ∈ sq_rows (C.2.1 ++ [([], N1)] ++ [([], N2)]); rw [hrows]; exact hX, q, hq, hs⟩
                        rcases z with (z | ⟨X, z1, q, z2, z3⟩) | ⟨X, z1, q, z2, z3⟩
                        · exact z.xt hwf hn xo
                        · exact inr X (by rw [List.mem_singleton.mp z1]; simp) q z2 z3
                        · exact inr X (by rw [List.mem_singleton.mp z1]; simp) q z2 z3
                      have hle : m_tot (sq_rows (C.2.1 ++ [([], N1)] ++ [([], N2)])) ≤ 20000 := (l3.rowsle).2.1
                      rw [hrows, m_tot_ap, m_tot_ap] at hle
                      have t1' : m_tot [N1] = (m_fl N1).length := by unfold m_tot; simp
                      have t2' : m_tot [N2] = (m_fl N2).length := by unfold m_tot; simp
                      have t0 : m_tot [] = 0 := rfl
                      have hlim : lim21 (ct_S T n) (m_tot (sq_rows C.2.1)) N1 N2 := by
                        refine ⟨⟨by show 0 ≤ 60; omega, fun X hX => (hrs' X ?_).2, ?_, ?_⟩, ⟨by show 0 ≤ 60; omega, fun X hX => (hrs' X ?_).2, ?_, ?_⟩⟩
                        · rw [List.nil_append] at hX; rw [List.mem_singleton.mp hX]; simp
                        · dsimp only; omega
                        · refine cc1.y.1.good.mono fun t z => ?_
                          rw [eS]; exact Or.inl z
                        · rw [List.nil_append] at hX; rw [List.mem_singleton.mp hX]; simp
                        · dsimp only; omega
                        · rw [← show ct_S To no' = q_un (q_un (ct_S T n) [N1]) ([] ++ [N2]) from eS]
                          exact cc1.y.1.good
                      refine ⟨old, made, p, vs.length, ρ7, P7, ne, no', To, R1, R2, ⟨s, xx, vs, ej, e2, hsE, hnof, hvs, hvl, htk, by omega, hol.symm, hmd.symm, rfl⟩, ?_, by rw [l2, am_i_some]; exact am_rz_1, ?_, (hp_fr.tr0 fro l4).up (by omega), xo, ?_⟩
                      · rw [hto, hN1, hN2]; exact hlim
                      · rw [hto, hN1, hN2]
                        have : (C.2.1 ++ [(([] : List qM), N1)]).length + 1 = C.2.1.length + 2 := by rw [List.length_append]; rfl
                        unfold c_21 c_new
                        rw [← this]
                        exact cc1
                      · rw [hto, hN1, hN2]; exact eS
                    · rw [l2, am_i_some]
                      refine ref (fun _ => l1) (l3.ug (C := C) (R := R1) (Q := [([], N1)]) (q1 := [vs.length]) (q2 := [qF old made, qF made old]) rfl rfl rfl (fun jj hjj => ?_) rfl rfl rfl (hrsE xo)) (hp_fr.tr0 fro l4) xo
                      show th_add C.2.2.2.1 (C.2.1.length + 1) _ jj = _
                      unfold th_add
                      rw [if_neg (by omega)]
                  · rw [k2, am_i_some, if_neg (fun z => z rfl)]
                    exact ref (fun _ => k1) (k3.ug (C := C) (R := []) (Q := []) (q1 := [vs.length]) (q2 := [qF old made, qF made old]) (List.append_nil _).symm (List.append_nil _).symm rfl (fun _ _ => rfl) rfl rfl rfl (hrsE xe)) (hp_fr.tr0 fre k4) xe
      · rw [if_neg e3]
        refine no fun o m p k ⟨s', xx', vs', b1, b2, b3, _⟩ => e3 ?_
        rw [en_at_inj ej b1, b3, m_c_N]
    · rw [if_neg (fun z => by
        cases hsl : s.1 with
        | nil => exact e2 hsl
        | cons a l =>
          rw [hsl] at z
          exact nI_nle (by simp) (by rw [hsl] at hk20; simp only [List.length_cons] at hk20 ⊢; omega) z)]
      refine no fun o m p k ⟨s', xx', vs', b1, b2, _⟩ => e2 ?_
      rw [en_at_inj ej b1]; exact b2
  · rw [if_pos (bP_n e1)]
    exact no fun o m p k ⟨s', xx', vs', b1, _⟩ => e1 ⟨s', b1⟩
end SPC
