/-! THE REFERENCE, 34: infinity, the step -/
theorem tB.up {h h' : Nat} {p : qM} (a : tB h p) (k : h ≤ h') : tB h' p := ⟨a.1, a.2.1, Nat.le_trans a.2.2 k⟩
theorem e1I_B : tB 20 e1I := ⟨mE_wf (m_wf_app (tN_wf (by decide)) (tN_wf (by decide)) rfl) (m_wf_app (tN_wf (by decide)) (tN_wf (by decide)) rfl) rfl, rfl, by decide⟩
theorem e2I_B : tB 20 e2I := ⟨mE_wf (tN_wf (by decide)) (tN_wf (by decide)) rfl, rfl, by decide⟩
theorem e3I_B : tB 20 e3I := ⟨mE_wf (tN_wf (by decide)) (m_wf_app (tN_wf (by decide)) (tN_wf (by decide)) rfl) rfl, rfl, by decide⟩
theorem alI_B : tB 30 alI := tI_B e1I_B e2I_B (by decide) (by decide)
theorem a1I_B : tB 34 a1I := tL_B (tC_fr (by decide)) alI_B (by decide) (by decide)
theorem oneI_B : tB 38 oneI := tL_B (tC_fr (by decide)) a1I_B (by decide) (by decide)
theorem n3I_B : tB 30 n3I := tK_B e3I_B (by decide) (by decide)
theorem a2I_B : tB 34 a2I := tL_B (tC_fr (by decide)) n3I_B (by decide) (by decide)
theorem othI_B : tB 37 othI := tS_B (tC_fr (by decide)) a2I_B (by decide) (by decide)
theorem andI_B : tB 45 andI := tA_B oneI_B (othI_B.up (by decide)) (by decide) (by decide)
section AXI
variable {Z : Prop} {G : qT → Prop} {L : List qM} {sa : Nat → Nat} {B : Nat} {ρ : hp_L} {K K' K0 : kS} {A : sV} {S : qT → Prop} {fr : Nat} {ws wr : List Int32}
set_option maxHeartbeats 8000000 in
/-- infinite -/
theorem k_inf {f d : Nat} (w : hp_w B ρ) (k : kz Z G L) (h : kI Z G L K) (hL : ∀ X ∈ lX2, X ∈ L) (hf : 70001 ≤ f) : kO Z G L sa ρ K (am_call B sa am_dfl am_tb f (d + 175) 183 [.ref (ρ.1 9)] (hp_S sa ρ K.1)) tX2 := by
  obtain ⟨f, rfl⟩ : ∃ g, f = g + 1 + 1 := ⟨f - 2, by omega⟩
  have at' : ∀ (i : Nat) {X : qM}, [fI', xI', yI', fxI, fyI, e1I, e2I, e3I][i]? = some X → X ∈ L := fun i {X} e => hL X (List.mem_append.mpr (Or.inl (List.mem_of_getElem? e)))
  have r1 : ∀ X ∈ lI e1I e2I ++ (lL (tC 5) q_th alI ++ (lL (tC 4) q_th a1I ++ (lK e3I ++ (lL (tC 4) q_th n3I ++ (lS (tC 5) q_th a2I ++ (lA oneI othI ++ lS (tC 3) qII andI)))))), X ∈ L := fun X hX => hL X (List.mem_append.mpr (Or.inr hX))
  have h1 : ∀ X ∈ lI e1I e2I, X ∈ L := fun X hX => r1 X (List.mem_append.mpr (Or.inl hX))
  have r2 : ∀ X ∈ lL (tC 5) q_th alI ++ (lL (tC 4) q_th a1I ++ (lK e3I ++ (lL (tC 4) q_th n3I ++ (lS (tC 5) q_th a2I ++ (lA oneI othI ++ lS (tC 3) qII andI))))), X ∈ L := fun X hX => r1 X (List.mem_append.mpr (Or.inr hX))
  have h2 : ∀ X ∈ lL (tC 5) q_th alI, X ∈ L := fun X hX => r2 X (List.mem_append.mpr (Or.inl hX))
  have r3 : ∀ X ∈ lL (tC 4) q_th a1I ++ (lK e3I ++ (lL (tC 4) q_th n3I ++ (lS (tC 5) q_th a2I ++ (lA oneI othI ++ lS (tC 3) qII andI)))), X ∈ L := fun X hX => r2 X (List.mem_append.mpr (Or.inr hX))
  have h3 : ∀ X ∈ lL (tC 4) q_th a1I, X ∈ L := fun X hX => r3 X (List.mem_append.mpr (Or.inl hX))
  have r4 : ∀ X ∈ lK e3I ++ (lL (tC 4) q_th n3I ++ (lS (tC 5) q_th a2I ++ (lA oneI othI ++ lS (tC 3) qII andI))), X ∈ L := fun X hX => r3 X (List.mem_append.mpr (Or.inr hX))
  have h4 : ∀ X ∈ lK e3I, X ∈ L := fun X hX => r4 X (List.mem_append.mpr (Or.inl hX))
  have r5 : ∀ X ∈ lL (tC 4) q_th n3I ++ (lS (tC 5) q_th a2I ++ (lA oneI othI ++ lS (tC 3) qII andI)), X ∈ L := fun X hX => r4 X (List.mem_append.mpr (Or.inr hX))
  have h5 : ∀ X ∈ lL (tC 4) q_th n3I, X ∈ L := fun X hX => r5 X (List.mem_append.mpr (Or.inl hX))
  have r6 : ∀ X ∈ lS (tC 5) q_th a2I ++ (lA oneI othI ++ lS (tC 3) qII andI), X ∈ L := fun X hX => r5 X (List.mem_append.mpr (Or.inr hX))
  have h6 : ∀ X ∈ lS (tC 5) q_th a2I, X ∈ L := fun X hX => r6 X (List.mem_append.mpr (Or.inl hX))
  have r7 : ∀ X ∈ lA oneI othI ++ lS (tC 3) qII andI, X ∈ L := fun X hX => r6 X (List.mem_append.mpr (Or.inr hX))
  have h7 : ∀ X ∈ lA oneI othI, X ∈ L := fun X hX => r7 X (List.mem_append.mpr (Or.inl hX))
  have h8 : ∀ X ∈ lS (tC 3) qII andI, X ∈ L := fun X hX => r7 X (List.mem_append.mpr (Or.inr hX))
  have m0 := at' 0 rfl
  have m1 := at' 1 rfl
  have m2 := at' 2 rfl
  have m3 := at' 3 rfl
  have m4 := at' 4 rfl
  have m5 := at' 5 rfl
  have m6 := at' 6 rfl
  have m7 := at' 7 rfl
  have gI := (k.ty m1).1
  have gII := (k.ty m0).1
  have f3 := tC_fr (n := 3) (by decide)
  have f4 := tC_fr (n := 4) (by decide)
  have f5 := tC_fr (n := 5) (by decide)
  rw [am_c_183, am_s183_0]
  simp only [hx_9 w, Option.bind_some]
  obtain ⟨v1, K1, a1, a2, a3⟩ := k_leafT (sa := sa) (f := f + 1 + 1) (d := d + 172) (c := 1) w k h gI (by omega)
  rw [a1, am_i_some]
  simp only [a2.1.bad w, Option.bind_some, am_c_eq]
  have rest : ∀ {K2 : kS} {o : Int32}, kR Z G L K1 K2 → tv K2 o qII → kO Z G L sa ρ K (am_go B sa am_dfl (am_call B sa am_dfl am_tb (f + 1 + 1) (d + 174)) am_r183 (f + 1) 27 [(0, .ref (ρ.1 9)), (1, .int v1)] [.int o, .int 3, .ref (ρ.1 9)] (hp_S sa ρ K2.1)) tX2 := by
    intro K2 o r to
    have R2 := a2.tr r
    have tI2 := a3.go a2.1 r
    rw [am_s183_27]
    simp only [hx_9 w, Option.bind_some]
    obtain ⟨vf, K3, b1, b2, b3⟩ := k_named (sa := sa) (f := f + 1 + 1) (d := d + 170) (n := 3) w k r.1 (by decide) to m0 (by omega)
    have b1 : am_call B sa am_dfl am_tb (f + 1 + 1) (d + 174) 173 [.ref (ρ.1 9), .int 3, .int o] (hp_S sa ρ K2.1) = _ := b1
    rw [b1, am_i_some]
    simp only [hx_9 w, Option.bind_some]
    have tI3 := tI2.go r.1 b2
    obtain ⟨vx, K4, c1, c2, c3⟩ := k_named (sa := sa) (f := f + 1 + 1) (d := d + 170) (n := 4) w k b2.1 (by decide) tI3 m1 (by omega)
    have c1 : am_call B sa am_dfl am_tb (f + 1 + 1) (d + 174) 173 [.ref (ρ.1 9), .int 4, .int v1] (hp_S sa ρ K3.1) = _ := c1
    rw [c1, am_i_some]
    simp only [hx_9 w, Option.bind_some]
    obtain ⟨vy, K5, d1, d2, d3⟩ := k_named (sa := sa) (f := f + 1 + 1) (d := d + 170) (n := 5) w k c2.1 (by decide) (tI3.go b2.1 c2) m2 (by omega)
    have d1 : am_call B sa am_dfl am_tb (f + 1 + 1) (d + 174) 173 [.ref (ρ.1 9), .int 5, .int v1] (hp_S sa ρ K4.1) = _ := d1
    rw [d1, am_i_some]
    simp only [d2.1.bad w, Option.bind_some, am_c_eq]
    have R5 := ((R2.tr b2).tr c2).tr d2
    have F5 := (b3.go c2).go d2
    have X5 := c3.go d2
    rcases bI_cases K5.2.2.2.2 with ⟨eb, e⟩ | ⟨eb, e⟩
    · rw [e, if_pos rfl]
      simp only [hx_9 w, Option.bind_some]
      obtain ⟨vfx, K6, e1, e2, e3⟩ := k_apply (sa := sa) (f := f + 1 + 1) (d := d + 171) w k R5.1 F5 X5 (u := q_th) rfl m3 (by omega)
      rw [e1, am_i_some]
      simp only [hx_9 w, Option.bind_some]
      have Y6 := d3.go e2
      have X6 := X5.go e2
      have F6 := F5.go e2
      obtain ⟨vfy, K7, g1, g2, g3⟩ := k_apply (sa := sa) (f := f + 1 + 1) (d := d + 171) w k e2.1 F6 Y6 (u := q_th) rfl m4 (by omega)
      rw [g1, am_i_some]
      simp only [hx_9 w, Option.bind_some]
      obtain ⟨ve1, K8, i1, i2, i3⟩ := k_equation (sa := sa) (f := f + 1 + 1) (d := d + 170) w k g2.1 (e3.go g2) g3 rfl m5 (by omega)
      rw [i1, am_i_some]
      simp only [hx_9 w, Option.bind_some]
      have R68 := (e2.tr g2).tr i2
      have X8 := X5.go R68
      have Y8 := d3.go R68
      have F8 := F5.go R68
      have FX8 := (e3.go g2).go i2
      obtain ⟨ve2, K9, j1, j2, j3⟩ := k_equation (sa := sa) (f := f + 1 + 1) (d := d + 170) w k i2.1 X8 Y8 rfl m6 (by omega)
      rw [j1, am_i_some]
      simp only [hx_9 w, Option.bind_some]
      obtain ⟨val, K10, l1, l2, l3⟩ := k_imp (sa := sa) (f := f + 1 + 1) (d := d + 3) w k j2.1 (e1I_B.up (by decide)) (e2I_B.up (by decide)) (i3.go j2) j3 h1 (by omega)
      rw [l1, am_i_some]
      simp only [hx_9 w, Option.bind_some]
      have R810 := j2.tr l2
      obtain ⟨va1, K11, n1, n2, n3⟩ := k_all (sa := sa) (f := f + 1 + 1) (d := d + 4) f5 w k l2.1 (alI_B.up (by decide)) (Y8.go R810) l3 h2 (by omega)
      rw [n1, am_i_some]
      simp only [hx_9 w, Option.bind_some]
      have R811 := R810.tr n2
      obtain ⟨vone, K12, o1, o2, o3⟩ := k_all (sa := sa) (f := f + 1 + 1) (d := d + 4) f4 w k n2.1 (a1I_B.up (by decide)) (X8.go R811) n3 h3 (by omega)
      rw [o1, am_i_some]
      simp only [hx_9 w, Option.bind_some]
      have R812 := R811.tr o2
      obtain ⟨ve3, K13, p1, p2, p3⟩ := k_equation (sa := sa) (f := f + 1 + 1) (d := d + 170) w k o2.1 (Y8.go R812) (FX8.go R812) rfl m7 (by omega)
      rw [p1, am_i_some]
      simp only [hx_9 w, Option.bind_some]
      obtain ⟨vn3, K14, q1, q2, q3⟩ := k_not (sa := sa) (f := f + 1 + 1) (d := d + 2) w k p2.1 (e3I_B.up (by decide)) p3 h4 (by omega)
      rw [q1, am_i_some]
      simp only [hx_9 w, Option.bind_some]
      have R814 := (R812.tr p2).tr q2
      obtain ⟨va2, K15, s1, s2, s3⟩ := k_all (sa := sa) (f := f + 1 + 1) (d := d + 4) f4 w k q2.1 (n3I_B.up (by decide)) (X8.go R814) q3 h5 (by omega)
      rw [s1, am_i_some]
      simp only [hx_9 w, Option.bind_some]
      have R815 := R814.tr s2
      obtain ⟨vo, K16, t1, t2, t3⟩ := k_some (sa := sa) (f := f + 1 + 1) (d := d + 4) f5 w k s2.1 (a2I_B.up (by decide)) (by intro z; cases z) (Y8.go R815) s3 h6 (by omega)
      rw [t1, am_i_some]
      simp only [hx_9 w, Option.bind_some]
      have R816 := R815.tr t2
      have one16 := (((o3.go p2).go q2).go s2).go t2
      obtain ⟨vc, K17, u1, u2, u3⟩ := k_and (sa := sa) (f := f + 1 + 1) (d := d + 4) w k t2.1 (oneI_B.up (by decide)) (othI_B.up (by decide)) one16 t3 h7 (by omega)
      rw [u1, am_i_some]
      simp only [hx_9 w, Option.bind_some]
      obtain ⟨vz, K18, x1, x2, x3⟩ := k_some (sa := sa) (f := f + 1 + 1) (d := d + 4) f3 w k u2.1 (andI_B.up (by decide)) (by intro z; cases z) (F8.go (R816.tr u2)) u3 h8 (by omega)
      rw [x1, am_i_some]
      exact ⟨vz, K18, rfl, (((R5.tr R68).tr R816).tr u2).tr x2, x3⟩
    · rw [e, if_neg (by decide)]
      exact ⟨0, K5, rfl, R5, nv_0 eb⟩
  rcases bI_cases K1.2.2.2.2 with ⟨eb, e⟩ | ⟨eb, e⟩
  · rw [e, if_pos rfl]
    simp only [hx_9 w, Option.bind_some]
    obtain ⟨v3, K2, c1, c2, c3⟩ := k_fun (sa := sa) (f := f + 1 + 1) (d := d + 171) w k a2.1 (a3.pl eb) (a3.pl eb) gII (by omega)
    rw [c1, am_i_some]
    exact rest c2 c3
  · rw [e, if_neg (by decide)]
    exact rest (kR.rf a2.1) (tv_0 eb)
set_option maxHeartbeats 4000000 in
theorem e_22 {f d : Nat} (w : hp_w B ρ) (J : kJ S A K0) (hI : aI S A) (hv : vS ws K0) (hs : A.1.length < 1000) (h8 : A.2.2.2.2.2.1.length < 8000) (h16 : A.2.2.2.2.2.2.length < 16000) (hfr : fr < ws.length) (hf : 80000 ≤ f) :
    eO sa ρ S A 22 fr (ws.drop fr) K0 (am_call B sa am_dfl am_tb f (d + 200) 162 [.ref (ρ.1 9), .int (nI 22)] (hp_S sa ρ (kP K0 (fr + 1) false).1)) := by
  obtain ⟨f, rfl⟩ : ∃ g, f = g + 1 := ⟨f - 1, by omega⟩
  obtain ⟨v1, p1, b1, e1, e2, e3⟩ := k_next (sa := sa) (f := f) (d := d + 197) (b := false) (p := fr + 1) w hv (by omega)
  rw [am_c_162, am_s162_0, if_neg (by decide), if_neg (by decide), if_neg (by decide), if_neg (by decide), if_neg (by decide), if_neg (by decide), if_neg (by decide), if_neg (by decide), if_neg (by decide), if_neg (by decide), if_neg (by decide), if_neg (by decide)]
  simp only [hx_9 w, Option.bind_some, e1, am_i_some]
  refine eO.v ?_
  rw [am_c_184, am_s184_0]
  simp only [hg_945 w, kP_45, Option.bind_some, am_c_ne]
  have noN : ∀ N, aQ A 22 (ws.drop fr) N → sp_22 (wd (ws.drop fr) 1) N := by
    intro N hN
    rcases hN with ⟨z, -⟩ | ⟨z, -⟩ | ⟨z, -⟩ | ⟨z, -⟩ | ⟨z, -⟩ | ⟨z, -⟩ | ⟨z, -⟩ | ⟨z, -⟩ | ⟨z, -⟩ | ⟨z, -⟩ | ⟨-, z⟩ <;> first | exact z | exact absurd z (by decide)
  rcases e3 with ⟨rfl, -, rfl, g4⟩ | ⟨rfl, g2⟩
  · rw [if_neg (show ¬ bI false ≠ 0 from fun z => z rfl)]
    have g4' := w_dr g4
    have l2 : 2 ≤ (ws.drop fr).length := by have := (List.getElem?_eq_some_iff.mp g4').1; omega
    have mo : ∀ σ, am_call B sa am_dfl am_tb (f + 1) (d + 198) 123 [.int v1, .int 3] σ = some (some (.int (bP (¬ inR v1 3))), σ) := fun σ => m_out (k := 3) (by decide)
    rw [mo, am_i_some]
    simp only [hx_9 w, Option.bind_some]
    by_cases er : inR v1 3
    · rw [bP_f (fun z => z er), if_neg (fun z => z rfl), m_need1 w kP_45 (by decide), am_i_some, if_pos (by decide)]
      obtain ⟨k, hk, rfl⟩ := er
      obtain ⟨b', -, wM, -, -⟩ := ax_ok hk
      have hQ : aQ A 22 (ws.drop fr) ([], ax_M k) := Or.inr (Or.inr (Or.inr (Or.inr (Or.inr (Or.inr (Or.inr (Or.inr (Or.inr (Or.inr ⟨rfl, k, hk, by rw [wd_at g4'], rfl⟩)))))))))
      have kz' := kz_ax hk J hI h16 hQ
      obtain ⟨K1, a1, a2, a3, -⟩ := d_open (sa := sa) (f := f) (d := d + 196) (K := kP K0 (fr + 2) false) w (kI_Q (Z := Zc S A 22 (ws.drop fr)) (rows := [] ++ [ax_M k]) (Q := ([] ++ [ax_M k]).flatMap m_subs ++ ax_x k) J) (kP.r J.2.1 J.1) hs
      have a1 : am_call B sa am_dfl am_tb (f + 1) (d + 198) 158 [.ref (ρ.1 9)] (hp_S sa ρ (kP K0 (fr + 1 + 1) false).1) = _ := a1
      simp only [hx_9 w, Option.bind_some]
      rw [a1, am_v_some]
      have ql : (([] ++ [ax_M k]).flatMap m_subs ++ ax_x k).length ≤ 2 * m_tot ([] ++ [ax_M k]) := by
        have h := of_decide_eq_true (ax_c hk).2.1
        rw [← (ax_rM hk).1] at h
        rw [List.length_append, m_subs_tot]
        have e : m_tot ([] ++ [ax_M k]) = (m_fl (ax_M k)).length + 0 := rfl
        omega
      have fin : ∀ {x : Option (Option Value × am_S)}, kO (Zc S A 22 (ws.drop fr)) (q_un S ([] ++ [ax_M k])) (K0.2.2.2.1 ++ (([] ++ [ax_M k]).flatMap m_subs ++ ax_x k)) sa ρ K1 x (ax_M k) → eO sa ρ S A 22 fr (ws.drop fr) K0 (am_i x fun v9 g9 => (am_obj g9 (ρ.1 9) 9).bind fun _ => am_v (am_call B sa am_dfl am_tb (f + 1) (d + 198) 159 [.ref (ρ.1 9), .int v9, .int 22] g9) fun g10 => some (none, g10)) := by
        rintro x ⟨v, K2, b1, b2, b3⟩
        rw [b1, am_i_some]
        simp only [hx_9 w, Option.bind_some]
        exact q_end (B := B) (sa := sa) (f := f + 1) (d := d + 196) (fr := fr) (Lc := 2) (st := 22) w J hs h8 h16 hQ (aL_2 (by decide)) l2 (by decide) ql (a2.go b2) (a3.tr b2.D) b3 (by omega)
      have eX := (ax_rM hk)
      have e012 : k = 0 ∨ k = 1 ∨ k = 2 := by omega
      rcases e012 with rfl | rfl | rfl
      · rw [if_neg (show ¬ (nI 0 : Int32) ≠ 0 from fun z => z rfl)]
        simp only [hx_9 w, Option.bind_some]
        have := k_ext (sa := sa) (f := f + 1) (d := d + 23) w kz' a2.1 (fun X hX => ax_l_in hk hX) (by omega)
        rw [show tX0 = ax_M 0 from eX.2.trans eX.1.symm] at this
        exact fin this
      · rw [if_pos (show (nI 1 : Int32) ≠ 0 by decide), if_neg (show ¬ (nI 1 : Int32) ≠ 1 from fun z => z rfl)]
        simp only [hx_9 w, Option.bind_some]
        have := k_chosen (sa := sa) (f := f + 1) (d := d + 23) w kz' a2.1 (fun X hX => ax_l_in hk hX) (by omega)
        rw [show tX1 = ax_M 1 from eX.2.trans eX.1.symm] at this
        exact fin this
      · rw [if_pos (show (nI 2 : Int32) ≠ 0 by decide), if_pos (show (nI 2 : Int32) ≠ 1 by decide)]
        simp only [hx_9 w, Option.bind_some]
        have := k_inf (sa := sa) (f := f + 1) (d := d + 23) w kz' a2.1 (fun X hX => ax_l_in hk hX) (by omega)
        rw [show tX2 = ax_M 2 from eX.2.trans eX.1.symm] at this
        exact fin this
    · rw [bP_t er, if_pos (by decide), m_need0 w kP_45, am_i_some, if_neg (fun z => z rfl), show (1 : Int32) = bI true from rfl, kP_bad]
      refine eO.bad1 (noQ (by decide) (by decide) (by decide) fun Lc hL hl N hN => er ?_) J.1 J.2.1
      obtain ⟨k, k1, k2, -⟩ := noN N hN
      rw [wd_at g4'] at k2
      exact ⟨k, k1, k2⟩
  · rw [if_pos (show bI true ≠ 0 by decide)]
    refine eO.bad1 (noQ (by decide) (by decide) (by decide) fun Lc hL hl N hN => ?_) J.1 J.2.1
    have := aL_ge hL
    exact g2.resolve_left (by decide) ⟨_, w_dr' (i := 1) (wd_some (by omega))⟩
end AXI
