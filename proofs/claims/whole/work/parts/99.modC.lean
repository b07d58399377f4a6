/-! THE REFERENCE, 12: readTerm, constants, applications, abstractions -/
section RC
variable {Z : Prop} {G : qT → Prop} {L : List qM} {sa : Nat → Nat} {B : Nat} {ρ : hp_L} {K K' K0 K1 : kS} {A : sV} {S : qT → Prop} {k fr : Nat} {ws : List Int32}
theorem f_ks {r : Nat} (h : ks_S r = true) : f_S r = false := by
  unfold ks_S at h
  refine decide_eq_false fun z => ?_
  rw [decide_eq_false (by omega), decide_eq_false (by omega), decide_eq_false (by omega)] at h
  exact absurd h (by decide)
theorem f_rr {r : Nat} (h : rr_S r = true) : f_S r = false := by
  unfold rr_S at h
  refine decide_eq_false fun z => ?_
  rw [decide_eq_false (by omega), decide_eq_false (by omega)] at h
  exact absurd h (by decide)
theorem f_dx {P P' : hp_P} (h : mfr f_S P P') : mfr dx_S P P' := h.up fun r hr => by
  have := of_decide_eq_false hr
  exact decide_eq_false (by omega)
theorem kJ.mem (J : kJ S A K0) {v : Int32} {M : qM} (h : nq K0 v M) : (∀ Y, m_sub Y M → Y ∈ K0.2.2.2.1) ∧ (∀ t, q_of [M] t → S t) ∧ m_wf M ∧ m_ht M ≤ 120 ∧ (m_fl M).length ≤ 4000 := by
  obtain ⟨i, -, -, hi⟩ := h
  obtain ⟨c1, c2, -⟩ := J.1.cl i M hi
  have row := J.1.row hi
  refine ⟨c2, fun t ht => ?_, row.2.1, row.2.2.2.2.2.2, row.2.2.2.2.2.1⟩
  rw [← J.2.2.1]; exact c1 t ht
theorem kJ.tyS (J : kJ S A K0) {v : Int32} {M : qM} (h : nq K0 v M) : S (m_ty M) := by
  obtain ⟨i, -, -, hi⟩ := h
  rw [← J.2.2.1]
  exact (J.1.row hi).1.1.S
theorem kI_M {p : Nat} {M : qM} (J : kJ S A K0) : kI Z (q_ad S (m_ty M)) (K0.2.2.2.1 ++ [M]) (kP K0 p false) := kP.I (J.1.to J.b (fun u hu => Or.inl (by rw [← J.2.2.1]; exact hu))) fun z => by cases z
set_option maxHeartbeats 2000000 in
theorem e_3 {f d : Nat} (w : hp_w B ρ) (J : kJ S A K0) (hI : aI S A) (hv : vS ws K0) (h8 : A.2.2.2.2.2.1.length < 8000) (h16 : A.2.2.2.2.2.2.length < 16000) (hfr : fr < ws.length) (hf : 70000 ≤ f) :
    eO sa ρ S A 3 fr (ws.drop fr) K0 (am_call B sa am_dfl am_tb f (d + 40) 155 [.ref (ρ.1 9), .int (nI 3)] (hp_S sa ρ (kP K0 (fr + 1) false).1)) := by
  obtain ⟨f, rfl⟩ : ∃ g, f = g + 1 := ⟨f - 1, by omega⟩
  have h40 := hI.2.2.2.1.2.2.2.1
  have h200 := hI.2.2.2.2.1.2
  have hkm : 3 ∈ [2, 3, 4, 5, 6, 11, 12, 13, 16, 17] := by decide
  have noM : (∀ M, ¬ sp_3 A.2.2.2.2.1 A.2.2.2.2.2.1 (wd (ws.drop fr) 1) (wd (ws.drop fr) 2) M) → Zc S A 3 (ws.drop fr) := by
    rintro z ⟨Lc, S', A', -, -, hE⟩
    obtain ⟨M, m1, -⟩ := kE_M hE (by decide) (by decide)
    rcases m1 with ⟨y, -⟩ | ⟨-, y⟩ | ⟨y, -⟩ | ⟨y, -⟩ | ⟨y, -⟩
    · exact absurd y (by decide)
    · exact z M y
    · exact absurd y (by decide)
    · exact absurd y (by decide)
    · exact absurd y (by decide)
  have noW : ∀ {i : Nat}, i < 3 → (¬ ∃ x, ws[fr + i]? = some x) → Zc S A 3 (ws.drop fr) := by
    rintro i hi z ⟨Lc, S', A', hL, hl, -⟩
    rw [aL_3u hkm h40 hL] at hl
    exact z ⟨_, w_dr' (wd_some (by omega))⟩
  obtain ⟨v1, p1, b1, e1, e2, e3⟩ := k_next (sa := sa) (f := f) (d := d + 37) (b := false) (p := fr + 1) w hv (by omega)
  obtain ⟨v2, p2, b2, h1, h2, h3⟩ := k_nextType (sa := sa) (f := f) (d := d + 36) (b := b1) (p := p1) w hv J.2.1 (by omega) e2
  rw [am_c_155, am_s155_0]
  simp only [hx_9 w, Option.bind_some, e1, h1, am_i_some, am_c_ne, am_c_eq, hg_945 w, kP_45]
  rw [if_pos (show (nI 3 : Int32) ≠ 4 by decide), if_pos (show (nI 3 : Int32) ≠ 5 by decide)]
  rcases e3 with ⟨rfl, -, rfl, g4⟩ | ⟨rfl, g2⟩
  · have g5 := w_dr g4
    rcases h3 with ⟨rfl, -, rfl, y, t, k1, k2, k3⟩ | ⟨rfl, k2⟩
    · rw [if_pos (show bI false = 0 from rfl), if_neg (show ¬ (nI 3 : Int32) ≠ 3 from fun z => z rfl)]
      have k1' : (ws.drop fr)[2]? = some y := w_dr k1
      have l3 : 3 ≤ (ws.drop fr).length := by have := (List.getElem?_eq_some_iff.mp k1').1; omega
      obtain ⟨-, -, -, s1, s2, s3⟩ := J.2.1.1
      let KP : kS := kP K0 (fr + 1 + 1 + 1) false
      have kIP : kI True (ct_S K0.2.2.1 K0.2.1) K0.2.2.2.1 KP := kP.I ((J.1.gd J.b).mono False.elim (fun _ z => z) (fun _ z => z)) fun z => by cases z
      have rIP : rI A KP := kP.r J.2.1 J.1
      have st : ∀ {P' : hp_P}, mfr f_S KP.1 P' → kI True (ct_S K0.2.2.1 K0.2.1) K0.2.2.2.1 (P', KP.2) ∧ rI A (P', KP.2) ∧ kY K0 (P', KP.2) ∧ P'.1 949 = nI (fr + 3) ∧ P'.1 945 = bI false := fun {P'} fr' =>
        ⟨kIP.cg fun r hr => fr'.1 r (f_ks hr), rIP.cg kIP.wf kIP.n31 (fun r hr => fr'.1 r (f_rr hr)) fr'.2 ty_xt.rf ⟨[], (List.append_nil _).symm⟩, ⟨kP.dx.tr (f_dx fr'), rfl, rfl, rfl⟩, (fr'.1 949 rfl).1.trans kP_49, (fr'.1 945 rfl).1.trans kP_45⟩
      have fr1 : mfr f_S KP.1 (hp_sI KP.1 946 0) := mfr.sI rfl
      obtain ⟨q1, q2, q3, q4, q5⟩ := st fr1
      have e15 : (hp_sI (kP K0 (fr + 1 + 1 + 1) false).1 946 0).1 915 = nI A.2.2.2.2.1.length := by rw [hI_ne (by decide)]; exact (kP_1 (by decide) (by decide)).trans s1
      simp only [hs_946 w, Option.bind_some, hg_915 w, e15]
      rw [m_out (by omega), am_i_some]
      simp only [hx_9 w, Option.bind_some]
      have bad : ∀ {P' : hp_P}, mfr f_S KP.1 P' → Zc S A 3 (ws.drop fr) → eO sa ρ S A 3 fr (ws.drop fr) K0 (am_go B sa am_dfl (am_call B sa am_dfl am_tb (f + 1) (d + 39)) am_r155 f 188 [(0, .ref (ρ.1 9)), (1, .int (nI 3)), (2, .int v1), (3, .int v2)] [] (hp_S sa ρ (hp_sI P' 945 1))) := by
        intro P' fr' hZ
        obtain ⟨u1, u2, u3, u4, u5⟩ := st fr'
        obtain ⟨f, rfl⟩ : ∃ g, f = g + 1 := ⟨f - 1, by omega⟩
        rw [am_s155_188]
        simp only [hg_945 w, hI_eq, Option.bind_some, am_c_ne]
        rw [if_pos (by decide)]
        exact eO.bad2 (K1 := (P', KP.2)) hZ u1 u2 u3
      by_cases er : inR v1 A.2.2.2.2.1.length
      · rw [bP_f (fun z => z er), if_neg (fun z => z rfl)]
        obtain ⟨j, j1, rfl⟩ := er
        obtain ⟨o, ho⟩ : ∃ o, A.2.2.2.2.1[j]? = some o := ⟨_, List.getElem?_eq_getElem j1⟩
        have po := s3 j o ho
        have rd : hp_rd (hp_sI (kP K0 (fr + 1 + 1 + 1) false).1 946 0) 916 (nI j) = some ((K0.1.2 916).2 j) := hp_rd_nI (by show j < (K0.1.2 916).1; rw [s2]; omega) (by omega)
        simp only [hr_916 w, hl_916 w, rd, Option.bind_some, hx_9 w]
        obtain ⟨a, a1, a2, a3⟩ := po
        obtain ⟨c, c1, c2, c3⟩ := k3
        have lim := J.1.1.good.1 _ (show ct_S K0.2.2.1 K0.2.1 (ct K0.2.2.1 K0.2.1 (nI a)) from ⟨a, a1, rfl⟩)
        obtain ⟨P2, m1, m2, -⟩ := k_fits (sa := sa) (f := f + 1) (K := KP) q_tk_neg w kIP (J.ar hI) J.2.1.2.2.2.2.2.1 J.2.1.2.2.2.2.2.2.1 (by omega) a c (d + 38) 0 (hp_sI KP.1 946 0) (fun _ => none) a1 c1 fr1 ⟨hI_eq, by decide, fun k hk => absurd hk (Nat.not_lt_zero k), fun _ _ _ _ => rfl⟩ (by have := lim.1; show 0 + q_sz (ct K0.2.2.1 K0.2.1 (nI a)) ≤ 200; omega) (by have := lim.2; show q_ht (ct K0.2.2.1 K0.2.1 (nI a)) ≤ d + 38; omega)
        have m1 : am_call B sa am_dfl am_tb (f + 1) (d + 39) 129 [.ref (ρ.1 9), .int (nI a), .int (nI c)] (hp_S sa ρ (hp_sI (kP K0 (fr + 1 + 1 + 1) false).1 946 0)) = some (some (.int (bI (q_fit o t))), hp_S sa ρ P2) := by
          have eo : ct K0.2.2.1 K0.2.1 (nI a) = o := by rw [← a2]; exact a3
          have et : ct K0.2.2.1 K0.2.1 (nI c) = t := by rw [← c2]; exact c3
          rw [← eo, ← et]
          exact m1
        rw [a2, c2, m1, am_i_some]
        simp only [hx_9 w, Option.bind_some]
        obtain ⟨u1, u2, u3, u4, u5⟩ := st m2
        by_cases fit : q_fit o t = true
        · rw [fit, if_neg (show ¬ bI true = 0 by decide), m_need1 w u5 (by decide), am_i_some]
          have ht : aM A 3 (ws.drop fr) (mN (nI (4 * j + 2)) t .leaf .leaf) := Or.inr (Or.inl ⟨rfl, o, t, by rw [wd_at g5]; exact ⟨j, rfl, by omega, ho⟩, by rw [wd_at k1']; exact k2, fit, by rw [wd_at g5, nm_2]⟩)
          have hlf : m_lf (nI (4 * j + 2)) t := by
            by_cases j0 : j = 0
            · subst j0
              refine ⟨nI_pos' (by omega), fun _ => ?_⟩
              rw [hI.2.2.2.2.1.1] at ho
              rw [← Option.some.inj ho] at fit
              exact q_fit_eqK J.1.wf J.1.n31 (J.ar hI) hI.2.2.2.1.k0 hI.2.2.2.1.k2 ⟨c, c1, c2, c3⟩ fit
            · exact m_lf_n (by omega) (by omega)
          have := e_leaf (B := B) (sa := sa) (f := f + 1) (d := d + 37) (kd := nI 3) (fr := fr) (Lc := 3) (v := nI c) w J hI h16 (by decide) (by decide) (show j < 2 ^ 28 by omega) (Or.inr (Or.inr ⟨rfl, rfl⟩)) hlf ht (aL_3 hkm) l3 u3 u1 rfl u2 u4 ⟨c, c1, rfl, by rw [← c2]; exact c3⟩ (by omega)
          exact this
        · have c' : q_fit o t = false := by cases hq : q_fit o t; rfl; exact absurd hq fit
          rw [c', if_pos (show bI false = 0 from rfl), m_need0 w u5, am_i_some]
          rw [c2] at bad
          refine bad m2 (noM fun M ⟨o', t', z1, z2, z3, z4⟩ => fit ?_)
          rw [wd_at g5] at z1
          rw [wd_at k1'] at z2
          rw [en_at_inj (⟨j, rfl, by omega, ho⟩ : en_at A.2.2.2.2.1 (nI j) o) z1, en_at_inj k2 z2]
          exact z3
      · rw [bP_t er, if_pos (by decide), m_need0 w q5, am_i_some]
        refine bad fr1 (noM fun M ⟨o', t', ⟨j, z1, _, z2⟩, _⟩ => er ?_)
        rw [wd_at g5] at z1
        exact ⟨j, (List.getElem?_eq_some_iff.mp z2).1, z1⟩
    · rw [if_neg (show ¬ bI true = 0 by decide)]
      refine eO.bad1 ?_ J.1 J.2.1
      rintro ⟨Lc, S', A', hL, hl, hE⟩
      rw [aL_3u hkm h40 hL] at hl
      obtain ⟨M, m1, -⟩ := kE_M hE (by decide) (by decide)
      rcases m1 with ⟨y, -⟩ | ⟨-, o, t, z1, z2, -⟩ | ⟨y, -⟩ | ⟨y, -⟩ | ⟨y, -⟩
      · exact absurd y (by decide)
      · exact k2.resolve_left (by decide) ⟨_, t, w_dr' (i := 2) (wd_some (by omega)), z2⟩
      · exact absurd y (by decide)
      · exact absurd y (by decide)
      · exact absurd y (by decide)
  · rcases h3 with ⟨-, z, -⟩ | ⟨rfl, k2⟩
    · cases z
    · rw [if_neg (show ¬ bI true = 0 by decide)]
      exact eO.bad1 (noW (i := 1) (by decide) (g2.resolve_left (by decide))) J.1 J.2.1
set_option maxHeartbeats 2000000 in
theorem e_4 {f d : Nat} (w : hp_w B ρ) (J : kJ S A K0) (hI : aI S A) (hv : vS ws K0) (h16 : A.2.2.2.2.2.2.length < 16000) (hfr : fr < ws.length) (hf : 70000 ≤ f) :
    eO sa ρ S A 4 fr (ws.drop fr) K0 (am_call B sa am_dfl am_tb f (d + 40) 155 [.ref (ρ.1 9), .int (nI 4)] (hp_S sa ρ (kP K0 (fr + 1) false).1)) := by
  obtain ⟨f, rfl⟩ : ∃ g, f = g + 1 := ⟨f - 1, by omega⟩
  have h40 := hI.2.2.2.1.2.2.2.1
  have hkm : 4 ∈ [2, 3, 4, 5, 6, 11, 12, 13, 16, 17] := by decide
  have noM : (3 ≤ (ws.drop fr).length → ∀ M, ¬ sp_4 A.2.2.2.2.2.2 (wd (ws.drop fr) 1) (wd (ws.drop fr) 2) M) → Zc S A 4 (ws.drop fr) := by
    rintro z ⟨Lc, S', A', hL, hl, hE⟩
    rw [aL_3u hkm h40 hL] at hl
    obtain ⟨M, m1, -⟩ := kE_M hE (by decide) (by decide)
    rcases m1 with ⟨y, -⟩ | ⟨y, -⟩ | ⟨-, y⟩ | ⟨y, -⟩ | ⟨y, -⟩
    · exact absurd y (by decide)
    · exact absurd y (by decide)
    · exact z hl M y
    · exact absurd y (by decide)
    · exact absurd y (by decide)
  obtain ⟨v1, p1, b1, e1, e2, e3⟩ := k_nextTerm (sa := sa) (f := f) (d := d + 36) (b := false) (p := fr + 1) w hv J.2.1 (by omega) (by omega)
  obtain ⟨v2, p2, b2, h1, h2, h3⟩ := k_nextTerm (sa := sa) (f := f) (d := d + 36) (b := b1) (p := p1) w hv J.2.1 (by omega) e2
  rw [am_c_155, am_s155_0]
  simp only [hx_9 w, Option.bind_some, e1, h1, am_i_some, am_c_ne, am_c_eq, hg_945 w, kP_45]
  rw [if_neg (show ¬ (nI 4 : Int32) ≠ 4 from fun z => z rfl)]
  rcases e3 with ⟨rfl, -, rfl, x1, F, g4, g5, g6⟩ | ⟨rfl, g2⟩
  · have g4' := w_dr g4
    rcases h3 with ⟨rfl, -, rfl, x2, X, k1, k2, k3⟩ | ⟨rfl, k2⟩
    · rw [if_neg (show ¬ bI false ≠ 0 from fun z => z rfl)]
      have k1' : (ws.drop fr)[2]? = some x2 := w_dr k1
      have l3 : 3 ≤ (ws.drop fr).length := by have := (List.getElem?_eq_some_iff.mp k1').1; omega
      have kIP : kI True (ct_S K0.2.2.1 K0.2.1) K0.2.2.2.1 (kP K0 (fr + 1 + 1 + 1) false) := kP.I ((J.1.gd J.b).mono False.elim (fun _ z => z) (fun _ z => z)) fun z => by cases z
      rw [k_canApply (sa := sa) (f := f) (d := d + 38) (F := F) (X := X) w kIP g6 k3, am_i_some]
      simp only [hx_9 w, Option.bind_some]
      by_cases c : ∃ u, m_ty F = qF (m_ty X) u
      · rw [bP_t c, m_need1 w kP_45 (by decide), am_i_some, if_neg (by decide)]
        simp only [hx_9 w, Option.bind_some]
        obtain ⟨u, hu⟩ := c
        obtain ⟨cF, tF, wF, -⟩ := J.mem g6
        obtain ⟨cX, tX, wX, -⟩ := J.mem k3
        have ht : aM A 4 (ws.drop fr) (mN (-1) u F X) := Or.inr (Or.inr (Or.inl ⟨rfl, F, X, u, by rw [wd_at g4']; exact g5, by rw [wd_at k1']; exact k2, hu, rfl⟩))
        have sF := J.tyS g6
        rw [hu] at sF
        have uok := (hI.2.1 _ sF).F1 hI.2.2.2.1
        have uS : S u := hI.1.1 _ u sF (Or.inr (Or.inr (q_sub_self uok.2.1)))
        have kz' := kz_M J (by decide) (by decide) h16 ht (m_wf_app wF wX hu) (by rw [m_ty_N]; exact uok.2.1) (fun s hs => by
          rcases q_of_1.mp hs with z | z | z
          · exact Or.inr (hI.1.1 u s uS z)
          · exact Or.inr (tF s z)
          · exact Or.inr (tX s z)) (fun Y hY => by
          rcases hY with z | z | z
          · exact Or.inl z
          · exact Or.inr (cF Y z)
          · exact Or.inr (cX Y z))
        have := k_apply (sa := sa) (f := f + 1) (d := d + 36) (F := F) (X := X) (u := u) w kz' (kI_M (p := fr + 3) J) (nq.v (K := kP K0 (fr + 3) false) g6) (nq.v (K := kP K0 (fr + 3) false) k3) hu (List.mem_append.mpr (Or.inr (List.mem_singleton.mpr rfl))) hf
        have h2 := e_keepM (B := B) (f := f) (d := d + 37) (fr := fr) (Lc := 3) w J hI h16 ht (aL_3 hkm) l3 (fun s hs => by
          rcases q_of_1.mp hs with z | z | z
          · exact Or.inr (hI.1.1 u s uS z)
          · exact Or.inr (tF s z)
          · exact Or.inr (tX s z)) this
        exact h2
      · rw [bP_f c, m_need0 w kP_45, am_i_some, if_pos rfl]
        rw [show (1 : Int32) = bI true from rfl, kP_bad]
        refine eO.bad1 (noM fun _ M ⟨F', X', u, z1, z2, z3, z4⟩ => c ⟨u, ?_⟩) J.1 J.2.1
        rw [wd_at g4'] at z1
        rw [wd_at k1'] at z2
        rw [en_at_inj g5 z1, en_at_inj k2 z2]
        exact z3
    · rw [if_pos (show bI true ≠ 0 by decide)]
      refine eO.bad1 (noM fun l3 M ⟨F', X', u, z1, z2, z3, z4⟩ => ?_) J.1 J.2.1
      exact k2.resolve_left (by decide) ⟨_, X', w_dr' (i := 2) (wd_some (by omega)), z2⟩
  · rcases h3 with ⟨-, z, -⟩ | ⟨rfl, k2⟩
    · cases z
    · rw [if_pos (show bI true ≠ 0 by decide)]
      refine eO.bad1 (noM fun l3 M ⟨F', X', u, z1, z2, z3, z4⟩ => ?_) J.1 J.2.1
      exact g2.resolve_left (by decide) ⟨_, F', w_dr' (i := 1) (wd_some (by omega)), z1⟩
set_option maxHeartbeats 2000000 in
theorem e_5 {f d : Nat} (w : hp_w B ρ) (J : kJ S A K0) (hI : aI S A) (hv : vS ws K0) (h8 : A.2.2.2.2.2.1.length < 8000) (h16 : A.2.2.2.2.2.2.length < 16000) (hfr : fr < ws.length) (hf : 70000 ≤ f) :
    eO sa ρ S A 5 fr (ws.drop fr) K0 (am_call B sa am_dfl am_tb f (d + 140) 155 [.ref (ρ.1 9), .int (nI 5)] (hp_S sa ρ (kP K0 (fr + 1) false).1)) := by
  obtain ⟨f, rfl⟩ : ∃ g, f = g + 1 := ⟨f - 1, by omega⟩
  have h40 := hI.2.2.2.1.2.2.2.1
  have hkm : 5 ∈ [2, 3, 4, 5, 6, 11, 12, 13, 16, 17] := by decide
  have noM : (3 ≤ (ws.drop fr).length → ∀ M, ¬ sp_5 A.2.2.2.2.2.1 A.2.2.2.2.2.2 (wd (ws.drop fr) 1) (wd (ws.drop fr) 2) M) → Zc S A 5 (ws.drop fr) := by
    rintro z ⟨Lc, S', A', hL, hl, hE⟩
    rw [aL_3u hkm h40 hL] at hl
    obtain ⟨M, m1, -⟩ := kE_M hE (by decide) (by decide)
    rcases m1 with ⟨y, -⟩ | ⟨y, -⟩ | ⟨y, -⟩ | ⟨-, y⟩ | ⟨y, -⟩
    · exact absurd y (by decide)
    · exact absurd y (by decide)
    · exact absurd y (by decide)
    · exact z hl M y
    · exact absurd y (by decide)
  obtain ⟨v1, p1, b1, e1, e2, e3⟩ := k_nextType (sa := sa) (f := f) (d := d + 136) (b := false) (p := fr + 1) w hv J.2.1 (by omega) (by omega)
  obtain ⟨v2, p2, b2, h1, h2, h3⟩ := k_nextTerm (sa := sa) (f := f) (d := d + 136) (b := b1) (p := p1) w hv J.2.1 (by omega) e2
  rw [am_c_155, am_s155_0]
  simp only [hx_9 w, Option.bind_some, e1, h1, am_i_some, am_c_ne, am_c_eq, hg_945 w, kP_45]
  rw [if_pos (show (nI 5 : Int32) ≠ 4 by decide), if_neg (show ¬ (nI 5 : Int32) ≠ 5 from fun z => z rfl)]
  rcases e3 with ⟨rfl, -, rfl, x1, t, g4, g5, g6⟩ | ⟨rfl, g2⟩
  · have g4' := w_dr g4
    rcases h3 with ⟨rfl, -, rfl, x2, X, k1, k2, k3⟩ | ⟨rfl, k2⟩
    · rw [if_neg (show ¬ bI false ≠ 0 from fun z => z rfl)]
      have k1' : (ws.drop fr)[2]? = some x2 := w_dr k1
      have l3 : 3 ≤ (ws.drop fr).length := by have := (List.getElem?_eq_some_iff.mp k1').1; omega
      obtain ⟨cX, tX, wX, hX, -⟩ := J.mem k3
      have kIP : kI True (ct_S K0.2.2.1 K0.2.1) K0.2.2.2.1 (kP K0 (fr + 1 + 1 + 1) false) := kP.I ((J.1.gd J.b).mono False.elim (fun _ z => z) (fun _ z => z)) fun z => by cases z
      have io := k_isOf (sa := sa) (f := f) (y := v1) (t := t) w kIP g6 X wX 0 (d + 138) v2 k3 (by omega) (by omega)
      have io : am_call B sa am_dfl am_tb (f + 1) (d + 139) 143 [.ref (ρ.1 9), .int v2, .int 0, .int v1] (hp_S sa ρ (kP K0 (fr + 1 + 1 + 1) false).1) = _ := io
      rw [io, am_i_some]
      simp only [hx_9 w, Option.bind_some]
      by_cases c : m_of t X 0
      · rw [bP_t c, m_need1 w kP_45 (by decide), am_i_some, if_neg (by decide)]
        simp only [hx_9 w, Option.bind_some]
        have ht : aM A 5 (ws.drop fr) (mN (-2) (qF t (m_ty X)) X .leaf) := Or.inr (Or.inr (Or.inr (Or.inl ⟨rfl, t, X, by rw [wd_at g4']; exact g5, by rw [wd_at k1']; exact k2, c, rfl⟩)))
        have tS : S t := by rw [← J.2.2.1]; exact g6.S
        have hs : ∀ s, q_of [mN (-2) (qF t (m_ty X)) X .leaf] s → s = m_ty (mN (-2) (qF t (m_ty X)) X .leaf) ∨ S s := fun s hs => by
          rcases q_of_1.mp hs with z | z | z
          · rcases z with z | z | z
            · exact Or.inl z
            · exact Or.inr (hI.1.1 t s tS z)
            · exact Or.inr (hI.1.1 _ s (J.tyS k3) z)
          · exact Or.inr (tX s z)
          · exact absurd z q_of_lf
        have kz' := kz_M J (by decide) (by decide) h16 ht (m_wf_abs wX) (by rw [m_ty_N]; intro z; cases z) hs (fun Y hY => by
          rcases hY with z | z | z
          · exact Or.inl z
          · exact Or.inr (cX Y z)
          · exact z.elim)
        have := k_abs (sa := sa) (f := f + 1) (d := d + 135) (Y := X) (t := t) w kz' (kI_M (p := fr + 3) J) (pl_tv (K := kP K0 (fr + 3) false) g6) (nq.v (K := kP K0 (fr + 3) false) k3) (List.mem_append.mpr (Or.inr (List.mem_singleton.mpr rfl))) hf
        have h2 := e_keepM (B := B) (f := f) (d := d + 137) (fr := fr) (Lc := 3) w J hI h16 ht (aL_3 hkm) l3 hs this
        exact h2
      · rw [bP_f c, m_need0 w kP_45, am_i_some, if_pos rfl]
        rw [show (1 : Int32) = bI true from rfl, kP_bad]
        refine eO.bad1 (noM fun _ M ⟨t', X', z1, z2, z3, z4⟩ => c ?_) J.1 J.2.1
        rw [wd_at g4'] at z1
        rw [wd_at k1'] at z2
        rw [en_at_inj g5 z1, en_at_inj k2 z2]
        exact z3
    · rw [if_pos (show bI true ≠ 0 by decide)]
      refine eO.bad1 (noM fun l3 M ⟨F', X', z1, z2, z3, z4⟩ => ?_) J.1 J.2.1
      exact k2.resolve_left (by decide) ⟨_, X', w_dr' (i := 2) (wd_some (by omega)), z2⟩
  · rcases h3 with ⟨-, z, -⟩ | ⟨rfl, k2⟩
    · cases z
    · rw [if_pos (show bI true ≠ 0 by decide)]
      refine eO.bad1 (noM fun l3 M ⟨F', X', z1, z2, z3, z4⟩ => ?_) J.1 J.2.1
      exact g2.resolve_left (by decide) ⟨_, F', w_dr' (i := 1) (wd_some (by omega)), z1⟩
end RC
