/-! THE REFERENCE, 25: define -/
section DF
variable {Z : Prop} {G : qT → Prop} {L : List qM} {sa : Nat → Nat} {B : Nat} {ρ : hp_L} {K K' K0 K1 : kS} {P : hp_P} {vs : List Int32} {A : sV} {S : qT → Prop} {k fr : Nat} {ws wr : List Int32} {H : List qM} {M : qM}
theorem vs_eq {vs1 vs2 : List Int32} {V1 V2 : Int32 → Prop} (h1 : nO [] vs1 V1) (h2 : nO [] vs2 V2) (p1 : vs1.Pairwise (fun a b => b < a)) (p2 : vs2.Pairwise (fun a b => b < a)) (l2 : vs2.length < 250) (h12 : ∀ c, V2 c → V1 c) : vs1.length = vs2.length ↔ ∀ c, V1 c → V2 c := by
  have e2 : ∀ c, c ∈ vs2 ↔ V2 c := fun c => ⟨fun z => (h2.2.1 c z).resolve_left List.not_mem_nil, fun z => h2.2.2.elim (fun q => q c z) fun q => by omega⟩
  have m1 : ∀ c, c ∈ vs1 → V1 c := fun c z => (h1.2.1 c z).resolve_left List.not_mem_nil
  constructor
  · intro e
    have e1 : ∀ c, V1 c → c ∈ vs1 := fun c z => h1.2.2.elim (fun q => q c z) fun q => by omega
    intro c hc
    rw [← e2]
    by_cases z : c ∈ vs2
    · exact z
    · exfalso
      have := nodup_sub (a := c :: vs2) (l := vs1) (List.nodup_cons.mpr ⟨z, vs_nd p2⟩) (fun x hx => by
        rcases List.mem_cons.mp hx with y | y
        · rw [y]; exact e1 c hc
        · exact e1 x (h12 x ((e2 x).mp y)))
      rw [List.length_cons] at this
      omega
  · intro h
    have a := nodup_sub (vs_nd p1) (fun x hx => (e2 x).mpr (h x (m1 x hx)))
    have e1 : ∀ c, V1 c → c ∈ vs1 := fun c z => h1.2.2.elim (fun q => q c z) fun q => by omega
    have b := nodup_sub (vs_nd p2) (fun x hx => e1 x (h12 x ((e2 x).mp hx)))
    omega
theorem kE_20 {S' : qT → Prop} {A' : sV} (h : aE S A 20 wr S' A') : ∃ N, sp_20 A.2.2.2.2.2.2 A.2.2.2.2.1 (wd wr 1) N ∧ sq_lim S (m_tot (sq_rows A.1)) N ∧ S' = q_un S (N.1 ++ [N.2]) ∧ A' = a_new A (A.1.length + 1) S' [N] [] [m_ty (m_r N.2)] := by
  rcases h with ⟨t, h1, -⟩ | ⟨M, h1, -⟩ | ⟨N, h1, -⟩ | ⟨-, h⟩ | ⟨h, -⟩
  · have := aT_k h1; omega
  · have := aM_k h1; omega
  · have := aQ_k h1; omega
  · exact h
  · exact absurd h (by decide)
theorem oI_0 (P : hp_P) : oI K (hp_sI P 951 0) [] := ⟨hI_eq, by decide, List.Pairwise.nil, fun i c hc => by cases hc⟩
set_option maxHeartbeats 8000000 in
theorem e_20 {f d : Nat} (w : hp_w B ρ) (J : kJ S A K0) (hI : aI S A) (hv : vS ws K0) (hs : A.1.length < 1000) (h8 : A.2.2.2.2.2.1.length < 8000) (h16 : A.2.2.2.2.2.2.length < 16000) (hfr : fr < ws.length) (hf : 70000 ≤ f) :
    eO sa ρ S A 20 fr (ws.drop fr) K0 (am_call B sa am_dfl am_tb f (d + 200) 162 [.ref (ρ.1 9), .int (nI 20)] (hp_S sa ρ (kP K0 (fr + 1) false).1)) := by
  obtain ⟨f, rfl⟩ : ∃ g, f = g + 1 + 1 := ⟨f - 2, by omega⟩
  have h200 := hI.2.2.2.2.1.2
  obtain ⟨v1, p1, b1, e1, e2, e3⟩ := k_nextClosed (sa := sa) (f := f + 1) (d := d + 195) (b := false) (p := fr + 1) w hv J.1 J.2.1 (by omega) (by omega)
  rw [am_c_162, am_s162_0, if_neg (by decide), if_neg (by decide), if_neg (by decide), if_neg (by decide), if_neg (by decide), if_neg (by decide), if_neg (by decide), if_neg (by decide), if_neg (by decide), if_neg (by decide), if_pos (show Int32.toInt (nI 20) = 20 by decide)]
  simp only [hx_9 w, Option.bind_some, e1, am_i_some]
  refine eO.v ?_
  rw [am_c_163, am_s163_0]
  simp only [hg_945 w, kP_45, Option.bind_some, am_c_eq, am_c_ne]
  rcases e3 with ⟨rfl, -, rfl, x, t, g4, g5, g6, g7⟩ | ⟨rfl, g2⟩
  · rw [if_pos (show bI false = 0 from rfl)]
    have g4' := w_dr g4
    have l2 : 2 ≤ (ws.drop fr).length := by have := (List.getElem?_eq_some_iff.mp g4').1; omega
    simp only [hx_9 w, Option.bind_some]
    have wt := g7.wf J.1
    have har := J.ar hI
    have t120 := (J.mem g7).2.2.2.1
    have noN : ¬ (A.2.2.2.2.1.length < 200 ∧ (∀ s ∈ m_fl t, ¬ q_fr s.1) ∧ ∀ c, vs_in (m_fl t) c → q_sub (q_vr c) (m_ty t)) → Zc S A 20 (ws.drop fr) := by
      rintro z ⟨Lc, S', A', -, -, hE⟩
      obtain ⟨N, ⟨M, y1, y2, y3, y4, y5, -⟩, -⟩ := kE_20 hE
      rw [wd_at g4'] at y1
      obtain rfl := en_at_inj g5 y1
      exact z ⟨y3, y4, y5⟩
    -- what define does, up to its tests
    have main : ∀ {Z : Prop} {G : qT → Prop} {L : List qM} {K1 : kS}, kI Z G L K1 → rI A K1 → K1.2 = (kP K0 (fr + 2) false).2 → mfr dx_S K0.1 K1.1 → (∀ {P4 : hp_P}, mfr o_S K1.1 P4 → A.2.2.2.2.1.length < 200 ∧ (∀ s ∈ m_fl t, ¬ q_fr s.1) ∧ (∀ c, vs_in (m_fl t) c → q_sub (q_vr c) (m_ty t)) → eO sa ρ S A 20 fr (ws.drop fr) K0 ((am_geti (hp_S sa ρ P4) (ρ.1 9) 9 15).bind fun v24 => (am_getr (hp_S sa ρ P4) (ρ.1 9) 9 21).bind fun p25 => (am_iald (hp_S sa ρ P4) p25 v1).bind fun v26 => (am_obj (hp_S sa ρ P4) (ρ.1 9) 9).bind fun _ => am_i (am_call B sa am_dfl am_tb (f + 1 + 1) (d + 197) 133 [.ref (ρ.1 9), .int v24, .int v26] (hp_S sa ρ P4)) fun v27 g27 => (am_obj g27 (ρ.1 9) 9).bind fun _ => am_i (am_call B sa am_dfl am_tb (f + 1 + 1) (d + 197) 144 [.ref (ρ.1 9), .int v27, .int v1] g27) fun v28 g28 => (am_obj g28 (ρ.1 9) 9).bind fun _ => am_v (am_call B sa am_dfl am_tb (f + 1 + 1) (d + 197) 159 [.ref (ρ.1 9), .int v28, .int 20] g28) fun g29 => (am_geti g29 (ρ.1 9) 9 45).bind fun v30 => if v30 = 0 then ((am_getr g29 (ρ.1 9) 9 16).bind fun p31 => (am_geti g29 (ρ.1 9) 9 15).bind fun v32 => (am_getr g29 (ρ.1 9) 9 21).bind fun p33 => (am_iald g29 p33 v1).bind fun v34 => (am_iast B g29 p31 v32 v34).bind fun g35 => (am_geti g35 (ρ.1 9) 9 15).bind fun v36 => (am_put B g35 (ρ.1 9) 9 15 (.int (v36 + 1))).bind fun g37 => some (none, g37)) else (some (none, g29)))) → eO sa ρ S A 20 fr (ws.drop fr) K0 (am_call B sa am_dfl am_tb (f + 1 + 1) (d + 198) 171 [.ref (ρ.1 9), .int v1] (hp_S sa ρ K1.1)) := by
      intro Z G L K1 kI1 rI1 eK dx1 good
      have eb1 : K1.2.2.2.2 = false := by rw [eK]; rfl
      have nE : K1.2.1 = K0.2.1 ∧ K1.2.2.1 = K0.2.2.1 ∧ K1.2.2.2.1 = K0.2.2.2.1 := ⟨by rw [eK]; rfl, by rw [eK]; rfl, by rw [eK]; rfl⟩
      have q1 : nq K1 v1 t := by unfold nq; rw [nE.2.2]; exact g7
      have har1 : ty_ar (q_tk A.2.2.2.1) K1.2.2.1 K1.2.1 := by rw [nE.1, nE.2.1]; exact har
      have l52 := rI1.2.2.2.2.2.2.2.2
      have h45 := kI1.2.2.1
      rw [eb1] at h45
      have bad : ∀ {P' : hp_P}, mfr o_S K1.1 P' → Zc S A 20 (ws.drop fr) → eO sa ρ S A 20 fr (ws.drop fr) K0 (some (none, hp_S sa ρ (hp_sI P' 945 1))) := by
        intro P' fr' hZ
        have k' := kI1.o fr'
        have r' : rI A (P', K1.2) := rI1.cg kI1.wf kI1.n31 (fun r hr => fr'.1 r (o_rr hr)) fr'.2 ty_xt.rf ⟨[], (List.append_nil _).symm⟩
        exact eO.bad2 (K1 := (P', K1.2)) hZ k' r' ⟨dx1.tr (o_dx fr'), nE.1, nE.2.1, nE.2.2⟩
      rw [am_c_171, am_s171_0]
      simp only [hs_951 w, Option.bind_some, hx_9 w]
      have f1 : mfr o_S K1.1 (hp_sI K1.1 951 0) := mfr.sI rfl
      obtain ⟨P2, vs1, a1, a2, a3, a4⟩ := k_noteAll (sa := sa) (f := f + 1 + 1) q_tk_neg w kI1 har1 l52 (by omega) t wt (d + 167) (hp_sI K1.1 951 0) [] v1 q1 f1 (oI_0 _) (by omega)
      rw [a1, am_i_some]
      have e15 : P2.1 915 = nI A.2.2.2.2.1.length := (a2.1 915 rfl).1.trans rI1.1.2.2.2.1
      have e45 : P2.1 945 = bI false := (a2.1 945 rfl).1.trans h45
      simp only [hg_915 w, e15, Option.bind_some, am_c_ge, am_c_eq]
      have bad29 : Zc S A 20 (ws.drop fr) → eO sa ρ S A 20 fr (ws.drop fr) K0 (am_go B sa am_dfl (am_call B sa am_dfl am_tb (f + 1 + 1) (d + 197)) am_r171 (f + 1) 29 [(0, .ref (ρ.1 9)), (1, .int v1)] [.int 0, .ref (ρ.1 9)] (hp_S sa ρ P2)) := by
        intro hZ
        rw [am_s171_29]
        simp only [hx_9 w, Option.bind_some]
        rw [m_need0 w e45, am_i_some]
        simp only [am_c_ne]
        rw [if_neg (fun z => z rfl)]
        exact bad a2 hZ
      by_cases cF : ∀ s ∈ m_fl t, ¬ q_fr s.1
      · rw [bP_t cF, if_neg (by decide)]
        by_cases cO : A.2.2.2.2.1.length < 200
        · rw [if_neg (show ¬ (200 : Int32) ≤ nI A.2.2.2.2.1.length from nI_ge (b := 200) cO (by decide)), am_s171_29]
          simp only [hx_9 w, Option.bind_some]
          rw [m_need1 w e45 (by decide), am_i_some]
          simp only [am_c_ne]
          rw [if_pos (by decide)]
          have e51 : P2.1 951 = nI vs1.length := a3.1
          simp only [hg_951 w, e51, Option.bind_some, hs_951 w]
          have f3 : mfr o_S K1.1 (hp_sI P2 951 0) := a2.tr (mfr.sI rfl)
          obtain ⟨s, s1, s2⟩ := (kI1.o f3).rdt (show nq (hp_sI P2 951 0, K1.2) v1 t from q1)
          have s1 : hp_rd (hp_sI P2 951 0) 921 v1 = some s := s1
          have s2 : pl K1.2.1 K1.2.2.1 s (m_ty t) := s2
          simp only [hr_921 w, hl_921 w, s1, Option.bind_some, hx_9 w]
          have ht24 := q_ht_le kI1 s2.S
          have hz200 := (kI1.1.good.1 _ s2.S).1
          obtain ⟨a, aa1, rfl, aa3⟩ := s2
          obtain ⟨P4, vs2, b1, b2, b3, b4⟩ := k_noteT (sa := sa) (f := f + 1 + 1) q_tk_neg w kI1 har1 l52 (by omega) a (d + 196) (hp_sI P2 951 0) [] aa1 f3 (oI_0 _) (by rw [aa3]; omega)
          rw [aa3] at b4
          rw [b1, am_v_some]
          have e51' : P4.1 951 = nI vs2.length := b3.1
          have e45' : P4.1 945 = bI false := (b2.1 945 rfl).1.trans h45
          simp only [hg_951 w, e51', Option.bind_some, hx_9 w]
          have le2 : vs2.length < 250 := by
            have := vs_le (u := m_ty t) b3.2.2.1 (fun c hc => ((b4.2.1 c hc).resolve_left List.not_mem_nil).2)
            omega
          have key := vs_eq a4 b4 a3.2.2.1 b3.2.2.1 le2 (fun c hc => by
            obtain ⟨c', R, e⟩ := m_fl_hd wt
            exact ⟨hc.1, (c', m_ty t), by rw [e]; exact List.mem_cons_self, hc.2⟩)
          have lv := a3.2.1
          by_cases cV : vs1.length = vs2.length
          · rw [if_neg (fun z => z (by rw [cV])), m_need1 w e45' (by decide), am_i_some, if_pos (by decide)]
            have := good b2 ⟨cO, cF, fun c hc => (key.mp cV c hc).2⟩
            simp only [hx_9 w, Option.bind_some, am_c_eq] at this ⊢
            exact this
          · rw [if_pos (fun z => cV ((nI_eq (by omega) (by omega)).mp z)), m_need0 w e45', am_i_some, if_neg (fun z => z rfl)]
            exact bad b2 (noN fun z => cV (key.mpr fun c hc => ⟨hc.1, z.2.2 c hc⟩))
        · rw [if_pos (show (200 : Int32) ≤ nI A.2.2.2.2.1.length from nI_le (a := 200) (by omega) (by omega))]
          exact bad29 (noN fun z => cO z.1)
      · rw [bP_f cF, if_pos rfl]
        exact bad29 (noN fun z => cF z.2.1)
    by_cases cC : A.2.2.2.2.1.length < 200 ∧ (∀ s ∈ m_fl t, ¬ q_fr s.1) ∧ ∀ c, vs_in (m_fl t) c → q_sub (q_vr c) (m_ty t)
    · let X : qM := mN (nI (4 * A.2.2.2.2.1.length + 2)) (m_ty t) .leaf .leaf
      have hol := hI.2.2.2.2.1.1
      have ol : 1 ≤ A.2.2.2.2.1.length := by have := (List.getElem?_eq_some_iff.mp hol).1; omega
      have h20 : sp_20 A.2.2.2.2.2.2 A.2.2.2.2.1 (wd (ws.drop fr) 1) ([], mE X t) := ⟨t, by rw [wd_at g4']; exact g5, g6, cC.1, cC.2.1, cC.2.2, by rw [nm_2]⟩
      have wX : m_wf X := m_wf_lf (m_lf_n (by omega) (by omega))
      have wM : m_wf (mE X t) := mE_wf wX wt (by rw [m_ty_N])
      have okt := (hI.2.2.2.2.2.2.1 t (en_mem g5)).2
      have okT := okt.ty wt
      have okX : m_ok A.2.2.2.1 X := m_ok_N.mpr ⟨okT, m_ok_lf, m_ok_lf⟩
      have okM : m_ok A.2.2.2.1 (mE X t) := m_ok_E hI.2.2.2.1 okX okt (by rw [m_ty_N]; exact okT)
      have key : ¬ sq_lim S (m_tot (sq_rows A.1)) ([], mE X t) → Zc S A 20 (ws.drop fr) := by
        rintro z ⟨Lc, S', A', -, -, hE⟩
        obtain ⟨N, y1, y2, -⟩ := kE_20 hE
        rw [sp_20_inj y1 h20] at y2
        exact z y2
      have kz' : kz (Zc S A 20 (ws.drop fr)) (q_un S ([] ++ [mE X t])) (K0.2.2.2.1 ++ (([] ++ [mE X t]).flatMap m_subs ++ [])) := by
        refine kz_Q J h16 (fun Y hY => by rw [List.mem_singleton.mp hY]; exact wM) (fun Y hY => by rw [List.mem_singleton.mp hY]; exact okM) (fun z => key fun y => z y.2.2.2) (fun Y hY => ⟨fun z => key fun y => by have := (y.2.1 Y hY).1; omega, fun z => key fun y => by have := (y.2.1 Y hY).2; omega⟩) (fun z => key fun y => ?_) (Nat.zero_le _) (fun X hX => by cases hX)
        have := y.2.2.1
        have e : m_tot ([] ++ [mE X t]) = (m_fl (mE X t)).length + 0 := rfl
        have e' : m_tot ([] : List qM) = 0 := rfl
        dsimp only at this
        omega
      obtain ⟨K1, a1, a2, a3, a4⟩ := d_open (sa := sa) (f := f + 1) (d := d + 196) (K := kP K0 (fr + 2) false) w (kI_Q (Z := Zc S A 20 (ws.drop fr)) (rows := [] ++ [mE X t]) (Q := ([] ++ [mE X t]).flatMap m_subs ++ []) J) (kP.r J.2.1 J.1) hs
      have a1 : am_call B sa am_dfl am_tb (f + 1 + 1) (d + 198) 158 [.ref (ρ.1 9)] (hp_S sa ρ (kP K0 (fr + 1 + 1) false).1) = _ := a1
      rw [a1, am_v_some, if_pos (by decide), if_pos (by decide), if_pos (by decide)]
      simp only [hx_9 w, Option.bind_some]
      refine eO.v (main a2.1 a2.2.1 a4 (kP.dx.tr a3.1) fun {P4} f4 _ => ?_)
      have nE : K1.2.1 = K0.2.1 ∧ K1.2.2.1 = K0.2.2.1 ∧ K1.2.2.2.1 = K0.2.2.2.1 := ⟨by rw [a4]; rfl, by rw [a4]; rfl, by rw [a4]; rfl⟩
      have d4 := a2.o f4
      have q4 : nq (P4, K1.2) v1 t := by unfold nq; rw [show (P4, K1.2).2.2.2.1 = K0.2.2.2.1 from nE.2.2]; exact g7
      obtain ⟨s, s1, s2⟩ := d4.1.rdt q4
      have s1 : hp_rd P4 921 v1 = some s := s1
      have e15 : P4.1 915 = nI A.2.2.2.2.1.length := d4.2.1.1.2.2.2.1
      simp only [hg_915 w, e15, hr_921 w, hl_921 w, s1, Option.bind_some, hx_9 w]
      have mM := mem_rows (Q := K0.2.2.2.1) (E := []) (mem_last (H := []) (M := mE X t)) wM
      have mX := kz'.sub mM (Or.inr (Or.inl (Or.inr (Or.inr (m_sub_self wX)))))
      obtain ⟨o1, K5, c1, c2, c3⟩ := k_const (sa := sa) (f := f + 1 + 1) (d := d + 194) (K := (P4, K1.2)) (x := A.2.2.2.2.1.length) w kz' d4.1 (pl_tv s2) (by omega) mX (by omega)
      have c1 : am_call B sa am_dfl am_tb (f + 1 + 1) (d + 197) 133 [.ref (ρ.1 9), .int (nI A.2.2.2.2.1.length), .int s] (hp_S sa ρ P4) = _ := c1
      rw [c1, am_i_some]
      simp only [hx_9 w, Option.bind_some]
      obtain ⟨o2, K6, g1, g2, g3⟩ := k_equation (sa := sa) (f := f + 1 + 1) (d := d + 193) w kz' c2.1 c3 (q4.go c2).v (by rw [m_ty_N]) mM (by omega)
      rw [g1, am_i_some]
      simp only [hx_9 w, Option.bind_some]
      have d6 := (d4.go c2).go g2
      obtain ⟨K7, i1, i2, i3, i4, i5⟩ := d_close (sa := sa) (f := f + 1 + 1) (d := d + 195) (st := 20) w d6 g3 (fun z => key fun y => Nat.not_lt.mpr y.2.2.1 z) hs h8 h16 (by omega)
      rw [i1, am_v_some]
      simp only [i3.bad w, Option.bind_some]
      have xt7 : ty_xt K0.2.1 K0.2.2.1 K7.2.1 K7.2.2.1 := by
        have := ((c2.2.2.1.tr g2.2.2.1).tr i2.2.1)
        rw [show (P4, K1.2).2.1 = K0.2.1 from nE.1, show (P4, K1.2).2.2.1 = K0.2.2.1 from nE.2.1] at this
        exact this
      have pf7 : ∃ q, K7.2.2.2.1 = K0.2.2.2.1 ++ q := by
        have := ((c2.D.tr g2.D).W.tr i2).2.2.1
        rw [show (P4, K1.2).2.2.2.1 = K0.2.2.2.1 from nE.2.2] at this
        exact this
      have dx6 : mfr dx_S K0.1 K6.1 := (((kP.dx.tr a3.1).tr (o_dx f4)).tr c2.dx).tr g2.dx
      have dx7 : mfr dW_S K0.1 K7.1 := dx6.W.tr i2.1
      rcases i5 with ⟨eb, hr, hb⟩ | ⟨eb, ht, h60, hN⟩
      · rw [eb, if_neg (show ¬ bI true = 0 by decide)]
        exact eO.bad (i3.2.2.2.1 eb) i3 hr xt7 pf7 (dx6.tr hb) eb
      · rw [eb, if_pos (show bI false = 0 from rfl)]
        obtain ⟨eS, lim⟩ := q_good_end J i3 hN xt7 ht h60
        have q7 : nq K7 v1 t := ((q4.go c2).go g2).gD i2
        obtain ⟨s', s1', s2'⟩ := i3.rdt q7
        have n15 : K7.1.1 915 = nI A.2.2.2.2.1.length := hN.1.2.2.2.1
        have ck : hp_ck K7.1 916 (nI A.2.2.2.2.1.length) = some () := hp_ck_nI (by rw [hN.1.2.2.2.2.1]; omega) (by omega)
        simp only [hr_916 w, hg_915 w, n15, hr_921 w, hl_921 w, s1', ht_916 w, ck, hA_I, hs_915 w, nI_1, Option.bind_some]
        have bd : K7.2.2.2.1.length ≤ 2 * (m_tot (sq_rows A.1) + m_tot ([] ++ [mE X t])) + A.2.2.2.2.2.2.length := by
          have h1 := i3.le
          rw [List.length_append] at h1
          have h2 := J.2.2.2
          have h3 := rows_len (rows := [] ++ [mE X t])
          omega
        have th := r_th_new (fm := A.1.length + 1) (ks := []) (os := [m_ty t]) d6.2.1 hN i4 i3 eS bd (Or.inr ⟨rfl, Or.inl rfl⟩)
        refine ⟨kG K7 A.2.2.2.2.1.length s', rfl, dx7.tr ((mfr.sA rfl).tr (mfr.sI rfl)), Or.inl ⟨2, _, _, aL_2 (by decide), l2, Or.inr (Or.inr (Or.inr (Or.inl ⟨rfl, ([], mE X t), h20, lim, rfl, rfl⟩))), ⟨?_, ⟨?_, ?_, ?_, ?_, hN.2.2.2.1.go kG_l⟩, eS, ?_⟩, ?_⟩⟩
        · have := kG.I (m := A.2.2.2.2.1.length) (v := s') (i3.gd eb)
          rw [eS] at this
          exact this
        · show r_sg _ (A.2.2.2.1 ++ []) (A.2.2.2.2.1 ++ [m_ty (m_r (mE X t))])
          rw [List.append_nil, mE_eq, m_r_N]
          exact kG.sg hN.1 s2' (by omega)
        · exact hN.2.1.cg (kG_1 (by decide)) (kG_1 (by decide)) (kG_2 (by decide)) (kG_2 (by decide))
        · exact hN.2.2.1.cg fun r a b => ⟨kG_1 (by omega), kG_2 (by omega)⟩
        · exact th.cg fun r a b => ⟨kG_1 (by omega), kG_2 (by omega)⟩
        · show _ ≤ 2 * m_tot (sq_rows (A.1 ++ [([], mE X t)])) + _
          rw [sq_rows_N, m_tot_ap]; exact bd
        · rw [kG_1 (by decide), (((c2.D.tr g2.D).W.tr i2).2.2.2.2 949 (by decide)).1]
          show P4.1 949 = _
          rw [(f4.1 949 rfl).1, (a3.2.2.2.2 949 (by decide)).1, kP_49]
    · obtain ⟨K1, a1, a2, a3, a4⟩ := d_open (sa := sa) (f := f + 1) (d := d + 196) (K := kP K0 (fr + 2) false) w (kI_0 J) (kP.r J.2.1 J.1) hs
      have a1 : am_call B sa am_dfl am_tb (f + 1 + 1) (d + 198) 158 [.ref (ρ.1 9)] (hp_S sa ρ (kP K0 (fr + 1 + 1) false).1) = _ := a1
      rw [a1, am_v_some, if_pos (by decide), if_pos (by decide), if_pos (by decide)]
      simp only [hx_9 w, Option.bind_some]
      exact eO.v (main a2.1 a2.2.1 a4 (kP.dx.tr a3.1) fun _ z => absurd z cC)
  · rw [if_neg (show ¬ bI true = 0 by decide)]
    refine eO.bad1 ?_ J.1 J.2.1
    rintro ⟨Lc, S', A', hL, hl, hE⟩
    have := aL_ge hL
    obtain ⟨N, ⟨M, y1, y2, -⟩, -⟩ := kE_20 hE
    exact g2.resolve_left (by decide) ⟨_, M, w_dr' (i := 1) (wd_some (by omega)), y1, y2⟩
end DF
