/-! THE REFERENCE, 22: types put in, the step -/
theorem ar_19 {g m p : Nat} (h1 : (m + 1) * 300 + 200 ≤ g + 1) (h2 : p ≤ 250) : m * 300 + 200 ≤ g - p - 1 := by
  rw [Nat.succ_mul] at h1
  generalize m * 300 = q at h1 ⊢
  omega
section S6
variable {Z : Prop} {G : qT → Prop} {L : List qM} {sa : Nat → Nat} {B : Nat} {ρ : hp_L} {K K' K0 K1 : kS} {A : sV} {S : qT → Prop} {k fr n0 : Nat} {ws wr : List Int32} {H : List qM} {M : qM} {σ : Int32 → Option qT}
theorem xI.gD {F : Nat → Bool} (x : xI K n0 σ) (hn : n0 ≤ K.2.1) (h : kI Z G L K) (r : kDF F K K') : xI K' n0 σ := by
  obtain ⟨m, x1, x2, x3, x4, x5⟩ := x
  have fr := r.2.2.2.2
  refine ⟨m, (fr 946 (by decide)).1.trans x1, x2, by rw [(fr 947 (by decide)).2]; exact x3, by rw [(fr 948 (by decide)).2]; exact x4, fun a ha hc => ?_⟩
  rw [(fr 947 (by decide)).2, (fr 948 (by decide)).2]
  rw [r.2.1.2 a (by omega)] at hc ⊢
  rcases x5 a ha hc with z | ⟨k, u, z1, z2, z3, z4, z5⟩
  · exact Or.inl z
  · exact Or.inr ⟨k, u, z1, z2, z3, z4, z5.xt h.wf h.n31 r.2.1⟩
theorem q_endG {f d Lc : Nat} {c st : Int32} {Q : List qM} (w : hp_w B ρ) (J : kJ S A K0) (hs : A.1.length < 1000) (h8 : A.2.2.2.2.2.1.length < 8000) (h16 : A.2.2.2.2.2.2.length < 16000) (hQ : aQ A k wr (H, M)) (hL : aL A.2.2.2.1 k wr Lc) (hl : Lc ≤ wr.length) (hst : st ≠ 20 ∧ st ≠ 21) (hq : Q.length ≤ 2 * m_tot (H ++ [M])) (h : dI (Zc S A k wr) (q_un S (H ++ [M])) (K0.2.2.2.1 ++ Q) A H K1) (xt1 : ty_xt K0.2.1 K0.2.2.1 K1.2.1 K1.2.2.1) (pf1 : ∃ q, K1.2.2.2.1 = K0.2.2.2.1 ++ q) (dx1 : mfr dx_S K0.1 K1.1) (h49 : K1.1.1 949 = nI (fr + Lc)) (hc : nv K1 c M) (hf : 100 ≤ f) :
    eO sa ρ S A k fr wr K0 (am_v (am_call B sa am_dfl am_tb f (d + 2) 159 [.ref (ρ.1 9), .int c, .int st] (hp_S sa ρ K1.1)) fun g => some (none, g)) := by
  obtain ⟨K', a1, a2, a3, a4, a5⟩ := d_close (sa := sa) (f := f) (d := d) (st := st) w h hc (fun z => zQ hQ fun y => by have := y.2.2.1; dsimp only at this; omega) hs h8 h16 hf
  rw [a1, am_v_some]
  have xt : ty_xt K0.2.1 K0.2.2.1 K'.2.1 K'.2.2.1 := xt1.tr a2.2.1
  have pf : ∃ q, K'.2.2.2.1 = K0.2.2.2.1 ++ q := by
    obtain ⟨q, e⟩ := pf1
    exact ⟨q, by rw [a4.2.2]; exact e⟩
  have fr' : mfr dW_S K0.1 K'.1 := dx1.W.tr a2.1
  rcases a5 with ⟨eb, hr, hb⟩ | ⟨eb, ht, h60, hN⟩
  · exact eO.bad (a3.2.2.2.1 eb) a3 hr xt pf (dx1.tr hb) eb
  · obtain ⟨eS, lim⟩ := q_good_end J a3 hN xt ht h60
    have bd : K'.2.2.2.1.length ≤ 2 * (m_tot (sq_rows A.1) + m_tot (H ++ [M])) + A.2.2.2.2.2.2.length := by
      have h1 := a3.le
      rw [List.length_append] at h1
      have h2 := J.2.2.2
      omega
    have th := r_th_new (fm := A.2.1) (ks := []) (os := []) h.2.1 hN a4 a3 eS bd (Or.inl ⟨rfl, hst⟩)
    refine ⟨K', rfl, fr', Or.inl ⟨Lc, _, _, hL, hl, Or.inr (Or.inr (Or.inl ⟨(H, M), hQ, lim, rfl, rfl⟩)), ⟨?_, ⟨?_, hN.2.1, hN.2.2.1, th, hN.2.2.2.1⟩, eS, ?_⟩, ?_⟩⟩
    · have := a3.gd eb
      rw [eS] at this
      exact this
    · show r_sg K' (A.2.2.2.1 ++ []) (A.2.2.2.2.1 ++ [])
      rw [List.append_nil, List.append_nil]; exact hN.1
    · show _ ≤ 2 * m_tot (sq_rows (A.1 ++ [(H, M)])) + _
      rw [sq_rows_N, m_tot_ap]; exact bd
    · rw [(a2.2.2.2.2 949 (by decide)).1]; exact h49
set_option maxHeartbeats 4000000 in
theorem e_19 {f d : Nat} (w : hp_w B ρ) (J : kJ S A K0) (hI : aI S A) (hv : vS ws K0) (hs : A.1.length < 1000) (h8 : A.2.2.2.2.2.1.length < 8000) (h16 : A.2.2.2.2.2.2.length < 16000) (hfr : fr < ws.length) (hf : 100000 ≤ f) :
    eO sa ρ S A 19 fr (ws.drop fr) K0 (am_call B sa am_dfl am_tb f (d + 200) 162 [.ref (ρ.1 9), .int (nI 19)] (hp_S sa ρ (kP K0 (fr + 1) false).1)) := by
  obtain ⟨f, rfl⟩ : ∃ g, f = g + 1 := ⟨f - 1, by omega⟩
  have h40 := hI.2.2.2.1.2.2.2.1
  have har := J.ar hI
  obtain ⟨v1, p1, b1, e1, e2, e3⟩ := k_nextSeq (sa := sa) (f := f) (d := d + 195) (b := false) (p := fr + 1) w hv J.2.1 (by omega)
  obtain ⟨v2, p2, b2, h1, h2, h3⟩ := k_next (sa := sa) (f := f) (d := d + 196) (b := b1) (p := p1) w hv e2
  have sp : ∀ {Lc N}, aL A.2.2.2.1 19 (ws.drop fr) Lc → Lc ≤ (ws.drop fr).length → aQ A 19 (ws.drop fr) N → ∃ c, c ≤ 250 ∧ (ws.drop fr)[2]? = some (nI c) ∧ 3 + 2 * c ≤ (ws.drop fr).length ∧ sp_19 A.2.2.2.2.2.1 A.1 (wd (ws.drop fr) 1) (w_pr (ws.drop fr) c) N := by
    intro Lc N hL hl hN
    have hN : ∃ c, c ≤ 250 ∧ wd (ws.drop fr) 2 = nI c ∧ sp_19 A.2.2.2.2.2.1 A.1 (wd (ws.drop fr) 1) (w_pr (ws.drop fr) c) N := by
      rcases hN with ⟨z, -⟩ | ⟨z, -⟩ | ⟨z, -⟩ | ⟨z, -⟩ | ⟨z, -⟩ | ⟨z, -⟩ | ⟨z, -⟩ | ⟨z, -⟩ | ⟨z, -⟩ | ⟨-, z⟩ | ⟨z, -⟩ <;> first | exact z | exact absurd z (by decide)
    have hL : ∃ c, c ≤ 250 ∧ (ws.drop fr)[2]? = some (nI c) ∧ Lc = 3 + 2 * c := by
      rcases hL with ⟨m, -⟩ | ⟨m, -⟩ | ⟨m, -⟩ | ⟨m, -⟩ | ⟨-, z⟩
      · exact absurd m (by decide)
      · exact absurd m (by decide)
      · exact absurd m (by decide)
      · exact absurd m (by decide)
      · exact z
    obtain ⟨c, c1, c2, c3⟩ := hN
    obtain ⟨c', d1, d2, d3⟩ := hL
    rw [wd_at d2] at c2
    have : c' = c := (nI_eq (by omega) (by omega)).mp c2
    subst this
    exact ⟨c', c1, d2, by omega, c3⟩
  have noN : (∀ c, c ≤ 250 → (ws.drop fr)[2]? = some (nI c) → 3 + 2 * c ≤ (ws.drop fr).length → ∀ N, ¬ sp_19 A.2.2.2.2.2.1 A.1 (wd (ws.drop fr) 1) (w_pr (ws.drop fr) c) N) → Zc S A 19 (ws.drop fr) := fun z => noQ (by decide) (by decide) (by decide) fun Lc hL hl N hN => by
    obtain ⟨c, c1, c2, c3, c4⟩ := sp hL hl hN
    exact z c c1 c2 c3 N c4
  rw [am_c_162, am_s162_0, if_neg (by decide), if_neg (by decide), if_neg (by decide), if_neg (by decide), if_neg (by decide), if_neg (by decide), if_neg (by decide), if_neg (by decide), if_neg (by decide), if_pos (show Int32.toInt (nI 19) = 19 by decide)]
  simp only [hx_9 w, Option.bind_some]
  refine eO.v ?_
  rw [am_c_167, am_s167_0]
  simp only [hx_9 w, Option.bind_some, e1, h1, am_i_some, hg_945 w, kP_45, am_c_ne]
  rcases e3 with ⟨rfl, -, rfl, j, s, g4, rfl, g5⟩ | ⟨rfl, g2⟩
  · have g4' := w_dr g4
    rcases h3 with ⟨rfl, -, rfl, k4⟩ | ⟨rfl, k2⟩
    · have k4' : (ws.drop fr)[2]? = some v2 := w_dr k4
      rw [if_neg (show ¬ bI false ≠ 0 from fun z => z rfl)]
      have mo : ∀ σ, am_call B sa am_dfl am_tb (f + 1) (d + 198) 123 [.int v2, .int 251] σ = some (some (.int (bP (¬ inR v2 251))), σ) := fun σ => m_out (k := 251) (by decide)
      rw [mo, am_i_some]
      simp only [hx_9 w, Option.bind_some]
      by_cases er : inR v2 251
      · rw [bP_f (fun z => z er), if_neg (fun z => z rfl), m_need1 w kP_45 (by decide), am_i_some, if_pos (by decide)]
        obtain ⟨c, c1, rfl⟩ := er
        have uc : ∀ {c'}, c' ≤ 250 → (ws.drop fr)[2]? = some (nI c') → c' = c := fun {c'} a b => by
          rw [k4'] at b
          exact ((nI_eq (by omega) (by omega)).mp (Option.some.inj b)).symm
        have noN' : (3 + 2 * c ≤ (ws.drop fr).length → ∀ ps, pv_ok A.2.2.2.2.2.1 (w_pr (ws.drop fr) c) ps → ¬ pv_nd (w_pr (ws.drop fr) c)) → Zc S A 19 (ws.drop fr) := fun z => noN fun c' a b l N ⟨s', ps, z1, z2, z3, z4⟩ => by
          rw [uc a b] at l z2 z3
          exact z l ps z2 z3
        simp only [hs_946 w, Option.bind_some]
        have jl := (List.getElem?_eq_some_iff.mp g5).1
        have ms := List.mem_of_getElem? g5
        -- the rows are exchanged
        have fin : ∀ {Kb : kS} {ps : List (Int32 × qT)} {g : Nat}, yB K0 Kb → yI Kb ps → pv_ok A.2.2.2.2.2.1 (w_pr (ws.drop fr) c) ps → pv_nd (w_pr (ws.drop fr) c) → 3 + 2 * c ≤ (ws.drop fr).length → 100 ≤ g → eO sa ρ S A 19 fr (ws.drop fr) K0 (am_go B sa am_dfl (am_call B sa am_dfl am_tb (f + 1) (d + 198)) am_r167 g 47 [(0, .ref (ρ.1 9)), (1, .int (nI j)), (2, .int (nI c)), (3, .int (nI c))] [] (hp_S sa ρ (kP Kb (fr + 3 + 2 * c) false).1)) := by
          intro Kb ps g yb yi hok hnd lc hg
          obtain ⟨g, rfl⟩ : ∃ x, g = x + 1 := ⟨g - 1, by omega⟩
          obtain ⟨k1, r1, y1⟩ := yb.J J
          have nE : Kb.2.1 = K0.2.1 ∧ Kb.2.2.1 = K0.2.2.1 ∧ Kb.2.2.2.1 = K0.2.2.2.1 := y1.2
          rw [am_s167_47]
          simp only [hg_945 w, kP_45, Option.bind_some, am_c_ge, am_c_eq, am_c_ne]
          rw [if_pos (Int32.le_refl _), if_pos (show bI false = 0 from rfl)]
          let F : qM → qM := m_rt (ps_s ps)
          have hQ : aQ A 19 (ws.drop fr) (hy_join none [] (s.1.map F), F s.2) := Or.inr (Or.inr (Or.inr (Or.inr (Or.inr (Or.inr (Or.inr (Or.inr (Or.inr (Or.inl ⟨rfl, c, by omega, wd_at k4', s, ps, by rw [wd_at g4']; exact ⟨j, rfl, by omega, g5⟩, hok, hnd, rfl⟩)))))))))
          have hL : aL A.2.2.2.1 19 (ws.drop fr) (3 + 2 * c) := Or.inr (Or.inr (Or.inr (Or.inr ⟨rfl, c, by omega, k4', rfl⟩)))
          have wF : ∀ X, m_wf X → m_wf (F X) := fun X hX => (m_rt_ok X hX).1
          have ws2 := J.wf.2 s.2 (sq_mc ms)
          have wh : ∀ X ∈ s.1, m_wf X := fun X hX => J.wf.2 X (sq_mh ms hX)
          obtain ⟨ok, -⟩ := aQ_ok hI J.wf hQ
          have kz' := kz_N J h16 hQ (fun X hX => by
            rcases List.mem_append.mp hX with z | z
            · rcases hy_join_sub z with z | z
              · cases z
              · obtain ⟨Y, hY, e⟩ := List.mem_map.mp z
                rw [← e]; exact wF Y (wh Y hY)
            · rw [List.mem_singleton.mp z]; exact wF _ ws2) ok
          have kQ : kI (Zc S A 19 (ws.drop fr)) (q_un S (hy_join none [] (s.1.map F) ++ [F s.2])) (K0.2.2.2.1 ++ ((hy_join none [] (s.1.map F) ++ [F s.2]).flatMap m_subs ++ [])) (kP Kb (fr + 3 + 2 * c) false) := by
            rw [← nE.2.2]
            refine kP.I (k1.to ?_ fun u hu => Or.inl ?_) fun z => by cases z
            · rw [show Kb.2.2.2.2 = K0.2.2.2.2 from congrArg (fun x => x.2.2.2) yb.2]; exact J.b
            · rw [nE.1, nE.2.1, J.2.2.1] at hu; exact hu
          obtain ⟨K1, a1, a2, a3, -⟩ := d_open (sa := sa) (f := f) (d := d + 196) w kQ (kP.r r1 k1) hs
          simp only [hx_9 w, Option.bind_some]
          rw [a1, am_v_some]
          have hh := hys_at g5
          have u60 := J.2.1.u60
          have z60' := z60 (S := S) hQ
          have har' : ty_ar (q_tk A.2.2.2.1) Kb.2.2.1 Kb.2.1 := by rw [nE.1, nE.2.1]; exact har
          have xi0 : xI Kb Kb.2.1 (ps_s ps) := yi.x q_tk_neg k1 har' (by have := pv_ok_l hok; rw [w_pr_len] at this; omega) r1.2.2.2.2
          have xi0' : xI (kP Kb (fr + 3 + 2 * c) false) Kb.2.1 (ps_s ps) := by
            obtain ⟨m, x1, x2⟩ := xi0
            exact ⟨m, (kP_1 (by decide) (by decide)).trans x1, x2⟩
          have xi1 : xI K1 Kb.2.1 (ps_s ps) := xi0'.gD (K := kP Kb (fr + 3 + 2 * c) false) (Nat.le_refl _) kQ a3
          have hrow : ∀ {K : kS}, kD K1 K → ∀ X, X ∈ sq_rows A.1 → ∀ t, q_of [X] t → ct_S K.2.2.1 Kb.2.1 t ∧ q_ar (q_tk A.2.2.2.1) t := by
            intro K hD X hX t ht
            have tS : S t := hI.1.2.2.2.2.2 t (q_of_mem hX ht)
            refine ⟨?_, (hI.2.1 t tS).2.1⟩
            have xt := a3.2.1.tr hD.2.1
            have := ct_S_xt k1.wf k1.n31 xt (Nat.le_refl _)
            rw [this, nE.1, nE.2.1, J.2.2.1]
            exact tS
          have n0le : ∀ {K : kS}, kD K1 K → Kb.2.1 ≤ K.2.1 := fun {K} hD => (a3.2.1.tr hD.2.1).1
          have h120 : ∀ {K : kS} {v X}, kI (Zc S A 19 (ws.drop fr)) (q_un S (hy_join none [] (s.1.map F) ++ [F s.2])) (K0.2.2.2.1 ++ ((hy_join none [] (s.1.map F) ++ [F s.2]).flatMap m_subs ++ [])) K → nq K v X → m_ht X ≤ 120 := fun {K v X} hK ⟨i, _, _, hi⟩ => (hK.row hi).2.2.2.2.2.2
          have loop : ∀ (m i g : Nat) (H : List qM) (K : kS), dI (Zc S A 19 (ws.drop fr)) (q_un S (hy_join none [] (s.1.map F) ++ [F s.2])) (K0.2.2.2.1 ++ ((hy_join none [] (s.1.map F) ++ [F s.2]).flatMap m_subs ++ [])) A H K → kD K1 K → xI K Kb.2.1 (ps_s ps) → hy_join none H ((s.1.drop i).map F) = hy_join none [] (s.1.map F) → s.1.length - i = m → i ≤ s.1.length → m + 1 ≤ g → eO sa ρ S A 19 fr (ws.drop fr) K0 (am_go B sa am_dfl (am_call B sa am_dfl am_tb (f + 1) (d + 198)) am_r167 g 212 [(0, .ref (ρ.1 9)), (1, .int (nI j)), (3, .int (nI i))] [] (hp_S sa ρ K.1)) := by
            intro m
            induction m with
            | zero =>
              intro i g H K hd hD hx hj hm hi hg
              obtain ⟨g, rfl⟩ : ∃ x, g = x + 1 := ⟨g - 1, by omega⟩
              rw [List.drop_eq_nil_of_le (by omega)] at hj
              have hj : H = hy_join none [] (s.1.map F) := hj
              obtain ⟨q1, q2, q3, q4, q5⟩ := hd.2.1.2.2.1.2.2.2.2.2 j s g5
              have r37 := hd.2.1.r37 (r := 937) (j := j) (by decide) (by decide) (by omega)
              rw [q3] at r37
              obtain ⟨c1, c2⟩ := hd.2.1.c g5
              rw [am_s167_212]
              simp only [hr_937 w, hl_937 w, r37, hr_935 w, hl_935 w, c1, Option.bind_some, am_c_ge, hx_9 w]
              rw [if_pos (nI_le (by omega) (by omega))]
              obtain ⟨o, K2, t1, t2, t3⟩ := k_retype (sa := sa) (f := f + 1) (kk := q_tk A.2.2.2.1) w kz' (by omega) s.2 ws2 (d + 168) K ((K.1.2 935).2 j) hd.1 (n0le hD) hx c2.v (hrow hD s.2 (sq_mc ms)) (mem_rows mem_last (wF _ ws2)) (by have := h120 hd.1 c2; omega)
              rw [t1, am_i_some]
              simp only [hx_9 w, Option.bind_some]
              subst hj
              have D := (a3.tr hD).tr t2.D
              refine q_endG (B := B) (sa := sa) (f := f + 1) (d := d + 196) (fr := fr) (Lc := 3 + 2 * c) (st := 19) w J hs h8 h16 hQ hL lc (by decide) rows_len (hd.go t2) ?_ ?_ ((y1.1.tr kP.dx).tr D.1) ?_ t3 (by omega)
              · have := D.2.1
                rw [show (kP Kb (fr + 3 + 2 * c) false).2.1 = K0.2.1 from nE.1, show (kP Kb (fr + 3 + 2 * c) false).2.2.1 = K0.2.2.1 from nE.2.1] at this
                exact this
              · have := D.2.2.1
                rw [show (kP Kb (fr + 3 + 2 * c) false).2.2.2.1 = K0.2.2.2.1 from nE.2.2] at this
                exact this
              · rw [(D.2.2.2.2 949 (by decide)).1, kP_49]
                exact congrArg nI (by omega)
            | succ m ih =>
              intro i g H K hd hD hx hj hm hi hg
              obtain ⟨g, rfl⟩ : ∃ x, g = x + 1 := ⟨g - 1, by omega⟩
              have il : i < s.1.length := by omega
              have hX := List.getElem?_eq_getElem il
              rw [List.drop_eq_getElem_cons il, List.map_cons, hy_join_c, if_neg (by intro z; cases z)] at hj
              obtain ⟨q1, q2, q3, q4, q5⟩ := hd.2.1.2.2.1.2.2.2.2.2 j s g5
              have qX := q5 i _ hX
              have r37 := hd.2.1.r37 (r := 937) (j := j) (by decide) (by decide) (by omega)
              rw [q3] at r37
              have r36 := hd.2.1.r37 (r := 936) (j := j) (by decide) (by decide) (by omega)
              rw [q2] at r36
              have r43 := hd.2.1.r43 (i := (hys (A.1.take j)).length + i) (by omega)
              rw [← nI_add] at r43
              rw [am_s167_212]
              simp only [hr_937 w, hl_937 w, r37, hr_943 w, hr_936 w, hl_936 w, r36, hl_943 w, r43, Option.bind_some, am_c_ge, hx_9 w]
              rw [if_neg (nI_ge il (by omega)), nI_1]
              have mX := List.getElem_mem il
              have wX := wh _ mX
              have memX : F s.1[i] ∈ hy_join none [] (s.1.map F) ++ [F s.2] := List.mem_append.mpr (Or.inl (hy_join_mem (List.mem_map.mpr ⟨_, mX, rfl⟩)))
              obtain ⟨o, K2, t1, t2, t3⟩ := k_retype (sa := sa) (f := f + 1) (kk := q_tk A.2.2.2.1) w kz' (by omega) s.1[i] wX (d + 168) K _ hd.1 (n0le hD) hx qX.v (hrow hD _ (sq_mh ms mX)) (mem_rows memX (wF _ wX)) (by have := h120 hd.1 qX; omega)
              rw [t1, am_i_some]
              simp only [hx_9 w, Option.bind_some]
              obtain ⟨K3, u1, u2, u3⟩ := d_add (sa := sa) (f := f + 1) (d := d + 196) w (hd.go t2) t3 (fun z => z60' (by
                show 60 < (hy_join none [] (s.1.map F)).length
                rw [← hj]; exact Nat.lt_of_lt_of_le z hy_join_le)) hs (by omega)
              rw [u1, am_v_some]
              have D2 := hD.tr t2.D
              exact ih (i + 1) g _ K3 u2 (D2.tr u3) ((hx.go (n0le hD) hd.1 t2).gD (n0le D2) t2.1 u3) hj (by omega) (by omega) (by omega)
          have h60 := (J.2.1.2.2.1.2.2.2.2.2 j s g5).2.2.2.1
          exact loop s.1.length 0 g [] K1 a2 kD.rf xi1 rfl (by omega) (by omega) (by omega)
        -- where it is bad
        have bad47 : ∀ {Kb : kS} {p i g : Nat}, yB K0 Kb → Zc S A 19 (ws.drop fr) → 1 ≤ g → eO sa ρ S A 19 fr (ws.drop fr) K0 (am_go B sa am_dfl (am_call B sa am_dfl am_tb (f + 1) (d + 198)) am_r167 g 47 [(0, .ref (ρ.1 9)), (1, .int (nI j)), (2, .int (nI c)), (3, .int (nI i))] [] (hp_S sa ρ (kP Kb p true).1)) := by
          intro Kb p i g yb hZ hg
          obtain ⟨g, rfl⟩ : ∃ x, g = x + 1 := ⟨g - 1, by omega⟩
          rw [am_s167_47]
          simp only [hg_945 w, kP_45, Option.bind_some, am_c_ge, am_c_eq, am_c_ne]
          rw [if_neg (show ¬ bI true = 0 by decide), if_pos (show bI true ≠ 0 by decide)]
          have := eO.badY (sa := sa) (ρ := ρ) (fr := fr) (p := p) yb J hZ
          split <;> exact this
        -- the pairs are read
        have loop : ∀ (m i g : Nat) (Kb : kS) (ps : List (Int32 × qT)), yB K0 Kb → yI Kb ps → pv_ok A.2.2.2.2.2.1 (w_pr (ws.drop fr) i) ps → pv_nd (w_pr (ws.drop fr) i) → 3 + 2 * i ≤ (ws.drop fr).length → c - i = m → i ≤ c → m * 300 + 200 ≤ g → eO sa ρ S A 19 fr (ws.drop fr) K0 (am_go B sa am_dfl (am_call B sa am_dfl am_tb (f + 1) (d + 198)) am_r167 g 47 [(0, .ref (ρ.1 9)), (1, .int (nI j)), (2, .int (nI c)), (3, .int (nI i))] [] (hp_S sa ρ (kP Kb (fr + 3 + 2 * i) false).1)) := by
          intro m
          induction m with
          | zero =>
            intro i g Kb ps yb yi hok hnd li hm hi hg
            obtain rfl : i = c := by omega
            exact fin yb yi hok hnd li (by omega)
          | succ m ih =>
            intro i g Kb ps yb yi hok hnd li hm hi hg
            obtain ⟨g, rfl⟩ : ∃ x, g = x + 1 := ⟨g - 1, by omega⟩
            obtain ⟨k1, r1, y1⟩ := yb.J J
            have nE : Kb.2.1 = K0.2.1 ∧ Kb.2.2.1 = K0.2.2.1 ∧ Kb.2.2.2.1 = K0.2.2.2.1 := y1.2
            have hv' := yb.v hv
            have il : i < c := by omega
            have psl : ps.length = i := by have := pv_ok_l hok; rw [w_pr_len] at this; exact this
            have l0 : (ws.drop fr).length = ws.length - fr := List.length_drop
            obtain ⟨u1, q1, c1', m1, m2, m3⟩ := k_next (sa := sa) (f := f) (d := d + 196) (K := Kb) (b := false) (p := fr + 3 + 2 * i) w hv' (by omega)
            obtain ⟨u2, q2, c2', n1, n2, n3⟩ := k_nextType (sa := sa) (f := f) (d := d + 195) (K := Kb) (b := c1') (p := q1) w hv' r1 (by omega) m2
            rw [am_s167_47]
            simp only [hg_945 w, kP_45, Option.bind_some, am_c_ge, am_c_eq, am_c_ne, hx_9 w, m1, n1, am_i_some]
            rw [if_neg (nI_ge il (by omega)), if_neg (show ¬ bI false ≠ 0 from fun z => z rfl)]
            have at' : ∀ ps', pv_ok A.2.2.2.2.2.1 (w_pr (ws.drop fr) c) ps' → isNm (wd (ws.drop fr) (3 + 2 * i)) ∧ ∃ t, en_at A.2.2.2.2.2.1 (wd (ws.drop fr) (4 + 2 * i)) t := fun ps' h => pv_ok_at h (w_pr_at il)
            rcases m3 with ⟨rfl, -, rfl, m4⟩ | ⟨rfl, m4⟩
            · have m4' : (ws.drop fr)[3 + 2 * i]? = some u1 := w_dr (by rw [← Nat.add_assoc]; exact m4)
              rcases n3 with ⟨rfl, -, rfl, x, t, n4, n5, n6⟩ | ⟨rfl, n4⟩
              · have n4' : (ws.drop fr)[4 + 2 * i]? = some x := w_dr (by rw [show fr + (4 + 2 * i) = fr + 3 + 2 * i + 1 by omega]; exact n4)
                rw [if_neg (show ¬ bI false ≠ 0 from fun z => z rfl)]
                have mo : ∀ σ, am_call B sa am_dfl am_tb (f + 1) (d + 198) 123 [.int u1, .int 100000000] σ = some (some (.int (bP (¬ inR u1 100000000))), σ) := fun σ => m_out (k := 100000000) (by decide)
                rw [mo, am_i_some]
                simp only [hx_9 w, Option.bind_some]
                by_cases er : inR u1 100000000
                · rw [bP_f (fun z => z er), if_neg (fun z => z rfl), m_need1 w kP_45 (by decide), am_i_some, if_pos (by decide)]
                  simp only [hx_9 w, Option.bind_some]
                  have har' : ty_ar (q_tk A.2.2.2.1) Kb.2.2.1 Kb.2.1 := by rw [nE.1, nE.2.1]; exact har
                  have kPy : kI True S Kb.2.2.2.1 (kP Kb (fr + 3 + 2 * i + 1 + 1) false) := kP.I (k1.mono False.elim (fun _ z => z) (fun _ z => z)) fun z => by cases z
                  obtain ⟨v, w1, w2⟩ := k_varOf (sa := sa) (f := f + 1) (d := d + 196) (x := u1) q_tk_neg w kPy har' (q_vr_toInt er).1 (by omega)
                  rw [w1, am_i_some]
                  obtain ⟨b', a1, a2⟩ := y_look (sa := sa) (f0 := f) (d := d + 197) (p := fr + 3 + 2 * i + 1 + 1) (x1 := nI j) (x2 := nI c) (x3 := nI i) (x5 := u2) (x6 := v) (x := u1) w yi (by omega) r1.2.2.2.2 ps.length 0 false g (by omega) (by omega) (by omega)
                  have a1 : am_go B sa am_dfl (am_call B sa am_dfl am_tb (f + 1) (d + 198)) am_r167 g 112 [(0, .ref (ρ.1 9)), (1, .int (nI j)), (2, .int (nI c)), (3, .int (nI i)), (4, .int u1), (5, .int u2), (6, .int v), (7, .int 0)] [] (hp_S sa ρ (kP Kb (fr + 3 + 2 * i + 1 + 1) false).1) = _ := a1
                  rw [a1, nI_1]
                  have yb' := yN_B (m := ps.length) (x := u1) (v := v) (u := u2) yb
                  have wp : w_pr (ws.drop fr) (i + 1) = w_pr (ws.drop fr) i ++ [(u1, x)] := by rw [w_pr_s, wd_at m4', wd_at n4']
                  cases hb' : b' with
                  | false =>
                    obtain ⟨-, nd⟩ := a2.mp hb'
                    have hg2 : m * 300 + 200 ≤ g - ps.length - 1 := ar_19 hg (by omega)
                    have := ih (i + 1) (g - ps.length - 1) (yN Kb ps.length u1 v u2) (ps ++ [(u1, t)]) yb' (yN.I yi (by omega) w2 n6) (by rw [wp]; exact pv_ok_ap hok er n5) (by
                      rw [wp]
                      intro i1 i2 p q hi12 hp hq
                      rcases rw_push_g hq with z | ⟨z1, z2⟩
                      · have hp' : (w_pr (ws.drop fr) i)[i1]? = some p := by
                          have := (List.getElem?_eq_some_iff.mp z).1
                          rw [List.getElem?_append_left (by omega)] at hp; exact hp
                        exact hnd i1 i2 p q hi12 hp' z
                      · rw [w_pr_len] at z1
                        have hp' : (w_pr (ws.drop fr) i)[i1]? = some p := by
                          rw [List.getElem?_append_left (by rw [w_pr_len]; omega)] at hp; exact hp
                        rw [z2]
                        have hi1 : i1 < ps.length := by omega
                        have hps := List.getElem?_eq_getElem hi1
                        obtain ⟨q', hq1, hq2⟩ := pv_ok_1 hok hps
                        rw [hp'] at hq1
                        rw [Option.some.inj hq1, hq2]
                        exact nd i1 _ (Nat.zero_le _) hps) (by have := (List.getElem?_eq_some_iff.mp n4').1; omega) (by omega) (by omega) hg2
                    exact this
                  | true =>
                    refine bad47 (g := g - ps.length - 1) (i := i + 1) yb' (noN' fun _ ps' h' nd' => ?_) (by omega)
                    have : ¬ b' = false := by rw [hb']; decide
                    refine this (a2.mpr ⟨rfl, fun i' q _ hq e => ?_⟩)
                    obtain ⟨q', hq1, hq2⟩ := pv_ok_1 hok hq
                    have il' := (List.getElem?_eq_some_iff.mp hq).1
                    rw [w_pr_at (by omega)] at hq1
                    have h1 := nd' i' i _ _ (by omega) (w_pr_at (show i' < c by omega)) (w_pr_at il)
                    refine h1 ?_
                    rw [Option.some.inj hq1, hq2, e, wd_at m4']
                · rw [bP_t er, if_pos (by decide), m_need0 w kP_45, am_i_some, if_neg (fun z => z rfl), show (1 : Int32) = bI true from rfl, kP_bad]
                  refine eO.badY yb J (noN' fun _ ps' h' nd' => er ?_)
                  have := (at' ps' h').1
                  rw [wd_at m4'] at this
                  exact this
              · rw [if_pos (show bI true ≠ 0 by decide)]
                refine eO.badY yb J (noN' fun lc ps' h' nd' => ?_)
                obtain ⟨t, ht⟩ := (at' ps' h').2
                exact n4.resolve_left (by decide) ⟨_, t, by
                  have := w_dr' (ws := ws) (fr := fr) (i := 4 + 2 * i) (wd_some (by omega))
                  rw [show fr + (4 + 2 * i) = fr + 3 + 2 * i + 1 by omega] at this
                  exact this, ht⟩
            · rcases n3 with ⟨-, z, -⟩ | ⟨rfl, n4⟩
              · cases z
              · rw [if_pos (show bI true ≠ 0 by decide)]
                refine eO.badY yb J (noN' fun lc ps' h' nd' => ?_)
                exact m4.resolve_left (by decide) ⟨_, by
                  have := w_dr' (ws := ws) (fr := fr) (i := 3 + 2 * i) (wd_some (by omega))
                  rw [← Nat.add_assoc] at this
                  exact this⟩
        have l3 : 3 ≤ (ws.drop fr).length := by have := (List.getElem?_eq_some_iff.mp k4').1; omega
        have e46 : hp_sI (kP K0 (fr + 1 + 1 + 1) false).1 946 0 = (kP (hp_sI K0.1 946 (nI 0), K0.2) (fr + 1 + 1 + 1) false).1 := by
          show hp_sI (hp_sI (hp_sI K0.1 949 _) 945 _) 946 0 = hp_sI (hp_sI (hp_sI K0.1 946 0) 949 _) 945 _
          rw [hp_sI_cm (r := 945) (s := 946) (by decide), hp_sI_cm (r := 949) (s := 946) (by decide)]
        rw [e46]
        exact loop c 0 f (hp_sI K0.1 946 (nI 0), K0.2) [] ⟨mfr.sI rfl, rfl⟩ ⟨hI_eq, fun i p hp => by cases hp⟩ True.intro (fun i1 i2 p q _ hp => by cases hp) l3 (by omega) (by omega) (by omega)
      · rw [bP_t er, if_pos (by decide), m_need0 w kP_45, am_i_some, if_neg (fun z => z rfl), show (1 : Int32) = bI true from rfl, kP_bad]
        refine eO.bad1 (noN fun c' a b l N _ => er ?_) J.1 J.2.1
        rw [k4'] at b
        exact ⟨c', by omega, Option.some.inj b⟩
    · rw [if_pos (show bI true ≠ 0 by decide)]
      refine eO.bad1 (noN fun c' a b l N _ => ?_) J.1 J.2.1
      exact k2.resolve_left (by decide) ⟨_, w_dr' (i := 2) b⟩
  · rcases h3 with ⟨-, z, -⟩ | ⟨rfl, k2⟩
    · cases z
    · rw [if_pos (show bI true ≠ 0 by decide)]
      refine eO.bad1 (noN fun c' a b l N ⟨s', ps, z1, z2, z3, z4⟩ => ?_) J.1 J.2.1
      exact g2.resolve_left (by decide) ⟨_, s', w_dr' (i := 1) (wd_some (by omega)), z1⟩
end S6
