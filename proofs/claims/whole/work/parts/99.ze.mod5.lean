/-! THE REFERENCE, 17: steps of a term, 2 -/
theorem q_fr_1 {x : Nat} (hx : x < 2 ^ 28) : q_fr (nI (4 * x + 1)) := by
  refine ⟨nI_pos' (by omega), ?_⟩
  rw [show (4 : Int32) = nI 4 from rfl, pk_rem (by omega) (by decide) (by decide)]
  rw [show (4 * x + 1) % 4 = 1 by omega]
  rfl
theorem q_fr_e {x e : Nat} (hx : x < 2 ^ 28) (he : e < 4) (h : q_fr (nI (4 * x + e))) : e = 1 := by
  obtain ⟨k, k1, k2, k3⟩ := q_fr_n h
  have := (nI_eq (by omega) k1).mp k2
  omega
section ST2
variable {Z : Prop} {G : qT → Prop} {L : List qM} {sa : Nat → Nat} {B : Nat} {ρ : hp_L} {K K' K0 K1 : kS} {A : sV} {S : qT → Prop} {k fr : Nat} {ws wr : List Int32} {H : List qM} {M : qM}
theorem kz_0 (J : kJ S A K0) : kz True S (K0.2.2.2.1 ++ []) := kz_add J.1 (fun _ => True.intro) (fun u hu => by rw [← J.2.2.1]; exact hu) (fun _ => True.intro) (fun X hX => by cases hX)
theorem kI_0 {p : Nat} (J : kJ S A K0) : kI True S (K0.2.2.2.1 ++ []) (kP K0 p false) := kP.I (J.1.to J.b (fun u hu => by rw [← J.2.2.1]; exact hu)) fun z => by cases z
/-- it is bad -/
theorem eO.bad3 {p : Nat} (hZ : Zc S A k wr) (h : kI Z G L K1) (hr : rI A K1) (hD : kD (kP K0 p false) K1) : eO sa ρ S A k fr wr K0 (some (none, hp_S sa ρ (kB K1 true).1)) :=
  eO.bad (K' := kB K1 true) (Z := True) (G := G) (L := L) hZ (kB.I h fun _ => True.intro) (kB.r hr h) hD.2.1 hD.2.2.1 ((kP.dx.tr hD.1).tr kB.dx) rfl
set_option maxHeartbeats 2000000 in
theorem e_15 {f d : Nat} (w : hp_w B ρ) (J : kJ S A K0) (hI : aI S A) (hv : vS ws K0) (hs : A.1.length < 1000) (h8 : A.2.2.2.2.2.1.length < 8000) (h16 : A.2.2.2.2.2.2.length < 16000) (hfr : fr < ws.length) (hf : 70000 ≤ f) :
    eO sa ρ S A 15 fr (ws.drop fr) K0 (am_call B sa am_dfl am_tb f (d + 200) 162 [.ref (ρ.1 9), .int (nI 15)] (hp_S sa ρ (kP K0 (fr + 1) false).1)) := by
  obtain ⟨f, rfl⟩ : ∃ g, f = g + 1 := ⟨f - 1, by omega⟩
  obtain ⟨v1, p1, b1, e1, e2, e3⟩ := k_nextClosed (sa := sa) (f := f) (d := d + 195) (b := false) (p := fr + 1) w hv J.1 J.2.1 (by omega) (by omega)
  rw [am_c_162, am_s162_0, if_neg (by decide), if_neg (by decide), if_neg (by decide), if_neg (by decide), if_neg (by decide), if_pos (show Int32.toInt (nI 15) = 15 by decide)]
  simp only [hx_9 w, Option.bind_some, e1, am_i_some]
  rw [am_c_163, am_s163_0]
  simp only [hg_945 w, kP_45, Option.bind_some, am_c_eq, am_c_ne]
  have noN : ∀ N, aQ A 15 (ws.drop fr) N → sp_15 A.2.2.2.2.2.2 (wd (ws.drop fr) 1) N := by
    intro N hN
    rcases hN with ⟨z, -⟩ | ⟨z, -⟩ | ⟨z, -⟩ | ⟨z, -⟩ | ⟨z, -⟩ | ⟨-, z⟩ | ⟨z, -⟩ | ⟨z, -⟩ | ⟨z, -⟩ | ⟨z, -⟩ | ⟨z, -⟩ <;> first | exact z | exact absurd z (by decide)
  rcases e3 with ⟨rfl, -, rfl, x, t, g4, g5, g6, g7⟩ | ⟨rfl, g2⟩
  · rw [if_pos (show bI false = 0 from rfl)]
    have g4' := w_dr g4
    have l2 : 2 ≤ (ws.drop fr).length := by have := (List.getElem?_eq_some_iff.mp g4').1; omega
    simp only [hx_9 w, Option.bind_some]
    by_cases c : m_ty t = qB
    · have hQ : aQ A 15 (ws.drop fr) ([t], t) := Or.inr (Or.inr (Or.inr (Or.inr (Or.inr (Or.inl ⟨rfl, t, by rw [wd_at g4']; exact g5, g6, c, rfl⟩)))))
      have wt := g7.wf J.1
      obtain ⟨ok, -⟩ := aQ_ok hI J.wf hQ
      have kz' := kz_N J h16 hQ (fun X hX => by
        rcases List.mem_append.mp hX with z | z
        · rw [List.mem_singleton.mp z]; exact wt
        · rw [List.mem_singleton.mp z]; exact wt) ok
      obtain ⟨K1, a1, a2, a3, a4⟩ := d_open (sa := sa) (f := f) (d := d + 196) (K := kP K0 (fr + 2) false) w (kI_Q (Z := Zc S A 15 (ws.drop fr)) (rows := [t] ++ [t]) (Q := ([t] ++ [t]).flatMap m_subs ++ []) J) (kP.r J.2.1 J.1) hs
      have a1 : am_call B sa am_dfl am_tb (f + 1) (d + 198) 158 [.ref (ρ.1 9)] (hp_S sa ρ (kP K0 (fr + 1 + 1) false).1) = _ := a1
      rw [a1, am_v_some, if_pos (by decide), if_pos (by decide), if_neg (show ¬ (nI 15 : Int32) ≠ 15 from fun z => z rfl)]
      have q1 : nq K1 v1 t := nq.gD (K := kP K0 (fr + 2) false) g7 a3
      have eb1 : K1.2.2.2.2 = false := by rw [a4]; rfl
      obtain ⟨s, s1, s2⟩ := a2.1.rdt q1
      obtain ⟨o, K2, t1, t2, t3, t4⟩ := k_truths (sa := sa) (f := f + 1) (d := d + 195) w kz' a2.1 (by omega)
      have eb2 : K2.2.2.2.2 = false := t4.trans eb1
      simp only [hr_921 w, hl_921 w, s1, Option.bind_some, hx_9 w]
      rw [t1, am_i_some]
      have es : s = o := by
        have s2' := s2.xt a2.1.wf a2.1.n31 t2.2.2.1
        rw [c] at s2'
        exact s2'.eq (t3.pl eb2) t2.1.wf t2.1.di t2.1.n31
      rw [if_neg (fun z => z es)]
      have h45 := t2.1.2.2.1
      rw [eb2] at h45
      simp only [hx_9 w, Option.bind_some]
      rw [m_need1 w h45 (by decide), am_i_some, if_pos (by decide)]
      have e1' : hy_add [] t = [t] := hy_add_n List.not_mem_nil
      obtain ⟨K3, u1, u2, u3⟩ := d_add (sa := sa) (f := f + 1) (d := d + 196) (x := v1) (M := t) w (a2.go t2) (q1.go t2).v (by rw [e1']; intro z; exact absurd (show 60 < 1 from z) (by decide)) hs (by omega)
      rw [e1'] at u2
      simp only [hx_9 w, Option.bind_some]
      rw [u1, am_v_some]
      simp only [hx_9 w, Option.bind_some]
      have := q_end (B := B) (sa := sa) (f := f + 1) (d := d + 196) (fr := fr) (st := nI 15) (c := v1) w J hs h8 h16 hQ (aL_2 (by decide)) l2 (by decide) rows_len u2 ((a3.tr t2.D).tr u3) ((q1.go t2).gD u3).v (by omega)
      obtain ⟨K', q1, q2⟩ := this
      rw [q1, am_v_some]
      exact ⟨K', rfl, q2⟩
    · obtain ⟨K1, a1, a2, a3, a4⟩ := d_open (sa := sa) (f := f) (d := d + 196) (K := kP K0 (fr + 2) false) w (kI_0 J) (kP.r J.2.1 J.1) hs
      have a1 : am_call B sa am_dfl am_tb (f + 1) (d + 198) 158 [.ref (ρ.1 9)] (hp_S sa ρ (kP K0 (fr + 1 + 1) false).1) = _ := a1
      rw [a1, am_v_some, if_pos (by decide), if_pos (by decide), if_neg (show ¬ (nI 15 : Int32) ≠ 15 from fun z => z rfl)]
      have q1 : nq K1 v1 t := nq.gD (K := kP K0 (fr + 2) false) g7 a3
      have eb1 : K1.2.2.2.2 = false := by rw [a4]; rfl
      obtain ⟨s, s1, s2⟩ := a2.1.rdt q1
      obtain ⟨o, K2, t1, t2, t3, t4⟩ := k_truths (sa := sa) (f := f + 1) (d := d + 195) w (kz_0 J) a2.1 (by omega)
      have eb2 : K2.2.2.2.2 = false := t4.trans eb1
      simp only [hr_921 w, hl_921 w, s1, Option.bind_some, hx_9 w]
      rw [t1, am_i_some]
      have es : s ≠ o := fun z => by
        have s2' := s2.xt a2.1.wf a2.1.n31 t2.2.2.1
        rw [z] at s2'
        exact c (s2'.ct.symm.trans (t3.pl eb2).ct)
      rw [if_pos es]
      have h45 := t2.1.2.2.1
      rw [eb2] at h45
      simp only [hx_9 w, Option.bind_some]
      rw [m_need0 w h45, am_i_some, if_neg (fun z => z rfl), am_v_some]
      refine eO.bad3 (p := fr + 2) (K1 := K2) (noQ (by decide) (by decide) (by decide) fun Lc hL hl N hN => c ?_) t2.1 (a2.2.1.go a2.1 t2) (a3.tr t2.D)
      obtain ⟨M, z1, z2, z3, -⟩ := noN N hN
      rw [wd_at g4'] at z1
      rw [en_at_inj g5 z1]; exact z3
  · rw [if_neg (show ¬ bI true = 0 by decide), am_v_some]
    refine eO.bad1 (noQ (by decide) (by decide) (by decide) fun Lc hL hl N hN => ?_) J.1 J.2.1
    have := aL_ge hL
    obtain ⟨t, z1, z2, -⟩ := noN N hN
    exact g2.resolve_left (by decide) ⟨_, t, w_dr' (i := 1) (wd_some (by omega)), z1, z2⟩
set_option maxHeartbeats 4000000 in
theorem e_14 {f d : Nat} (w : hp_w B ρ) (J : kJ S A K0) (hI : aI S A) (hv : vS ws K0) (hs : A.1.length < 1000) (h8 : A.2.2.2.2.2.1.length < 8000) (h16 : A.2.2.2.2.2.2.length < 16000) (hfr : fr < ws.length) (hf : 70000 ≤ f) :
    eO sa ρ S A 14 fr (ws.drop fr) K0 (am_call B sa am_dfl am_tb f (d + 200) 162 [.ref (ρ.1 9), .int (nI 14)] (hp_S sa ρ (kP K0 (fr + 1) false).1)) := by
  obtain ⟨f, rfl⟩ : ∃ g, f = g + 1 + 1 := ⟨f - 2, by omega⟩
  obtain ⟨v1, p1, b1, e1, e2, e3⟩ := k_nextClosed (sa := sa) (f := f + 1) (d := d + 195) (b := false) (p := fr + 1) w hv J.1 J.2.1 (by omega) (by omega)
  rw [am_c_162, am_s162_0, if_neg (by decide), if_neg (by decide), if_neg (by decide), if_neg (by decide), if_pos (show Int32.toInt (nI 14) = 14 by decide)]
  simp only [hx_9 w, Option.bind_some, e1, am_i_some]
  rw [am_c_163, am_s163_0]
  simp only [hg_945 w, kP_45, Option.bind_some, am_c_eq, am_c_ne]
  have noN : ∀ N, aQ A 14 (ws.drop fr) N → sp_14 A.2.2.2.2.2.2 (wd (ws.drop fr) 1) N := by
    intro N hN
    rcases hN with ⟨z, -⟩ | ⟨z, -⟩ | ⟨z, -⟩ | ⟨z, -⟩ | ⟨-, z⟩ | ⟨z, -⟩ | ⟨z, -⟩ | ⟨z, -⟩ | ⟨z, -⟩ | ⟨z, -⟩ | ⟨z, -⟩ <;> first | exact z | exact absurd z (by decide)
  rcases e3 with ⟨rfl, -, rfl, x, t, g4, g5, g6, g7⟩ | ⟨rfl, g2⟩
  · rw [if_pos (show bI false = 0 from rfl)]
    have g4' := w_dr g4
    have l2 : 2 ≤ (ws.drop fr).length := by have := (List.getElem?_eq_some_iff.mp g4').1; omega
    simp only [hx_9 w, Option.bind_some]
    by_cases c : ∃ u b a c s, t = mN (-1) u (mN (-2) a b .leaf) (mN c s .leaf .leaf) ∧ q_fr c
    · obtain ⟨u, b, a, c, s, et, hc⟩ := c
      have hQ : aQ A 14 (ws.drop fr) ([], mE t (m_tr false c s b 0)) := Or.inr (Or.inr (Or.inr (Or.inr (Or.inl ⟨rfl, t, u, b, c, a, s, by rw [wd_at g4']; exact g5, g6, et, hc, rfl⟩))))
      have wt := g7.wf J.1
      obtain ⟨v1', v2', -, -, -, qF', qX', hty⟩ := nq_app J.1 (by rw [← et]; exact g7)
      have wF := qF'.wf J.1
      have hF : ∃ s', a = qF s' (m_ty b) ∧ m_wf b := by
        obtain ⟨-, z⟩ := wF
        rcases z with ⟨z, -⟩ | ⟨-, z1, z2, s', z3⟩ | ⟨z1, -, z⟩
        · rw [q_code] at z; exact absurd z (by decide)
        · exact ⟨s', z3, z1⟩
        · exact absurd z.1 (by rw [q_code]; decide)
      obtain ⟨s', ea, wb⟩ := hF
      have e12 : s' = s ∧ m_ty b = u := by
        rw [m_ty_N, m_ty_N, ea] at hty
        exact qF_inj hty
      obtain ⟨rfl, eu⟩ := e12
      have bd := (hI.2.2.2.2.2.2.1 t (en_mem g5)).1
      have hof : m_of s' b 0 := by
        rw [et, m_bd_N] at bd
        have := bd.1
        rw [m_bd_N] at this
        exact this.2.2 rfl s' (m_ty b) ea
      have hb120 : m_ht b ≤ 120 := by
        have := (J.mem g7).2.2.2.1
        rw [et, m_ht_N, m_ht_N] at this
        omega
      obtain ⟨o1, o2, o3⟩ := m_tr_o (t := s') hc b wb 0 (by omega) hof
      have wM : m_wf (mE t (m_tr false c s' b 0)) := mE_wf wt o1 (by rw [o2, eu, et, m_ty_N])
      obtain ⟨ok, -⟩ := aQ_ok hI J.wf hQ
      have kz' := kz_N J h16 hQ (fun X hX => by rw [List.mem_singleton.mp hX]; exact wM) ok
      obtain ⟨K1, a1, a2, a3, a4⟩ := d_open (sa := sa) (f := f + 1) (d := d + 196) (K := kP K0 (fr + 2) false) w (kI_Q (Z := Zc S A 14 (ws.drop fr)) (rows := [] ++ [mE t (m_tr false c s' b 0)]) (Q := ([] ++ [mE t (m_tr false c s' b 0)]).flatMap m_subs ++ []) J) (kP.r J.2.1 J.1) hs
      have a1 : am_call B sa am_dfl am_tb (f + 1 + 1) (d + 198) 158 [.ref (ρ.1 9)] (hp_S sa ρ (kP K0 (fr + 1 + 1) false).1) = _ := a1
      rw [a1, am_v_some, if_pos (by decide), if_neg (show ¬ (nI 14 : Int32) ≠ 14 from fun z => z rfl)]
      have q1 : nq K1 v1 t := nq.gD (K := kP K0 (fr + 2) false) g7 a3
      have eb1 : K1.2.2.2.2 = false := by rw [a4]; rfl
      obtain ⟨w1, w2, r1, r2, r3, qF, qX, -⟩ := nq_app a2.1 (by rw [← et]; exact q1)
      obtain ⟨y1, y2, s1, s2, s3, -, qb⟩ := nq_abs a2.1 (by rw [ea] at qF; exact qF)
      obtain ⟨x', e', k', z1, z2, z3, z4, z5⟩ := nq_lf a2.1 qX
      have e1' : e' = 1 := q_fr_e z4 (by omega) (by rw [← z1]; exact hc)
      have k2' : k' = 2 := by rcases z5 with ⟨z, z'⟩ | ⟨z, z'⟩ | ⟨z, z'⟩ <;> first | exact z | omega
      simp only [hr_918 w, hl_918 w, r1, Option.bind_some, hr_919 w, hl_919 w, r2, s1, hr_920 w, hl_920 w, r3, z2]
      rw [if_neg (fun z => z rfl), if_neg (fun z => z rfl), if_neg (fun z => z k2'), am_s163_84]
      have h45 := a2.1.2.2.1
      rw [eb1] at h45
      simp only [hx_9 w, Option.bind_some]
      rw [m_need1 w h45 (by decide), am_i_some]
      simp only [am_c_eq]
      rw [if_neg (by decide)]
      simp only [hr_919 w, hl_919 w, r2, hr_920 w, hl_920 w, r3, s3, Option.bind_some, hx_9 w]
      have hsub : m_tr false c s' b 0 ∈ K0.2.2.2.1 ++ (([] ++ [mE t (m_tr false c s' b 0)]).flatMap m_subs ++ []) := kz'.sub (mem_rows mem_last wM) (Or.inr (Or.inr (m_sub_self o1)))
      obtain ⟨c1, K2, t1, t2, t3⟩ := k_open (sa := sa) (f := f + 1 + 1) hc w kz' hf b wb 0 (d + 193) K1 w2 y2 a2.1 qX.v qb.v (by omega) hof hsub (by omega)
      have t1 : am_call B sa am_dfl am_tb (f + 1 + 1) (d + 198) 139 [.ref (ρ.1 9), .int y2, .int w2, .int 0] (hp_S sa ρ K1.1) = _ := t1
      rw [t1, am_i_some]
      simp only [hx_9 w, Option.bind_some]
      have := q_endE (B := B) (sa := sa) (f := f + 1 + 1) (d := d + 194) (fr := fr) (st := nI 14) (v := v1) (y := c1) (X := t) (Y := m_tr false c s' b 0) (H := []) w J hs h8 h16 hQ (aL_2 (by decide)) l2 (by decide) rows_len kz' (mem_rows mem_last wM) (a2.go t2) (a3.tr t2.D) (q1.go t2).v t3 (by rw [o2, eu, et, m_ty_N]) hf
      obtain ⟨K', q1, q2⟩ := this
      rw [q1, am_v_some]
      exact ⟨K', rfl, q2⟩
    · obtain ⟨K1, a1, a2, a3, a4⟩ := d_open (sa := sa) (f := f + 1) (d := d + 196) (K := kP K0 (fr + 2) false) w (kI_0 J) (kP.r J.2.1 J.1) hs
      have a1 : am_call B sa am_dfl am_tb (f + 1 + 1) (d + 198) 158 [.ref (ρ.1 9)] (hp_S sa ρ (kP K0 (fr + 1 + 1) false).1) = _ := a1
      rw [a1, am_v_some, if_pos (by decide), if_neg (show ¬ (nI 14 : Int32) ≠ 14 from fun z => z rfl)]
      have q1 : nq K1 v1 t := nq.gD (K := kP K0 (fr + 2) false) g7 a3
      have eb1 : K1.2.2.2.2 = false := by rw [a4]; rfl
      have h45 := a2.1.2.2.1
      rw [eb1] at h45
      have bad : eO sa ρ S A 14 fr (ws.drop fr) K0 (am_v (am_go B sa am_dfl (am_call B sa am_dfl am_tb (f + 1 + 1) (d + 198)) am_r163 (f + 1) 84 [(0, .ref (ρ.1 9)), (1, .int (nI 14)), (2, .int v1)] [.int 0, .ref (ρ.1 9)] (hp_S sa ρ K1.1)) fun g => some (none, g)) := by
        rw [am_s163_84]
        simp only [hx_9 w, Option.bind_some]
        rw [m_need0 w h45, am_i_some]
        simp only [am_c_eq]
        rw [if_pos True.intro, am_v_some]
        refine eO.bad3 (p := fr + 2) (K1 := K1) (noQ (by decide) (by decide) (by decide) fun Lc hL hl N hN => c ?_) a2.1 a2.2.1 a3
        obtain ⟨M, u, b, c', a, s, y1, y2, y3, y4, -⟩ := noN N hN
        rw [wd_at g4'] at y1
        rw [en_at_inj g5 y1]
        exact ⟨u, b, a, c', s, y3, y4⟩
      rcases nq_cases a2.1 q1 with ⟨u, F, X, w1, w2, et, r1, r2, r3, hqF, qX, hty⟩ | ⟨s, Y, w1, w2, et, r1, -⟩ | ⟨x', e', u', k', et, r1, r2, hx', he⟩
      · simp only [hr_918 w, hl_918 w, r1, Option.bind_some]
        rw [if_neg (fun z => z rfl)]
        simp only [hr_919 w, hl_919 w, r2, Option.bind_some]
        rcases nq_cases a2.1 hqF with ⟨u2, F2, X2, y1, y2, et2, s1, -⟩ | ⟨s, Y, y1, y2, et2, s1, -⟩ | ⟨x', e', u', k', et2, s1, s2, hx', he⟩
        · simp only [hl_918 w, s1, Option.bind_some]
          rw [if_pos (by decide)]; exact bad
        · simp only [hl_918 w, s1, Option.bind_some]
          rw [if_neg (fun z => z rfl)]
          simp only [hr_920 w, hl_920 w, r3, Option.bind_some]
          rcases nq_cases a2.1 qX with ⟨u2, F2, X2, y1, y2, et3, z1, -⟩ | ⟨s', Y', y1, y2, et3, z1, -⟩ | ⟨x', e', u', k', et3, z1, z2, hx', he⟩
          · simp only [hl_918 w, z1, Option.bind_some]
            rw [if_pos (by decide)]; exact bad
          · simp only [hl_918 w, z1, Option.bind_some]
            rw [if_pos (by decide)]; exact bad
          · simp only [hl_918 w, z1, Option.bind_some]
            by_cases k2 : k' = 2
            · exfalso
              refine c ⟨u, Y, qF s (m_ty Y), nI (4 * x' + e'), u', ?_, ?_⟩
              · rw [et, et2, et3]
              · have : e' = 1 := by rcases he with ⟨z, z'⟩ | ⟨z, z'⟩ | ⟨z, z'⟩ <;> first | exact z' | (rw [k2] at z; exact absurd z (by decide))
                rw [this]; exact q_fr_1 hx'
            · rw [if_pos k2]; exact bad
        · simp only [hl_918 w, s1, Option.bind_some]
          have n5 : k' ≠ 5 := by rcases he with ⟨z, -⟩ | ⟨z, -⟩ | ⟨z, -⟩ <;> rw [z] <;> decide
          rw [if_pos n5]; exact bad
      · simp only [hr_918 w, hl_918 w, r1, Option.bind_some]
        rw [if_pos (by decide)]; exact bad
      · simp only [hr_918 w, hl_918 w, r1, Option.bind_some]
        have n4 : k' ≠ 4 := by rcases he with ⟨z, -⟩ | ⟨z, -⟩ | ⟨z, -⟩ <;> rw [z] <;> decide
        rw [if_pos n4]; exact bad
  · rw [if_neg (show ¬ bI true = 0 by decide), am_v_some]
    refine eO.bad1 (noQ (by decide) (by decide) (by decide) fun Lc hL hl N hN => ?_) J.1 J.2.1
    have := aL_ge hL
    obtain ⟨t, u, b, c', a, s, z1, z2, -⟩ := noN N hN
    exact g2.resolve_left (by decide) ⟨_, t, w_dr' (i := 1) (wd_some (by omega)), z1, z2⟩
end ST2
