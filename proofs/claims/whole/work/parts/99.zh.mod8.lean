/-! THE REFERENCE, 20: put in -/
theorem aL_4u {k : Nat} {tk : List Nat} {wr : List Int32} {Lc : Nat} (h : k = 18) (ht : tk.length ≤ 40) (hL : aL tk k wr Lc) : Lc = 4 := aL_inj ht hL (Or.inr (Or.inr (Or.inl ⟨h, rfl⟩)))
section S4
variable {Z : Prop} {G : qT → Prop} {L : List qM} {sa : Nat → Nat} {B : Nat} {ρ : hp_L} {K K' K0 K1 : kS} {A : sV} {S : qT → Prop} {k fr : Nat} {ws wr : List Int32} {H : List qM} {M : qM}
set_option maxHeartbeats 4000000 in
theorem e_18 {f d : Nat} (w : hp_w B ρ) (J : kJ S A K0) (hI : aI S A) (hv : vS ws K0) (hs : A.1.length < 1000) (h8 : A.2.2.2.2.2.1.length < 8000) (h16 : A.2.2.2.2.2.2.length < 16000) (hfr : fr < ws.length) (hf : 70000 ≤ f) :
    eO sa ρ S A 18 fr (ws.drop fr) K0 (am_call B sa am_dfl am_tb f (d + 200) 162 [.ref (ρ.1 9), .int (nI 18)] (hp_S sa ρ (kP K0 (fr + 1) false).1)) := by
  obtain ⟨f, rfl⟩ : ∃ g, f = g + 1 := ⟨f - 1, by omega⟩
  have h40 := hI.2.2.2.1.2.2.2.1
  obtain ⟨v1, p1, b1, e1, e2, e3⟩ := k_nextSeq (sa := sa) (f := f) (d := d + 195) (b := false) (p := fr + 1) w hv J.2.1 (by omega)
  obtain ⟨v2, p2, b2, h1, h2, h3⟩ := k_nextClosed (sa := sa) (f := f) (d := d + 194) (b := b1) (p := p1) w hv J.1 J.2.1 (by omega) e2
  obtain ⟨v3, p3, b3, i1, i2, i3⟩ := k_nextClosed (sa := sa) (f := f) (d := d + 194) (b := b2) (p := p2) w hv J.1 J.2.1 (by omega) h2
  have sp : ∀ {Lc N}, aL A.2.2.2.1 18 (ws.drop fr) Lc → Lc ≤ (ws.drop fr).length → aQ A 18 (ws.drop fr) N → 4 ≤ (ws.drop fr).length ∧ sp_18 A.2.2.2.2.2.2 A.1 (wd (ws.drop fr) 1) (wd (ws.drop fr) 2) (wd (ws.drop fr) 3) N := by
    intro Lc N hL hl hN
    rw [aL_4u rfl h40 hL] at hl
    refine ⟨hl, ?_⟩
    rcases hN with ⟨z, -⟩ | ⟨z, -⟩ | ⟨z, -⟩ | ⟨z, -⟩ | ⟨z, -⟩ | ⟨z, -⟩ | ⟨z, -⟩ | ⟨z, -⟩ | ⟨-, z⟩ | ⟨z, -⟩ | ⟨z, -⟩ <;> first | exact z | exact absurd z (by decide)
  have noN : (4 ≤ (ws.drop fr).length → ∀ N, ¬ sp_18 A.2.2.2.2.2.2 A.1 (wd (ws.drop fr) 1) (wd (ws.drop fr) 2) (wd (ws.drop fr) 3) N) → Zc S A 18 (ws.drop fr) := fun z => noQ (by decide) (by decide) (by decide) fun Lc hL hl N hN => z (sp hL hl hN).1 N (sp hL hl hN).2
  rw [am_c_162, am_s162_0, if_neg (by decide), if_neg (by decide), if_neg (by decide), if_neg (by decide), if_neg (by decide), if_neg (by decide), if_neg (by decide), if_neg (by decide), if_pos (show Int32.toInt (nI 18) = 18 by decide)]
  simp only [hx_9 w, Option.bind_some]
  refine eO.v ?_
  rw [am_c_166, am_s166_0]
  simp only [hx_9 w, Option.bind_some, e1, h1, i1, am_i_some, hg_945 w, kP_45, am_c_ne]
  have loV : ∀ {V}, V ∈ A.2.2.2.2.2.2 → q_fr (m_c V) → m_lo V = 0 := by
    intro V hV hq
    obtain ⟨i, hi, e⟩ := List.mem_iff_getElem.mp hV
    rcases nq_fr J.1 (J.2.1.2.1.2.2.2.2.2 i V (List.getElem?_eq_some_iff.mpr ⟨hi, e⟩)) with ⟨-, -, -, z⟩ | ⟨z, -⟩
    · exact z
    · exact absurd hq z
  rcases e3 with ⟨rfl, -, rfl, j, s, g4, rfl, g5⟩ | ⟨rfl, g2⟩
  · have g4' := w_dr g4
    rcases h3 with ⟨rfl, -, rfl, x2, V, k4, k5, k6, k7⟩ | ⟨rfl, k2⟩
    · have k4' : (ws.drop fr)[2]? = some x2 := w_dr k4
      rcases i3 with ⟨rfl, -, rfl, x3, M, m4, m5, m6, m7⟩ | ⟨rfl, m2⟩
      · have m4' : (ws.drop fr)[3]? = some x3 := w_dr m4
        have l4 : 4 ≤ (ws.drop fr).length := by have := (List.getElem?_eq_some_iff.mp m4').1; omega
        rw [if_neg (show ¬ bI false ≠ 0 from fun z => z rfl)]
        rw [wd_at g4', wd_at k4', wd_at m4'] at noN
        have jl := (List.getElem?_eq_some_iff.mp g5).1
        have ms := List.mem_of_getElem? g5
        have rP : rI A (kP K0 (fr + 1 + 1 + 1 + 1) false) := kP.r J.2.1 J.1
        have kPb : kI True S (K0.2.2.2.1 ++ []) (kP K0 (fr + 1 + 1 + 1 + 1) false) := kI_0 J
        have gV : nq (kP K0 (fr + 1 + 1 + 1 + 1) false) v2 V := k7
        have gM : nq (kP K0 (fr + 1 + 1 + 1 + 1) false) v3 M := m7
        simp only [hr_918 w, Option.bind_some]
        have bad : Zc S A 18 (ws.drop fr) → eO sa ρ S A 18 fr (ws.drop fr) K0 (some (none, hp_S sa ρ (hp_sI (kP K0 (fr + 1 + 1 + 1 + 1) false).1 945 1))) := by
          intro hZ
          rw [show (1 : Int32) = bI true from rfl, kP_bad]
          exact eO.bad1 hZ J.1 J.2.1
        rcases nq_fr kPb gV with ⟨hfv, rv, eV, -⟩ | ⟨hfv, k', rv, nk⟩
        · simp only [hl_918 w, rv, Option.bind_some]
          rw [if_neg (fun z => z rfl)]
          obtain ⟨o1, s1, s2⟩ := kPb.rdt gV
          obtain ⟨o2, t1, t2⟩ := kPb.rdt gM
          simp only [hr_921 w, hl_921 w, s1, t1, Option.bind_some, hx_9 w]
          by_cases cT : m_ty V = m_ty M
          · have eo : o1 = o2 := by rw [cT] at s2; exact s2.eq t2 kPb.wf kPb.di kPb.n31
            rw [if_neg (fun z => z eo), m_need1 w kP_45 (by decide), am_i_some, if_pos (by decide)]
            have wM := gM.wf kPb
            let F : qM → qM := m_sb (m_c V) (m_ty V) M
            have hQ : aQ A 18 (ws.drop fr) (hy_join none [] (s.1.map F), F s.2) := Or.inr (Or.inr (Or.inr (Or.inr (Or.inr (Or.inr (Or.inr (Or.inr (Or.inl ⟨rfl, s, V, M, by rw [wd_at g4']; exact ⟨j, rfl, by omega, g5⟩, by rw [wd_at k4']; exact k5, hfv, by rw [wd_at m4']; exact m5, m6, cT, rfl⟩))))))))
            have wF : ∀ X, m_wf X → m_wf (F X) := fun X hX => (m_sb_ok hfv wM cT.symm X hX).1
            have ws2 := J.wf.2 s.2 (sq_mc ms)
            have wh : ∀ X ∈ s.1, m_wf X := fun X hX => J.wf.2 X (sq_mh ms hX)
            have hrows : ∀ X ∈ hy_join none [] (s.1.map F) ++ [F s.2], m_wf X := fun X hX => by
              rcases List.mem_append.mp hX with z | z
              · rcases hy_join_sub z with z | z
                · cases z
                · obtain ⟨Y, hY, e⟩ := List.mem_map.mp z
                  rw [← e]; exact wF Y (wh Y hY)
              · rw [List.mem_singleton.mp z]; exact wF _ ws2
            obtain ⟨ok, -⟩ := aQ_ok hI J.wf hQ
            have kz' := kz_N J h16 hQ hrows ok
            obtain ⟨K1, a1, a2, a3, -⟩ := d_open (sa := sa) (f := f) (d := d + 196) w (kI_Q (p := fr + 1 + 1 + 1 + 1) (Z := Zc S A 18 (ws.drop fr)) (rows := hy_join none [] (s.1.map F) ++ [F s.2]) (Q := (hy_join none [] (s.1.map F) ++ [F s.2]).flatMap m_subs ++ []) J) rP hs
            simp only [hx_9 w, Option.bind_some]
            rw [a1, am_v_some]
            have hh := hys_at g5
            have u60 := J.2.1.u60
            have z60' := z60 (S := S) hQ
            have vV : nq K1 v2 (mN (m_c V) (m_ty V) .leaf .leaf) := by rw [← eV]; exact gV.gD a3
            have h120 : ∀ {K : kS} {v X}, kI (Zc S A 18 (ws.drop fr)) (q_un S (hy_join none [] (s.1.map F) ++ [F s.2])) (K0.2.2.2.1 ++ ((hy_join none [] (s.1.map F) ++ [F s.2]).flatMap m_subs ++ [])) K → nq K v X → m_ht X ≤ 120 := fun {K v X} hK ⟨i, _, _, hi⟩ => (hK.row hi).2.2.2.2.2.2
            have loop : ∀ (m i g : Nat) (H : List qM) (K : kS), dI (Zc S A 18 (ws.drop fr)) (q_un S (hy_join none [] (s.1.map F) ++ [F s.2])) (K0.2.2.2.1 ++ ((hy_join none [] (s.1.map F) ++ [F s.2]).flatMap m_subs ++ [])) A H K → kD K1 K → hy_join none H ((s.1.drop i).map F) = hy_join none [] (s.1.map F) → s.1.length - i = m → i ≤ s.1.length → m + 1 ≤ g → eO sa ρ S A 18 fr (ws.drop fr) K0 (am_go B sa am_dfl (am_call B sa am_dfl am_tb (f + 1) (d + 198)) am_r166 g 67 [(0, .ref (ρ.1 9)), (1, .int (nI j)), (2, .int v2), (3, .int v3), (4, .int (nI i))] [] (hp_S sa ρ K.1)) := by
              intro m
              induction m with
              | zero =>
                intro i g H K hd hD hj hm hi hg
                obtain ⟨g, rfl⟩ : ∃ x, g = x + 1 := ⟨g - 1, by omega⟩
                rw [List.drop_eq_nil_of_le (by omega)] at hj
                have hj : H = hy_join none [] (s.1.map F) := hj
                obtain ⟨q1, q2, q3, q4, q5⟩ := hd.2.1.2.2.1.2.2.2.2.2 j s g5
                have r37 := hd.2.1.r37 (r := 937) (j := j) (by decide) (by decide) (by omega)
                rw [q3] at r37
                obtain ⟨c1, c2⟩ := hd.2.1.c g5
                rw [am_s166_67]
                simp only [hr_937 w, hl_937 w, r37, hr_935 w, hl_935 w, c1, Option.bind_some, am_c_ge, hx_9 w]
                rw [if_pos (nI_le (by omega) (by omega))]
                obtain ⟨o, K2, t1, t2, t3⟩ := k_repl (sa := sa) (f := f + 1) hfv wM cT.symm w kz' hf s.2 ws2 (d + 193) K v2 ((K.1.2 935).2 j) v3 hd.1 (vV.gD hD).v ((gM.gD a3).gD hD).v c2.v (mem_rows mem_last (wF _ ws2)) (by have := h120 hd.1 c2; omega)
                rw [t1, am_i_some]
                simp only [hx_9 w, Option.bind_some]
                subst hj
                exact q_end (B := B) (sa := sa) (f := f + 1) (d := d + 196) (fr := fr) (Lc := 4) (st := 18) w J hs h8 h16 hQ (Or.inr (Or.inr (Or.inl ⟨rfl, rfl⟩))) l4 (by decide) rows_len (hd.go t2) ((a3.tr hD).tr t2.D) t3 (by omega)
              | succ m ih =>
                intro i g H K hd hD hj hm hi hg
                obtain ⟨g, rfl⟩ : ∃ x, g = x + 1 := ⟨g - 1, by omega⟩
                have il : i < s.1.length := by omega
                have hX := List.getElem?_eq_getElem il
                rw [List.drop_eq_getElem_cons il, List.map_cons, hy_join_c, if_neg (by intro z; cases z)] at hj
                obtain ⟨q1, q2, q3, q4, q5⟩ := hd.2.1.2.2.1.2.2.2.2.2 j s g5
                have qX := q5 i _ hX
                have r37 := hd.2.1.r37 (r := 937) (j := j) (by decide) (by decide) (by omega)
                rw [q3] at r37
                have r36 := hd.2.1.r37 (r := 936) (j := j) (by decide) (by decide) (by omega)
                rw [q2] at r36
                have r43 := hd.2.1.r43 (i := (hys (A.1.take j)).length + i) (by omega)
                rw [← nI_add] at r43
                rw [am_s166_67]
                simp only [hr_937 w, hl_937 w, r37, hr_943 w, hr_936 w, hl_936 w, r36, hl_943 w, r43, Option.bind_some, am_c_ge, hx_9 w]
                rw [if_neg (nI_ge il (by omega)), nI_1]
                have wX := wh _ (List.getElem_mem il)
                have memX : F s.1[i] ∈ hy_join none [] (s.1.map F) ++ [F s.2] := List.mem_append.mpr (Or.inl (hy_join_mem (List.mem_map.mpr ⟨_, List.getElem_mem il, rfl⟩)))
                obtain ⟨o, K2, t1, t2, t3⟩ := k_repl (sa := sa) (f := f + 1) hfv wM cT.symm w kz' hf s.1[i] wX (d + 193) K v2 _ v3 hd.1 (vV.gD hD).v ((gM.gD a3).gD hD).v qX.v (mem_rows memX (wF _ wX)) (by have := h120 hd.1 qX; omega)
                rw [t1, am_i_some]
                simp only [hx_9 w, Option.bind_some]
                obtain ⟨K3, u1, u2, u3⟩ := d_add (sa := sa) (f := f + 1) (d := d + 196) w (hd.go t2) t3 (fun z => z60' (by
                  show 60 < (hy_join none [] (s.1.map F)).length
                  rw [← hj]; exact Nat.lt_of_lt_of_le z hy_join_le)) hs (by omega)
                rw [u1, am_v_some]
                exact ih (i + 1) g _ K3 u2 ((hD.tr t2.D).tr u3) hj (by omega) (by omega) (by omega)
            exact loop s.1.length 0 f [] K1 a2 kD.rf rfl (by omega) (by omega) (by omega)
          · have eo : o1 ≠ o2 := fun z => by
              rw [z] at s2
              exact cT (s2.ct.symm.trans t2.ct)
            rw [if_pos eo, m_need0 w kP_45, am_i_some, if_neg (fun z => z rfl)]
            refine bad (noN fun _ N ⟨s', V', M', z1, z2, z3, z4, z5, z6, z7⟩ => cT ?_)
            rw [en_at_inj k5 z2, en_at_inj m5 z4]; exact z6
        · simp only [hl_918 w, rv, Option.bind_some]
          rw [if_pos nk]
          rw [m_need0 w kP_45, am_i_some, if_neg (fun z => z rfl)]
          refine bad (noN fun _ N ⟨s', V', M', z1, z2, z3, z4, z5, z6, z7⟩ => hfv ?_)
          rw [en_at_inj k5 z2]; exact z3
      · rw [if_pos (show bI true ≠ 0 by decide)]
        refine eO.bad1 (noN fun l4 N ⟨s', V', M', z1, z2, z3, z4, z5, z6, z7⟩ => ?_) J.1 J.2.1
        exact m2.resolve_left (by decide) ⟨_, M', w_dr' (i := 3) (wd_some (by omega)), z4, z5⟩
    · rcases i3 with ⟨-, z, -⟩ | ⟨rfl, -⟩
      · cases z
      · rw [if_pos (show bI true ≠ 0 by decide)]
        refine eO.bad1 (noN fun l4 N ⟨s', V', M', z1, z2, z3, z4, z5, z6, z7⟩ => ?_) J.1 J.2.1
        exact k2.resolve_left (by decide) ⟨_, V', w_dr' (i := 2) (wd_some (by omega)), z2, loV (en_mem z2) z3⟩
  · rcases h3 with ⟨-, z, -⟩ | ⟨rfl, -⟩
    · cases z
    · rcases i3 with ⟨-, z, -⟩ | ⟨rfl, -⟩
      · cases z
      · rw [if_pos (show bI true ≠ 0 by decide)]
        refine eO.bad1 (noN fun l4 N ⟨s', V', M', z1, z2, z3, z4, z5, z6, z7⟩ => ?_) J.1 J.2.1
        exact g2.resolve_left (by decide) ⟨_, s', w_dr' (i := 1) (wd_some (by omega)), z1⟩
end S4
