/-! THE REFERENCE, 18: steps of two sequents -/
section S2
variable {Z : Prop} {G : qT → Prop} {L : List qM} {sa : Nat → Nat} {B : Nat} {ρ : hp_L} {K K' K0 K1 : kS} {A : sV} {S : qT → Prop} {k fr : Nat} {ws wr : List Int32} {H : List qM} {M : qM}
theorem eO.v {x : Option (Option Value × am_S)} (h : eO sa ρ S A k fr wr K0 x) : eO sa ρ S A k fr wr K0 (am_v x fun g => some (none, g)) := by
  obtain ⟨K', q1, q2⟩ := h
  rw [q1, am_v_some]
  exact ⟨K', rfl, q2⟩
theorem rI.c (h : rI A K) {j : Nat} {s : qQ} (hj : A.1[j]? = some s) : hp_rd K.1 935 (nI j) = some ((K.1.2 935).2 j) ∧ nq K ((K.1.2 935).2 j) s.2 := by
  have := (List.getElem?_eq_some_iff.mp hj).1
  have h2 := h.2.2.1.1.2
  exact ⟨h.r37 (by decide) (by decide) (by omega), (h.2.2.1.2.2.2.2.2 j s hj).1⟩
/-- joined -/
theorem d_joined {f d j j' : Nat} {s t : qQ} (w : hp_w B ρ) (h : kI Z G L K) (hr : rI A K) (hj : A.1[j]? = some s) (hj' : A.1[j']? = some t) (hz : 60 < (hy_join none (hy_join none [] s.1) t.1).length → Z) (hs : A.1.length < 1000) (hf : 100 ≤ f) :
    ∃ K', am_call B sa am_dfl am_tb f (d + 4) 161 [.ref (ρ.1 9), .int (nI j), .int (nI j')] (hp_S sa ρ K.1) = some (none, hp_S sa ρ K'.1) ∧ dI Z G L A (hy_join none (hy_join none [] s.1) t.1) K' ∧ kD K K' := by
  obtain ⟨f, rfl⟩ : ∃ g, f = g + 1 := ⟨f - 1, by omega⟩
  obtain ⟨K1, a1, a2, a3, -⟩ := d_open (sa := sa) (f := f) (d := d + 1) w h hr hs
  obtain ⟨K2, b1, b2, b3⟩ := d_all (sa := sa) (f := f + 1) (d := d) (e := none) (v := -1) w a2 hj (Or.inl ⟨rfl, rfl⟩) (fun z => hz (Nat.lt_of_lt_of_le z hy_join_le)) hs hf
  obtain ⟨K3, c1, c2, c3⟩ := d_all (sa := sa) (f := f + 1) (d := d) (e := none) (v := -1) w b2 hj' (Or.inl ⟨rfl, rfl⟩) hz hs hf
  rw [am_c_161, am_s161_0]
  simp only [hx_9 w, Option.bind_some]
  rw [a1, am_v_some]
  simp only [hx_9 w, Option.bind_some]
  rw [b1, am_v_some]
  simp only [hx_9 w, Option.bind_some]
  rw [c1, am_v_some]
  exact ⟨K3, rfl, c2, (a3.tr b3).tr c3⟩
/-- reading two sequents -/
theorem e_two {f d : Nat} (hk : k ∈ [11, 12, 16, 17]) (w : hp_w B ρ) (J : kJ S A K0) (hI : aI S A) (hv : vS ws K0) (hfr : fr < ws.length) (hf : 70000 ≤ f)
    (body : ∀ {j j' : Nat} {s t : qQ}, A.1[j]? = some s → A.1[j']? = some t → 3 ≤ (ws.drop fr).length → wd (ws.drop fr) 1 = nI j → wd (ws.drop fr) 2 = nI j' → eO sa ρ S A k fr (ws.drop fr) K0 (am_call B sa am_dfl am_tb f (d + 199) 164 [.ref (ρ.1 9), .int (nI k), .int (nI j), .int (nI j')] (hp_S sa ρ (kP K0 (fr + 3) false).1))) :
    eO sa ρ S A k fr (ws.drop fr) K0 (am_call B sa am_dfl am_tb f (d + 200) 162 [.ref (ρ.1 9), .int (nI k)] (hp_S sa ρ (kP K0 (fr + 1) false).1)) := by
  obtain ⟨f, rfl⟩ : ∃ g, f = g + 1 := ⟨f - 1, by omega⟩
  have h40 := hI.2.2.2.1.2.2.2.1
  obtain ⟨v1, p1, b1, e1, e2, e3⟩ := k_nextSeq (sa := sa) (f := f) (d := d + 196) (b := false) (p := fr + 1) w hv J.2.1 (by omega)
  obtain ⟨v2, p2, b2, h1, h2, h3⟩ := k_nextSeq (sa := sa) (f := f) (d := d + 196) (b := b1) (p := p1) w hv J.2.1 e2
  have hkm : k ∈ [2, 3, 4, 5, 6, 11, 12, 13, 16, 17] := by
    rcases List.mem_cons.mp hk with rfl | hk
    · decide
    rcases List.mem_cons.mp hk with rfl | hk
    · decide
    rcases List.mem_cons.mp hk with rfl | hk
    · decide
    rw [List.mem_singleton.mp hk]; decide
  have noW : (3 ≤ (ws.drop fr).length → ∀ N, ¬ aQ A k (ws.drop fr) N) → Zc S A k (ws.drop fr) := by
    intro z
    refine noQ ?_ ?_ ?_ fun Lc hL hl N hN => z (by rw [aL_3u hkm h40 hL] at hl; exact hl) N hN
    all_goals
      rcases List.mem_cons.mp hk with rfl | hk
      · decide
      rcases List.mem_cons.mp hk with rfl | hk
      · decide
      rcases List.mem_cons.mp hk with rfl | hk
      · decide
      rw [List.mem_singleton.mp hk]; decide
  have sp : ∀ {N}, aQ A k (ws.drop fr) N → ∃ s t, en_at A.1 (wd (ws.drop fr) 1) s ∧ en_at A.1 (wd (ws.drop fr) 2) t := by
    intro N hN
    have n10 : k ∉ [10, 13, 14, 15, 18, 19, 22] := by
      rcases List.mem_cons.mp hk with rfl | hk
      · decide
      rcases List.mem_cons.mp hk with rfl | hk
      · decide
      rcases List.mem_cons.mp hk with rfl | hk
      · decide
      rw [List.mem_singleton.mp hk]; decide
    rcases hN with ⟨z, -⟩ | ⟨-, s, t, X, Y, W, z1, z2, -⟩ | ⟨-, s, t, F, F', X, X', u, z1, z2, -⟩ | ⟨z, -⟩ | ⟨z, -⟩ | ⟨z, -⟩ | ⟨-, s, t, Y, z1, z2, -⟩ | ⟨-, s, t, z1, z2, -⟩ | ⟨z, -⟩ | ⟨z, -⟩ | ⟨z, -⟩
    · exact absurd (by rw [z]; decide) n10
    · exact ⟨s, t, z1, z2⟩
    · exact ⟨s, t, z1, z2⟩
    · exact absurd (by rw [z]; decide) n10
    · exact absurd (by rw [z]; decide) n10
    · exact absurd (by rw [z]; decide) n10
    · exact ⟨s, t, z1, z2⟩
    · exact ⟨s, t, z1, z2⟩
    · exact absurd (by rw [z]; decide) n10
    · exact absurd (by rw [z]; decide) n10
    · exact absurd (by rw [z]; decide) n10
  have go : eO sa ρ S A k fr (ws.drop fr) K0 (am_v (am_call B sa am_dfl am_tb (f + 1) (d + 199) 164 [.ref (ρ.1 9), .int (nI k), .int v1, .int v2] (hp_S sa ρ (kP K0 p2 b2).1)) fun g => some (none, g)) := by
    refine eO.v ?_
    rcases e3 with ⟨rfl, -, rfl, j, s, g4, rfl, g5⟩ | ⟨rfl, g2⟩
    · rcases h3 with ⟨rfl, -, rfl, j', t, k4, rfl, k5⟩ | ⟨rfl, k2⟩
      · have g4' := w_dr g4
        have k4' : (ws.drop fr)[2]? = some (nI j') := w_dr k4
        exact body g5 k5 (by have := (List.getElem?_eq_some_iff.mp k4').1; omega) (wd_at g4') (wd_at k4')
      · rw [am_c_164, am_s164_0]
        simp only [hg_945 w, kP_45, Option.bind_some, am_c_eq]
        rw [if_neg (show ¬ bI true = 0 by decide)]
        refine eO.bad1 (noW fun l3 N hN => ?_) J.1 J.2.1
        obtain ⟨s', t', z1, z2⟩ := sp hN
        exact k2.resolve_left (by decide) ⟨_, t', w_dr' (i := 2) (wd_some (by omega)), z2⟩
    · rcases h3 with ⟨-, z, -⟩ | ⟨rfl, k2⟩
      · cases z
      · rw [am_c_164, am_s164_0]
        simp only [hg_945 w, kP_45, Option.bind_some, am_c_eq]
        rw [if_neg (show ¬ bI true = 0 by decide)]
        refine eO.bad1 (noW fun l3 N hN => ?_) J.1 J.2.1
        obtain ⟨s', t', z1, z2⟩ := sp hN
        exact g2.resolve_left (by decide) ⟨_, s', w_dr' (i := 1) (wd_some (by omega)), z1⟩
  rw [am_c_162, am_s162_0]
  rcases List.mem_cons.mp hk with rfl | hk
  · rw [if_neg (by decide), if_pos (show Int32.toInt (nI 11) = 11 by decide)]
    simp only [hx_9 w, Option.bind_some, e1, h1, am_i_some]
    exact go
  rcases List.mem_cons.mp hk with rfl | hk
  · rw [if_neg (by decide), if_neg (by decide), if_pos (show Int32.toInt (nI 12) = 12 by decide)]
    simp only [hx_9 w, Option.bind_some, e1, h1, am_i_some]
    exact go
  rcases List.mem_cons.mp hk with rfl | hk
  · rw [if_neg (by decide), if_neg (by decide), if_neg (by decide), if_neg (by decide), if_neg (by decide), if_neg (by decide), if_pos (show Int32.toInt (nI 16) = 16 by decide)]
    simp only [hx_9 w, Option.bind_some, e1, h1, am_i_some]
    exact go
  · obtain rfl := List.mem_singleton.mp hk
    rw [if_neg (by decide), if_neg (by decide), if_neg (by decide), if_neg (by decide), if_neg (by decide), if_neg (by decide), if_neg (by decide), if_pos (show Int32.toInt (nI 17) = 17 by decide)]
    simp only [hx_9 w, Option.bind_some, e1, h1, am_i_some]
    exact go
theorem en_nI {α : Type} {l : List α} {j : Nat} {s t : α} (hl : l.length ≤ 1000) (hj : l[j]? = some s) (h : en_at l (nI j) t) : s = t := by
  have := (List.getElem?_eq_some_iff.mp hj).1
  exact en_at_inj (⟨j, rfl, by omega, hj⟩ : en_at l (nI j) s) h
set_option maxHeartbeats 2000000 in
theorem e_17 {f d : Nat} (w : hp_w B ρ) (J : kJ S A K0) (hI : aI S A) (hv : vS ws K0) (hs : A.1.length < 1000) (h8 : A.2.2.2.2.2.1.length < 8000) (h16 : A.2.2.2.2.2.2.length < 16000) (hfr : fr < ws.length) (hf : 70000 ≤ f) :
    eO sa ρ S A 17 fr (ws.drop fr) K0 (am_call B sa am_dfl am_tb f (d + 200) 162 [.ref (ρ.1 9), .int (nI 17)] (hp_S sa ρ (kP K0 (fr + 1) false).1)) := by
  refine e_two (by decide) w J hI hv hfr hf fun {j j' s t} hj hj' l3 d1 d2 => ?_
  obtain ⟨f, rfl⟩ : ∃ g, f = g + 1 := ⟨f - 1, by omega⟩
  have jl := (List.getElem?_eq_some_iff.mp hj).1
  have jl' := (List.getElem?_eq_some_iff.mp hj').1
  have hQ : aQ A 17 (ws.drop fr) (hy_join (some s.2) (hy_join (some t.2) [] s.1) t.1, mE s.2 t.2) := Or.inr (Or.inr (Or.inr (Or.inr (Or.inr (Or.inr (Or.inr (Or.inl ⟨rfl, s, t, by rw [d1]; exact ⟨j, rfl, by omega, hj⟩, by rw [d2]; exact ⟨j', rfl, by omega, hj'⟩, rfl⟩)))))))
  have tb := hI.2.2.2.2.2.1 s (List.mem_of_getElem? hj)
  have tb' := hI.2.2.2.2.2.1 t (List.mem_of_getElem? hj')
  have wA := J.wf
  have ws' := wA.2 s.2 (sq_mc (List.mem_of_getElem? hj))
  have wt' := wA.2 t.2 (sq_mc (List.mem_of_getElem? hj'))
  have wM : m_wf (mE s.2 t.2) := mE_wf ws' wt' (tb'.trans tb.symm)
  obtain ⟨ok, -⟩ := aQ_ok hI wA hQ
  have kz' := kz_N J h16 hQ (fun X hX => by
    rcases List.mem_append.mp hX with z | z
    · rcases hy_join_sub z with z | z
      · rcases hy_join_sub z with z | z
        · cases z
        · exact wA.2 X (sq_mh (List.mem_of_getElem? hj) z)
      · exact wA.2 X (sq_mh (List.mem_of_getElem? hj') z)
    · rw [List.mem_singleton.mp z]; exact wM) ok
  rw [am_c_164, am_s164_0]
  simp only [hg_945 w, kP_45, Option.bind_some, am_c_eq, am_c_ne]
  rw [if_pos (show bI false = 0 from rfl)]
  have rP : rI A (kP K0 (fr + 3) false) := kP.r J.2.1 J.1
  obtain ⟨c1, c2⟩ := rP.c hj
  obtain ⟨c3, c4⟩ := rP.c hj'
  simp only [hr_935 w, hl_935 w, c1, c3, Option.bind_some, hx_9 w]
  rw [if_neg (show ¬ (nI 17 : Int32) ≠ 17 from fun z => z rfl)]
  obtain ⟨K1, a1, a2, a3, -⟩ := d_open (sa := sa) (f := f) (d := d + 196) w (kI_Q (p := fr + 3) (Z := Zc S A 17 (ws.drop fr)) (rows := hy_join (some s.2) (hy_join (some t.2) [] s.1) t.1 ++ [mE s.2 t.2]) (Q := (hy_join (some s.2) (hy_join (some t.2) [] s.1) t.1 ++ [mE s.2 t.2]).flatMap m_subs ++ []) J) rP hs
  rw [a1, am_v_some]
  simp only [hx_9 w, Option.bind_some]
  have z60' := z60 (S := S) hQ
  obtain ⟨K2, b1, b2, b3⟩ := d_all (sa := sa) (f := f + 1) (d := d + 195) (e := some t.2) w a2 hj (Or.inr ⟨t.2, rfl, c4.gD a3⟩) (fun z => z60' (Nat.lt_of_lt_of_le z hy_join_le)) hs (by omega)
  rw [b1, am_v_some]
  simp only [hx_9 w, Option.bind_some]
  obtain ⟨K3, f1, f2, f3⟩ := d_all (sa := sa) (f := f + 1) (d := d + 195) (e := some s.2) w b2 hj' (Or.inr ⟨s.2, rfl, (c2.gD a3).gD b3⟩) z60' hs (by omega)
  rw [f1, am_v_some]
  simp only [hx_9 w, Option.bind_some]
  have D := (a3.tr b3).tr f3
  exact q_endE (B := B) (sa := sa) (f := f + 1) (d := d + 194) (fr := fr) (st := nI 17) (X := s.2) (Y := t.2) w J hs h8 h16 hQ (aL_3 (by decide)) l3 (by decide) rows_len kz' (mem_rows mem_last wM) f2 D (c2.gD D).v (c4.gD D).v (tb'.trans tb.symm) hf
/-- rows of joined hypotheses are terms -/
theorem join_wf (J : kJ S A K0) {s t : qQ} (hs : s ∈ A.1) (ht : t ∈ A.1) {X : qM} (hX : X ∈ hy_join none (hy_join none [] s.1) t.1) : m_wf X := by
  rcases hy_join_sub hX with z | z
  · rcases hy_join_sub z with z | z
    · cases z
    · exact J.wf.2 X (sq_mh hs z)
  · exact J.wf.2 X (sq_mh ht z)
set_option maxHeartbeats 4000000 in
theorem e_16 {f d : Nat} (w : hp_w B ρ) (J : kJ S A K0) (hI : aI S A) (hv : vS ws K0) (hs : A.1.length < 1000) (h8 : A.2.2.2.2.2.1.length < 8000) (h16 : A.2.2.2.2.2.2.length < 16000) (hfr : fr < ws.length) (hf : 70000 ≤ f) :
    eO sa ρ S A 16 fr (ws.drop fr) K0 (am_call B sa am_dfl am_tb f (d + 200) 162 [.ref (ρ.1 9), .int (nI 16)] (hp_S sa ρ (kP K0 (fr + 1) false).1)) := by
  refine e_two (by decide) w J hI hv hfr hf fun {j j' s t} hj hj' l3 d1 d2 => ?_
  obtain ⟨f, rfl⟩ : ∃ g, f = g + 1 + 1 + 1 := ⟨f - 3, by omega⟩
  have jl := (List.getElem?_eq_some_iff.mp hj).1
  have jl' := (List.getElem?_eq_some_iff.mp hj').1
  have ms := List.mem_of_getElem? hj
  have mt := List.mem_of_getElem? hj'
  have noN : (¬ ∃ Y, m_isE s.2 t.2 Y) → Zc S A 16 (ws.drop fr) := by
    intro z
    refine noQ (by decide) (by decide) (by decide) fun Lc hL hl N hN => ?_
    rcases hN with ⟨y, -⟩ | ⟨y, -⟩ | ⟨y, -⟩ | ⟨y, -⟩ | ⟨y, -⟩ | ⟨y, -⟩ | ⟨-, s', t', Y, z1, z2, z3, -⟩ | ⟨y, -⟩ | ⟨y, -⟩ | ⟨y, -⟩ | ⟨y, -⟩
    all_goals first | exact absurd y (by decide) | skip
    rw [d1] at z1
    rw [d2] at z2
    obtain rfl := en_nI (by omega) hj z1
    obtain rfl := en_nI (by omega) hj' z2
    exact z ⟨Y, z3⟩
  have rP : rI A (kP K0 (fr + 3) false) := kP.r J.2.1 J.1
  have kP0 : kI True S (K0.2.2.2.1 ++ []) (kP K0 (fr + 3) false) := kI_0 J
  obtain ⟨c1, c2⟩ := rP.c hj
  obtain ⟨c3, c4⟩ := rP.c hj'
  generalize hp : ((kP K0 (fr + 3) false).1.2 935).2 j = p at c1 c2
  generalize hq : ((kP K0 (fr + 3) false).1.2 935).2 j' = q at c3 c4
  rw [am_c_164, am_s164_0]
  simp only [hg_945 w, kP_45, Option.bind_some, am_c_eq, am_c_ne]
  rw [if_pos (show bI false = 0 from rfl)]
  simp only [hr_935 w, hl_935 w, c1, c3, Option.bind_some, hx_9 w]
  rw [if_pos (show (nI 16 : Int32) ≠ 17 by decide), k_isEq (M := s.2) w kP0 c2, am_i_some]
  have bad92 : Zc S A 16 (ws.drop fr) → eO sa ρ S A 16 fr (ws.drop fr) K0 (am_go B sa am_dfl (am_call B sa am_dfl am_tb (f + 1 + 1 + 1) (d + 198)) am_r164 (f + 1 + 1) 92 [(0, .ref (ρ.1 9)), (1, .int (nI 16)), (2, .int (nI j)), (3, .int (nI j')), (4, .int p), (5, .int q)] [.int 0, .ref (ρ.1 9)] (hp_S sa ρ (kP K0 (fr + 3) false).1)) := by
    intro hZ
    rw [am_s164_92]
    simp only [hx_9 w, Option.bind_some]
    rw [m_need0 w kP_45, am_i_some]
    simp only [am_c_ne]
    rw [if_neg (fun z => z rfl), show (1 : Int32) = bI true from rfl, kP_bad]
    exact eO.bad1 hZ J.1 J.2.1
  by_cases cE : ∃ X Y, m_isE s.2 X Y
  · rw [bP_t cE, if_neg (by decide), if_pos (show (nI 16 : Int32) = 16 from rfl)]
    obtain ⟨X, Y, wX, wY, ety, eM⟩ := cE
    rw [am_s164_92]
    simp only [hx_9 w, Option.bind_some]
    rw [m_need1 w kP_45 (by decide), am_i_some]
    simp only [am_c_ne, am_c_eq]
    rw [if_pos (by decide)]
    simp only [hx_9 w, Option.bind_some]
    by_cases cT : X = t.2
    · subst cT
      have hQ : aQ A 16 (ws.drop fr) (hy_join none (hy_join none [] s.1) t.1, Y) := Or.inr (Or.inr (Or.inr (Or.inr (Or.inr (Or.inr (Or.inl ⟨rfl, s, t, Y, by rw [d1]; exact ⟨j, rfl, by omega, hj⟩, by rw [d2]; exact ⟨j', rfl, by omega, hj'⟩, ⟨wX, wY, ety, eM⟩, rfl⟩))))))
      obtain ⟨ok, -⟩ := aQ_ok hI J.wf hQ
      have kz' := kz_N J h16 hQ (fun X hX => by
        rcases List.mem_append.mp hX with z | z
        · exact join_wf J ms mt z
        · rw [List.mem_singleton.mp z]; exact wY) ok
      obtain ⟨K1, a1, a2, a3⟩ := d_joined (sa := sa) (f := f + 1 + 1 + 1) (d := d + 194) w (kI_Q (p := fr + 3) (Z := Zc S A 16 (ws.drop fr)) (rows := hy_join none (hy_join none [] s.1) t.1 ++ [Y]) (Q := (hy_join none (hy_join none [] s.1) t.1 ++ [Y]).flatMap m_subs ++ []) J) rP hj hj' (z60 hQ) hs (by omega)
      rw [a1, am_v_some, if_neg (fun z => z rfl)]
      have qp := c2.gD a3
      have qq := c4.gD a3
      obtain ⟨y1, y2, y3, r1, r2, r3, r4, qY, qX⟩ := nq_E a2.1 (by rw [← eM]; exact qp)
      simp only [hx_9 w, Option.bind_some]
      rw [k_leftOf w r2 r4, am_i_some]
      have ev : y3 = q := qX.uq qq a2.1
      rw [if_neg (fun z => z ev)]
      simp only [hx_9 w, Option.bind_some]
      rw [m_need1 w a2.1.2.2.1 (by decide), am_i_some]
      rcases bI_cases K1.2.2.2.2 with ⟨eb, -⟩ | ⟨eb, -⟩
      · rw [eb, if_neg (show ¬ (bI !false) = 0 by decide)]
        simp only [hr_920 w, hl_920 w, r3, Option.bind_some, hx_9 w]
        exact q_end (B := B) (sa := sa) (f := f + 1 + 1 + 1) (d := d + 196) (fr := fr) (st := nI 16) w J hs h8 h16 hQ (aL_3 (by decide)) l3 (by decide) rows_len a2 a3 qY.v (by omega)
      · rw [eb, if_pos (show (bI !true) = 0 from rfl)]
        exact eO.bad (a2.1.2.2.2.1 eb) a2.1 a2.2.1 a3.2.1 a3.2.2.1 (kP.dx.tr a3.1) eb
    · obtain ⟨K1, a1, a2, a3⟩ := d_joined (sa := sa) (f := f + 1 + 1 + 1) (d := d + 194) w kP0 rP hj hj' (fun _ => True.intro) hs (by omega)
      rw [a1, am_v_some, if_neg (fun z => z rfl)]
      have qp := c2.gD a3
      have qq := c4.gD a3
      obtain ⟨y1, y2, y3, r1, r2, r3, r4, qY, qX⟩ := nq_E a2.1 (by rw [← eM]; exact qp)
      simp only [hx_9 w, Option.bind_some]
      rw [k_leftOf w r2 r4, am_i_some]
      have ev : y3 ≠ q := fun z => cT (by rw [z] at qX; exact qX.inj qq)
      rw [if_pos ev]
      simp only [hx_9 w, Option.bind_some]
      rw [m_need0 w a2.1.2.2.1, am_i_some, if_pos rfl]
      refine eO.bad3 (K1 := K1) (noN fun ⟨Y', z⟩ => cT ?_) a2.1 a2.2.1 a3
      exact (m_isE_inj (⟨wX, wY, ety, eM⟩ : m_isE s.2 X Y) z).1
  · rw [bP_f cE, if_pos rfl]
    exact bad92 (noN fun ⟨Y, z⟩ => cE ⟨_, Y, z⟩)
set_option maxHeartbeats 4000000 in
theorem e_11 {f d : Nat} (w : hp_w B ρ) (J : kJ S A K0) (hI : aI S A) (hv : vS ws K0) (hs : A.1.length < 1000) (h8 : A.2.2.2.2.2.1.length < 8000) (h16 : A.2.2.2.2.2.2.length < 16000) (hfr : fr < ws.length) (hf : 70000 ≤ f) :
    eO sa ρ S A 11 fr (ws.drop fr) K0 (am_call B sa am_dfl am_tb f (d + 200) 162 [.ref (ρ.1 9), .int (nI 11)] (hp_S sa ρ (kP K0 (fr + 1) false).1)) := by
  refine e_two (by decide) w J hI hv hfr hf fun {j j' s t} hj hj' l3 d1 d2 => ?_
  obtain ⟨f, rfl⟩ : ∃ g, f = g + 1 + 1 + 1 := ⟨f - 3, by omega⟩
  have jl := (List.getElem?_eq_some_iff.mp hj).1
  have jl' := (List.getElem?_eq_some_iff.mp hj').1
  have ms := List.mem_of_getElem? hj
  have mt := List.mem_of_getElem? hj'
  have noN : (¬ ∃ X Y W, m_isE s.2 X Y ∧ m_isE t.2 Y W) → Zc S A 11 (ws.drop fr) := by
    intro z
    refine noQ (by decide) (by decide) (by decide) fun Lc hL hl N hN => ?_
    rcases hN with ⟨y, -⟩ | ⟨-, s', t', X, Y, W, z1, z2, z3, z4, -⟩ | ⟨y, -⟩ | ⟨y, -⟩ | ⟨y, -⟩ | ⟨y, -⟩ | ⟨y, -⟩ | ⟨y, -⟩ | ⟨y, -⟩ | ⟨y, -⟩ | ⟨y, -⟩
    all_goals first | exact absurd y (by decide) | skip
    rw [d1] at z1
    rw [d2] at z2
    obtain rfl := en_nI (by omega) hj z1
    obtain rfl := en_nI (by omega) hj' z2
    exact z ⟨X, Y, W, z3, z4⟩
  have rP : rI A (kP K0 (fr + 3) false) := kP.r J.2.1 J.1
  have kP0 : kI True S (K0.2.2.2.1 ++ []) (kP K0 (fr + 3) false) := kI_0 J
  obtain ⟨c1, c2⟩ := rP.c hj
  obtain ⟨c3, c4⟩ := rP.c hj'
  generalize hp : ((kP K0 (fr + 3) false).1.2 935).2 j = p at c1 c2
  generalize hq : ((kP K0 (fr + 3) false).1.2 935).2 j' = q at c3 c4
  rw [am_c_164, am_s164_0]
  simp only [hg_945 w, kP_45, Option.bind_some, am_c_eq, am_c_ne]
  rw [if_pos (show bI false = 0 from rfl)]
  simp only [hr_935 w, hl_935 w, c1, c3, Option.bind_some, hx_9 w]
  rw [if_pos (show (nI 11 : Int32) ≠ 17 by decide), k_isEq (M := s.2) w kP0 c2, am_i_some]
  have bad92 : Zc S A 11 (ws.drop fr) → eO sa ρ S A 11 fr (ws.drop fr) K0 (am_go B sa am_dfl (am_call B sa am_dfl am_tb (f + 1 + 1 + 1) (d + 198)) am_r164 (f + 1 + 1) 92 [(0, .ref (ρ.1 9)), (1, .int (nI 11)), (2, .int (nI j)), (3, .int (nI j')), (4, .int p), (5, .int q)] [.int 0, .ref (ρ.1 9)] (hp_S sa ρ (kP K0 (fr + 3) false).1)) := by
    intro hZ
    rw [am_s164_92]
    simp only [hx_9 w, Option.bind_some]
    rw [m_need0 w kP_45, am_i_some]
    simp only [am_c_ne]
    rw [if_neg (fun z => z rfl), show (1 : Int32) = bI true from rfl, kP_bad]
    exact eO.bad1 hZ J.1 J.2.1
  by_cases cE : ∃ X Y, m_isE s.2 X Y
  · rw [bP_t cE, if_neg (by decide), if_neg (show ¬ (nI 11 : Int32) = 16 by decide)]
    simp only [hx_9 w, Option.bind_some]
    rw [k_isEq (M := t.2) w kP0 c4, am_i_some]
    obtain ⟨X, Y, wX, wY, ety, eM⟩ := cE
    by_cases cF : ∃ X Y, m_isE t.2 X Y
    · rw [bP_t cF, if_neg (by decide)]
      obtain ⟨V, W, wV, wW, etv, eN⟩ := cF
      rw [am_s164_92]
      simp only [hx_9 w, Option.bind_some]
      rw [m_need1 w kP_45 (by decide), am_i_some]
      simp only [am_c_ne, am_c_eq]
      rw [if_pos (by decide)]
      simp only [hx_9 w, Option.bind_some]
      by_cases cT : V = Y
      · subst cT
        have hQ : aQ A 11 (ws.drop fr) (hy_join none (hy_join none [] s.1) t.1, mE X W) := Or.inr (Or.inl ⟨rfl, s, t, X, V, W, by rw [d1]; exact ⟨j, rfl, by omega, hj⟩, by rw [d2]; exact ⟨j', rfl, by omega, hj'⟩, ⟨wX, wY, ety, eM⟩, ⟨wV, wW, etv, eN⟩, rfl⟩)
        have wM : m_wf (mE X W) := mE_wf wX wW (etv.trans ety)
        obtain ⟨ok, -⟩ := aQ_ok hI J.wf hQ
        have kz' := kz_N J h16 hQ (fun X hX => by
          rcases List.mem_append.mp hX with z | z
          · exact join_wf J ms mt z
          · rw [List.mem_singleton.mp z]; exact wM) ok
        obtain ⟨K1, a1, a2, a3⟩ := d_joined (sa := sa) (f := f + 1 + 1 + 1) (d := d + 194) w (kI_Q (p := fr + 3) (Z := Zc S A 11 (ws.drop fr)) (rows := hy_join none (hy_join none [] s.1) t.1 ++ [mE X W]) (Q := (hy_join none (hy_join none [] s.1) t.1 ++ [mE X W]).flatMap m_subs ++ []) J) rP hj hj' (z60 hQ) hs (by omega)
        rw [a1, am_v_some, if_pos (show (nI 11 : Int32) ≠ 16 by decide), if_neg (fun z => z rfl)]
        have qp := c2.gD a3
        have qq := c4.gD a3
        obtain ⟨y1, y2, y3, r1, r2, r3, r4, qY, qX⟩ := nq_E a2.1 (by rw [← eM]; exact qp)
        obtain ⟨u1, u2, u3, t1, t2, t3, t4, qW, qV⟩ := nq_E a2.1 (by rw [← eN]; exact qq)
        simp only [hr_920 w, hl_920 w, r3, hx_9 w, Option.bind_some]
        rw [k_leftOf w t2 t4, am_i_some]
        have ev : y2 = u3 := qY.uq qV a2.1
        rw [if_neg (fun z => z ev), am_s164_177]
        simp only [hx_9 w, Option.bind_some]
        rw [m_need1 w a2.1.2.2.1 (by decide), am_i_some]
        simp only [am_c_eq]
        rcases bI_cases K1.2.2.2.2 with ⟨eb, -⟩ | ⟨eb, -⟩
        · rw [eb, if_neg (show ¬ (bI !false) = 0 by decide)]
          simp only [hx_9 w, Option.bind_some]
          rw [k_leftOf w r2 r4, am_i_some]
          simp only [hr_920 w, hl_920 w, t3, Option.bind_some, hx_9 w]
          exact q_endE (B := B) (sa := sa) (f := f + 1 + 1 + 1) (d := d + 194) (fr := fr) (st := nI 11) (X := X) (Y := W) w J hs h8 h16 hQ (aL_3 (by decide)) l3 (by decide) rows_len kz' (mem_rows mem_last wM) a2 a3 qX.v qW.v (etv.trans ety) hf
        · rw [eb, if_pos (show (bI !true) = 0 from rfl)]
          exact eO.bad (a2.1.2.2.2.1 eb) a2.1 a2.2.1 a3.2.1 a3.2.2.1 (kP.dx.tr a3.1) eb
      · obtain ⟨K1, a1, a2, a3⟩ := d_joined (sa := sa) (f := f + 1 + 1 + 1) (d := d + 194) w kP0 rP hj hj' (fun _ => True.intro) hs (by omega)
        rw [a1, am_v_some, if_pos (show (nI 11 : Int32) ≠ 16 by decide), if_neg (fun z => z rfl)]
        have qp := c2.gD a3
        have qq := c4.gD a3
        obtain ⟨y1, y2, y3, r1, r2, r3, r4, qY, qX⟩ := nq_E a2.1 (by rw [← eM]; exact qp)
        obtain ⟨u1, u2, u3, t1, t2, t3, t4, qW, qV⟩ := nq_E a2.1 (by rw [← eN]; exact qq)
        simp only [hr_920 w, hl_920 w, r3, hx_9 w, Option.bind_some]
        rw [k_leftOf w t2 t4, am_i_some]
        have ev : y2 ≠ u3 := fun z => cT (by rw [z] at qY; exact qV.inj qY)
        rw [if_pos ev, am_s164_177]
        simp only [hx_9 w, Option.bind_some]
        rw [m_need0 w a2.1.2.2.1, am_i_some]
        simp only [am_c_eq]
        rw [if_pos True.intro]
        refine eO.bad3 (K1 := K1) (noN fun ⟨X', Y', W', z, z'⟩ => cT ?_) a2.1 a2.2.1 a3
        exact (m_isE_inj (⟨wV, wW, etv, eN⟩ : m_isE t.2 V W) z').1.trans (m_isE_inj (⟨wX, wY, ety, eM⟩ : m_isE s.2 X Y) z).2.symm
    · rw [bP_f cF, if_pos rfl]
      exact bad92 (noN fun ⟨X', Y', W', z, z'⟩ => cF ⟨_, _, z'⟩)
  · rw [bP_f cE, if_pos rfl]
    exact bad92 (noN fun ⟨X', Y', W', z, z'⟩ => cE ⟨_, _, z⟩)
set_option maxHeartbeats 4000000 in
theorem e_12 {f d : Nat} (w : hp_w B ρ) (J : kJ S A K0) (hI : aI S A) (hv : vS ws K0) (hs : A.1.length < 1000) (h8 : A.2.2.2.2.2.1.length < 8000) (h16 : A.2.2.2.2.2.2.length < 16000) (hfr : fr < ws.length) (hf : 70000 ≤ f) :
    eO sa ρ S A 12 fr (ws.drop fr) K0 (am_call B sa am_dfl am_tb f (d + 200) 162 [.ref (ρ.1 9), .int (nI 12)] (hp_S sa ρ (kP K0 (fr + 1) false).1)) := by
  refine e_two (by decide) w J hI hv hfr hf fun {j j' s t} hj hj' l3 d1 d2 => ?_
  obtain ⟨f, rfl⟩ : ∃ g, f = g + 1 + 1 + 1 := ⟨f - 3, by omega⟩
  have jl := (List.getElem?_eq_some_iff.mp hj).1
  have jl' := (List.getElem?_eq_some_iff.mp hj').1
  have ms := List.mem_of_getElem? hj
  have mt := List.mem_of_getElem? hj'
  have noN : (¬ ∃ F F' X X' u, m_isE s.2 F F' ∧ m_isE t.2 X X' ∧ m_ty F = qF (m_ty X) u) → Zc S A 12 (ws.drop fr) := by
    intro z
    refine noQ (by decide) (by decide) (by decide) fun Lc hL hl N hN => ?_
    rcases hN with ⟨y, -⟩ | ⟨y, -⟩ | ⟨-, s', t', F, F', X, X', u, z1, z2, z3, z4, z5, -⟩ | ⟨y, -⟩ | ⟨y, -⟩ | ⟨y, -⟩ | ⟨y, -⟩ | ⟨y, -⟩ | ⟨y, -⟩ | ⟨y, -⟩ | ⟨y, -⟩
    all_goals first | exact absurd y (by decide) | skip
    rw [d1] at z1
    rw [d2] at z2
    obtain rfl := en_nI (by omega) hj z1
    obtain rfl := en_nI (by omega) hj' z2
    exact z ⟨F, F', X, X', u, z3, z4, z5⟩
  have rP : rI A (kP K0 (fr + 3) false) := kP.r J.2.1 J.1
  have kP0 : kI True S (K0.2.2.2.1 ++ []) (kP K0 (fr + 3) false) := kI_0 J
  obtain ⟨c1, c2⟩ := rP.c hj
  obtain ⟨c3, c4⟩ := rP.c hj'
  generalize hp : ((kP K0 (fr + 3) false).1.2 935).2 j = p at c1 c2
  generalize hq : ((kP K0 (fr + 3) false).1.2 935).2 j' = q at c3 c4
  rw [am_c_164, am_s164_0]
  simp only [hg_945 w, kP_45, Option.bind_some, am_c_eq, am_c_ne]
  rw [if_pos (show bI false = 0 from rfl)]
  simp only [hr_935 w, hl_935 w, c1, c3, Option.bind_some, hx_9 w]
  rw [if_pos (show (nI 12 : Int32) ≠ 17 by decide), k_isEq (M := s.2) w kP0 c2, am_i_some]
  have bad92 : Zc S A 12 (ws.drop fr) → eO sa ρ S A 12 fr (ws.drop fr) K0 (am_go B sa am_dfl (am_call B sa am_dfl am_tb (f + 1 + 1 + 1) (d + 198)) am_r164 (f + 1 + 1) 92 [(0, .ref (ρ.1 9)), (1, .int (nI 12)), (2, .int (nI j)), (3, .int (nI j')), (4, .int p), (5, .int q)] [.int 0, .ref (ρ.1 9)] (hp_S sa ρ (kP K0 (fr + 3) false).1)) := by
    intro hZ
    rw [am_s164_92]
    simp only [hx_9 w, Option.bind_some]
    rw [m_need0 w kP_45, am_i_some]
    simp only [am_c_ne]
    rw [if_neg (fun z => z rfl), show (1 : Int32) = bI true from rfl, kP_bad]
    exact eO.bad1 hZ J.1 J.2.1
  by_cases cE : ∃ X Y, m_isE s.2 X Y
  · rw [bP_t cE, if_neg (by decide), if_neg (show ¬ (nI 12 : Int32) = 16 by decide)]
    simp only [hx_9 w, Option.bind_some]
    rw [k_isEq (M := t.2) w kP0 c4, am_i_some]
    obtain ⟨F, F', wF, wF', ety, eM⟩ := cE
    by_cases cF : ∃ X Y, m_isE t.2 X Y
    · rw [bP_t cF, if_neg (by decide)]
      obtain ⟨X, X', wX, wX', etv, eN⟩ := cF
      rw [am_s164_92]
      simp only [hx_9 w, Option.bind_some]
      rw [m_need1 w kP_45 (by decide), am_i_some]
      simp only [am_c_ne, am_c_eq]
      rw [if_pos (by decide)]
      simp only [hx_9 w, Option.bind_some]
      by_cases cT : ∃ u, m_ty F = qF (m_ty X) u
      · obtain ⟨u, hu⟩ := cT
        have hQ : aQ A 12 (ws.drop fr) (hy_join none (hy_join none [] s.1) t.1, mE (mN (-1) u F X) (mN (-1) u F' X')) := Or.inr (Or.inr (Or.inl ⟨rfl, s, t, F, F', X, X', u, by rw [d1]; exact ⟨j, rfl, by omega, hj⟩, by rw [d2]; exact ⟨j', rfl, by omega, hj'⟩, ⟨wF, wF', ety, eM⟩, ⟨wX, wX', etv, eN⟩, hu, rfl⟩))
        have hu' : m_ty F' = qF (m_ty X') u := by rw [ety, etv]; exact hu
        have wL := m_wf_app wF wX hu
        have wR := m_wf_app wF' wX' hu'
        have wM : m_wf (mE (mN (-1) u F X) (mN (-1) u F' X')) := mE_wf wL wR (by rw [m_ty_N, m_ty_N])
        obtain ⟨ok, -⟩ := aQ_ok hI J.wf hQ
        have kz' := kz_N J h16 hQ (fun X hX => by
          rcases List.mem_append.mp hX with z | z
          · exact join_wf J ms mt z
          · rw [List.mem_singleton.mp z]; exact wM) ok
        obtain ⟨K1, a1, a2, a3⟩ := d_joined (sa := sa) (f := f + 1 + 1 + 1) (d := d + 194) w (kI_Q (p := fr + 3) (Z := Zc S A 12 (ws.drop fr)) (rows := hy_join none (hy_join none [] s.1) t.1 ++ [mE (mN (-1) u F X) (mN (-1) u F' X')]) (Q := (hy_join none (hy_join none [] s.1) t.1 ++ [mE (mN (-1) u F X) (mN (-1) u F' X')]).flatMap m_subs ++ []) J) rP hj hj' (z60 hQ) hs (by omega)
        rw [a1, am_v_some, if_pos (show (nI 12 : Int32) ≠ 16 by decide), if_pos (show (nI 12 : Int32) ≠ 11 by decide)]
        have qp := c2.gD a3
        have qq := c4.gD a3
        obtain ⟨y1, y2, y3, r1, r2, r3, r4, qF2, qF1⟩ := nq_E a2.1 (by rw [← eM]; exact qp)
        obtain ⟨u1, u2, u3, t1, t2, t3, t4, qX2, qX1⟩ := nq_E a2.1 (by rw [← eN]; exact qq)
        simp only [hx_9 w, Option.bind_some]
        rw [k_leftOf w r2 r4, am_i_some]
        simp only [hx_9 w, Option.bind_some]
        rw [k_leftOf w t2 t4, am_i_some]
        simp only [hx_9 w, Option.bind_some]
        rw [k_canApply (F := F) (X := X) w a2.1 qF1 qX1, am_i_some, bP_t ⟨u, hu⟩]
        simp only [hx_9 w, Option.bind_some]
        rw [m_need1 w a2.1.2.2.1 (by decide), am_i_some]
        rcases bI_cases K1.2.2.2.2 with ⟨eb, -⟩ | ⟨eb, -⟩
        · rw [eb, if_neg (show ¬ (bI !false) = 0 by decide)]
          simp only [hx_9 w, Option.bind_some]
          rw [k_leftOf w r2 r4, am_i_some]
          simp only [hx_9 w, Option.bind_some]
          rw [k_leftOf w t2 t4, am_i_some]
          simp only [hx_9 w, Option.bind_some]
          have mM := mem_rows (Q := K0.2.2.2.1) (E := []) (mem_last (H := hy_join none (hy_join none [] s.1) t.1) (M := mE (mN (-1) u F X) (mN (-1) u F' X'))) wM
          have mL := kz'.sub mM (Or.inr (Or.inl (Or.inr (Or.inr (m_sub_self wL)))))
          have mR := kz'.sub mM (Or.inr (Or.inr (m_sub_self wR)))
          obtain ⟨o1, K2, b1, b2, b3⟩ := k_apply (sa := sa) (f := f + 1 + 1 + 1) (d := d + 195) w kz' a2.1 qF1.v qX1.v hu mL hf
          rw [b1, am_i_some]
          obtain ⟨m1, m2, m3, -, -, r3', -, qF2', -⟩ := nq_E b2.1 (by rw [← eM]; exact qp.go b2)
          obtain ⟨n1, n2, n3, -, -, t3', -, qX2', -⟩ := nq_E b2.1 (by rw [← eN]; exact qq.go b2)
          simp only [hr_920 w, hl_920 w, r3', t3', Option.bind_some, hx_9 w]
          obtain ⟨o2, K3, g1, g2, g3⟩ := k_apply (sa := sa) (f := f + 1 + 1 + 1) (d := d + 195) w kz' b2.1 qF2'.v qX2'.v hu' mR hf
          rw [g1, am_i_some]
          simp only [hx_9 w, Option.bind_some]
          exact q_endE (B := B) (sa := sa) (f := f + 1 + 1 + 1) (d := d + 194) (fr := fr) (st := nI 12) w J hs h8 h16 hQ (aL_3 (by decide)) l3 (by decide) rows_len kz' mM ((a2.go b2).go g2) ((a3.tr b2.D).tr g2.D) (b3.go g2) g3 (by rw [m_ty_N, m_ty_N]) hf
        · rw [eb, if_pos (show (bI !true) = 0 from rfl)]
          exact eO.bad (a2.1.2.2.2.1 eb) a2.1 a2.2.1 a3.2.1 a3.2.2.1 (kP.dx.tr a3.1) eb
      · obtain ⟨K1, a1, a2, a3⟩ := d_joined (sa := sa) (f := f + 1 + 1 + 1) (d := d + 194) w kP0 rP hj hj' (fun _ => True.intro) hs (by omega)
        rw [a1, am_v_some, if_pos (show (nI 12 : Int32) ≠ 16 by decide), if_pos (show (nI 12 : Int32) ≠ 11 by decide)]
        have qp := c2.gD a3
        have qq := c4.gD a3
        obtain ⟨y1, y2, y3, r1, r2, r3, r4, qF2, qF1⟩ := nq_E a2.1 (by rw [← eM]; exact qp)
        obtain ⟨u1, u2, u3, t1, t2, t3, t4, qX2, qX1⟩ := nq_E a2.1 (by rw [← eN]; exact qq)
        simp only [hx_9 w, Option.bind_some]
        rw [k_leftOf w r2 r4, am_i_some]
        simp only [hx_9 w, Option.bind_some]
        rw [k_leftOf w t2 t4, am_i_some]
        simp only [hx_9 w, Option.bind_some]
        rw [k_canApply (F := F) (X := X) w a2.1 qF1 qX1, am_i_some, bP_f cT]
        simp only [hx_9 w, Option.bind_some]
        rw [m_need0 w a2.1.2.2.1, am_i_some, if_pos rfl]
        refine eO.bad3 (K1 := K1) (noN fun ⟨V, V', U, U', u, z, z', z''⟩ => cT ⟨u, ?_⟩) a2.1 a2.2.1 a3
        rw [(m_isE_inj (⟨wF, wF', ety, eM⟩ : m_isE s.2 F F') z).1, (m_isE_inj (⟨wX, wX', etv, eN⟩ : m_isE t.2 X X') z').1]
        exact z''
    · rw [bP_f cF, if_pos rfl]
      exact bad92 (noN fun ⟨V, V', U, U', u, z, z', z''⟩ => cF ⟨_, _, z'⟩)
  · rw [bP_f cE, if_pos rfl]
    exact bad92 (noN fun ⟨V, V', U, U', u, z, z', z''⟩ => cE ⟨_, _, z⟩)
end S2
