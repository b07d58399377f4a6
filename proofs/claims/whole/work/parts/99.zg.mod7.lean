/-! THE REFERENCE, 19: abstracted, put in -/
section S3
variable {Z : Prop} {G : qT → Prop} {L : List qM} {sa : Nat → Nat} {B : Nat} {ρ : hp_L} {K K' K0 K1 : kS} {A : sV} {S : qT → Prop} {k fr : Nat} {ws wr : List Int32} {H : List qM} {M : qM}
/-- a variable's node -/
theorem nq_fr {v : Int32} {V : qM} (h : kI Z G L K) (hv : nq K v V) : (q_fr (m_c V) ∧ hp_rd K.1 918 v = some 2 ∧ V = mN (m_c V) (m_ty V) .leaf .leaf ∧ m_lo V = 0) ∨ (¬ q_fr (m_c V) ∧ ∃ k, hp_rd K.1 918 v = some k ∧ k ≠ 2) := by
  rcases nq_cases h hv with ⟨u, F, X, v1, v2, e, r1, -⟩ | ⟨t, Y, v1, v2, e, r1, -⟩ | ⟨x, e, u, k, e', r1, -, hx, he⟩
  · refine Or.inr ⟨fun z => ?_, 4, r1, by decide⟩
    rw [e, m_c_N] at z
    exact (q_fr_ne z).1 rfl
  · refine Or.inr ⟨fun z => ?_, 5, r1, by decide⟩
    rw [e, m_c_N] at z
    exact (q_fr_ne z).2.1 rfl
  · by_cases c : e = 1
    · subst c
      have k2 : k = 2 := by rcases he with ⟨z, z'⟩ | ⟨z, z'⟩ | ⟨z, z'⟩ <;> first | exact z | omega
      refine Or.inl ⟨?_, by rw [r1, k2], ?_, ?_⟩
      · rw [e', m_c_N]; exact q_fr_1 hx
      · conv => lhs; rw [e']
        rw [e', m_c_N, m_ty_N]
      · rw [e', m_lo_leaf hx (by decide), if_neg (by decide)]
    · refine Or.inr ⟨fun z => c ?_, k, r1, fun z => ?_⟩
      · rw [e', m_c_N] at z
        exact q_fr_e hx (by omega) z
      · rcases he with ⟨y, z'⟩ | ⟨y, z'⟩ | ⟨y, z'⟩
        · rw [z] at y; exact absurd y (by decide)
        · exact c z'
        · rw [z] at y; exact absurd y (by decide)
set_option maxHeartbeats 4000000 in
theorem e_13 {f d : Nat} (w : hp_w B ρ) (J : kJ S A K0) (hI : aI S A) (hv : vS ws K0) (hs : A.1.length < 1000) (h8 : A.2.2.2.2.2.1.length < 8000) (h16 : A.2.2.2.2.2.2.length < 16000) (hfr : fr < ws.length) (hf : 70000 ≤ f) :
    eO sa ρ S A 13 fr (ws.drop fr) K0 (am_call B sa am_dfl am_tb f (d + 200) 162 [.ref (ρ.1 9), .int (nI 13)] (hp_S sa ρ (kP K0 (fr + 1) false).1)) := by
  obtain ⟨f, rfl⟩ : ∃ g, f = g + 1 := ⟨f - 1, by omega⟩
  have h40 := hI.2.2.2.1.2.2.2.1
  obtain ⟨v1, p1, b1, e1, e2, e3⟩ := k_nextClosed (sa := sa) (f := f) (d := d + 195) (b := false) (p := fr + 1) w hv J.1 J.2.1 (by omega) (by omega)
  obtain ⟨v2, p2, b2, h1, h2, h3⟩ := k_nextSeq (sa := sa) (f := f) (d := d + 196) (b := b1) (p := p1) w hv J.2.1 e2
  have sp : ∀ {Lc N}, aL A.2.2.2.1 13 (ws.drop fr) Lc → Lc ≤ (ws.drop fr).length → aQ A 13 (ws.drop fr) N → 3 ≤ (ws.drop fr).length ∧ sp_13 A.2.2.2.2.2.2 A.1 (wd (ws.drop fr) 1) (wd (ws.drop fr) 2) N := by
    intro Lc N hL hl hN
    rw [aL_3u (by decide) h40 hL] at hl
    refine ⟨hl, ?_⟩
    rcases hN with ⟨z, -⟩ | ⟨z, -⟩ | ⟨z, -⟩ | ⟨-, z⟩ | ⟨z, -⟩ | ⟨z, -⟩ | ⟨z, -⟩ | ⟨z, -⟩ | ⟨z, -⟩ | ⟨z, -⟩ | ⟨z, -⟩ <;> first | exact z | exact absurd z (by decide)
  have noN : (3 ≤ (ws.drop fr).length → ∀ N, ¬ sp_13 A.2.2.2.2.2.2 A.1 (wd (ws.drop fr) 1) (wd (ws.drop fr) 2) N) → Zc S A 13 (ws.drop fr) := fun z => noQ (by decide) (by decide) (by decide) fun Lc hL hl N hN => z (sp hL hl hN).1 N (sp hL hl hN).2
  rw [am_c_162, am_s162_0, if_neg (by decide), if_neg (by decide), if_neg (by decide), if_pos (show Int32.toInt (nI 13) = 13 by decide)]
  simp only [hx_9 w, Option.bind_some, e1, h1, am_i_some]
  refine eO.v ?_
  rw [am_c_165, am_s165_0]
  simp only [hg_945 w, kP_45, Option.bind_some, am_c_eq, am_c_ne]
  rcases e3 with ⟨rfl, -, rfl, x, V, g4, g5, g6, g7⟩ | ⟨rfl, g2⟩
  · have g4' := w_dr g4
    rcases h3 with ⟨rfl, -, rfl, j, s, k4, rfl, k5⟩ | ⟨rfl, k2⟩
    · rw [if_pos (show bI false = 0 from rfl)]
      have k4' : (ws.drop fr)[2]? = some (nI j) := w_dr k4
      have l3 : 3 ≤ (ws.drop fr).length := by have := (List.getElem?_eq_some_iff.mp k4').1; omega
      rw [wd_at g4', wd_at k4'] at noN
      have jl := (List.getElem?_eq_some_iff.mp k5).1
      have ms := List.mem_of_getElem? k5
      have rP : ∀ b, rI A (kP K0 (fr + 1 + 1 + 1) b) := fun b => kP.r J.2.1 J.1
      have kPb : ∀ b, kI True S (K0.2.2.2.1 ++ []) (kP K0 (fr + 1 + 1 + 1) b) := fun b => kP.I ((J.1.to (Z' := True) J.b (fun u hu => by rw [← J.2.2.1]; exact hu))) fun _ => True.intro
      obtain ⟨c1, c2⟩ := (rP false).c k5
      generalize hp : ((kP K0 (fr + 1 + 1 + 1) false).1.2 935).2 j = p at c1 c2
      have gV : nq (kP K0 (fr + 1 + 1 + 1) false) v1 V := g7
      simp only [hr_935 w, hl_935 w, c1, Option.bind_some, hr_918 w, hl_918 w]
      obtain ⟨q1, q2, q3, q4, q5⟩ := J.2.1.2.2.1.2.2.2.2.2 j s k5
      have r37 : ∀ b, hp_rd (kP K0 (fr + 1 + 1 + 1) b).1 937 (nI j) = some (nI s.1.length) := fun b => by rw [(rP b).r37 (by decide) (by decide) (by omega)]; exact congrArg some q3
      -- where it is bad
      have bad46 : ∀ (i g : Nat), i ≤ s.1.length → 1 ≤ g → am_go B sa am_dfl (am_call B sa am_dfl am_tb (f + 1) (d + 198)) am_r165 g 46 [(0, .ref (ρ.1 9)), (1, .int v1), (2, .int (nI j)), (3, .int p), (4, .int (nI i))] [] (hp_S sa ρ (kP K0 (fr + 1 + 1 + 1) true).1) = some (none, hp_S sa ρ (kP K0 (fr + 1 + 1 + 1) true).1) := by
        intro i g hi hg
        obtain ⟨g, rfl⟩ : ∃ x, g = x + 1 := ⟨g - 1, by omega⟩
        rw [am_s165_46]
        simp only [hr_937 w, hl_937 w, r37, Option.bind_some, hg_945 w, kP_45, am_c_ge, am_c_eq, am_c_ne]
        rw [if_neg (show ¬ bI true = 0 by decide), if_pos (show bI true ≠ 0 by decide)]
        split <;> rfl
      have badZ : Zc S A 13 (ws.drop fr) → ∀ (i g : Nat), i ≤ s.1.length → 1 ≤ g → eO sa ρ S A 13 fr (ws.drop fr) K0 (am_go B sa am_dfl (am_call B sa am_dfl am_tb (f + 1) (d + 198)) am_r165 g 46 [(0, .ref (ρ.1 9)), (1, .int v1), (2, .int (nI j)), (3, .int p), (4, .int (nI i))] [] (hp_S sa ρ (hp_sI (kP K0 (fr + 1 + 1 + 1) false).1 945 1))) := by
        intro hZ i g hi hg
        rw [show (1 : Int32) = bI true from rfl, kP_bad, bad46 i g hi hg]
        exact eO.bad1 hZ J.1 J.2.1
      rcases nq_fr (kPb false) gV with ⟨hfv, rv, eV, -⟩ | ⟨hfv, k', rv, nk⟩
      · simp only [rv, Option.bind_some]
        rw [if_neg (fun z => z rfl)]
        simp only [hx_9 w, Option.bind_some]
        rw [k_isEq (M := s.2) w (kPb false) c2, am_i_some]
        simp only [hx_9 w, Option.bind_some]
        by_cases cE : ∃ X Y, m_isE s.2 X Y
        · rw [bP_t cE, if_neg (by decide), m_need1 w kP_45 (by decide), am_i_some]
          obtain ⟨X, Y, wX, wY, ety, eM⟩ := cE
          have vV : nq (kP K0 (fr + 1 + 1 + 1) false) v1 (mN (m_c V) (m_ty V) .leaf .leaf) := by rw [← eV]; exact gV
          have r36 : hp_rd (kP K0 (fr + 1 + 1 + 1) false).1 936 (nI j) = some (nI (hys (A.1.take j)).length) := by rw [(rP false).r37 (by decide) (by decide) (by omega)]; exact congrArg some q2
          have hh := hys_at k5
          have u60 := J.2.1.u60
          -- no hypothesis has it
          have fin : (∀ M ∈ s.1, (m_c V, m_ty V) ∉ m_fl M) → ∀ g, 1 ≤ g → eO sa ρ S A 13 fr (ws.drop fr) K0 (am_go B sa am_dfl (am_call B sa am_dfl am_tb (f + 1) (d + 198)) am_r165 g 46 [(0, .ref (ρ.1 9)), (1, .int v1), (2, .int (nI j)), (3, .int p), (4, .int (nI s.1.length))] [] (hp_S sa ρ (kP K0 (fr + 1 + 1 + 1) false).1)) := by
            intro hno g hg
            obtain ⟨g, rfl⟩ : ∃ x, g = x + 1 := ⟨g - 1, by omega⟩
            rw [am_s165_46]
            simp only [hr_937 w, hl_937 w, r37, Option.bind_some, hg_945 w, kP_45, am_c_ge, am_c_eq, am_c_ne]
            rw [if_pos (Int32.le_refl _), if_pos (show bI false = 0 from rfl)]
            have hQ : aQ A 13 (ws.drop fr) (hy_join none [] s.1, mE (mL (m_c V) (m_ty V) X) (mL (m_c V) (m_ty V) Y)) := Or.inr (Or.inr (Or.inr (Or.inl ⟨rfl, V, s, X, Y, by rw [wd_at g4']; exact g5, hfv, by rw [wd_at k4']; exact ⟨j, rfl, by omega, k5⟩, ⟨wX, wY, ety, eM⟩, hno, rfl⟩)))
            have hX120 : m_ht X ≤ 120 ∧ m_ht Y ≤ 120 := by
              obtain ⟨y1, y2, y3, -, -, -, -, qY, qX⟩ := nq_E (kPb false) (by rw [← eM]; exact c2)
              exact ⟨(J.mem qX).2.2.2.1, (J.mem qY).2.2.2.1⟩
            have wLX : m_wf (mL (m_c V) (m_ty V) X) := mL_wf hfv wX (by omega)
            have wLY : m_wf (mL (m_c V) (m_ty V) Y) := mL_wf hfv wY (by omega)
            have tyL : m_ty (mL (m_c V) (m_ty V) Y) = m_ty (mL (m_c V) (m_ty V) X) := by unfold mL; rw [m_ty_N, m_ty_N, ety]
            have wM : m_wf (mE (mL (m_c V) (m_ty V) X) (mL (m_c V) (m_ty V) Y)) := mE_wf wLX wLY tyL
            obtain ⟨ok, -⟩ := aQ_ok hI J.wf hQ
            have kz' := kz_N J h16 hQ (fun X hX => by
              rcases List.mem_append.mp hX with z | z
              · rcases hy_join_sub z with z | z
                · cases z
                · exact J.wf.2 X (sq_mh ms z)
              · rw [List.mem_singleton.mp z]; exact wM) ok
            obtain ⟨K1, a1, a2, a3, -⟩ := d_open (sa := sa) (f := f) (d := d + 196) w (kI_Q (p := fr + 1 + 1 + 1) (Z := Zc S A 13 (ws.drop fr)) (rows := hy_join none [] s.1 ++ [mE (mL (m_c V) (m_ty V) X) (mL (m_c V) (m_ty V) Y)]) (Q := (hy_join none [] s.1 ++ [mE (mL (m_c V) (m_ty V) X) (mL (m_c V) (m_ty V) Y)]).flatMap m_subs ++ []) J) (rP false) hs
            simp only [hx_9 w, Option.bind_some]
            rw [a1, am_v_some]
            simp only [hx_9 w, Option.bind_some]
            obtain ⟨K2, b1, b2, b3⟩ := d_all (sa := sa) (f := f + 1) (d := d + 195) (e := none) (v := -1) w a2 k5 (Or.inl ⟨rfl, rfl⟩) (z60 hQ) hs (by omega)
            rw [b1, am_v_some]
            have D2 := a3.tr b3
            have qp := c2.gD D2
            have qv := vV.gD D2
            obtain ⟨y1, y2, y3, r1, r2, r3, r4, qY, qX⟩ := nq_E b2.1 (by rw [← eM]; exact qp)
            simp only [hx_9 w, Option.bind_some]
            rw [k_leftOf w r2 r4, am_i_some]
            simp only [hx_9 w, Option.bind_some]
            have mM := mem_rows (Q := K0.2.2.2.1) (E := []) (mem_last (H := hy_join none [] s.1) (M := mE (mL (m_c V) (m_ty V) X) (mL (m_c V) (m_ty V) Y))) wM
            have mLX := kz'.sub mM (Or.inr (Or.inl (Or.inr (Or.inr (m_sub_self wLX)))))
            have mLY := kz'.sub mM (Or.inr (Or.inr (m_sub_self wLY)))
            obtain ⟨o1, K3, i1, i2, i3⟩ := k_lam (sa := sa) (f := f + 1) (d := d + 42) hfv w kz' b2.1 qv.v qX.v wX (by omega) mLX (by omega)
            rw [i1, am_i_some]
            obtain ⟨n1, n2, n3, -, -, r3', -, qY', -⟩ := nq_E i2.1 (by rw [← eM]; exact qp.go i2)
            simp only [hr_920 w, hl_920 w, r3', Option.bind_some, hx_9 w]
            obtain ⟨o2, K4, l1, l2, l3'⟩ := k_lam (sa := sa) (f := f + 1) (d := d + 42) hfv w kz' i2.1 (qv.go i2).v qY'.v wY (by omega) mLY (by omega)
            rw [l1, am_i_some]
            simp only [hx_9 w, Option.bind_some]
            exact q_endE (B := B) (sa := sa) (f := f + 1) (d := d + 194) (fr := fr) (Lc := 3) (st := 13) w J hs h8 h16 hQ (aL_3 (by decide)) l3 (by decide) rows_len kz' mM ((b2.go i2).go l2) ((D2.tr i2.D).tr l2.D) (i3.go l2) l3' tyL hf
          -- the loop
          have loop : ∀ (m i g : Nat), s.1.length - i = m → i ≤ s.1.length → (∀ i', i' < i → ∀ M, s.1[i']? = some M → (m_c V, m_ty V) ∉ m_fl M) → m + 2 ≤ g → eO sa ρ S A 13 fr (ws.drop fr) K0 (am_go B sa am_dfl (am_call B sa am_dfl am_tb (f + 1) (d + 198)) am_r165 g 46 [(0, .ref (ρ.1 9)), (1, .int v1), (2, .int (nI j)), (3, .int p), (4, .int (nI i))] [] (hp_S sa ρ (kP K0 (fr + 1 + 1 + 1) false).1)) := by
            intro m
            induction m with
            | zero =>
              intro i g hm hi hno hg
              have : i = s.1.length := by omega
              subst this
              refine fin (fun M hM => ?_) g (by omega)
              obtain ⟨i', hi', e'⟩ := List.mem_iff_getElem.mp hM
              exact hno i' hi' M (List.getElem?_eq_some_iff.mpr ⟨hi', e'⟩)
            | succ m ih =>
              intro i g hm hi hno hg
              obtain ⟨g, rfl⟩ : ∃ x, g = x + 1 := ⟨g - 1, by omega⟩
              have il : i < s.1.length := by omega
              have hX := List.getElem?_eq_getElem il
              have qX := q5 i _ hX
              have r43 : hp_rd (kP K0 (fr + 1 + 1 + 1) false).1 943 (nI (hys (A.1.take j)).length + nI i) = some ((K0.1.2 943).2 ((hys (A.1.take j)).length + i)) := by rw [nI_add]; exact (rP false).r43 (by omega)
              obtain ⟨-, -, wH, hH, -⟩ := J.mem qX
              rw [am_s165_46]
              simp only [hr_937 w, hl_937 w, r37, Option.bind_some, hg_945 w, kP_45, am_c_ge, am_c_eq, am_c_ne, hr_943 w, hr_936 w, hl_936 w, r36, hl_943 w, r43, hx_9 w]
              rw [if_neg (nI_ge il (by omega)), if_neg (show ¬ bI false ≠ 0 from fun z => z rfl)]
              have oc := k_occurs (sa := sa) (f := f) hfv w (kPb false) vV s.1[i] wH (d + 197) _ qX (by omega)
              rw [oc, am_i_some, nI_1]
              simp only [hx_9 w, Option.bind_some]
              by_cases c : (m_c V, m_ty V) ∈ m_fl s.1[i]
              · rw [bP_t c, if_pos (by decide), m_need0 w kP_45, am_i_some]
                refine badZ (noN fun _ N ⟨V', s', X', Y', z1, z2, z3, z4, z5, z6⟩ => ?_) (i + 1) g (by omega) (by omega)
                obtain rfl := en_at_inj g5 z1
                obtain rfl := en_nI (by omega) k5 z3
                exact z5 _ (List.getElem_mem il) c
              · rw [bP_f c, if_neg (fun z => z rfl), m_need1 w kP_45 (by decide), am_i_some]
                refine ih (i + 1) g (by omega) (by omega) (fun i' hi' M hM => ?_) (by omega)
                by_cases z : i' = i
                · rw [z, hX] at hM
                  rw [← Option.some.inj hM]; exact c
                · exact hno i' (by omega) M hM
          exact loop s.1.length 0 f (by omega) (by omega) (fun i' z => absurd z (Nat.not_lt_zero _)) (by omega)
        · rw [bP_f cE, if_pos rfl, m_need0 w kP_45, am_i_some]
          refine badZ (noN fun _ N ⟨V', s', X', Y', z1, z2, z3, z4, z5, z6⟩ => cE ?_) 0 f (by omega) (by omega)
          rw [en_nI (by omega) k5 z3]
          exact ⟨_, _, z4⟩
      · simp only [rv, Option.bind_some]
        rw [if_pos nk]
        simp only [hx_9 w, Option.bind_some]
        rw [m_need0 w kP_45, am_i_some]
        refine badZ (noN fun _ N ⟨V', s', X', Y', z1, z2, z3, z4, z5, z6⟩ => hfv ?_) 0 f (by omega) (by omega)
        rw [en_at_inj g5 z1]; exact z2
    · rw [if_neg (show ¬ bI true = 0 by decide)]
      refine eO.bad1 (noN fun l3 N ⟨V', s', X', Y', z1, z2, z3, z4, z5, z6⟩ => ?_) J.1 J.2.1
      exact k2.resolve_left (by decide) ⟨_, s', w_dr' (i := 2) (wd_some (by omega)), z3⟩
  · rcases h3 with ⟨-, z, -⟩ | ⟨rfl, k2⟩
    · cases z
    · rw [if_neg (show ¬ bI true = 0 by decide)]
      refine eO.bad1 (noN fun l3 N ⟨V', s', X', Y', z1, z2, z3, z4, z5, z6⟩ => ?_) J.1 J.2.1
      refine g2.resolve_left (by decide) ⟨_, V', w_dr' (i := 1) (wd_some (by omega)), z1, ?_⟩
      obtain ⟨i, hi, e⟩ := List.mem_iff_getElem.mp (en_mem z1)
      rcases nq_fr J.1 (J.2.1.2.1.2.2.2.2.2 i V' (List.getElem?_eq_some_iff.mpr ⟨hi, e⟩)) with ⟨-, -, -, z⟩ | ⟨z, -⟩
      · exact z
      · exact absurd z2 z
end S3
