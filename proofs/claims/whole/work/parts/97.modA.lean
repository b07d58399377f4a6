/-! THE REFERENCE, 10: readType, readTerm -/
theorem kE_T {S S' : qT → Prop} {A A' : sV} {k : Nat} {ws : List Int32} (h : aE S A k ws S' A') (hk : k < 2) : ∃ t, aT A k ws t ∧ q_good (q_ad S t) ∧ S' = q_ad S t ∧ A' = a_et A t := by
  rcases h with h | ⟨M, h1, -⟩ | ⟨N, h1, -⟩ | ⟨h, -⟩ | ⟨h, -⟩
  · exact h
  · have := aM_k h1; omega
  · have := aQ_k h1; omega
  · omega
  · omega
theorem kE_M {S S' : qT → Prop} {A A' : sV} {k : Nat} {ws : List Int32} (h : aE S A k ws S' A') (hk : 2 ≤ k) (hk2 : k < 7) : ∃ M, aM A k ws M ∧ m_lim S M ∧ S' = q_ad S (m_ty M) ∧ A' = a_em A M := by
  rcases h with ⟨t, h1, -⟩ | h | ⟨N, h1, -⟩ | ⟨h, -⟩ | ⟨h, -⟩
  · have := aT_k h1; omega
  · exact h
  · have := aQ_k h1; omega
  · omega
  · omega
theorem kE_Q {S S' : qT → Prop} {A A' : sV} {k : Nat} {ws : List Int32} (h : aE S A k ws S' A') (hk : 10 ≤ k) (h20 : k ≠ 20) (h21 : k ≠ 21) : ∃ N, aQ A k ws N ∧ sq_lim S (m_tot (sq_rows A.1)) N ∧ S' = q_un S (N.1 ++ [N.2]) ∧ A' = a_new A A.2.1 S' [N] [] [] := by
  rcases h with ⟨t, h1, -⟩ | ⟨M, h1, -⟩ | h | ⟨h, -⟩ | ⟨h, -⟩
  · have := aT_k h1; omega
  · have := aM_k h1; omega
  · exact h
  · exact absurd h h20
  · exact absurd h h21
theorem wd_at {ws : List Int32} {i : Nat} {x : Int32} (h : ws[i]? = some x) : wd ws i = x := by unfold wd; rw [h]; rfl
theorem wd_some {ws : List Int32} {i : Nat} (h : i < ws.length) : ws[i]? = some (wd ws i) := by unfold wd; rw [List.getElem?_eq_getElem h]; rfl
section RT
variable {Z : Prop} {G : qT → Prop} {L : List qM} {sa : Nat → Nat} {B : Nat} {ρ : hp_L} {K K' K0 : kS} {A : sV} {S : qT → Prop} {k fr : Nat} {ws : List Int32}
theorem w_dr {i : Nat} {x : Int32} (h : ws[fr + i]? = some x) : (ws.drop fr)[i]? = some x := by rw [List.getElem?_drop]; exact h
theorem w_dr' {i : Nat} {x : Int32} (h : (ws.drop fr)[i]? = some x) : ws[fr + i]? = some x := by rw [List.getElem?_drop] at h; exact h
theorem kJ.b (J : kJ S A K0) : K0.2.2.2.2 = false := by
  cases h : K0.2.2.2.2 with
  | false => rfl
  | true => exact (J.1.2.2.2.1 h).elim
/-- a type made is kept -/
theorem e_keepT {f d Lc : Nat} {wr : List Int32} {t : qT} {y : Option (Option Value × am_S)} (w : hp_w B ρ) (J : kJ S A K0) (h8 : A.2.2.2.2.2.1.length < 8000) (ht : aT A k wr t) (hL : aL A.2.2.2.1 k wr Lc) (hl : Lc ≤ wr.length)
    (hy : kT (Zc S A k wr) (q_ad S t) (K0.2.2.2.1 ++ []) sa ρ (kP K0 (fr + Lc) false) y t) :
    eO sa ρ S A k fr wr K0 (am_i y fun v g => (am_obj g (ρ.1 9) 9).bind fun _ => am_v (am_call B sa am_dfl am_tb (f + 1) (d + 2) 152 [.ref (ρ.1 9), .int v] g) fun g => some (none, g)) := by
  obtain ⟨v, K1, e1, r, hv⟩ := hy
  have rI0 : rI A (kP K0 (fr + Lc) false) := kP.r J.2.1 J.1
  have kI0 : kI True (q_ad S t) (K0.2.2.2.1 ++ []) (kP K0 (fr + Lc) false) := kP.I (J.1.mono False.elim (fun t z => Or.inl z) fun X hX => List.mem_append.mpr (Or.inl hX)) fun z => by cases z
  have rI1 : rI A K1 := rI0.cg kI0.wf kI0.n31 (fun x hx => r.2.1.1 x (kx_rr hx)) r.2.1.2 r.2.2.1 r.2.2.2.1
  rw [e1, am_i_some]
  simp only [hx_9 w, Option.bind_some]
  rcases bI_cases K1.2.2.2.2 with ⟨eb, e⟩ | ⟨eb, e⟩
  · have h45 := r.1.2.2.1
    rw [eb] at h45
    rw [k_keepT w h45 rI1.2.1.1 h8 rI1.2.1.2.1, am_v_some]
    have eS : ct_S K1.2.2.1 K1.2.1 = q_ad S t := by
      funext u
      refine propext ⟨r.1.2.2.2.2.1 u, fun z => ?_⟩
      rcases z with z | z
      · rw [← J.2.2.1] at z
        exact z.xt J.1.wf J.1.n31 r.2.2.1
      · rw [z]; exact (hv.pl eb).S
    have hg := r.1.1.good
    rw [eS] at hg
    refine ⟨_, rfl, ((kP.dx.tr r.dx).tr keT.dx).W, Or.inl ⟨Lc, _, _, hL, hl, Or.inl ⟨t, ht, hg, rfl, rfl⟩, ⟨?_, rI1.et (hv.pl eb) h8, eS, ?_⟩, ?_⟩⟩
    · have := keT.I (m := A.2.2.2.2.2.1.length) (v := v) (r.1.gd eb)
      rw [eS] at this
      exact this
    · have := r.1.le
      rw [List.append_nil] at this
      exact Nat.le_trans this J.2.2.2
    · rw [keT_1 (by decide), (r.2.1.1 949 rfl).1]
      exact kP_49
  · have h45 := r.1.2.2.1
    rw [eb] at h45
    rw [k_keepT_bad w h45, am_v_some]
    exact eO.bad (r.1.2.2.2.1 eb) r.1 rI1 r.2.2.1 r.2.2.2.1 (kP.dx.tr r.dx) eb
/-- a term made is kept -/
theorem e_keepM {f d Lc : Nat} {wr : List Int32} {M : qM} {y : Option (Option Value × am_S)} (w : hp_w B ρ) (J : kJ S A K0) (hI : aI S A) (h16 : A.2.2.2.2.2.2.length < 16000) (ht : aM A k wr M) (hL : aL A.2.2.2.1 k wr Lc) (hl : Lc ≤ wr.length)
    (hs : ∀ u, q_of [M] u → u = m_ty M ∨ S u)
    (hy : kO (Zc S A k wr) (q_ad S (m_ty M)) (K0.2.2.2.1 ++ [M]) sa ρ (kP K0 (fr + Lc) false) y M) :
    eO sa ρ S A k fr wr K0 (am_i y fun v g => (am_obj g (ρ.1 9) 9).bind fun _ => am_v (am_call B sa am_dfl am_tb (f + 1) (d + 2) 153 [.ref (ρ.1 9), .int v] g) fun g => some (none, g)) := by
  obtain ⟨v, K1, e1, r, hv⟩ := hy
  have rI0 : rI A (kP K0 (fr + Lc) false) := kP.r J.2.1 J.1
  have kI0 : kI True (q_ad S (m_ty M)) (K0.2.2.2.1 ++ [M]) (kP K0 (fr + Lc) false) := kP.I (J.1.mono False.elim (fun t z => Or.inl z) fun X hX => List.mem_append.mpr (Or.inl hX)) fun z => by cases z
  have rI1 : rI A K1 := rI0.cg kI0.wf kI0.n31 (fun x hx => r.2.1.1 x (kx_rr hx)) r.2.1.2 r.2.2.1 r.2.2.2.1
  rw [e1, am_i_some]
  simp only [hx_9 w, Option.bind_some]
  rcases bI_cases K1.2.2.2.2 with ⟨eb, e⟩ | ⟨eb, e⟩
  · have h45 := r.1.2.2.1
    rw [eb] at h45
    rw [k_keepM w h45 rI1.2.1.2.2.2.1 h16 rI1.2.1.2.2.2.2.1, am_v_some]
    obtain ⟨i, i1, i2, i3⟩ := hv.q eb
    have row := r.1.row i3
    have eS : ct_S K1.2.2.1 K1.2.1 = q_ad S (m_ty M) := by
      funext u
      refine propext ⟨r.1.2.2.2.2.1 u, fun z => ?_⟩
      rcases z with z | z
      · rw [← J.2.2.1] at z
        exact z.xt J.1.wf J.1.n31 r.2.2.1
      · rw [z]; exact row.1.1.S
    have hg := r.1.1.good
    rw [eS] at hg
    refine ⟨_, rfl, ((kP.dx.tr r.dx).tr keM.dx).W, Or.inl ⟨Lc, _, _, hL, hl, Or.inr (Or.inl ⟨M, ht, ⟨hg, row.2.2.2.2.2.1, row.2.2.2.2.2.2⟩, rfl, rfl⟩), ⟨?_, rI1.em (hv.q eb) h16 (fun j a b => (hI.2.2.2.2.2.2.2.2.2.1 j a b).2.2.1), eS, ?_⟩, ?_⟩⟩
    · have := keM.I (m := A.2.2.2.2.2.2.length) (v := v) (r.1.gd eb)
      rw [eS] at this
      exact this
    · have := r.1.le
      rw [List.length_append] at this
      have h2 := J.2.2.2
      show K1.2.2.2.1.length ≤ 2 * m_tot (sq_rows A.1) + (A.2.2.2.2.2.2 ++ [M]).length
      rw [List.length_append]
      have e1 : [M].length = 1 := rfl
      rw [e1] at this ⊢
      omega
    · rw [keM_1 (by decide), (r.2.1.1 949 rfl).1]
      exact kP_49
  · have h45 := r.1.2.2.1
    rw [eb] at h45
    rw [k_keepM_bad w h45, am_v_some]
    exact eO.bad (r.1.2.2.2.1 eb) r.1 rI1 r.2.2.1 r.2.2.2.1 (kP.dx.tr r.dx) eb
/-- the limits of one type more -/
theorem kz_T {wr : List Int32} {t : qT} (J : kJ S A K0) (hk : k < 2) (ht : aT A k wr t) (h40 : A.2.2.2.1.length ≤ 40) : kz (Zc S A k wr) (q_ad S t) (K0.2.2.2.1 ++ []) := by
  refine kz_add J.1 (fun z => ?_) (fun u hu => Or.inl (by rw [← J.2.2.1]; exact hu)) (fun z => ?_) (fun X hX => by cases hX)
  · rintro ⟨Lc, S', A', -, -, hE⟩
    obtain ⟨t', t1, t2, -⟩ := kE_T hE hk
    rw [aT_inj h40 t1 ht] at t2
    exact z t2
  · have := J.1.2.1.1.2
    rw [List.length_nil] at z
    omega
theorem kI_T {p : Nat} {t : qT} (J : kJ S A K0) : kI Z (q_ad S t) (K0.2.2.2.1 ++ []) (kP K0 p false) := kP.I (J.1.to J.b (fun u hu => Or.inl (by rw [← J.2.2.1]; exact hu))) fun z => by cases z
/-- readType of a variable -/
theorem e_0 {f d : Nat} (w : hp_w B ρ) (J : kJ S A K0) (hI : aI S A) (hv : vS ws K0) (h8 : A.2.2.2.2.2.1.length < 8000) (hfr : fr < ws.length) (hf : 70000 ≤ f) :
    eO sa ρ S A 0 fr (ws.drop fr) K0 (am_call B sa am_dfl am_tb f (d + 5) 154 [.ref (ρ.1 9), .int (nI 0)] (hp_S sa ρ (kP K0 (fr + 1) false).1)) := by
  obtain ⟨f, rfl⟩ : ∃ g, f = g + 1 := ⟨f - 1, by omega⟩
  obtain ⟨v1, p1, b1, e1, e2, e3⟩ := k_next (sa := sa) (f := f) (d := d + 2) (b := false) (p := fr + 1) w hv (by omega)
  rw [am_c_154, am_s154_0]
  simp only [hx_9 w, Option.bind_some, e1, am_i_some, am_c_ne]
  rw [if_neg (show ¬ (nI 0 : Int32) ≠ 0 from fun z => z rfl)]
  have mo := fun σ => m_out (sa := sa) (B := B) (f := f) (d := d + 3) (k := 100000000) (x := v1) (σ := σ) (by decide)
  have mo : ∀ σ, am_call B sa am_dfl am_tb (f + 1) (d + 4) 123 [.int v1, .int 100000000] σ = some (some (.int (bP (¬ inR v1 100000000))), σ) := mo
  rw [mo, am_i_some]
  have noL : (¬ ∃ x, ws[fr + 1]? = some x) → Zc S A 0 (ws.drop fr) := by
    rintro z ⟨Lc, S', A', hL, hl, -⟩
    have := aL_ge hL
    exact z ⟨_, w_dr' (wd_some (by omega))⟩
  have noR : ws[fr + 1]? = some v1 → ¬ inR v1 100000000 → Zc S A 0 (ws.drop fr) := by
    rintro g z ⟨Lc, S', A', hL, hl, hE⟩
    obtain ⟨t, ⟨-, t1⟩ | ⟨e, -⟩, -⟩ := kE_T hE (by decide)
    · rw [wd_at (w_dr g)] at t1
      exact z t1.1
    · exact absurd e (by decide)
  simp only [hx_9 w, Option.bind_some, am_c_eq]
  by_cases e : inR v1 100000000
  · rw [bP_f (fun z => z e), if_neg (fun z => z rfl), m_need1 w kP_45 (by decide), am_i_some]
    rcases e3 with ⟨rfl, -, rfl, g4⟩ | ⟨rfl, g2⟩
    · rw [if_neg (by decide)]
      have g5 := w_dr g4
      have ht : aT A 0 (ws.drop fr) (qN (-1 - v1) qE qE) := Or.inl ⟨rfl, by rw [wd_at g5]; exact ⟨e, rfl⟩⟩
      have hL : aL A.2.2.2.1 0 (ws.drop fr) 2 := Or.inl ⟨by decide, rfl⟩
      have hl : 2 ≤ (ws.drop fr).length := by have := (List.getElem?_eq_some_iff.mp g5).1; omega
      have := k_leafT (sa := sa) (f := f + 1) (d := d + 2) (c := -1 - v1) w (kz_T J (by decide) ht hI.2.2.2.1.2.2.2.1) (kI_T (p := fr + 2) J) (Or.inr rfl) (by omega)
      rw [show fr + 1 + 1 = fr + 2 from rfl]
      have h2 := e_keepT (B := B) (f := f) (d := d + 2) (fr := fr) (Lc := 2) w J h8 ht hL hl this
      simp only [hx_9 w, Option.bind_some]
      exact h2
    · rw [if_pos (show (bI !true) = 0 from rfl)]
      exact eO.bad1 (noL (g2.resolve_left (by decide))) J.1 J.2.1
  · rw [bP_t e, if_pos (by decide), m_need0 w kP_45, am_i_some, if_pos rfl]
    rw [show (1 : Int32) = bI true from rfl, kP_bad]
    rcases e3 with ⟨rfl, -, rfl, g4⟩ | ⟨rfl, g2⟩
    · exact eO.bad1 (noR g4 e) J.1 J.2.1
    · exact eO.bad1 (noL (g2.resolve_left (by decide))) J.1 J.2.1
set_option maxHeartbeats 2000000 in
/-- readType of a constructor -/
theorem e_1 {f d : Nat} (w : hp_w B ρ) (J : kJ S A K0) (hI : aI S A) (hv : vS ws K0) (h8 : A.2.2.2.2.2.1.length < 8000) (hfr : fr < ws.length) (hf : 70000 ≤ f) :
    eO sa ρ S A 1 fr (ws.drop fr) K0 (am_call B sa am_dfl am_tb f (d + 5) 154 [.ref (ρ.1 9), .int (nI 1)] (hp_S sa ρ (kP K0 (fr + 1) false).1)) := by
  obtain ⟨f, rfl⟩ : ∃ g, f = g + 1 + 1 := ⟨f - 2, by omega⟩
  have h40 := hI.2.2.2.1.2.2.2.1
  obtain ⟨v1, p1, b1, e1, e2, e3⟩ := k_next (sa := sa) (f := f + 1) (d := d + 2) (b := false) (p := fr + 1) w hv (by omega)
  rw [am_c_154, am_s154_0]
  simp only [hx_9 w, Option.bind_some, e1, am_i_some, am_c_ne]
  rw [if_pos (show (nI 1 : Int32) ≠ 0 by decide)]
  obtain ⟨s1, s2, s3, -⟩ := J.2.1.1
  simp only [hg_913 w, kP_1 (show 913 ≠ 949 by decide) (show 913 ≠ 945 by decide), s1, Option.bind_some]
  rw [m_out (by omega), am_i_some]
  have Lx : ∀ {Lc : Nat}, aL A.2.2.2.1 1 (ws.drop fr) Lc → ∃ c x, (ws.drop fr)[1]? = some (nI c) ∧ A.2.2.2.1[c]? = some x ∧ Lc = 2 + x := by
    intro Lc h
    rcases h with ⟨m, -⟩ | ⟨m, -⟩ | ⟨m, -⟩ | ⟨-, z⟩ | ⟨m, -⟩
    · exact absurd m (by decide)
    · exact absurd m (by decide)
    · exact absurd m (by decide)
    · exact z
    · exact absurd m (by decide)
  have noL : (¬ ∃ x, ws[fr + 1]? = some x) → Zc S A 1 (ws.drop fr) := by
    rintro z ⟨Lc, S', A', hL, hl, -⟩
    have := aL_ge hL
    exact z ⟨_, w_dr' (wd_some (by omega))⟩
  simp only [hx_9 w, Option.bind_some, am_c_eq]
  by_cases e : inR v1 A.2.2.2.1.length
  · rw [bP_f (fun z => z e), if_neg (fun z => z rfl), m_need1 w kP_45 (by decide), am_i_some]
    rcases e3 with ⟨rfl, -, rfl, g4⟩ | ⟨rfl, g2⟩
    · rw [if_pos (by decide)]
      obtain ⟨c, c1, rfl⟩ := e
      have g5 := w_dr g4
      obtain ⟨x, ex⟩ : ∃ x, A.2.2.2.1[c]? = some x := ⟨_, List.getElem?_eq_getElem c1⟩
      have hx2 : x ≤ 2 := hI.2.2.2.1.2.2.2.2 x (List.mem_of_getElem? ex)
      have rd : ∀ p b, hp_rd (kP K0 p b).1 914 (nI c) = some (nI x) := fun p b => by rw [hp_rd_kP, hp_rd_nI (by rw [s2]; omega) (by omega), s3 c x ex]
      simp only [hr_914 w, hl_914 w, rd, Option.bind_some, am_c_le]
      have hL : aL A.2.2.2.1 1 (ws.drop fr) (2 + x) := Or.inr (Or.inr (Or.inr (Or.inl ⟨rfl, c, x, g5, ex, rfl⟩)))
      have uL : ∀ {Lc : Nat}, aL A.2.2.2.1 1 (ws.drop fr) Lc → Lc = 2 + x := fun h => aL_inj h40 h hL
      have sp : ∀ {S' : qT → Prop} {A' : sV}, aE S A 1 (ws.drop fr) S' A' → ∃ tl tr, (if 0 < x then en_at A.2.2.2.2.2.1 (wd (ws.drop fr) 2) tl else tl = qE) ∧ (if 1 < x then en_at A.2.2.2.2.2.1 (wd (ws.drop fr) 3) tr else tr = qE) := by
        intro S' A' hE
        obtain ⟨t, ⟨z, -⟩ | ⟨-, k', x', tl, tr, t1, t2, t3, t4, -⟩, -⟩ := kE_T hE (by decide)
        · exact absurd z (by decide)
        · rw [wd_at g5] at t1
          have := (List.getElem?_eq_some_iff.mp t2).1
          have : c = k' := (nI_eq (by omega) (by omega)).mp t1
          rw [← this, ex] at t2
          have := Option.some.inj t2
          subst this
          exact ⟨tl, tr, t3, t4⟩
      -- the end, both types read
      have fin : ∀ {y u : Int32} {tl tr : qT} {d' : Nat}, 2 + x ≤ (ws.drop fr).length → (if 0 < x then en_at A.2.2.2.2.2.1 (wd (ws.drop fr) 2) tl else tl = qE) → (if 1 < x then en_at A.2.2.2.2.2.1 (wd (ws.drop fr) 3) tr else tr = qE) → ty_in K0.2.1 y → ty_in K0.2.1 u → ct K0.2.2.1 K0.2.1 y = tl → ct K0.2.2.1 K0.2.1 u = tr → eO sa ρ S A 1 fr (ws.drop fr) K0 (am_i (am_call B sa am_dfl am_tb (f + 1 + 1) (d' + 2) 126 [.ref (ρ.1 9), .int (nI c), .int y, .int u] (hp_S sa ρ (kP K0 (fr + (2 + x)) false).1)) fun v4 g4 => (am_obj g4 (ρ.1 9) 9).bind fun _ => am_v (am_call B sa am_dfl am_tb (f + 1 + 1) (d' + 2) 152 [.ref (ρ.1 9), .int v4] g4) fun g5 => some (none, g5)) := by
        intro y u tl tr d' hl q1 q2 i1 i2 ct1 ct2
        have ht : aT A 1 (ws.drop fr) (qN (nI c) tl tr) := Or.inr ⟨rfl, by rw [wd_at g5]; exact ⟨c, x, tl, tr, rfl, ex, q1, q2, rfl⟩⟩
        have := k_typeOf (sa := sa) (f := f + 1 + 1) (d := d') (q := (nI c, y, u)) w (kz_T J (by decide) ht h40) (kI_T (p := fr + (2 + x)) J) i1 i2 (by
          show q_ad S _ (qN (nI c) (ct K0.2.2.1 K0.2.1 y) (ct K0.2.2.1 K0.2.1 u))
          rw [ct1, ct2]; exact Or.inr rfl) (by omega)
        have this : kT _ _ _ sa ρ _ _ (qN (nI c) (ct K0.2.2.1 K0.2.1 y) (ct K0.2.2.1 K0.2.1 u)) := this
        rw [ct1, ct2] at this
        exact e_keepT w J h8 ht hL hl this
      have noT : ∀ {i : Nat}, i = 2 ∧ 0 < x ∨ i = 3 ∧ 1 < x → (¬ ∃ y t, ws[fr + i]? = some y ∧ en_at A.2.2.2.2.2.1 y t) → Zc S A 1 (ws.drop fr) := by
        rintro i hi z ⟨Lc, S', A', hL', hl', hE⟩
        rw [uL hL'] at hl'
        obtain ⟨tl, tr, q1, q2⟩ := sp hE
        rcases hi with ⟨rfl, hi⟩ | ⟨rfl, hi⟩
        · rw [if_pos hi] at q1
          exact z ⟨_, tl, w_dr' (wd_some (by omega)), q1⟩
        · rw [if_pos hi] at q2
          exact z ⟨_, tr, w_dr' (wd_some (by omega)), q2⟩
      by_cases x0 : x = 0
      · subst x0
        rw [if_pos (by decide), am_s154_85]
        simp only [hr_914 w, hl_914 w, rd, Option.bind_some, am_c_le, am_c_ne]
        rw [if_pos (by decide)]
        simp only [hg_945 w, kP_45, Option.bind_some, hx_9 w]
        rw [if_neg (fun z => z rfl), show fr + 1 + 1 = fr + (2 + 0) from rfl]
        exact fin (d' := d + 2) (by have := (List.getElem?_eq_some_iff.mp g5).1; omega) (by rw [if_neg (by decide)]) (by rw [if_neg (by decide)]) (Or.inl rfl) (Or.inl rfl) ct_m1 ct_m1
      · rw [if_neg (show ¬ nI x ≤ 0 from nI_nle (by omega) (by omega))]
        simp only [hx_9 w, Option.bind_some]
        obtain ⟨v2, p2, b2, h1, h2, h3⟩ := k_nextType (sa := sa) (f := f + 1) (d := d + 1) (b := false) (p := fr + 1 + 1) w hv J.2.1 (by omega) e2
        rw [h1, am_i_some, am_s154_85]
        simp only [hr_914 w, hl_914 w, rd, Option.bind_some, am_c_le, am_c_ne]
        by_cases x1 : x = 1
        · subst x1
          rw [if_pos (by decide)]
          simp only [hg_945 w, kP_45, Option.bind_some, hx_9 w]
          rcases h3 with ⟨rfl, -, rfl, y, t, k1, k2, k3⟩ | ⟨rfl, k2⟩
          · rw [if_neg (fun z => z rfl), show fr + 1 + 1 + 1 = fr + (2 + 1) from rfl]
            have k1' : (ws.drop fr)[2]? = some y := w_dr k1
            exact fin (d' := d + 2) (tl := t) (by have := (List.getElem?_eq_some_iff.mp k1').1; omega) (by rw [if_pos (by decide), wd_at k1']; exact k2) (by rw [if_neg (by decide)]) k3.In (Or.inl rfl) k3.ct ct_m1
          · rw [if_pos (by decide)]
            exact eO.bad1 (noT (i := 2) (Or.inl ⟨rfl, by decide⟩) (k2.resolve_left (by decide))) J.1 J.2.1
        · have x2 : x = 2 := by omega
          subst x2
          rw [if_neg (by decide)]
          simp only [hx_9 w, Option.bind_some]
          obtain ⟨v3, p3, b3, m1, m2, m3⟩ := k_nextType (sa := sa) (f := f + 1) (d := d + 1) (b := b2) (p := p2) w hv J.2.1 (by omega) h2
          rw [m1, am_i_some]
          simp only [hg_945 w, kP_45, Option.bind_some, hx_9 w]
          rcases h3 with ⟨rfl, -, rfl, y, t, k1, k2, k3⟩ | ⟨rfl, k2⟩
          · have k1' : (ws.drop fr)[2]? = some y := w_dr k1
            rcases m3 with ⟨rfl, -, rfl, y', t', n1, n2, n3⟩ | ⟨rfl, n2⟩
            · rw [if_neg (fun z => z rfl), show fr + 1 + 1 + 1 + 1 = fr + (2 + 2) from rfl]
              have n1' : (ws.drop fr)[3]? = some y' := w_dr n1
              exact fin (d' := d + 2) (tl := t) (tr := t') (by have := (List.getElem?_eq_some_iff.mp n1').1; omega) (by rw [if_pos (by decide), wd_at k1']; exact k2) (by rw [if_pos (by decide), wd_at n1']; exact n2) k3.In n3.In k3.ct n3.ct
            · rw [if_pos (by decide)]
              exact eO.bad1 (noT (i := 3) (Or.inr ⟨rfl, by decide⟩) (n2.resolve_left (by decide))) J.1 J.2.1
          · rcases m3 with ⟨-, z, -⟩ | ⟨rfl, -⟩
            · cases z
            · rw [if_pos (by decide)]
              exact eO.bad1 (noT (i := 2) (Or.inl ⟨rfl, by decide⟩) (k2.resolve_left (by decide))) J.1 J.2.1
    · rw [if_neg (fun z => z rfl)]
      exact eO.bad1 (noL (g2.resolve_left (by decide))) J.1 J.2.1
  · rw [bP_t e, if_pos (by decide), m_need0 w kP_45, am_i_some, if_neg (fun z => z rfl)]
    rw [show (1 : Int32) = bI true from rfl, kP_bad]
    rcases e3 with ⟨rfl, -, rfl, g4⟩ | ⟨rfl, g2⟩
    · refine eO.bad1 ?_ J.1 J.2.1
      rintro ⟨Lc, S', A', hL', hl', hE⟩
      obtain ⟨c, x, z1, z2, -⟩ := Lx hL'
      have : v1 = nI c := Option.some.inj ((w_dr g4).symm.trans z1)
      exact e ⟨c, (List.getElem?_eq_some_iff.mp z2).1, this⟩
    · exact eO.bad1 (noL (g2.resolve_left (by decide))) J.1 J.2.1
end RT
