/-! THE REFERENCE, 11: readTerm -/
theorem q_fit_eqK {n : Nat} {T : Nat → Int32 × Int32 × Int32} {tk : List Nat} {t : qT} {v : Int32} (hw : ty_wf T n) (hn : n < 2 ^ 31) (har : ty_ar (q_tk tk) T n) (h0 : q_tk tk 0 = 0) (h2 : q_tk tk 2 = 2) (hv : pl n T v t) (h : q_fit (qF qA (qF qA qB)) t = true) : ∃ a, t = qF a (qF a qB) := by
  obtain ⟨k, k1, rfl, rfl⟩ := hv
  have at2 : ∀ {k : Nat} {l r : qT} {μ : Int32 → Option qT}, k < n → (q_mt (qF l r) (ct T n (nI k)) μ).isSome = true → ∃ a b, a < k ∧ b < k ∧ ct T n (nI k) = qF (ct T n (nI a)) (ct T n (nI b)) ∧ ((q_mt l (ct T n (nI a)) μ).bind fun μ => q_mt r (ct T n (nI b)) μ).isSome = true := fun {k l r μ} hk hq => by
    rw [ct_at hw hn hk, show qF l r = qN 2 l r from rfl, q_mt_c (by decide)] at hq
    by_cases c : (2 : Int32) = (T k).1
    · rw [if_pos c] at hq
      have hark := har k hk
      rw [ct_at hw hn hk, q_ar_N, ← c, h2] at hark
      obtain ⟨w1, w2⟩ := hw k hk
      obtain ⟨a, a1, a2⟩ := w1.resolve_left fun z => by
        have := hark.1.mpr (by rw [z, ct_m1])
        omega
      obtain ⟨b, b1, b2⟩ := w2.resolve_left fun z => by
        have := hark.2.1.mpr (by rw [z, ct_m1])
        omega
      rw [a2, b2] at hq
      exact ⟨a, b, a1, b1, by rw [ct_at hw hn hk, ← c, a2, b2]; rfl, hq⟩
    · rw [if_neg c] at hq
      cases hq
  unfold q_fit at h
  obtain ⟨a, b, a1, b1, e1, q1⟩ := at2 k1 h
  rw [show qA = qN (-1) qE qE from rfl, q_mt_v (by decide)] at q1
  dsimp only [Option.bind] at q1
  obtain ⟨a', b', a1', b1', e2, q2⟩ := at2 (show b < n by omega) q1
  rw [q_mt_v (by decide)] at q2
  rw [if_pos rfl] at q2
  dsimp only at q2
  by_cases c : ct T n (nI a) = ct T n (nI a')
  · rw [if_pos c] at q2
    have q3 : (q_mt qB (ct T n (nI b')) fun x => if x = -1 then some (ct T n (nI a)) else none).isSome = true := q2
    have hb' : b' < n := by omega
    rw [ct_at hw hn hb', show qB = qN 0 qE qE from rfl, q_mt_c (by decide)] at q3
    by_cases c0 : (0 : Int32) = (T b').1
    · have harb := har b' hb'
      rw [ct_at hw hn hb', q_ar_N, ← c0, h0] at harb
      refine ⟨ct T n (nI a), ?_⟩
      have e3 : ct T n (nI b') = qB := by
        rw [ct_at hw hn hb', ← c0, harb.1.mp rfl, harb.2.1.mp (by omega)]; rfl
      rw [e1, e2, ← c, e3]
    · rw [if_neg c0] at q3
      cases q3
  · rw [if_neg c] at q2
    cases q2
section RM
variable {Z : Prop} {G : qT → Prop} {L : List qM} {sa : Nat → Nat} {B : Nat} {ρ : hp_L} {K K' K0 K1 : kS} {A : sV} {S : qT → Prop} {k fr : Nat} {ws : List Int32}
/-- what is the same but for the numbers of an entry -/
def kY (K0 K1 : kS) : Prop := mfr dx_S K0.1 K1.1 ∧ K1.2.1 = K0.2.1 ∧ K1.2.2.1 = K0.2.2.1 ∧ K1.2.2.2.1 = K0.2.2.2.1
theorem kP.y {p : Nat} {b : Bool} : kY K0 (kP K0 p b) := ⟨kP.dx, rfl, rfl, rfl⟩
/-- bad set -/
def kB (K : kS) (b : Bool) : kS := (hp_sI K.1 945 (bI b), K.2.1, K.2.2.1, K.2.2.2.1, b)
theorem kB.I {Z' : Prop} {b : Bool} (h : kI Z G L K) (hb : b = true → Z') : kI Z' G L (kB K b) := ⟨h.1.cg (hI_ne (by decide)) fun _ _ _ => rfl, h.2.1.cg (hI_ne (by decide)) fun _ _ _ => rfl, hI_eq, hb, h.2.2.2.2⟩
theorem rr_ne {r s : Nat} (h : rr_S r = true) (hs : rr_S s = false) : r ≠ s := fun z => by rw [z, hs] at h; cases h
theorem kB.r {b : Bool} (h : rI A K) (k : kI Z G L K) : rI A (kB K b) := h.cg k.wf k.n31 (fun r hr => ⟨hI_ne (rr_ne hr rfl), rfl⟩) (fun _ => rfl) ty_xt.rf ⟨[], (List.append_nil _).symm⟩
theorem kB.dx {b : Bool} : mfr dx_S K.1 (kB K b).1 := mfr.sI (r := 945) rfl
theorem eO.bad2 {wr : List Int32} (hZ : Zc S A k wr) (h : kI Z G L K1) (hr : rI A K1) (hy : kY K0 K1) : eO sa ρ S A k fr wr K0 (some (none, hp_S sa ρ (kB K1 true).1)) := by
  refine eO.bad (K' := kB K1 true) (Z := True) (G := G) (L := L) hZ (kB.I h fun _ => True.intro) (kB.r hr h) ?_ ⟨[], ?_⟩ (hy.1.tr kB.dx) rfl
  · show ty_xt K0.2.1 K0.2.2.1 K1.2.1 K1.2.2.1
    rw [hy.2.1, hy.2.2.1]; exact ty_xt.rf
  · show K1.2.2.2.1 = _
    rw [hy.2.2.2, List.append_nil]
theorem e_keepG {f d Lc : Nat} {wr : List Int32} {M : qM} {y : Option (Option Value × am_S)} (w : hp_w B ρ) (J : kJ S A K0) (hI : aI S A) (h16 : A.2.2.2.2.2.2.length < 16000) (ht : aM A k wr M) (hL : aL A.2.2.2.1 k wr Lc) (hl : Lc ≤ wr.length)
    (hY : kY K0 K1) (k1 : kI Z G L K1) (r1 : rI A K1) (h49 : K1.1.1 949 = nI (fr + Lc))
    (hy : kO (Zc S A k wr) (q_ad S (m_ty M)) (K0.2.2.2.1 ++ [M]) sa ρ K1 y M) :
    eO sa ρ S A k fr wr K0 (am_i y fun v g => (am_obj g (ρ.1 9) 9).bind fun _ => am_v (am_call B sa am_dfl am_tb (f + 1) (d + 2) 153 [.ref (ρ.1 9), .int v] g) fun g => some (none, g)) := by
  obtain ⟨v, K2, e1, r, hv⟩ := hy
  have rI2 : rI A K2 := r1.cg k1.wf k1.n31 (fun x hx => r.2.1.1 x (kx_rr hx)) r.2.1.2 r.2.2.1 r.2.2.2.1
  have xt : ty_xt K0.2.1 K0.2.2.1 K2.2.1 K2.2.2.1 := by have := r.2.2.1; rw [hY.2.1, hY.2.2.1] at this; exact this
  have pf : ∃ q, K2.2.2.2.1 = K0.2.2.2.1 ++ q := by have := r.2.2.2.1; rw [hY.2.2.2] at this; exact this
  rw [e1, am_i_some]
  simp only [hx_9 w, Option.bind_some]
  rcases bI_cases K2.2.2.2.2 with ⟨eb, e⟩ | ⟨eb, e⟩
  · have h45 := r.1.2.2.1
    rw [eb] at h45
    rw [k_keepM w h45 rI2.2.1.2.2.2.1 h16 rI2.2.1.2.2.2.2.1, am_v_some]
    obtain ⟨i, i1, i2, i3⟩ := hv.q eb
    have row := r.1.row i3
    have eS : ct_S K2.2.2.1 K2.2.1 = q_ad S (m_ty M) := by
      funext u
      refine propext ⟨r.1.2.2.2.2.1 u, fun z => ?_⟩
      rcases z with z | z
      · rw [← J.2.2.1] at z
        exact z.xt J.1.wf J.1.n31 xt
      · rw [z]; exact row.1.1.S
    have hg := r.1.1.good
    rw [eS] at hg
    refine ⟨_, rfl, ((hY.1.tr r.dx).tr keM.dx).W, Or.inl ⟨Lc, _, _, hL, hl, Or.inr (Or.inl ⟨M, ht, ⟨hg, row.2.2.2.2.2.1, row.2.2.2.2.2.2⟩, rfl, rfl⟩), ⟨?_, rI2.em (hv.q eb) h16 (fun j a b => (hI.2.2.2.2.2.2.2.2.2.1 j a b).2.2.1), eS, ?_⟩, ?_⟩⟩
    · have := keM.I (m := A.2.2.2.2.2.2.length) (v := v) (r.1.gd eb)
      rw [eS] at this
      exact this
    · have := r.1.le
      rw [List.length_append] at this
      have h2 := J.2.2.2
      show K2.2.2.2.1.length ≤ 2 * m_tot (sq_rows A.1) + (A.2.2.2.2.2.2 ++ [M]).length
      rw [List.length_append]
      have e1 : [M].length = 1 := rfl
      rw [e1] at this ⊢
      omega
    · rw [keM_1 (by decide), (r.2.1.1 949 rfl).1]
      exact h49
  · have h45 := r.1.2.2.1
    rw [eb] at h45
    rw [k_keepM_bad w h45, am_v_some]
    exact eO.bad (r.1.2.2.2.1 eb) r.1 rI2 xt pf (hY.1.tr r.dx) eb
theorem kz_M {wr : List Int32} {M : qM} (J : kJ S A K0) (hk : 2 ≤ k) (hk2 : k < 7) (h16 : A.2.2.2.2.2.2.length < 16000) (ht : aM A k wr M) (hw : m_wf M) (hne : m_ty M ≠ qE) (hs : ∀ u, q_of [M] u → u = m_ty M ∨ S u) (hsub : ∀ Y, m_sub Y M → Y = M ∨ Y ∈ K0.2.2.2.1) : kz (Zc S A k wr) (q_ad S (m_ty M)) (K0.2.2.2.1 ++ [M]) := by
  have key : ¬ m_lim S M → Zc S A k wr := by
    rintro z ⟨Lc, S', A', -, -, hE⟩
    obtain ⟨t', t1, t2, -⟩ := kE_M hE hk hk2
    rw [aM_inj t1 ht] at t2
    exact z t2
  refine kz_add J.1 (fun z => key fun y => z y.1) (fun u hu => Or.inl (by rw [← J.2.2.1]; exact hu)) (fun z => ?_) (fun X hX => ?_)
  · have h1 := J.2.2.2
    have h2 := J.2.1.2.2.1.2.2.1.2
    rw [show [M].length = 1 from rfl] at z
    omega
  · rw [List.mem_singleton.mp hX]
    refine ⟨⟨hw, hne⟩, fun z => key fun y => by have := y.2.1; omega, fun z => key fun y => by have := y.2.2; omega, fun u hu => (hs u hu).elim Or.inr Or.inl, fun Y hY => ?_⟩
    rcases hsub Y hY with z | z
    · rw [z]; exact List.mem_append.mpr (Or.inr (List.mem_singleton.mpr rfl))
    · exact List.mem_append.mpr (Or.inl z)
theorem kJ.ar (J : kJ S A K0) (hI : aI S A) : ty_ar (q_tk A.2.2.2.1) K0.2.2.1 K0.2.1 := fun a ha => (hI.2.1 _ (by rw [← J.2.2.1]; exact ⟨a, ha, rfl⟩)).2.1
/-- the leaf made -/
theorem e_leaf {f d Lc j e : Nat} {wr : List Int32} {t : qT} {v kd : Int32} (w : hp_w B ρ) (J : kJ S A K0) (hI : aI S A) (h16 : A.2.2.2.2.2.2.length < 16000) (hk : 2 ≤ k) (hk2 : k < 7) (hj : j < 2 ^ 28) (he : (kd = 6 ∧ e = 0) ∨ (kd = 2 ∧ e = 1) ∨ (kd = 3 ∧ e = 2)) (hlf : m_lf (nI (4 * j + e)) t) (ht : aM A k wr (mN (nI (4 * j + e)) t .leaf .leaf)) (hL : aL A.2.2.2.1 k wr Lc) (hl : Lc ≤ wr.length)
    (hY : kY K0 K1) (k1 : kI Z G L K1) (hb : K1.2.2.2.2 = false) (r1 : rI A K1) (h49 : K1.1.1 949 = nI (fr + Lc)) (hv : pl K0.2.1 K0.2.2.1 v t) (hf : 70000 ≤ f) :
    eO sa ρ S A k fr wr K0 (am_go B sa am_dfl (am_call B sa am_dfl am_tb f (d + 2)) am_r155 (f - 1) 188 [(0, .ref (ρ.1 9)), (1, .int kd), (2, .int (nI j)), (3, .int v)] [] (hp_S sa ρ K1.1)) := by
  obtain ⟨f, rfl⟩ : ∃ g, f = g + 1 + 1 := ⟨f - 2, by omega⟩
  rw [Nat.add_sub_cancel, am_s155_188]
  have h45 := k1.2.2.1
  rw [hb] at h45
  simp only [hg_945 w, h45, Option.bind_some, am_c_ne, hx_9 w]
  rw [if_neg (fun z => z rfl)]
  have tS : S t := by rw [← J.2.2.1]; exact hv.S
  have hs : ∀ u, q_of [mN (nI (4 * j + e)) t .leaf .leaf] u → u = m_ty (mN (nI (4 * j + e)) t .leaf .leaf) ∨ S u := fun u hu => by
    rcases q_of_1.mp hu with z | z | z
    · exact Or.inr (hI.1.1 t u tS z)
    · exact absurd z q_of_lf
    · exact absurd z q_of_lf
  have kz' := kz_M J hk hk2 h16 ht (m_wf_lf hlf) (hI.2.1 t tS).1 hs (fun Y hY => by
    rcases hY with z | z | z
    · exact Or.inl z
    · exact z.elim
    · exact z.elim)
  have kI1 : kI (Zc S A k wr) (q_ad S t) (K0.2.2.2.1 ++ [mN (nI (4 * j + e)) t .leaf .leaf]) K1 := by
    rw [← hY.2.2.2]
    refine k1.to hb fun u hu => Or.inl ?_
    rw [hY.2.1, hY.2.2.1, J.2.2.1] at hu
    exact hu
  have hv1 : pl K1.2.1 K1.2.2.1 v t := by rw [hY.2.1, hY.2.2.1]; exact hv
  have := k_node (sa := sa) (f := f + 1 + 1) (d := d) (q := (kd, nI j, 0, v)) (M := mN (nI (4 * j + e)) t .leaf .leaf) w kz' kI1 ⟨hv1, Or.inr (Or.inr ⟨j, e, t, he, rfl, hj, rfl, rfl⟩)⟩ (List.mem_append.mpr (Or.inr (List.mem_singleton.mpr rfl))) (by omega)
  exact e_keepG (d := d) w J hI h16 ht hL hl hY k1 r1 h49 this
/-- the code of a name -/
theorem nm_1 {j : Nat} : 4 * nI j + 1 = nI (4 * j + 1) := by rw [nI4]; exact nI_add (4 * j) 1
theorem nm_2 {j : Nat} : 4 * nI j + 2 = nI (4 * j + 2) := by rw [nI4]; exact nI_add (4 * j) 2
theorem aL_3 {tk : List Nat} {wr : List Int32} (h : k ∈ [2, 3, 4, 5, 6, 11, 12, 13, 16, 17]) : aL tk k wr 3 := Or.inr (Or.inl ⟨h, rfl⟩)
theorem aL_3u {tk : List Nat} {wr : List Int32} {Lc : Nat} (h : k ∈ [2, 3, 4, 5, 6, 11, 12, 13, 16, 17]) (ht : tk.length ≤ 40) (hL : aL tk k wr Lc) : Lc = 3 := aL_inj ht hL (aL_3 h)
theorem aL_2 {tk : List Nat} {wr : List Int32} (h : k ∈ [0, 10, 14, 15, 20, 21, 22]) : aL tk k wr 2 := Or.inl ⟨h, rfl⟩
set_option maxHeartbeats 2000000 in
/-- readTerm: names and what is bound -/
theorem e_26 {f d lim e : Nat} (hke : (k = 2 ∧ lim = 100000000 ∧ e = 1) ∨ (k = 6 ∧ lim = 120 ∧ e = 0)) (w : hp_w B ρ) (J : kJ S A K0) (hI : aI S A) (hv : vS ws K0) (h8 : A.2.2.2.2.2.1.length < 8000) (h16 : A.2.2.2.2.2.2.length < 16000) (hfr : fr < ws.length) (hf : 70000 ≤ f) :
    eO sa ρ S A k fr (ws.drop fr) K0 (am_call B sa am_dfl am_tb f (d + 5) 155 [.ref (ρ.1 9), .int (nI k)] (hp_S sa ρ (kP K0 (fr + 1) false).1)) := by
  obtain ⟨f, rfl⟩ : ∃ g, f = g + 1 := ⟨f - 1, by omega⟩
  have h40 := hI.2.2.2.1.2.2.2.1
  have hkm : k ∈ [2, 3, 4, 5, 6, 11, 12, 13, 16, 17] := by rcases hke with ⟨rfl, -⟩ | ⟨rfl, -⟩ <;> decide
  have hk2 : 2 ≤ k := by rcases hke with ⟨rfl, -⟩ | ⟨rfl, -⟩ <;> decide
  have hk7 : k < 7 := by rcases hke with ⟨rfl, -⟩ | ⟨rfl, -⟩ <;> decide
  have hlim : lim ≤ 100000000 := by rcases hke with ⟨-, rfl, -⟩ | ⟨-, rfl, -⟩ <;> decide
  have sp : ∀ {M : qM}, aM A k (ws.drop fr) M ↔ inR (wd (ws.drop fr) 1) lim ∧ ∃ t, en_at A.2.2.2.2.2.1 (wd (ws.drop fr) 2) t ∧ ∀ j, wd (ws.drop fr) 1 = nI j → M = mN (nI (4 * j + e)) t .leaf .leaf := by
    intro M
    rcases hke with ⟨rfl, rfl, rfl⟩ | ⟨rfl, rfl, rfl⟩
    · constructor
      · rintro (⟨-, z, t, z1, z2⟩ | ⟨z, -⟩ | ⟨z, -⟩ | ⟨z, -⟩ | ⟨z, -⟩)
        · exact ⟨z, t, z1, fun j hj => by rw [z2, hj, nm_1]⟩
        all_goals exact absurd z (by decide)
      · rintro ⟨z, t, z1, z2⟩
        obtain ⟨j, j1, j2⟩ := z
        exact Or.inl ⟨rfl, ⟨j, j1, j2⟩, t, z1, by rw [z2 j j2, j2, nm_1]⟩
    · constructor
      · rintro (⟨z, -⟩ | ⟨z, -⟩ | ⟨z, -⟩ | ⟨z, -⟩ | ⟨-, z, t, z1, z2⟩)
        · exact absurd z (by decide)
        · exact absurd z (by decide)
        · exact absurd z (by decide)
        · exact absurd z (by decide)
        · exact ⟨z, t, z1, fun j hj => by rw [z2, hj, nI4]; rfl⟩
      · rintro ⟨z, t, z1, z2⟩
        obtain ⟨j, j1, j2⟩ := z
        exact Or.inr (Or.inr (Or.inr (Or.inr ⟨rfl, ⟨j, j1, j2⟩, t, z1, by rw [z2 j j2, j2, nI4]; rfl⟩)))
  have noM : (∀ M, ¬ aM A k (ws.drop fr) M) → Zc S A k (ws.drop fr) := by
    rintro z ⟨Lc, S', A', -, -, hE⟩
    obtain ⟨M, m1, -⟩ := kE_M hE hk2 hk7
    exact z M m1
  have noW : ∀ {i : Nat}, i < 3 → (¬ ∃ x, ws[fr + i]? = some x) → Zc S A k (ws.drop fr) := by
    rintro i hi z ⟨Lc, S', A', hL, hl, -⟩
    rw [aL_3u hkm h40 hL] at hl
    exact z ⟨_, w_dr' (wd_some (by omega))⟩
  obtain ⟨v1, p1, b1, e1, e2, e3⟩ := k_next (sa := sa) (f := f) (d := d + 2) (b := false) (p := fr + 1) w hv (by omega)
  obtain ⟨v2, p2, b2, h1, h2, h3⟩ := k_nextType (sa := sa) (f := f) (d := d + 1) (b := b1) (p := p1) w hv J.2.1 (by omega) e2
  rw [am_c_155, am_s155_0]
  have nk : (nI k : Int32) ≠ 4 ∧ (nI k : Int32) ≠ 5 ∧ (nI k : Int32) ≠ 3 := by rcases hke with ⟨rfl, -⟩ | ⟨rfl, -⟩ <;> decide
  simp only [hx_9 w, Option.bind_some, e1, h1, am_i_some, am_c_ne, am_c_eq, hg_945 w, kP_45]
  rw [if_pos nk.1, if_pos nk.2.1]
  have mo : ∀ σ, am_call B sa am_dfl am_tb (f + 1) (d + 4) 123 [.int v1, .int (nI lim)] σ = some (some (.int (bP (¬ inR v1 lim))), σ) := fun σ => m_out (by omega)
  rcases e3 with ⟨rfl, -, rfl, g4⟩ | ⟨rfl, g2⟩
  · have g5 := w_dr g4
    rcases h3 with ⟨rfl, -, rfl, y, t, k1, k2, k3⟩ | ⟨rfl, k2⟩
    · rw [if_pos (show bI false = 0 from rfl), if_pos nk.2.2]
      have k1' : (ws.drop fr)[2]? = some y := w_dr k1
      -- both branches the same
      have go : eO sa ρ S A k fr (ws.drop fr) K0 (am_i (am_call B sa am_dfl am_tb (f + 1) (d + 4) 123 [.int v1, .int (nI lim)] (hp_S sa ρ (kP K0 (fr + 1 + 1 + 1) false).1)) fun v7 g7 => if v7 ≠ 0 then ((am_obj g7 (ρ.1 9) 9).bind fun _ => am_i (am_call B sa am_dfl am_tb (f + 1) (d + 4) 124 [.ref (ρ.1 9), .int 0] g7) fun v8 g8 => am_go B sa am_dfl (am_call B sa am_dfl am_tb (f + 1) (d + 4)) am_r155 f 188 [(0, .ref (ρ.1 9)), (1, .int (nI k)), (2, .int v1), (3, .int v2)] [] g8) else ((am_obj g7 (ρ.1 9) 9).bind fun _ => am_i (am_call B sa am_dfl am_tb (f + 1) (d + 4) 124 [.ref (ρ.1 9), .int 1] g7) fun v9 g9 => am_go B sa am_dfl (am_call B sa am_dfl am_tb (f + 1) (d + 4)) am_r155 f 188 [(0, .ref (ρ.1 9)), (1, .int (nI k)), (2, .int v1), (3, .int v2)] [] g9)) := by
        rw [mo, am_i_some]
        simp only [hx_9 w, Option.bind_some]
        by_cases er : inR v1 lim
        · rw [bP_f (fun z => z er), if_neg (fun z => z rfl), m_need1 w kP_45 (by decide), am_i_some]
          obtain ⟨j, j1, rfl⟩ := er
          have hM : aM A k (ws.drop fr) (mN (nI (4 * j + e)) t .leaf .leaf) := sp.mpr ⟨by rw [wd_at g5]; exact ⟨j, j1, rfl⟩, t, by rw [wd_at k1']; exact k2, fun i hi => by
            rw [wd_at g5] at hi
            by_cases hi31 : i < 2 ^ 31
            · rw [(nI_eq (by omega) hi31).mp hi]
            · have e4 : nI (4 * j + e) = 4 * nI j + nI e := by rw [nI4]; exact (nI_add (4 * j) e).symm
              have e5 : nI (4 * i + e) = 4 * nI i + nI e := by
                have : (4 : Int32) * nI i = nI (4 * i) := nI4
                rw [this]; exact (nI_add (4 * i) e).symm
              rw [e4, e5, hi]⟩
          have hlf : m_lf (nI (4 * j + e)) t := m_lf_n (by rcases hke with ⟨-, -, rfl⟩ | ⟨-, -, rfl⟩ <;> omega) (by rcases hke with ⟨-, -, rfl⟩ | ⟨-, -, rfl⟩ <;> omega)
          have := e_leaf (B := B) (sa := sa) (f := f + 1) (d := d + 2) (kd := nI k) (fr := fr) (Lc := 3) w J hI h16 hk2 hk7 (show j < 2 ^ 28 by omega) (by rcases hke with ⟨rfl, -, rfl⟩ | ⟨rfl, -, rfl⟩ <;> first | exact Or.inr (Or.inl ⟨rfl, rfl⟩) | exact Or.inl ⟨rfl, rfl⟩) hlf hM (aL_3 hkm) (by have := (List.getElem?_eq_some_iff.mp k1').1; omega) (kP.y (p := fr + 1 + 1 + 1) (b := false)) (kP.I (Z := True) (J.1.mono False.elim (fun _ z => z) (fun _ z => z)) fun z => by cases z) rfl (kP.r J.2.1 J.1) kP_49 k3 (by omega)
          exact this
        · rw [bP_t er, if_pos (by decide), m_need0 w kP_45, am_i_some]
          rw [show (1 : Int32) = bI true from rfl, kP_bad]
          obtain ⟨f, rfl⟩ : ∃ g, f = g + 1 := ⟨f - 1, by omega⟩
          rw [am_s155_188]
          simp only [hg_945 w, kP_45, Option.bind_some, am_c_ne]
          rw [if_pos (by decide)]
          exact eO.bad1 (noM fun M m1 => er (by have := (sp.mp m1).1; rw [wd_at g5] at this; exact this)) J.1 J.2.1
      rcases hke with ⟨rfl, rfl, rfl⟩ | ⟨rfl, rfl, rfl⟩
      · rw [if_neg (show ¬ (nI 2 : Int32) ≠ 2 from fun z => z rfl)]
        exact go
      · rw [if_pos (show (nI 6 : Int32) ≠ 2 by decide)]
        exact go
    · rw [if_neg (show ¬ bI true = 0 by decide)]
      refine eO.bad1 ?_ J.1 J.2.1
      rintro ⟨Lc, S', A', hL, hl, hE⟩
      rw [aL_3u hkm h40 hL] at hl
      obtain ⟨M, m1, -⟩ := kE_M hE hk2 hk7
      obtain ⟨-, t, t1, -⟩ := sp.mp m1
      exact k2.resolve_left (by decide) ⟨_, t, w_dr' (i := 2) (wd_some (by omega)), t1⟩
  · rcases h3 with ⟨-, z, -⟩ | ⟨rfl, k2⟩
    · cases z
    · rw [if_neg (show ¬ bI true = 0 by decide)]
      exact eO.bad1 (noW (i := 1) (by decide) (g2.resolve_left (by decide))) J.1 J.2.1
end RM
