/-! THE REFERENCE, 6: types exchanged, fits -/
def ks_S : Nat → Bool := fun r => decide (904 ≤ r ∧ r ≤ 912) || (decide (917 ≤ r ∧ r ≤ 927) || decide (r = 945))
section KX
variable {Z : Prop} {G : qT → Prop} {L : List qM} {sa : Nat → Nat} {B : Nat} {ρ : hp_L} {K K' : kS} {n0 : Nat} {σ : Int32 → Option qT}
theorem kI.cg {P' : hp_P} (h : kI Z G L K) (hP : ∀ r, ks_S r = true → P'.1 r = K.1.1 r ∧ P'.2 r = K.1.2 r) : kI Z G L (P', K.2) := by
  refine ⟨h.1.cg (hP 904 rfl).1 fun r a b => (hP r ?_).2, h.2.1.cg (hP 917 rfl).1 fun r a b => (hP r ?_).2, (hP 945 rfl).1.trans h.2.2.1, h.2.2.2⟩
  · unfold ks_S; rw [decide_eq_true (p := 904 ≤ r ∧ r ≤ 912) (by omega), Bool.true_or]
  · unfold ks_S; rw [decide_eq_true (p := 917 ≤ r ∧ r ≤ 927) (by omega), Bool.true_or, Bool.or_true]
/-- what types become -/
def xI (K : kS) (n0 : Nat) (σ : Int32 → Option qT) : Prop := ∃ m, K.1.1 946 = nI m ∧ m ≤ 250 ∧ (K.1.2 947).1 = 256 ∧ (K.1.2 948).1 = 256 ∧
  ∀ a, a < n0 → (K.2.2.1 a).1 < 0 → (σ (K.2.2.1 a).1 = none ∧ ∀ k, k < m → (K.1.2 947).2 k ≠ nI a) ∨ ∃ k u, k < m ∧ (K.1.2 947).2 k = nI a ∧ (∀ k', k' < k → (K.1.2 947).2 k' ≠ nI a) ∧ σ (K.2.2.1 a).1 = some u ∧ pl K.2.1 K.2.2.1 ((K.1.2 948).2 k) u
theorem xI.go (x : xI K n0 σ) (hn : n0 ≤ K.2.1) (h : kI Z G L K) (r : kR Z G L K K') : xI K' n0 σ := by
  obtain ⟨m, x1, x2, x3, x4, x5⟩ := x
  have fr := r.2.1.1
  refine ⟨m, (fr 946 rfl).1.trans x1, x2, by rw [(fr 947 rfl).2]; exact x3, by rw [(fr 948 rfl).2]; exact x4, fun a ha hc => ?_⟩
  rw [(fr 947 rfl).2, (fr 948 rfl).2]
  rw [r.2.2.1.2 a (by omega)] at hc ⊢
  rcases x5 a ha hc with z | ⟨k, u, z1, z2, z3, z4, z5⟩
  · exact Or.inl z
  · exact Or.inr ⟨k, u, z1, z2, z3, z4, z5.xt h.wf h.n31 r.2.2.1⟩
theorem k_exch_loop {cl : am_F} {a : Nat} (w : hp_w B ρ) {m : Nat} (e46 : K.1.1 946 = nI m) (hm : m ≤ 250) (l7 : (K.1.2 947).1 = 256) (l8 : (K.1.2 948).1 = 256) (ha : a < 9000) : ∀ (j k f : Nat), m - k = j → k ≤ m → (∀ k', k' < k → (K.1.2 947).2 k' ≠ nI a) → j + 1 ≤ f →
    ((∀ k, k < m → (K.1.2 947).2 k ≠ nI a) → am_go B sa am_dfl cl am_r130 f 11 [(0, .ref (ρ.1 9)), (1, .int (nI a)), (2, .int (nI k))] [] (hp_S sa ρ K.1) = some (some (.int (nI a)), hp_S sa ρ K.1)) ∧
    ∀ i, i < m → (K.1.2 947).2 i = nI a → (∀ k', k' < i → (K.1.2 947).2 k' ≠ nI a) → am_go B sa am_dfl cl am_r130 f 11 [(0, .ref (ρ.1 9)), (1, .int (nI a)), (2, .int (nI k))] [] (hp_S sa ρ K.1) = some (some (.int ((K.1.2 948).2 i)), hp_S sa ρ K.1) := by
  intro j
  induction j with
  | zero =>
    intro k f hj hk hb hf
    obtain ⟨f, rfl⟩ : ∃ g, f = g + 1 := ⟨f - 1, by omega⟩
    refine ⟨fun _ => ?_, fun i hi h1 h2 => absurd h1 (hb i (by omega))⟩
    rw [am_s130_11]
    simp only [hg_946 w, e46, Option.bind_some, am_c_ge]
    rw [if_pos (nI_le (by omega) (by omega))]
  | succ j ih =>
    intro k f hj hk hb hf
    obtain ⟨f, rfl⟩ : ∃ g, f = g + 1 := ⟨f - 1, by omega⟩
    rw [am_s130_11]
    have r7 : hp_rd K.1 947 (nI k) = some ((K.1.2 947).2 k) := hp_rd_nI (by rw [l7]; omega) (by omega)
    have r8 : hp_rd K.1 948 (nI k) = some ((K.1.2 948).2 k) := hp_rd_nI (by rw [l8]; omega) (by omega)
    simp only [hg_946 w, e46, Option.bind_some, am_c_ge, am_c_ne, hr_947 w, hl_947 w, r7, hr_948 w, hl_948 w, r8]
    rw [if_neg (nI_ge (show k < m by omega) (by omega)), nI_1]
    by_cases e : (K.1.2 947).2 k = nI a
    · rw [if_neg (fun z => z e)]
      refine ⟨fun z => absurd e (z k (by omega)), fun i hi h1 h2 => ?_⟩
      have : i = k := by
        rcases Nat.lt_trichotomy i k with z | z | z
        · exact absurd h1 (hb i z)
        · exact z
        · exact absurd e (h2 k z)
      rw [this]
    · rw [if_pos e]
      exact ih (k + 1) f (by omega) (by omega) (fun k' hk' => by
        by_cases z : k' = k
        · rw [z]; exact e
        · exact hb k' (by omega)) (by omega)
/-- exchanged -/
theorem k_exch {f : Nat} {kk : Int32 → Nat} (w : hp_w B ρ) (k : kz Z G L) (hf : 10000 ≤ f) : ∀ (a d : Nat) (K : kS), a < n0 → n0 ≤ K.2.1 → kI Z G L K → xI K n0 σ → q_ar kk (ct K.2.2.1 K.2.1 (nI a)) → (∀ t, q_sub t (q_sbs σ (ct K.2.2.1 K.2.1 (nI a))) → G t) → q_ht (ct K.2.2.1 K.2.1 (nI a)) ≤ d →
    kT Z G L sa ρ K (am_call B sa am_dfl am_tb f (d + 3) 130 [.ref (ρ.1 9), .int (nI a)] (hp_S sa ρ K.1)) (q_sbs σ (ct K.2.2.1 K.2.1 (nI a))) := by
  obtain ⟨f, rfl⟩ : ∃ g, f = g + 1 := ⟨f - 1, by omega⟩
  intro a
  induction a using Nat.strongRecOn with
  | ind a ih =>
    intro d K ha hn h hx har hG hd
    have hw := h.wf
    have n31 := h.n31
    have n8 := h.1.1.2
    have han : a < K.2.1 := by omega
    obtain ⟨r1, r2, r3⟩ := h.rdT han
    have e0 := ct_at hw n31 han
    have pa : pl K.2.1 K.2.2.1 (nI a) (ct K.2.2.1 K.2.1 (nI a)) := ⟨a, han, rfl, rfl⟩
    rw [am_c_130, am_s130_0]
    simp only [hr_905 w, hl_905 w, r1, Option.bind_some, am_c_ge, am_c_ne]
    by_cases hc : (K.2.2.1 a).1 < 0
    · rw [if_neg (fun z => Int32.not_lt.mpr z hc)]
      obtain ⟨m, x1, x2, x3, x4, x5⟩ := hx
      obtain ⟨g1, g2⟩ := k_exch_loop (sa := sa) (cl := am_call B sa am_dfl am_tb (f + 1) (d + 2)) (a := a) w x1 x2 x3 x4 (by omega) m 0 f (by omega) (by omega) (fun k' z => absurd z (Nat.not_lt_zero _)) (by omega)
      have eS : q_sbs σ (ct K.2.2.1 K.2.1 (nI a)) = (σ (K.2.2.1 a).1).getD (ct K.2.2.1 K.2.1 (nI a)) := by
        rw [e0, q_sbs_N, if_pos hc]
      rw [eS]
      rcases x5 a ha hc with ⟨z1, z2⟩ | ⟨i, u, z1, z2, z3, z4, z5⟩
      · rw [z1]
        exact ⟨nI a, K, g1 z2, kR.rf h, pl_tv pa⟩
      · rw [z4]
        exact ⟨_, K, g2 i z1 z2 z3, kR.rf h, pl_tv z5⟩
    · rw [if_pos (Int32.not_lt.mp hc)]
      simp only [hr_906 w, hl_906 w, r2, Option.bind_some]
      have eS : q_sbs σ (ct K.2.2.1 K.2.1 (nI a)) = qN (K.2.2.1 a).1 (q_sbs σ (ct K.2.2.1 K.2.1 (K.2.2.1 a).2.1)) (q_sbs σ (ct K.2.2.1 K.2.1 (K.2.2.1 a).2.2)) := by
        rw [e0, q_sbs_N, if_neg hc]
      rw [e0, q_ar_N] at har
      obtain ⟨ar1, ar2, ar3, ar4, -⟩ := har
      have hh : q_ht (ct K.2.2.1 K.2.1 (nI a)) = 1 + max (q_ht (ct K.2.2.1 K.2.1 (K.2.2.1 a).2.1)) (q_ht (ct K.2.2.1 K.2.1 (K.2.2.1 a).2.2)) := by rw [e0]; rfl
      have tin := hw a han
      by_cases el : (K.2.2.1 a).2.1 = -1
      · rw [if_neg (fun z => z el)]
        have er : ct K.2.2.1 K.2.1 (K.2.2.1 a).2.2 = qE := ar2.mp (by
          have := ar1.mpr (by rw [el, ct_m1])
          omega)
        have : q_sbs σ (ct K.2.2.1 K.2.1 (nI a)) = ct K.2.2.1 K.2.1 (nI a) := by
          rw [eS, e0, er, el, ct_m1, q_sbs_E]
        rw [this]
        exact ⟨nI a, K, rfl, kR.rf h, pl_tv pa⟩
      · rw [if_pos el]
        obtain ⟨a1, b1, b2⟩ := tin.1.resolve_left el
        have gl : ∀ t, q_sub t (q_sbs σ (ct K.2.2.1 K.2.1 (K.2.2.1 a).2.1)) → G t := fun t z => hG t (by rw [eS]; exact Or.inr (Or.inl z))
        have gr : ∀ t, q_sub t (q_sbs σ (ct K.2.2.1 K.2.1 (K.2.2.1 a).2.2)) → G t := fun t z => hG t (by rw [eS]; exact Or.inr (Or.inr z))
        have gS : G (qN (K.2.2.1 a).1 (q_sbs σ (ct K.2.2.1 K.2.1 (K.2.2.1 a).2.1)) (q_sbs σ (ct K.2.2.1 K.2.1 (K.2.2.1 a).2.2))) := hG _ (by rw [eS]; exact Or.inl rfl)
        obtain ⟨d, rfl⟩ : ∃ e, d = e + 1 := ⟨d - 1, by omega⟩
        simp only [hx_9 w, Option.bind_some]
        rw [b2] at ar3 gl gS eS hh ⊢
        obtain ⟨y1, K1, c1, c2, c3⟩ := ih a1 b1 d K (by omega) hn h hx ar3 gl (by omega)
        rw [c1, am_i_some]
        have han1 : a < K1.2.1 := Nat.lt_of_lt_of_le han c2.2.2.1.1
        obtain ⟨s1, s2, s3⟩ := c2.1.rdT han1
        have eT := c2.2.2.1.2 a han
        rw [eT] at s1 s2 s3
        simp only [hr_907 w, hl_907 w, s3, Option.bind_some, hx_9 w]
        by_cases er : (K.2.2.1 a).2.2 = -1
        · rw [if_neg (fun z => z er)]
          simp only [c2.1.bad w, Option.bind_some, am_c_eq]
          rw [er, ct_m1, q_sbs_E] at gS eS
          rw [eS]
          rcases bI_cases K1.2.2.2.2 with ⟨eb, e⟩ | ⟨eb, e⟩
          · rw [e, if_pos rfl]
            simp only [hr_905 w, hl_905 w, s1, Option.bind_some, hx_9 w]
            have p1 := c3.pl eb
            have := k_typeOf (sa := sa) (f := f + 1) (d := d + 1) (q := ((K.2.2.1 a).1, y1, -1)) w k c2.1 p1.In (Or.inl rfl) (by dsimp only; rw [p1.ct, ct_m1]; exact gS) hf
            dsimp only at this
            rw [p1.ct, ct_m1] at this
            obtain ⟨y2, K2, d1, d2, d3⟩ := this
            rw [d1, am_i_some]
            exact ⟨y2, K2, rfl, c2.tr d2, d3⟩
          · rw [e, if_neg (by decide)]
            exact ⟨_, K1, rfl, c2, tv_0 eb⟩
        · rw [if_pos er]
          obtain ⟨a2, b3, b4⟩ := tin.2.resolve_left er
          rw [b4] at ar4 gr gS eS hh ⊢
          have cg : ct K1.2.2.1 K1.2.1 (nI a2) = ct K.2.2.1 K.2.1 (nI a2) := ct_ext hw c2.2.2.1.2 n31 c2.2.2.1.1 (Or.inr ⟨a2, by omega, rfl⟩)
          obtain ⟨y2, K2, d1, d2, d3⟩ := ih a2 b3 d K1 (by omega) (Nat.le_trans hn c2.2.2.1.1) c2.1 (hx.go hn h c2) (by rw [cg]; exact ar4) (by rw [cg]; exact gr) (by rw [cg]; omega)
          rw [cg] at d3
          rw [d1, am_i_some]
          simp only [d2.1.bad w, Option.bind_some, am_c_eq]
          rw [eS]
          rcases bI_cases K2.2.2.2.2 with ⟨eb, e⟩ | ⟨eb, e⟩
          · rw [e, if_pos rfl]
            have han2 : a < K2.2.1 := Nat.lt_of_lt_of_le han1 d2.2.2.1.1
            obtain ⟨s1', -, -⟩ := d2.1.rdT han2
            rw [d2.2.2.1.2 a han1, eT] at s1'
            simp only [hr_905 w, hl_905 w, s1', Option.bind_some, hx_9 w]
            have p1 := (c3.go c2.1 d2).pl eb
            have p2 := d3.pl eb
            have := k_typeOf (sa := sa) (f := f + 1) (d := d + 1) (q := ((K.2.2.1 a).1, y1, y2)) w k d2.1 p1.In p2.In (by dsimp only; rw [p1.ct, p2.ct]; exact gS) hf
            dsimp only at this
            rw [p1.ct, p2.ct] at this
            obtain ⟨y3, K3, f1, f2, f3⟩ := this
            rw [f1, am_i_some]
            exact ⟨y3, K3, rfl, (c2.tr d2).tr f2, f3⟩
          · rw [e, if_neg (by decide)]
            exact ⟨_, K2, rfl, c2.tr d2, tv_0 eb⟩
/-- the type of old terms, by its number -/
theorem pl_old {v : Int32} {t : qT} (h : kI Z G L K) (hn : n0 ≤ K.2.1) (hv : pl K.2.1 K.2.2.1 v t) (ht : ct_S K.2.2.1 n0 t) : ∃ a, a < n0 ∧ v = nI a ∧ ct K.2.2.1 K.2.1 (nI a) = t := by
  obtain ⟨a, a1, a2, a3⟩ := pl_cut hv hn h.wf h.di h.n31 ht
  exact ⟨a, a1, a2, by rw [← a2]; exact hv.ct⟩
theorem q_ht_le {t : qT} (h : kI Z G L K) (ht : ct_S K.2.2.1 K.2.1 t) : q_ht t ≤ 24 := (h.1.good.1 t ht).2
/-- retyped -/
theorem k_retype {f : Nat} {kk : Int32 → Nat} (w : hp_w B ρ) (k : kz Z G L) (hf : 70000 ≤ f) : ∀ M, m_wf M → ∀ (d : Nat) (K : kS) (x : Int32), kI Z G L K → n0 ≤ K.2.1 → xI K n0 σ → nv K x M → (∀ t, q_of [M] t → ct_S K.2.2.1 n0 t ∧ q_ar kk t) → m_rt σ M ∈ L → m_ht M ≤ d →
    kO Z G L sa ρ K (am_call B sa am_dfl am_tb f (d + 30) 141 [.ref (ρ.1 9), .int x] (hp_S sa ρ K.1)) (m_rt σ M) := by
  obtain ⟨f, rfl⟩ : ∃ g, f = g + 1 := ⟨f - 1, by omega⟩
  have ctg : ∀ {K K' : kS}, kI Z G L K → kR Z G L K K' → n0 ≤ K.2.1 → ∀ {t : qT}, ct_S K.2.2.1 n0 t → ct_S K'.2.2.1 n0 t := fun {K K'} h r hn {t} ⟨i, i1, i2⟩ => by
    refine ⟨i, i1, ?_⟩
    rw [← i2]
    have hw0 : ty_wf K.2.2.1 n0 := fun j hj => h.wf j (by omega)
    exact ct_ext hw0 (fun j hj => r.2.2.1.2 j (by omega)) (by have := h.n31; omega) (Nat.le_refl _) (Or.inr ⟨i, i1, rfl⟩)
  have kx : ∀ {K : kS} {v : Int32} {t : qT} {d : Nat}, kI Z G L K → n0 ≤ K.2.1 → xI K n0 σ → pl K.2.1 K.2.2.1 v t → ct_S K.2.2.1 n0 t → q_ar kk t → (∀ u, q_sub u (q_sbs σ t) → G u) → kT Z G L sa ρ K (am_call B sa am_dfl am_tb (f + 1) (d + 29) 130 [.ref (ρ.1 9), .int v] (hp_S sa ρ K.1)) (q_sbs σ t) := by
    intro K v t d h hn hx hv ht har hG
    obtain ⟨a, a1, rfl, a3⟩ := pl_old h hn hv ht
    have := k_exch (sa := sa) (f := f + 1) (kk := kk) w k (by omega) a (d + 26) K a1 hn h hx (by rw [a3]; exact har) (by rw [a3]; exact hG) (by rw [a3]; have := q_ht_le h hv.S; omega)
    rw [a3] at this
    exact this
  refine m_wf_cases ?_ ?_ ?_
  · intro u l r w1 w2 hty i1 i2 d K x h hn hxi hx hq hM hd
    rw [m_ht_N] at hd
    obtain ⟨d, rfl⟩ : ∃ e, d = e + 1 := ⟨d - 1, by omega⟩
    rw [am_c_141, am_s141_0]
    simp only [h.bad w, Option.bind_some, am_c_eq, am_c_ne]
    rcases bI_cases K.2.2.2.2 with ⟨eb, e⟩ | ⟨eb, e⟩
    · rw [e, if_pos rfl]
      have hx := hx.q eb
      obtain ⟨v1, v2, r1, r2, r3, q1, q2, -⟩ := nq_app h hx
      simp only [hr_918 w, hl_918 w, r1, Option.bind_some]
      rw [if_neg (fun z => z rfl)]
      simp only [hr_919 w, hl_919 w, r2, Option.bind_some, hx_9 w]
      rw [m_rt_N] at hM ⊢
      obtain ⟨a1, a2, a3⟩ := m_rt_ok (σ := σ) l w1
      obtain ⟨b1, b2, b3⟩ := m_rt_ok (σ := σ) r w2
      obtain ⟨y1, K1, c1, c2, c3⟩ := i1 d K v1 h hn hxi q1.v (fun t ht => hq t (q_of_1.mpr (Or.inr (Or.inl ht)))) (k.sub hM (Or.inr (Or.inl (m_sub_self a1)))) (by omega)
      rw [c1, am_i_some]
      obtain ⟨v1', v2', r1', r2', r3', q1', q2', -⟩ := nq_app c2.1 (hx.go c2)
      simp only [hr_920 w, hl_920 w, r3', Option.bind_some, hx_9 w]
      obtain ⟨y2, K2, d1, d2, d3⟩ := i2 d K1 v2' c2.1 (Nat.le_trans hn c2.2.2.1.1) (hxi.go hn h c2) q2'.v (fun t ht => ⟨ctg h c2 hn (hq t (q_of_1.mpr (Or.inr (Or.inr ht)))).1, (hq t (q_of_1.mpr (Or.inr (Or.inr ht)))).2⟩) (k.sub hM (Or.inr (Or.inr (m_sub_self b1)))) (by omega)
      rw [d1, am_i_some]
      simp only [Option.bind_some, hx_9 w]
      obtain ⟨y3, K3, e1, e2, e3⟩ := k_apply (sa := sa) (f := f + 1) (d := d + 27) w k d2.1 (c3.go d2) d3 (u := q_sbs σ u) (by rw [a2, b2, hty, q_sbs_F]) hM hf
      rw [e1, am_i_some]
      exact ⟨y3, K3, rfl, (c2.tr d2).tr e2, e3⟩
    · rw [e, if_neg (by decide)]
      exact ⟨0, K, rfl, kR.rf h, nv_0 eb⟩
  · intro a l w1 i1 d K x h hn hxi hx hq hM hd
    rw [m_ht_N] at hd
    obtain ⟨d, rfl⟩ : ∃ e, d = e + 1 := ⟨d - 1, by omega⟩
    rw [am_c_141, am_s141_0]
    simp only [h.bad w, Option.bind_some, am_c_eq, am_c_ne]
    rcases bI_cases K.2.2.2.2 with ⟨eb, e⟩ | ⟨eb, e⟩
    · rw [e, if_pos rfl]
      have hx := hx.q eb
      obtain ⟨v1, v2, r1, r2, r3, q1, q2⟩ := nq_abs h hx
      simp only [hr_918 w, hl_918 w, r1, Option.bind_some]
      rw [if_pos (by decide), if_neg (fun z => z rfl)]
      simp only [hr_919 w, hl_919 w, r2, Option.bind_some, hx_9 w]
      obtain ⟨a1, a2, a3⟩ := m_rt_ok (σ := σ) l w1
      have eM : m_rt σ (mN (-2) (qF a (m_ty l)) l .leaf) = mN (-2) (qF (q_sbs σ a) (m_ty (m_rt σ l))) (m_rt σ l) .leaf := by rw [m_rt_N, q_sbs_F, a2]; rfl
      rw [eM] at hM ⊢
      have hqa := hq a (q_of_1.mpr (Or.inl (Or.inr (Or.inl (q_sub_self (by
        have := q1.S
        intro z; rw [z] at this
        obtain ⟨i, i1', i2'⟩ := this
        exact ct_ne h.wf h.n31 i1' i2'))))))
      have hGa : ∀ u, q_sub u (q_sbs σ a) → G u := fun u hu => (k.ty hM).2 u (by rw [m_ty_N]; exact Or.inr (Or.inl hu))
      obtain ⟨y0, K0, g1, g2, g3⟩ := kx (d := d + 1) h hn hxi q1 hqa.1 hqa.2 hGa
      rw [g1, am_i_some]
      obtain ⟨v1', v2', r1', r2', r3', q1', q2'⟩ := nq_abs g2.1 (hx.go g2)
      simp only [hr_920 w, hl_920 w, r3', Option.bind_some, hx_9 w]
      obtain ⟨y1, K1, c1, c2, c3⟩ := i1 d K0 v2' g2.1 (Nat.le_trans hn g2.2.2.1.1) (hxi.go hn h g2) q2'.v (fun t ht => ⟨ctg h g2 hn (hq t (q_of_1.mpr (Or.inr (Or.inl ht)))).1, (hq t (q_of_1.mpr (Or.inr (Or.inl ht)))).2⟩) (k.sub hM (Or.inr (Or.inl (m_sub_self a1)))) (by omega)
      rw [c1, am_i_some]
      simp only [Option.bind_some, hx_9 w]
      obtain ⟨y3, K3, e1, e2, e3⟩ := k_abs (sa := sa) (f := f + 1) (d := d + 26) w k c2.1 (g3.go g2.1 c2) c3 hM hf
      rw [e1, am_i_some]
      exact ⟨y3, K3, rfl, (g2.tr c2).tr e2, e3⟩
    · rw [e, if_neg (by decide)]
      exact ⟨0, K, rfl, kR.rf h, nv_0 eb⟩
  · intro y u hl d K x h hn hxi hx hq hM hd
    rw [am_c_141, am_s141_0]
    simp only [h.bad w, Option.bind_some, am_c_eq, am_c_ne]
    rcases bI_cases K.2.2.2.2 with ⟨eb, e⟩ | ⟨eb, e⟩
    · rw [e, if_pos rfl]
      have hx := hx.q eb
      obtain ⟨x', e', k', e1, r1, r2, r3, r4⟩ := nq_lf h hx
      have n45 : k' ≠ 4 ∧ k' ≠ 5 := by rcases r4 with ⟨z, -⟩ | ⟨z, -⟩ | ⟨z, -⟩ <;> rw [z] <;> exact ⟨by decide, by decide⟩
      obtain ⟨s, s1, s2⟩ := h.rdt hx
      rw [m_ty_N] at s2
      simp only [hr_918 w, hl_918 w, r1, Option.bind_some]
      rw [if_pos n45.1, if_pos n45.2]
      simp only [hr_921 w, hl_921 w, s1, Option.bind_some, hx_9 w]
      have eM : m_rt σ (mN y u .leaf .leaf) = mN (nI (4 * x' + e')) (q_sbs σ u) .leaf .leaf := by rw [m_rt_N, e1]; rfl
      rw [eM] at hM ⊢
      have hqa := hq u (q_of_1.mpr (Or.inl (q_sub_self (by
        have := s2.S
        intro z; rw [z] at this
        obtain ⟨i, i1', i2'⟩ := this
        exact ct_ne h.wf h.n31 i1' i2'))))
      have hGa : ∀ t, q_sub t (q_sbs σ u) → G t := fun t hu => (k.ty hM).2 t (by rw [m_ty_N]; exact hu)
      obtain ⟨y0, K0, g1, g2, g3⟩ := kx (d := d) h hn hxi s2 hqa.1 hqa.2 hGa
      rw [g1, am_i_some]
      simp only [g2.1.bad w, Option.bind_some]
      rcases bI_cases K0.2.2.2.2 with ⟨eb0, e0⟩ | ⟨eb0, e0⟩
      · rw [e0, if_pos rfl]
        obtain ⟨x2, e2, k2, f1, t1, t2, t3, t4⟩ := nq_lf g2.1 (hx.go g2)
        rw [e1] at f1
        obtain ⟨rfl, rfl⟩ := nd_code r3 t3 (by omega) (by omega) f1
        simp only [hr_918 w, hl_918 w, t1, hr_919 w, hl_919 w, t2, Option.bind_some, hx_9 w]
        obtain ⟨y3, K3, h1, h2, h3⟩ := k_node (sa := sa) (f := f + 1) (d := d + 27) (q := (k2, nI x', 0, y0)) w k g2.1 ⟨by rw [m_ty_N]; exact g3.pl eb0, Or.inr (Or.inr ⟨x', e', q_sbs σ u, t4, rfl, r3, rfl, rfl⟩)⟩ hM hf
        dsimp only at h1
        rw [h1, am_i_some]
        exact ⟨y3, K3, rfl, g2.tr h2, h3⟩
      · rw [e0, if_neg (by decide)]
        exact ⟨0, K0, rfl, g2, nv_0 eb0⟩
    · rw [e, if_neg (by decide)]
      exact ⟨0, K, rfl, kR.rf h, nv_0 eb⟩
end KX
