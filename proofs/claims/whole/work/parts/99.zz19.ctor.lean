/-! CONSTRUCTORS, 8: the reference made -/
section MCE
variable {sa : Nat → Nat} {B : Nat} {ρ : hp_L}
theorem kx_900 {r : Nat} (h : kx_S r = true) : 900 ≤ r := by
  unfold kx_S tn_S nn_S at h
  rcases Bool.or_eq_true_iff.mp h with z | z
  · have := of_decide_eq_true z
    omega
  · rcases Bool.or_eq_true_iff.mp z with z | z
    · have := of_decide_eq_true z
      omega
    · have := of_decide_eq_true z
      omega
theorem mfr.kx {P P' : hp_P} (h : mfr kx_S P P') : mfr mp_S P P' := h.mp fun _ hr => kx_900 hr
set_option maxHeartbeats 8000000 in
theorem mc_end {f d : Nat} (w : hp_w B ρ) (hf : 20000 ≤ f) : ∃ P', am_go B sa am_dfl (am_call B sa am_dfl am_tb (f + 1) (d + 4)) am_r121 f 329 [(0, .ref (ρ.1 9)), (1, .int 0)] [] (hp_S sa ρ ip0) = some (none, hp_S sa ρ P') ∧ mI io_S io_A [] (-1) P' ∧ mfr mp_S ip0 P' ∧ P'.1 900 = 0 := by
  obtain ⟨g, rfl⟩ : ∃ g, f = g + 4097 := ⟨f - 4097, by omega⟩
  -- the first two types
  obtain ⟨P2, v1, n1, T1, b1, ⟨e1, l1, -⟩, y1, g1, fr1, x1, m1⟩ := mt_typeOf2 (sa := sa) (f := g + 4097 + 1) (d := d + 2) (q := (-1, -1, -1)) (b := false) w mc_y0 rfl (Or.inl rfl) (Or.inl rfl) (by omega)
  dsimp only at e1 m1
  rw [ct_m1] at m1
  obtain ⟨rfl, p1, s1⟩ := mc_ty m1 (fun t ⟨i, hi, _⟩ => absurd hi (Nat.not_lt_zero _)) (Or.inl rfl)
  obtain ⟨a1, ha1, hv1, t1⟩ := pl_T y1.2.2.2.1 y1.n31 p1
  have z1 : a1 = 0 := by omega
  have zn1 : n1 = 1 := by omega
  subst z1; subst zn1
  obtain ⟨P3, v2, n2, T2, b2, ⟨e2, l2, -⟩, y2, g2, fr2, x2, m2⟩ := mt_typeOf2 (sa := sa) (f := g + 4097 + 1) (d := d + 1) (q := (0, -1, -1)) (b := false) w y1 g1 (Or.inl rfl) (Or.inl rfl) (by omega)
  dsimp only at e2 m2
  rw [ct_m1] at m2
  have s1' : ∀ t, ct_S T1 1 t → io_S t := fun t ht => (s1 t ht).elim (fun ⟨i, hi, _⟩ => absurd hi (Nat.not_lt_zero _)) Or.inl
  obtain ⟨rfl, p2, s2⟩ := mc_ty m2 s1' (Or.inr (Or.inl rfl))
  obtain ⟨a2, ha2, hv2, t2⟩ := pl_T y2.2.2.2.1 y2.n31 p2
  have t1' : T2 0 = (-1, -1, -1) := (x2.2 0 (by decide)).trans t1
  have z2 : a2 = 1 := by
    by_cases e : a2 = 0
    · rw [e, t1'] at t2
      exact absurd (congrArg Prod.fst t2) (by decide)
    · omega
  have zn2 : n2 = 2 := by omega
  subst z2; subst zn2
  have e2' : am_call B sa am_dfl am_tb (g + 4097 + 1) (d + 4) 127 [.ref (ρ.1 9)] (hp_S sa ρ P2) = some (some (.int v2), hp_S sa ρ P3) := by
    rw [am_c_127, am_s127_0]
    refine cs_b (hx_9 w) ?_
    exact cs_i e2 rfl
  have p1' : pl 2 T2 v1 qA := p1.xt y1.2.2.2.1 y1.n31 x2
  have M1 : mfr kx_S (hp_sA (PJ ip0 4096) 914 2 2) P3 := (kx_t fr1).tr (kx_t fr2)
  -- the nodes
  have nd : ndN P3 2 T2 [] := by
    have e26 : P3.2 926 = (PJ ip0 4096).2 926 := by
      have a := (fr1.1 926 rfl).2
      have b := (fr2.1 926 rfl).2
      rw [b, a, hA_ne (by decide)]
    have ln : ∀ r, (P3.2 r).1 = ((PJ ip0 4096).2 r).1 := fun r => by rw [M1.2, hA_len]
    have e17 : P3.1 917 = ip0.1 917 := (fr2.1 917 rfl).1.trans (fr1.1 917 rfl).1
    refine ⟨⟨e17, by decide⟩, ⟨fun r a b => ?_, ?_, ?_⟩, List.nodup_nil, fun j M hM => (by cases hM), fun c hc => ?_, fun i hi => absurd hi (Nat.not_lt_zero _)⟩
    · rw [ln, PJ_ne (by omega) (by omega)]
      have e : r = 918 ∨ r = 919 ∨ r = 920 ∨ r = 921 ∨ r = 922 ∨ r = 923 ∨ r = 924 ∨ r = 925 := by omega
      rcases e with rfl | rfl | rfl | rfl | rfl | rfl | rfl | rfl <;> rfl
    · rw [ln, PJ_ne (by decide) (by decide)]; rfl
    · rw [ln, PJ_926]
    · rw [e26, PJ_926]
      show (if c < 4096 then (-1 : Int32) else _) = -1
      rw [if_pos hc]
  have K3 : kI False io_S [] (P3, 2, T2, [], false) := ⟨y2, nd, g2, fun z => (by cases z), fun t ht => (s2 t ht).elim (fun z => s1' t (by
    obtain ⟨i, hi, e⟩ := z
    exact ⟨i, hi, e⟩)) fun z => Or.inr (Or.inl z), fun X hX => (by cases hX), Nat.le_refl _, t1', t2⟩
  obtain ⟨v3, K4, e3, k4, f4, p3, u4⟩ := mc_fun (sa := sa) (f := g + 4097 + 1) (d := d + 1) w K3 p1' p2 (Or.inr (Or.inr (Or.inl rfl))) (by omega)
  obtain ⟨v4, K5, e4, k5, f5, p4, u5⟩ := mc_fun (sa := sa) (f := g + 4097 + 1) (d := d + 1) w k4 (u4 p1') p3 (Or.inr (Or.inr (Or.inr (Or.inl rfl)))) (by omega)
  have ck1 : hp_ck K5.1 916 0 = some () := hp_ck_nI (j := 0) (by
    rw [f5.2, f4.2, M1.2, hA_len, PJ_ne (by decide) (by decide)]; decide) (by decide)
  have c16 : am_iast B (hp_S sa ρ K5.1) (ρ.2.1 916) 0 v4 = some (hp_S sa ρ (hp_sA K5.1 916 0 v4)) := by rw [ht_916 w, ck1]; rfl
  have k5' : kI False io_S [] (hp_sA K5.1 916 0 v4, K5.2) := k5.cg fun r hr => ⟨rfl, hA_ne fun z => by rw [z] at hr; cases hr⟩
  obtain ⟨v5, K6, e5, k6, f6, p5, u6⟩ := mc_fun (sa := sa) (f := g + 4097 + 1) (d := d + 1) w k5' (u5 (u4 p1')) (u5 (u4 p2)) (Or.inr (Or.inr (Or.inl rfl))) (by omega)
  obtain ⟨v6, K7, e6, k7, f7, p6, u7⟩ := mc_fun (sa := sa) (f := g + 4097 + 1) (d := d + 1) w k6 p5 (u6 (u5 (u4 p1'))) (Or.inr (Or.inr (Or.inr (Or.inr rfl)))) (by omega)
  have ck2 : hp_ck K7.1 916 1 = some () := hp_ck_nI (j := 1) (by
    rw [f7.2, f6.2, hA_len, f5.2, f4.2, M1.2, hA_len, PJ_ne (by decide) (by decide)]; decide) (by decide)
  have c17 : am_iast B (hp_S sa ρ K7.1) (ρ.2.1 916) 1 v6 = some (hp_S sa ρ (hp_sA K7.1 916 1 v6)) := by rw [ht_916 w, ck2]; rfl
  have ck0 : hp_ck (PJ ip0 4096) 914 2 = some () := hp_ck_nI (j := 2) (by rw [PJ_ne (by decide) (by decide)]; decide) (by decide)
  have c14 : am_iast B (hp_S sa ρ (PJ ip0 4096)) (ρ.2.1 914) 2 2 = some (hp_S sa ρ (hp_sA (PJ ip0 4096) 914 2 2)) := by rw [ht_914 w, ck0]; rfl
  have L := mc_loop (sa := sa) (cl := am_call B sa am_dfl am_tb (g + 4097 + 1) (d + 4)) (P := ip0) w 4096 0 (g + 4096) rfl (by decide) (by omega)
  rw [PJ_0 rfl rfl, Nat.add_sub_cancel] at L
  have n904 : K7.1.1 904 = nI K7.2.1 := k7.1.1.1
  refine ⟨hp_sI (hp_sI (hp_sA K7.1 916 1 v6) 915 2) 944 (K7.1.1 904), Eq.trans L ?_, ?_, ?_, ?_⟩
  · rw [am_s121_329]
    refine cs_y (by rw [am_c_ge]; exact nI_le (a := 4096) (b := 4096) (Nat.le_refl _) (by decide)) ?_
    refine cs_b (hr_914 w) ?_
    refine cs_b c14 ?_
    refine cs_b (hx_9 w) ?_
    refine cs_i e1 ?_
    refine cs_b (hx_9 w) ?_
    refine cs_i e2' ?_
    refine cs_b (hr_916 w) ?_
    refine cs_b (hx_9 w) ?_
    refine cs_i e3 ?_
    refine cs_b (hx_9 w) ?_
    refine cs_i e4 ?_
    refine cs_b c16 ?_
    refine cs_b (hr_916 w) ?_
    refine cs_b (hx_9 w) ?_
    refine cs_i e5 ?_
    refine cs_b (hx_9 w) ?_
    refine cs_i e6 ?_
    refine cs_b c17 ?_
    refine cs_b (hs_915 w) ?_
    refine cs_b (hg_904 w) ?_
    refine cs_b (hs_944 w) ?_
    rfl
  · -- what stands
    have hold : ∀ r, kx_S r = false → r ≠ 914 → r ≠ 916 → r ≠ 911 → r ≠ 926 → K7.1.1 r = ip0.1 r ∧ K7.1.2 r = ip0.2 r := fun r h1 h2 h3 h4 h5 => by
      have a7 := f7.1 r h1
      have a6 := f6.1 r h1
      have a5 := f5.1 r h1
      have a4 := f4.1 r h1
      have a3 := M1.1 r h1
      constructor
      · rw [a7.1, a6.1]
        show K5.1.1 r = _
        rw [a5.1, a4.1, a3.1]
        rfl
      · rw [a7.2, a6.2, show (hp_sA K5.1 916 0 v4, K5.2).1.2 r = K5.1.2 r from hA_ne h3, a5.2, a4.2, a3.2, hA_ne h2, PJ_ne h4 h5]
    have len : ∀ r, (K7.1.2 r).1 = (ip0.2 r).1 := fun r => by
      rw [f7.2, f6.2, hA_len, f5.2, f4.2, M1.2, hA_len]
      by_cases e : r = 911
      · rw [e, PJ_911]; rfl
      · by_cases e2 : r = 926
        · rw [e2, PJ_926]; rfl
        · rw [PJ_ne e e2]
    have a16 : K7.1.2 916 = ((ip0.2 916).1, upd (ip0.2 916).2 0 v4) := by
      rw [(f7.1 916 rfl).2, (f6.1 916 rfl).2]
      show (hp_sA K5.1 916 0 v4).2 916 = _
      rw [hA_eq, (f5.1 916 rfl).2, (f4.1 916 rfl).2, (M1.1 916 rfl).2, hA_ne (by decide), PJ_ne (by decide) (by decide)]
      rfl
    have a14 : K7.1.2 914 = ((ip0.2 914).1, upd (ip0.2 914).2 2 2) := by
      rw [(f7.1 914 rfl).2, (f6.1 914 rfl).2]
      show (hp_sA K5.1 916 0 v4).2 914 = _
      rw [hA_ne (by decide), (f5.1 914 rfl).2, (f4.1 914 rfl).2, (M1.1 914 rfl).2, hA_eq, PJ_ne (by decide) (by decide)]
      rfl
    have ns : K7.2.2.2.1 = [] := List.eq_nil_iff_forall_not_mem.mpr fun X hX => by cases k7.2.2.2.2.2.1 X hX
    have hb : K7.2.2.2.2 = false := by
      cases hb : K7.2.2.2.2 with
      | false => rfl
      | true => exact (k7.2.2.2.1 hb).elim
    have hS : ct_S K7.2.2.1 K7.2.1 = io_S := by
      funext t
      refine propext ⟨k7.2.2.2.2.1 t, fun ht => ?_⟩
      have U : ∀ {v t}, pl 2 T2 v t → ct_S K7.2.2.1 K7.2.1 t := fun {v t} z => (u7 (u6 (u5 (u4 z)))).S
      rcases ht with rfl | rfl | rfl | rfl | rfl
      · exact U p1'
      · exact U p2
      · exact (u7 (u6 (u5 p3))).S
      · exact (u7 (u6 p4)).S
      · exact p6.S
    generalize eP : hp_sI (hp_sI (hp_sA K7.1 916 1 v6) 915 2) 944 (K7.1.1 904) = P9
    have h1 : ∀ r, r ≠ 915 → r ≠ 944 → P9.1 r = K7.1.1 r := fun r a b => by rw [← eP, hI_ne b, hI_ne a]; rfl
    have h2 : ∀ r, r ≠ 916 → P9.2 r = K7.1.2 r := fun r a => by rw [← eP]; exact hA_ne a
    have h16 : P9.2 916 = ((ip0.2 916).1, upd (upd (ip0.2 916).2 0 v4) 1 v6) := by
      rw [← eP]
      show (hp_sA K7.1 916 1 v6).2 916 = _
      rw [hA_eq, a16]
      rfl
    have len9 : ∀ r, (P9.2 r).1 = (ip0.2 r).1 := fun r => by
      by_cases e : r = 916
      · rw [e, h16]
      · rw [h2 r e, len]
    have i9 : ∀ r, kx_S r = false → r ≠ 914 → r ≠ 916 → r ≠ 911 → r ≠ 926 → r ≠ 915 → r ≠ 944 → P9.1 r = ip0.1 r := fun r a b c e g h i => by rw [h1 r h i]; exact (hold r a b c e g).1
    have kI9 : kI False io_S [] (P9, K7.2) := k7.cg fun r hr => ⟨h1 r (fun z => (by rw [z] at hr; cases hr)) (fun z => (by rw [z] at hr; cases hr)), h2 r (fun z => (by rw [z] at hr; cases hr))⟩
    obtain ⟨P7, n7, T7, ns7, b7⟩ := K7
    dsimp only at ns hb hS kI9 p6 u7 n904 h1 h2
    subst ns; subst hb
    have g45 : P9.1 945 = bI false := kI9.2.2.1
    refine ⟨n7, T7, [], false, g45, ?_, ⟨?_, by decide, len9 902, fun i x hx => (by cases hx)⟩, ?_⟩
    · rw [kB_self g45 rfl]
      refine ⟨kI9, ⟨⟨?_, len9 914, fun c x hc => ?_, ?_, len9 916, fun c t hc => ?_⟩, ⟨?_, len9 930, fun j t hj => (by cases hj), ?_, len9 931, fun j t hj => (by cases hj)⟩, ⟨⟨?_, by decide⟩, ?_, ⟨?_, by decide⟩, fun r a b => ?_, len9 943, fun j s hs => (by cases hs)⟩, ⟨⟨Nat.le_refl _, fun j _ hj => absurd hj (Nat.not_lt_zero _), fun z => absurd z (Nat.lt_irrefl _)⟩, fun j _ hj => ?_, fun i j _ a b c => ?_⟩, ⟨len9 902, len9 947, len9 948, len9 950, len9 952⟩⟩, hS, Nat.zero_le _⟩
      · exact i9 913 rfl (by decide) (by decide) (by decide) (by decide) (by decide) (by decide)
      · rw [h2 914 (by decide), a14]
        match c, hc with
        | 0, hc => cases hc; rfl
        | 1, hc => cases hc; rfl
        | 2, hc => cases hc; rfl
        | c + 3, hc => cases hc
      · rw [← eP]; rfl
      · rw [h16]
        match c, hc with
        | 0, hc => cases hc; exact u7 (u6 p4)
        | 1, hc => cases hc; exact p6
        | c + 2, hc => cases hc
      · exact i9 928 rfl (by decide) (by decide) (by decide) (by decide) (by decide) (by decide)
      · exact i9 929 rfl (by decide) (by decide) (by decide) (by decide) (by decide) (by decide)
      · exact i9 932 rfl (by decide) (by decide) (by decide) (by decide) (by decide) (by decide)
      · exact i9 933 rfl (by decide) (by decide) (by decide) (by decide) (by decide) (by decide)
      · exact i9 934 rfl (by decide) (by decide) (by decide) (by decide) (by decide) (by decide)
      · rw [len9]
        have e : r = 935 ∨ r = 936 ∨ r = 937 ∨ r = 938 ∨ r = 939 ∨ r = 940 ∨ r = 941 ∨ r = 942 := by omega
        rcases e with rfl | rfl | rfl | rfl | rfl | rfl | rfl | rfl <;> rfl
      · have e : j = 0 := Nat.le_zero.mp hj
        subst e
        refine ⟨0, n7, ⟨fun _ => ⟨?_, rfl, rfl, rfl⟩, fun z => absurd z (Nat.lt_irrefl _)⟩, ⟨Nat.le_refl _, kI9.2.2.2.2.2.2.1, Nat.le_refl _⟩, hS, fun X hX => (by cases hX), fun X hX => (by cases hX), fun X hX => (by cases hX), Nat.zero_le _⟩
        rw [← eP, hI_eq]
        exact n904
      · have c : j ≤ 0 := c
        omega
    · exact i9 901 rfl (by decide) (by decide) (by decide) (by decide) (by decide) (by decide)
    · exact i9 903 rfl (by decide) (by decide) (by decide) (by decide) (by decide) (by decide)
  · have m0 : mfr mp_S ip0 (hp_sA (PJ ip0 4096) 914 2 2) := by
      refine mfr.tr (P' := PJ ip0 4096) ⟨fun r hr => ⟨rfl, ?_⟩, fun r => ?_⟩ (mfr.sA rfl)
      · have : ¬ 900 ≤ r := of_decide_eq_false hr
        exact PJ_ne (by omega) (by omega)
      · by_cases e : r = 911
        · rw [e, PJ_911]; rfl
        · by_cases e2 : r = 926
          · rw [e2, PJ_926]; rfl
          · rw [PJ_ne e e2]
    exact (m0.tr (M1.kx.tr (f4.kx.tr f5.kx))).tr ((mfr.sA (r := 916) (i := 0) (v := v4) rfl).tr ((mfr.kx f6).tr ((mfr.kx f7).tr ((mfr.sA (r := 916) rfl).tr ((mfr.sI (r := 915) rfl).tr (mfr.sI (r := 944) rfl))))))
  · rw [hI_ne (by decide), hI_ne (by decide)]
    show K7.1.1 900 = 0
    rw [(f7.1 900 rfl).1, (f6.1 900 rfl).1]
    show K5.1.1 900 = 0
    rw [(f5.1 900 rfl).1, (f4.1 900 rfl).1, (M1.1 900 rfl).1]
    rfl
end MCE
