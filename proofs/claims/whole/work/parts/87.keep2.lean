/-! KEEP of the class, 2 -/
section KP2
variable {sa : Nat → Nat} {B : Nat} {ρ : hp_L} {P : hp_P} {n : Nat} {T : Nat → Int32 × Int32 × Int32} {C : sC} {S : qT → Prop} {A : sV} {th : Nat → (qT → Prop) × Nat × Nat} {ws : List Int32} {flt : Int32}
theorem take_flat_le {α : Type} {R : List (List α)} {i j : Nat} (h : i ≤ j) : (R.take i).flatten.length ≤ (R.take j).flatten.length := by
  have : R.take j = R.take i ++ (R.take j).drop i := by
    conv => lhs; rw [← List.take_append_drop i (R.take j), List.take_take, Nat.min_eq_left h]
  rw [this, List.flatten_append, List.length_append]
  exact Nat.le_add_right _ _
theorem sq_k_mono {sq : List qQ} {i j : Nat} (h : i ≤ j) : sq_k sq i ≤ sq_k sq j := by
  unfold sq_k
  have : sq.take j = sq.take i ++ (sq.take j).drop i := by
    conv => lhs; rw [← List.take_append_drop i (sq.take j), List.take_take, Nat.min_eq_left h]
  rw [this, sq_rows_ap, List.length_append]
  exact Nat.le_add_right _ _
theorem m_tot_keep {sq : List qQ} {a j : Nat} {s : qQ} (h : sq[a]? = some s) (hj : j ≤ a) : m_tot (sq_rows (sq.take j)) + (m_fl s.2).length ≤ m_tot (sq_rows sq) := by
  rw [sq_split h]
  have : sq.take a = sq.take j ++ (sq.take a).drop j := by
    conv => lhs; rw [← List.take_append_drop j (sq.take a), List.take_take, Nat.min_eq_left hj]
  rw [this, sq_rows_ap, m_tot_ap, m_tot_ap, m_tot_ap, m_tot_ap]
  have : m_tot [s.2] = (m_fl s.2).length := by unfold m_tot; simp
  omega
set_option maxHeartbeats 4000000 in
/-- keep -/
theorem t_keep {f d a j : Nat} {s : qQ} (h : tI B sa S A ws flt ρ P) (hI : aI S A) (ha : A.1[a]? = some s) (hh : s.1 = []) (h1 : A.2.1 ≤ j) (h3 : j ≤ a) (hf : 100000 ≤ f) :
    ∃ ρ' P', am_call B sa am_dfl am_tb f (d + 5) 115 [.ref (ρ.1 8), .int (nI a), .int (nI j)] (hp_S sa ρ P) = some (none, hp_S sa ρ' P') ∧ tI B sa (q_un (A.2.2.1 j).1 [s.2]) (a_new (a_cut A j) A.2.1 (q_un (A.2.2.1 j).1 [s.2]) [([], s.2)] [] []) ws flt ρ' P' ∧ hp_w B ρ' ∧ hp_fr cl_S 0 ρ P ρ' P' := by
  have hal : a < A.1.length := (List.getElem?_eq_some_iff.mp ha).1
  have hce := t_canEnd (sa := sa) (f := f - 1) (d := d + 3) (x := nI j) h
  rw [show f - 1 + 1 = f by omega, bP_t ⟨j, rfl, h1, by omega⟩] at hce
  obtain ⟨C, n, T, c1, c2, c3, c4, c5, c6⟩ := h
  have w := c1.w
  rw [c2] at hI h1 ha hal
  have h1 : C.2.2.1 ≤ j := h1
  have ha : C.2.1[a]? = some s := ha
  have hal : a < C.2.1.length := hal
  have h2 : j ≤ C.2.1.length := by omega
  generalize eth : A.2.2.1 = th at *
  have hs := c1.s (Z := True) (G := fun _ => True) fun _ _ => True.intro
  have y := c1.y
  have hwf := y.1.wf
  have hdi := y.1.2.1
  have h31 := y.1.n31
  have h8 := y.1.1.1.1.2
  -- what the cut alone would leave
  obtain ⟨-, Pc, -, -, -, -, -, -, kc, -, kR⟩ := t_cutc (sa := sa) (f := f) (d := d) c1 c3 hI h1 h2 (by omega)
  obtain ⟨⟨r1, r1'⟩, r2⟩ := c3.2 j h1 h2
  obtain ⟨g1, g2, g3, g4⟩ := hI.2.2.2.2.2.2.2.2.2.1 j h1 h2
  have g1 : aG (th j).1 (C.2.1.take j) C.2.2.2.2.2.1 (C.2.2.2.2.2.2.1.take (th j).2.1) (C.2.2.2.2.2.2.2.take (th j).2.2) := g1
  have g2 : (th j).2.1 ≤ C.2.2.2.2.2.2.1.length := g2
  have g3 : (th j).2.2 ≤ C.2.2.2.2.2.2.2.length := g3
  have esj : (th j).1 = ct_S T (C.2.2.2.1 j).1 := by rw [r2]
  -- the row
  obtain ⟨A0, L, ⟨⟨W, q1⟩, q1b, q1c⟩, q2, q3, q4, q5, q6⟩ := hs.row (sq_con ha)
  obtain ⟨f1, f2, f3, f4⟩ := hs.first ha
  have hsl : s.1.length = 0 := by rw [hh]; rfl
  rw [hsl, Nat.add_zero] at f2 q2 q3 q4
  obtain ⟨rl1, rl2, rl3⟩ := hs.rowsle
  have hM := c1.2.2.2.2.1.2 s.2 (List.mem_of_getElem? (sq_con ha))
  -- marks
  obtain ⟨P1, u1, u2, u3⟩ := ty_unmark (sa := sa) (f := f) (d := d + 3) w y.1.1 (by omega)
  have y1 : tyI P1 n T := (y.imo u2).1
  obtain ⟨P2, m1, m2, m3⟩ := rw_markTypes (sa := sa) (f := f) (d := d + 2) (M := fun _ => false) w y1 (c1.2.2.2.2.2.2.1.imo u2) (by omega) q1c (show C.1.flatten ++ [] = A0 ++ (L ++ W) by rw [List.append_nil]; exact q1) (fun i hi => by rw [u3 i hi]; rfl) (x := nI A0.length) (e := nI (A0.length + L.length)) rfl rfl
  have y2 : tyI P2 n T := ((y.imo u2).imo m2).1
  obtain ⟨P3, s1, s2, s3⟩ := ty_spread (sa := sa) (f := f) (d := d + 2) w y2.1 m3 (by omega)
  have y3 : tyJ P3 n T := ((y.imo u2).imo m2).imo s2
  have s3 : ty_im P3 n (ty_mL T n L) := s3
  have mt : ∀ {i}, i < n → (ty_mL T n L i = true ↔ ∃ x ∈ m_fl s.2, q_sub (ct T n (nI i)) x.2) := fun {i} hi => by
    rw [ty_mL_t hwf hdi h31 q1c hi, q1b]
  have imo3 : ty_imo P P3 := u2.tr (m2.tr s2)
  have hgood : q_good (ct_S T n) := y.1.good
  have hcl : ∀ i, i < n → ty_mL T n L i = true → (∀ l, l < n → (T i).2.1 = nI l → ty_mL T n L l = true) ∧ ∀ l, l < n → (T i).2.2 = nI l → ty_mL T n L l = true := fun i hi hm => by
    obtain ⟨x, x1, x2⟩ := (mt hi).mp hm
    refine ⟨fun l hl e => (mt hl).mpr ⟨x, x1, q_sub_tr ?_ _ x2⟩, fun l hl e => (mt hl).mpr ⟨x, x1, q_sub_tr ?_ _ x2⟩⟩
    · rw [ct_at hwf h31 hi, q_sub_N, e]
      exact Or.inr (Or.inl (q_sub_self (by rw [ct_at hwf h31 hl]; exact qN_ne)))
    · rw [ct_at hwf h31 hi, q_sub_N, e]
      exact Or.inr (Or.inr (q_sub_self (by rw [ct_at hwf h31 hl]; exact qN_ne)))
  obtain ⟨z1, z2, z3, z4, z5, z6⟩ := ty_sm_0 (I := fun i => (P3.2 706).2 i) hwf hdi h8 hgood r1 hcl s3
  obtain ⟨ρ4, P4, k1, k2, k3, k4, k5⟩ := ty_shortenToMarked (sa := sa) (f := f) (d := d) (I := fun i => (P3.2 706).2 i) w y3.1.1 y3.1.2.2 r1 (fun i hi => rfl) z1 (by omega)
  generalize ty_sm T (n - (C.2.2.2.1 j).1) (C.2.2.2.1 j).1 (C.2.2.2.1 j).1 T (fun i => (P3.2 706).2 i) = r at *
  obtain ⟨n4, T4, I4⟩ := r
  dsimp only at z2 z3 z4 z5 z6 k3 k5
  have y4 : tyJ P4 n4 T4 := ⟨⟨k3, z3, Nat.le_trans y3.1.2.2 (k4.2.2.2.2.2 700)⟩, by have := z4.1; omega, by rw [z4.2 0 (by omega)]; exact y.2.2.1, by rw [z4.2 1 (by omega)]; exact y.2.2.2⟩
  have eS4 : ct_S T4 n4 = q_un (ct_S T (C.2.2.2.1 j).1) [s.2] := by
    funext t
    refine propext ⟨fun z => ((z6 t).mp z).imp id fun ⟨i, i1, i2, i3⟩ => ?_, fun z => (z6 t).mpr (z.imp id fun ⟨X, x1, x, x2, x3⟩ => ?_)⟩
    · obtain ⟨x, x1, x2⟩ := (mt i1).mp i2
      exact ⟨s.2, List.mem_singleton.mpr rfl, x, x1, by rw [i3]; exact x2⟩
    · rw [List.mem_singleton.mp x1] at x2
      have hx2 := x2
      rw [← q1b] at hx2
      obtain ⟨s', s1', s2'⟩ := List.mem_map.mp hx2
      have : ct_S T n x.2 := by rw [← s2']; exact (q1c s' s1').pl.S
      obtain ⟨i, i1, i2⟩ := ct_S_sub hwf h31 this x3
      exact ⟨i, i1, (mt i1).mpr ⟨x, x2, by rw [i2]; exact x3⟩, i2.symm⟩
  have hG : q_good (q_un (ct_S T (C.2.2.2.1 j).1) [s.2]) := by rw [← eS4]; exact y4.1.good
  -- what stays
  have fr4 : hp_fr cl_S 0 ρ P ρ4 P4 := hp_fr.tr0 (hp_fr.weaken (imo3.fr (ρ := ρ)) fun r h => wt_S_ty (st_S_w (cl_st h))) k4.yc
  have kk : ∀ r, ty_S r = false → P4.1 r = P.1 r ∧ P4.2 r = P.2 r := fun r h => by
    have e := (k4.2.1 r h)
    have h6 : r ≠ 706 := fun z => by rw [z] at h; cases h
    exact ⟨e.1.trans (by rw [imo3.1]), e.2.1.trans (imo3.2.1 r h6)⟩
  obtain ⟨-, he, hsg, hsq, hrs, -, hrw, hv⟩ := c1
  obtain ⟨a1, a2, a3, a4, ⟨len, l1, l2, l3, l4⟩, a5⟩ := hsq
  obtain ⟨b1, b2, b3, b4⟩ := a5 j h2
  have hsq : sqA P C.2.1 C.2.2.1 C.2.2.2.1 := ⟨a1, a2, a3, a4, ⟨len, l1, l2, l3, l4⟩, a5⟩
  have o48 : ∀ c, ρ.1 c = ρ4.1 c := fun c => w_ob k4 c
  have rd3 : hp_rd P3 406 (nI j) = some (nI (C.2.2.2.1 j).1) := by
    have e := imo3.2.1 406 (by decide)
    rw [hp_rd_nI (by rw [e, l4 406 (by decide) (by decide)]; omega) (by omega), e, b2]
  have rd : ∀ r, 405 ≤ r → r ≤ 408 → ∀ v, (P.2 r).2 j = v → hp_rd P4 r (nI j) = some v := fun r z1 z2 v hv => by
    have e := (kk r (decide_eq_false (by omega))).2
    rw [hp_rd_nI (by rw [e, l4 r z1 z2]; omega) (by omega), e, hv]
  have hsqa : sqA (hp_sI (hp_sI P4 103 (nI (C.2.2.2.1 j).2.1)) 111 (nI (C.2.2.2.1 j).2.2)) C.2.1 C.2.2.1 C.2.2.2.1 := hsq.cg fun r a b => ⟨by rw [hI_ne (by omega), hI_ne (by omega)]; exact (kk r (decide_eq_false (by omega))).1, (kk r (decide_eq_false (by omega))).2⟩
  have hrwa : rwI (hp_sI (hp_sI P4 103 (nI (C.2.2.2.1 j).2.1)) 111 (nI (C.2.2.2.1 j).2.2)) C.1 [] false := hrw.cg fun r a b => ⟨by rw [hI_ne (by omega), hI_ne (by omega)]; exact (kk r (decide_eq_false (by omega))).1, (kk r (decide_eq_false (by omega))).2⟩
  have e30 := e_shorten (sa := sa) (f := f - 1) (d := d + 3) (P := P4) (a := (C.2.2.2.1 j).2.1) (b := (C.2.2.2.1 j).2.2) k2
  rw [show f - 1 + 1 = f by omega] at e30
  obtain ⟨P6, t1, t2, t3, t4, t5, t6⟩ := s_shorten (sa := sa) (f := f - 2) (d := d + 2) k2 hsqa hrwa h2 h1 (by rw [hrs.len]; exact sq_k_rows)
  rw [show f - 2 + 2 = f by omega] at t1
  have e6 : ∀ r, ty_S r = false → P6.2 r = P.2 r := fun r h => by rw [t4]; exact (kk r h).2
  have y6 : tyJ P6 n4 T4 := ⟨y4.1.cg (by rw [t5 708 (by decide) (by decide), hI_ne (by decide), hI_ne (by decide)]) fun r _ _ => by rw [t4]; rfl, y4.2⟩
  rw [r2] at g1 g2 g3
  have hE : ∀ M ∈ C.2.2.2.2.2.2.2.take (C.2.2.2.1 j).2.2, ct_S T (C.2.2.2.1 j).1 (m_ty M) := fun M hM => by
    have hM' := List.mem_of_mem_take hM
    obtain ⟨x, hx, e⟩ := List.mem_iff_getElem.mp hM'
    have hwfM : m_wf M := (he.2.1.2.2 x M (List.getElem?_eq_some_iff.mpr ⟨hx, e⟩)).1
    have hk := (hI.2.2.2.2.2.2.1 M hM').2.ty hwfM
    exact g1.2.2.2.2.1 _ (q_of_mem hM (q_of_ty hwfM (q_sub_self hk.1)))
  have hwm : ty_wf T (C.2.2.2.1 j).1 := fun i hi => hwf i (by omega)
  have m31 : (C.2.2.2.1 j).1 < 2 ^ 31 := by omega
  have en6 : enI P6 n4 T4 (C.2.2.2.2.2.2.1.take (C.2.2.2.1 j).2.1) (C.2.2.2.2.2.2.2.take (C.2.2.2.1 j).2.2) := (he.cut r1 hwf hdi h31 g2 g3 g1.2.2.2.1 hE (by rw [t5 103 (by decide) (by decide), hI_ne (by decide), hI_eq]) (by rw [t5 111 (by decide) (by decide), hI_eq]) (fun r a b => e6 r (ty_S_en a b))).xt hwm m31 z4
  have sg6 : sgI P6 n4 T4 C.2.2.2.2.1 C.2.2.2.2.2.1 := (sgW.cut (P' := P6) (sgI.W (Q := []) (Q' := []) (by rw [List.append_nil, List.append_nil]; exact hsg)) r1 hwf hdi h31 g1.2.2.1 (by rw [t5 502 (by decide) (by decide), hI_ne (by decide), hI_ne (by decide), (kk 502 (by decide)).1]; exact hsg.1.1) (by rw [t5 503 (by decide) (by decide), hI_ne (by decide), hI_ne (by decide), (kk 503 (by decide)).1]; exact hsg.2.1) hsg.1.2.1 hsg.1.2.2.1 hsg.2.2.1 hsg.2.2.2.1 (e6 500 (by decide)) (e6 501 (by decide))).xt hwm m31 z4
  obtain ⟨rs1, rs2⟩ := hrs.cut (k := sq_k C.2.1 j) hv r1 hwf hdi h31 (fun t ht => g1.2.2.2.2.2 t (by rw [sq_rows_take]; exact ht))
  rw [← sq_rows_take] at rs1
  have rs6 := rs1.xt rs2 hwm m31 z4
  have rv6 : ∀ x ∈ (C.1.take (sq_k C.2.1 j)).flatten, rv n4 x := fun x hx => (rs2 x hx).xt z4.1
  -- the row's copy
  have w6 : wI False (q_un (ct_S T (C.2.2.2.1 j).1) [s.2]) P6 n4 T4 (C.1.take (sq_k C.2.1 j)) [] false [] := ⟨y6, t3, fun x hx => rv6 x (by rw [List.append_nil] at hx; exact hx), fun t ht => by rw [← eS4]; exact ht, fun _ => rfl, fun z => by cases z⟩
  have hfl : ∀ i x, L[i]? = some x → (C.1.flatten ++ [])[A0.length + i]? = some x := fun i x hx => by
    rw [List.append_nil, q1, List.getElem?_append_right (by omega), Nat.add_sub_cancel_left, List.getElem?_append_left (List.getElem?_eq_some_iff.mp hx).1]
    exact hx
  obtain ⟨hr1, ⟨lr, lr1, lr2, lr3, lr4, lr5⟩, hr3, -⟩ := hrw
  have hLlen : A0.length + L.length ≤ lr := by
    have : (C.1.flatten ++ []).length = A0.length + (L.length + W.length) := by rw [List.append_nil, q1, List.length_append, List.length_append]
    omega
  obtain ⟨len7, b71, b72, -, -, -, -, -, -, b76⟩ := y4.1.1.1.2.1
  have l706 : n ≤ (P6.2 706).1 := by
    obtain ⟨len', b1', b2', -, -, -, -, -, -, b6'⟩ := y3.1.1.1.2.1
    have := k4.2.2.2.2.2 706
    have e : (P6.2 706).1 = (P4.2 706).1 := by rw [t4]; rfl
    omega
  obtain ⟨ρ7, P7, O7, b7, v1, v2, v3, v4, v5⟩ := w_retype (sa := sa) (f := f) (d := d) (a := A0.length) (τ := fun x => ct T n x.2) (L := L) k2 w6 (by omega) (fun z => absurd hG z) (fun i x hx => by
      rw [e6 301 (by decide), e6 302 (by decide)]
      exact hr3 _ x (hfl i x hx)) (by rw [e6 301 (by decide), lr3]; exact hLlen) (by omega) (Or.inl (by
      rw [List.append_nil, q4]
      exact take_flat_le (sq_k_mono h3))) (fun x hx => by
      obtain ⟨k, kx1, kx2⟩ := q1c x hx
      refine ⟨k, kx2, by omega, by omega, Or.inl ?_⟩
      have hmk : ty_mL T n L k = true := (mt kx1).mpr ⟨rt T n x, by rw [← q1b]; exact List.mem_map.mpr ⟨x, hx, rfl⟩, by
        show q_sub _ (ct T n x.2)
        rw [kx2]
        exact q_sub_self (by rw [ct_at hwf h31 kx1]; exact qN_ne)⟩
      have := z5 k kx1 hmk
      rw [← k5 k kx1] at this
      have e : (P6.2 706).2 k = (P4.2 706).2 k := by rw [t4]; rfl
      rw [e]
      show pl n4 T4 _ (ct T n x.2)
      rw [kx2]
      exact this) (fun z => by
      have e : (L.map fun x => (x.1, ct T n x.2)) = m_fl s.2 := q1b
      rw [List.nil_append, e] at z
      have := hM.2.1
      omega) (x := nI A0.length) (y := nI (A0.length + L.length)) rfl rfl
  have eD : ([] ++ L.map fun x => (x.1, ct T n x.2)) = m_fl s.2 := q1b
  rw [eD] at v3
  have nox : ∀ r, (r < 301 ∨ 306 < r) → rx_S r = false := fun r h => decide_eq_false (by omega)
  have s7 : sI False (q_un (ct_S T (C.2.2.2.1 j).1) [s.2]) B (c_cut C j (C.2.2.2.1 j).2.1 (C.2.2.2.1 j).2.2) ρ7 P7 n4 T4 [] (m_fl s.2) b7 := by
    refine ⟨v2, en6.fr v4 fun r a b => nox r (by omega), sg6.fr v4 fun r a b => nox r (by omega), t2.cg fun r a b => ⟨(v4.2.1 r (nox r (by omega))).1, (v4.2.1 r (nox r (by omega))).2.1⟩, rs6, [], O7, ?_, fun _ => ⟨⟨rfl, fun M hM => by cases hM⟩, by decide⟩⟩
    rw [List.append_nil]
    exact v3
  have ad := s_add (sa := sa) (f := f) (d := d) s7 (by omega) hM.1 (by
    show (C.2.1.take j).length < 1000
    rw [List.length_take]; omega) (fun z => by have := hM.2.2; omega) (fun z => by
    have hk : m_tot (sq_rows (C.2.1.take j)) + (m_fl s.2).length ≤ m_tot (sq_rows C.2.1) := m_tot_keep ha h3
    have e0 : m_tot ([] : List qM) = 0 := rfl
    rw [e0] at z
    have z : 20000 < m_tot (sq_rows (C.2.1.take j)) + 0 + (m_fl s.2).length := z
    omega)
  rcases ad with ⟨-, ρ8, P8, Rn, x1, x2, x3, -⟩ | ⟨z, -⟩
  · obtain ⟨y8, -⟩ := x2.c
    have fr7 : hp_fr cl_S 0 ρ4 P4 ρ7 P7 := hp_fr.tr0 (hp_fr.tr0 (hp_fr.sI (by decide)) (hp_fr.sI (by decide))) (hp_fr.tr0 t6 (v4.wx.sw).cs)
    have fr8 : hp_fr cl_S 0 ρ P ρ8 P8 := hp_fr.tr0 fr4 (hp_fr.tr0 fr7 x3)
    have nR := kR.new (fm := C.2.2.1) (Rn := Rn) (N := ([], s.2)) (S' := q_un (th j).1 [s.2]) kc z4 (by rw [esj]; exact eS4.symm) y4.2.1 (Or.inl rfl)
    have eF : A.2.1 = C.2.2.1 := by rw [c2]; rfl
    have eA : a_cut A j = cV (c_cut C j (C.2.2.2.1 j).2.1 (C.2.2.2.1 j).2.2) th := by
      have e1 : a_cut A j = a_cut (cV C th) j := by rw [c2]
      rw [e1]
      show (_, _, _, _, _, C.2.2.2.2.2.2.1.take (th j).2.1, C.2.2.2.2.2.2.2.take (th j).2.2) = _
      rw [r2]
      rfl
    rw [eA, eF]
    refine ⟨ρ8, P8, ?_, ⟨_, n4, T4, y8, ?_, nR, c4.cl fr8, c5.fr fr8.cw, by rw [(fr8.2.1 809 rfl).1]; exact c6⟩, y8.w, fr8⟩
    · obtain ⟨f, rfl⟩ : ∃ g, f = g + 1 := ⟨f - 1, by omega⟩
      have r304a : hp_rd P 304 (nI (sq_k C.2.1 a)) = some (nI A0.length) := q2
      have r304b : hp_rd P 304 (nI (sq_k C.2.1 a + 1)) = some (nI (A0.length + L.length)) := q3
      rw [am_c_115, am_s115_0]
      simp only [ho_804 w, hx_4 w, Option.bind_some, sq_has hs, am_i_some, am_c_ne]
      rw [if_pos (bP_y ⟨s, a, rfl, by omega, ha⟩)]
      simp only [ho_804 w, hx_4 w, Option.bind_some, sq_hyps hs ha, am_i_some, am_c_le, hsl, nI_0]
      rw [if_pos (Int32.le_refl 0)]
      simp only [ho_804 w, hx_4 w, Option.bind_some, hce, am_i_some, am_c_eq, am_c_ge]
      rw [if_neg (by decide), if_pos (nI_le h3 (by omega))]
      simp only [ho_803 w, hr_304 w, ho_804 w, hr_405 w, hl_405 w, f1, hl_304 w, r304a, nI_1, f2, r304b, Option.bind_some, ho_800 w, hx_7 w, u1, am_v_some, hx_3 w, m1, s1, hr_406 w, hl_406 w, rd3, k1]
      rw [o48 8]
      simp only [ho_802 k2, ho_804 k2, hr_407 k2, hl_407 k2, rd 407 (by decide) (by decide) _ b3, hr_408 k2, hl_408 k2, rd 408 (by decide) (by decide) _ b4, Option.bind_some, hx_1 k2, e30, am_v_some, hx_4 k2, t1, ho_803 k2, hx_3 k2, v1]
      rw [w_ob v4 8]
      simp only [ho_804 v2, hx_4 v2, Option.bind_some, x1, am_i_some]
    · have := cV_new (C := c_cut C j (C.2.2.2.1 j).2.1 (C.2.2.2.1 j).2.2) (th := th) (fm := C.2.2.1) (S' := q_un (th j).1 [s.2]) (N := ([], s.2)) (os := []) (Rn := Rn) (n' := n4)
      unfold c_ow at this
      rw [List.append_nil] at this
      exact this
  · exact z.elim
end KP2
