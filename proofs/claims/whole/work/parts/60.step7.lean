/-! STEPS of the class, 7: typesPutIn, the rest -/
section SP8
variable {sa : Nat → Nat} {B : Nat} {ρ : hp_L} {P : hp_P} {b : Bool} {n : Nat} {T : Nat → Int32 × Int32 × Int32} {Z : Prop} {G : qT → Prop} {C : sC} {H : List qM} {D : List qS} {S : qT → Prop} {base : Nat} {pr : List (Int32 × Int32)} {fr0 : Nat}
/-- no name twice -/
def pv_nd (pr : List (Int32 × Int32)) : Prop := ∀ (i j : Nat) (p q : Int32 × Int32), i < j → pr[i]? = some p → pr[j]? = some q → p.1 ≠ q.1
/-- typesPutIn from where the types have been put in -/
noncomputable def tl89 (B : Nat) (sa : Nat → Nat) (cl : am_F) (o f : Nat) (x1 x5 : Int32) (σ : am_S) : Option (Option Value × am_S) := (am_getr σ o 6 0).bind fun p1 => (am_obj σ p1 7).bind fun _ => am_i (cl 17 [.ref p1] σ) fun v2 g2 => if am_cond .ne v2 0 = true then ((am_getr g2 o 6 4).bind fun p3 => (am_getr g2 p3 4 5).bind fun p4 => (am_iald g2 p4 x1).bind fun v5 => am_go B sa am_dfl cl am_r89 f 187 [(0, .ref o), (5, .int x5), (6, .int v5)] [] g2) else (am_rz 0 g2)
theorem wd_I.imo {P' : hp_P} (h : wd_I P fr0 pr) (k : ty_imo P P') : wd_I P' fr0 pr := fun i p hp => by
  unfold hp_rd
  rw [k.2.1 807 (by decide)]
  exact h i p hp
theorem st_pairs {f0 d : Nat} {x1 x5 : Int32} {Mk : Nat → Bool} {kk : Int32 → Nat} (hf0 : 20000 ≤ f0) (hk0 : ∀ c, c < 0 → kk c = 0) (har : ty_ar kk T n) (hl : pr.length ≤ 1000) : ∀ (rest dn : List (Int32 × Int32)) (pd : List (Int32 × qT)) (f : Nat) (P : hp_P), pr = dn ++ rest → pv_ok C.2.2.2.2.2.2.1 dn pd → pv_nd dn → cI B C ρ P n T → im_I P n T Mk (ps_s pd) → wd_I P fr0 pr → rest.length + 1 ≤ f →
    (∃ ps P' g, pv_ok C.2.2.2.2.2.2.1 pr ps ∧ pv_nd pr ∧ f ≤ g + 1 + rest.length ∧ am_go B sa am_dfl (am_call B sa am_dfl am_tb f0 (d + 5)) am_r89 f 76 [(0, .ref (ρ.1 6)), (1, .int x1), (2, .ref (ρ.2.1 807)), (3, .int (nI fr0)), (4, .int (nI pr.length)), (5, .int x5), (6, .int (nI dn.length))] [] (hp_S sa ρ P) = tl89 B sa (am_call B sa am_dfl am_tb f0 (d + 5)) (ρ.1 6) g x1 x5 (hp_S sa ρ P') ∧ cI B C ρ P' n T ∧ im_I P' n T Mk (ps_s ps) ∧ ty_imo P P') ∨
    ((¬ ∃ ps, pv_ok C.2.2.2.2.2.2.1 pr ps ∧ pv_nd pr) ∧ ∃ P', am_go B sa am_dfl (am_call B sa am_dfl am_tb f0 (d + 5)) am_r89 f 76 [(0, .ref (ρ.1 6)), (1, .int x1), (2, .ref (ρ.2.1 807)), (3, .int (nI fr0)), (4, .int (nI pr.length)), (5, .int x5), (6, .int (nI dn.length))] [] (hp_S sa ρ P) = am_rz 0 (hp_S sa ρ P') ∧ cI B C ρ P' n T ∧ ty_imo P P') := by
  intro rest
  induction rest with
  | nil =>
    intro dn pd f P hp hpd hnd h hi hw hf
    obtain ⟨f, rfl⟩ : ∃ g, f = g + 1 := ⟨f - 1, by omega⟩
    rw [List.append_nil] at hp
    subst hp
    refine Or.inl ⟨pd, P, f, hpd, hnd, by simp only [List.length_nil]; omega, ?_, h, hi, ty_imo.rf⟩
    rw [am_s89_76]
    have hle : nI pr.length ≤ nI pr.length := Int32.le_refl _
    rw [if_pos (by rw [am_c_ge]; exact hle)]
    rfl
  | cons p rest ih =>
    intro dn pd f P hp hpd hnd h hi hw hf
    obtain ⟨f, rfl⟩ : ∃ g, f = g + 1 := ⟨f - 1, by omega⟩
    have w := h.w
    have hlen : pr.length = dn.length + (rest.length + 1) := by rw [hp]; simp
    have hat : pr[dn.length]? = some p := by rw [hp, List.getElem?_append_right (Nat.le_refl _), Nat.sub_self]; rfl
    obtain ⟨r1, r2⟩ := hw _ _ hat
    have hge : (nI pr.length ≤ nI dn.length) = False := eq_false (nI_ge (by omega) (by omega))
    have ham := st_among (sa := sa) (f := f0) (d := d + 4) (x := p.1) (k := dn.length) w hw (by omega) (by omega) (by omega)
    obtain ⟨f0, rfl⟩ : ∃ g, f0 = g + 1 := ⟨f0 - 1, by omega⟩
    have hnm := is_name (sa := sa) (B := B) (f := f0) (d := d + 4) (x := p.1) (σ := hp_S sa ρ P)
    rw [am_s89_76]
    simp only [am_c_ge, hge, if_false, nI_2k, hl_807 w, r1, nI_1, r2, Option.bind_some, hnm, am_i_some, am_c_eq]
    by_cases e1 : inR p.1 100000000
    · rw [if_neg (bP_y e1)]
      simp only [ho_602 w, hx_1 w, Option.bind_some, en_hasType w h.2.1, am_i_some]
      by_cases e2 : ∃ t, en_at C.2.2.2.2.2.2.1 p.2 t
      · rw [if_neg (bP_y e2)]
        simp only [ham, am_i_some]
        by_cases e3 : ∃ j q, j < dn.length ∧ pr[j]? = some q ∧ q.1 = p.1
        · rw [if_neg (bP_y e3)]
          obtain ⟨j, q, j1, j2, j3⟩ := e3
          exact Or.inr ⟨fun ⟨ps, z1, z2⟩ => z2 j dn.length q p j1 j2 hat j3, P, rfl, h, ty_imo.rf⟩
        · rw [if_pos (bP_n e3)]
          obtain ⟨t, ht⟩ := e2
          obtain ⟨v, v1, v2⟩ := et_rd h.2.1 ht
          obtain ⟨P1, a1, a2, a3⟩ := ty_putIn (sa := sa) (f := f0 + 1) (d := d + 3) (I := fun i => (P.2 706).2 i) (x := p.1) (t := v) w h.y.1.1 (fun i _ => rfl) (by omega)
          simp only [ho_600 w, ho_602 w, hr_102 w, hl_102 w, v1, Option.bind_some, hx_7 w, a1, am_v_some]
          have hdn : ∀ j q, dn[j]? = some q → pr[j]? = some q := fun j q hj => by rw [hp, List.getElem?_append_left (List.getElem?_eq_some_iff.mp hj).1]; exact hj
          have hnew : ∀ q ∈ pd, q.1 ≠ p.1 := fun q hq z => by
            have : q.1 ∈ pd.map (fun p => p.1) := List.mem_map.mpr ⟨q, hq, rfl⟩
            rw [pv_ok_len hpd] at this
            obtain ⟨q', q1, q2⟩ := List.mem_map.mp this
            obtain ⟨j, j1, j2⟩ := List.mem_iff_getElem.mp q1
            exact e3 ⟨j, q', j1, hdn j q' (by rw [List.getElem?_eq_getElem j1, j2]), q2.trans z⟩
          have hpsn : ∀ q ∈ pd, isNm q.1 := fun q hq => by
            have : q.1 ∈ pd.map (fun p => p.1) := List.mem_map.mpr ⟨q, hq, rfl⟩
            rw [pv_ok_len hpd] at this
            obtain ⟨q', q1, q2⟩ := List.mem_map.mp this
            obtain ⟨j, j1, j2⟩ := List.mem_iff_getElem.mp q1
            rw [← q2]
            exact (pv_ok_at hpd (k := j) (by rw [List.getElem?_eq_getElem j1, j2])).1
          have hi1 := im_I_p hk0 h.y.1.wf h.y.1.2.1 h.y.1.n31 har hi e1 hnew hpsn v2 a3
          have hnd1 : pv_nd (dn ++ [p]) := fun i j q q' hij hq hq' => by
            have hjl : j < (dn ++ [p]).length := (List.getElem?_eq_some_iff.mp hq').1
            rw [List.length_append] at hjl
            have hjl : j < dn.length + 1 := hjl
            have hq : dn[i]? = some q := by
              rw [List.getElem?_append_left (by omega)] at hq; exact hq
            by_cases ej : j = dn.length
            · rw [ej, List.getElem?_append_right (Nat.le_refl _), Nat.sub_self] at hq'
              have : p = q' := Option.some.inj hq'
              rw [← this]
              exact fun z => e3 ⟨i, q, by omega, hdn i q hq, z⟩
            · rw [List.getElem?_append_left (by omega)] at hq'
              exact hnd i j q q' hij hq hq'
          have := ih (dn ++ [p]) (pd ++ [(p.1, t)]) f P1 (by rw [hp]; simp) (pv_ok_ap hpd e1 ht) hnd1 (h.imo a2) hi1 (hw.imo a2) (by simp only [List.length_cons] at hf; omega)
          rw [show (dn ++ [p]).length = dn.length + 1 by simp] at this
          rcases this with ⟨ps, P', g, i1, i2, i3, i4, i5, i6, i7⟩ | ⟨i1, P', i2, i3, i4⟩
          · exact Or.inl ⟨ps, P', g, i1, i2, by simp only [List.length_cons]; omega, i4, i5, i6, a2.tr i7⟩
          · exact Or.inr ⟨i1, P', i2, i3, a2.tr i4⟩
      · rw [if_pos (bP_n e2)]
        exact Or.inr ⟨fun ⟨ps, z1, z2⟩ => e2 (pv_ok_at z1 hat).2, P, rfl, h, ty_imo.rf⟩
    · rw [if_pos (bP_n e1)]
      exact Or.inr ⟨fun ⟨ps, z1, z2⟩ => e1 (pv_ok_at z1 hat).1, P, rfl, h, ty_imo.rf⟩
/-- the images of some places stand -/
def imQ (P : hp_P) (n : Nat) (T : Nat → Int32 × Int32 × Int32) (σ : Int32 → Option qT) (Q : Nat → Prop) : Prop := ∀ k, Q k → k < n ∧ k < (P.2 706).1 ∧ pl n T ((P.2 706).2 k) (q_sbs σ (ct T n (nI k)))
theorem imQ.fr {S : Nat → Bool} {e : Nat} {ρ' : hp_L} {P' : hp_P} {σ : Int32 → Option qT} {Q : Nat → Prop} (h : imQ P n T σ Q) (k : hp_fr S e ρ P ρ' P') (hS : S 706 = false) : imQ P' n T σ Q := by
  unfold imQ
  rw [(k.2.1 706 hS).2.1]
  exact h
/-- copyRetyped of a row of the sequents -/
theorem s_ret {f d j : Nat} {N : qM} {σ : Int32 → Option qT} {Q : Nat → Prop} (h : sI Z G B C ρ P n T H D b) (hf : 50000 ≤ f) (hg : ¬ q_good G → Z) (hj : (sq_rows C.2.1)[j]? = some N) (hQ : imQ P n T σ Q) (hL : ∀ L, C.1[j]? = some L → ∀ s ∈ L, ∃ k, s.2 = nI k ∧ Q k) (hz : 4000 < (D ++ m_fl (m_rt σ N)).length → Z) :
    ∃ (x y : Int32) (ρ' : hp_L) (P' : hp_P) (b' : Bool), hp_rd P 304 (nI j) = some x ∧ hp_rd P 304 (nI (j + 1)) = some y ∧ am_call B sa am_dfl am_tb f (d + 4) 55 [.ref (ρ.1 3), .int x, .int y] (hp_S sa ρ P) = some (none, hp_S sa ρ' P') ∧ sI Z G B C ρ' P' n T H (D ++ m_fl (m_rt σ N)) b' ∧ hp_fr rx_S 0 ρ P ρ' P' ∧ (b' = false → b = false) := by
  obtain ⟨A, L, q1, q2, q3, q4, q5, q6⟩ := h.row hj
  obtain ⟨Dr, O, hw, hh⟩ := h.2.2.2.2.2
  obtain ⟨W, hX⟩ := q1.seg (Dr := Dr) (O := O)
  have hn := h.y.1.n31
  have eD : L.map (fun s => (s.1, q_sbs σ (rt T n s).2)) = m_fl (m_rt σ N) := by
    rw [m_rt_fl, ← q1.2.1, List.map_map]
    rfl
  obtain ⟨len, b1, b2, b3, b4, b5⟩ := hw.2.1.2.1
  have hXl : A.length + L.length ≤ ((C.1 ++ Dr).flatten ++ O).length := by rw [hX]; simp only [List.length_append]; omega
  have hle := hw.2.1.Xle
  obtain ⟨ρ', P', O', b', a1, a2, a3, a4, a5⟩ := w_retype (sa := sa) (f := f) (d := d) (a := A.length) (τ := fun s => q_sbs σ (rt T n s).2) (L := L) h.w hw hf hg (fun i s hs => by
    have hil : i < L.length := (List.getElem?_eq_some_iff.mp hs).1
    exact hw.2.1.2.2.1 (A.length + i) s (by rw [hX, List.getElem?_append_right (by omega), Nat.add_sub_cancel_left, List.getElem?_append_left hil]; exact hs)) (by omega) (by omega) (Or.inr hXl) (fun s hs => by
    obtain ⟨k, k1, k2⟩ := hL L q5 s hs
    obtain ⟨k3, k4, k5⟩ := hQ k k2
    refine ⟨k, k1, k4, by omega, Or.inl ?_⟩
    show pl n T _ (q_sbs σ (ct T n s.2))
    rw [k1]
    exact k5) (by rw [eD]; exact hz) rfl rfl
  rw [eD] at a3
  exact ⟨_, _, ρ', P', b', q2, q3, a1, h.nx hw hh a2 (h.2.1.fr a4 fun r p q => rx_en p q) a3 a4.wx.sw ty_xt.rf a5, a4, a5⟩
/-- the end of typesPutIn -/
def tm89 (cl : am_F) (o : Nat) (x5 : Int32) (σ : am_S) : Option (Option Value × am_S) := (am_getr σ o 6 3).bind fun p1 => (am_getr σ o 6 3).bind fun p2 => (am_getr σ p2 3 4).bind fun p3 => (am_iald σ p3 x5).bind fun v4 => (am_getr σ o 6 3).bind fun p5 => (am_getr σ p5 3 4).bind fun p6 => (am_iald σ p6 (x5 + 1)).bind fun v7 => (am_obj σ p1 3).bind fun _ => am_v (cl 55 [.ref p1, .int v4, .int v7] σ) fun g8 => (am_getr g8 o 6 4).bind fun p9 => (am_obj g8 p9 4).bind fun _ => am_i (cl 76 [.ref p9] g8) fun v10 g10 => am_rz v10 g10
theorem s_ret_loop {f0 d o a : Nat} {s : qQ} {σ : Int32 → Option qT} {Q : Nat → Prop} (hf0 : 60000 ≤ f0) (hg : ¬ q_good G → Z) (ha : C.2.1[a]? = some s) (hL : ∀ i, i ≤ s.1.length → ∀ L, C.1[sq_k C.2.1 a + i]? = some L → ∀ s ∈ L, ∃ k, s.2 = nI k ∧ Q k) : ∀ (Y X : List qM) (f : Nat) (ρ : hp_L) (P : hp_P) (H : List qM) (b : Bool), ρ.1 6 = o → sI Z G B C ρ P n T H [] b → imQ P n T σ Q → s.1 = X ++ Y → zH Z (m_tot (sq_rows C.2.1)) (hy_join none H (Y.map (m_rt σ))) → (∀ N ∈ Y, (4000 < (m_fl (m_rt σ N)).length → Z)) → Y.length + 1 ≤ f →
    ∃ (ρ' : hp_L) (P' : hp_P) (b' : Bool), am_go B sa am_dfl (am_call B sa am_dfl am_tb f0 (d + 5)) am_r89 f 187 [(0, .ref o), (5, .int (nI (sq_k C.2.1 a + s.1.length))), (6, .int (nI (sq_k C.2.1 a + X.length)))] [] (hp_S sa ρ P) = tm89 (am_call B sa am_dfl am_tb f0 (d + 5)) o (nI (sq_k C.2.1 a + s.1.length)) (hp_S sa ρ' P') ∧ sI Z G B C ρ' P' n T (hy_join none H (Y.map (m_rt σ))) [] b' ∧ imQ P' n T σ Q ∧ hp_fr rw_S 0 ρ P ρ' P' := by
  intro Y
  induction Y with
  | nil =>
    intro X f ρ P H b ho h hQ hs hz hz4 hf
    obtain ⟨f, rfl⟩ : ∃ g, f = g + 1 := ⟨f - 1, by omega⟩
    rw [List.append_nil] at hs
    refine ⟨ρ, P, b, ?_, h, hQ, hp_fr.rf⟩
    rw [am_s89_187, ← hs]
    simp only [am_c_ge, Int32.le_refl, if_true]
    rfl
  | cons N Y ih =>
    intro X f ρ P H b ho h hQ hs hz hz4 hf
    obtain ⟨f, rfl⟩ : ∃ g, f = g + 1 := ⟨f - 1, by omega⟩
    subst ho
    have hk := (h.first ha).2.2.1
    have hsl : s.1.length = X.length + (Y.length + 1) := by rw [hs]; simp
    have hge : (nI (sq_k C.2.1 a + s.1.length) ≤ nI (sq_k C.2.1 a + X.length)) = False := eq_false (nI_ge (by omega) (by omega))
    obtain ⟨Dr, O, hw, hh⟩ := h.2.2.2.2.2
    have w := h.w
    have hfl := rw_flag (sa := sa) w hw.2.1
    rw [am_s89_187]
    simp only [am_c_ge, hge, if_false, am_c_ne]
    cases b with
    | true =>
      refine ⟨ρ, P, true, ?_, ⟨h.1, h.2.1, h.2.2.1, h.2.2.2.1, h.2.2.2.2.1, Dr, O, hw, fun z => by (cases z)⟩, hQ, hp_fr.rf⟩
      unfold tm89
      simp only [ho_603 w, hfl, Option.bind_some]
      rw [if_pos (by decide)]
    | false =>
      have hi : s.1[X.length]? = some N := by rw [hs, List.getElem?_append_right (Nat.le_refl _), Nat.sub_self]; rfl
      have hrow := sq_hyp ha hi
      have hN := (h.2.2.2.2.1.2 N (List.mem_of_getElem? hrow)).1
      obtain ⟨m1, m2, m3⟩ := m_rt_ok (σ := σ) N hN
      rw [List.map_cons, hy_join_c, if_neg (by intro z; cases z)] at hz ⊢
      obtain ⟨W, hW⟩ := hy_join_pre (e := none) (L := Y.map (m_rt σ)) (H := hy_add H (m_rt σ N))
      have hzM : zH Z (m_tot (sq_rows C.2.1)) (hy_add H (m_rt σ N)) := by rw [hW] at hz; exact hz.pre
      obtain ⟨x, y, ρ1, P1, b1, x1, x2, a1, a2, a3, a4⟩ := s_ret (sa := sa) (f := f0) (d := d + 1) h (by omega) hg hrow hQ (hL X.length (by omega)) (by rw [List.nil_append]; exact hz4 N List.mem_cons_self)
      rw [List.nil_append] at a2
      obtain ⟨ρ2, P2, b2, c1, c2, c3, c4⟩ := s_hyp0 (sa := sa) (f := f0) (d := d + 1) a2 (by omega) m1 hzM
      have hQ2 := (hQ.fr a3 rfl).fr c3 rfl
      obtain ⟨ρ3, P3, b3, i1, i2, i3, i4⟩ := ih (X ++ [N]) f ρ2 P2 _ b2 (by rw [c3.1, a3.1]) c2 hQ2 (by rw [hs]; simp) hz (fun N' hN' => hz4 N' (List.mem_cons_of_mem _ hN')) (by simp only [List.length_cons] at hf; omega)
      refine ⟨ρ3, P3, b3, ?_, i2, i3, hp_fr.tr0 (hp_fr.tr0 a3.xw c3) i4⟩
      rw [show (X ++ [N]).length = X.length + 1 by simp] at i1
      simp only [ho_603 w, hfl, Option.bind_some, hr_304 w, hl_304 w, x1, nI_1, x2, hx_3 w, a1, am_v_some]
      rw [if_neg (by decide), w_ob a3 6]
      simp only [ho_604 a2.w, Option.bind_some, hx_4 a2.w, c1, am_v_some]
      rw [w_ob a3 6] at i1
      exact i1
/-- the types of a tree of a table are made of codes -/
theorem ct_lt {T : Nat → Int32 × Int32 × Int32} (hw : ty_wf T n) (hn : n < 2 ^ 31) {i : Nat} (hi : i < n) : ∀ c l r, q_sub (.branch c l r) (ct T n (nI i)) → c < 2 ^ 32 := by
  intro c l r h
  obtain ⟨j, j1, j2⟩ := ct_S_sub hw hn ⟨i, hi, rfl⟩ h
  rw [ct_at hw hn j1] at j2
  unfold qN at j2
  injection j2 with e1
  rw [← e1]
  exact (T j).1.toBitVec.isLt
theorem q_sub_tr {a b' : qT} (h : q_sub a b') : ∀ (c : qT), q_sub b' c → q_sub a c
  | .leaf _, k => k.elim
  | .branch k l r, h2 => by
    rcases h2 with e | e | e
    · rw [← e]; exact h
    · exact Or.inr (Or.inl (q_sub_tr h l e))
    · exact Or.inr (Or.inr (q_sub_tr h r e))
/-- the class when the types have gone on -/
theorem cI.ty {ρ' : hp_L} {P' : hp_P} {n' e : Nat} {T' : Nat → Int32 × Int32 × Int32} (h : cI B C ρ P n T) (w : hp_w B ρ') (y : tyI P' n' T') (fr : hp_fr ty_S e ρ P ρ' P') (x : ty_xt n T n' T') : cI B C ρ' P' n' T' := by
  obtain ⟨h1, h2, h3, h4, h5, h6, h7, h8⟩ := h
  have hw := h6.1.wf
  have hn := h6.1.n31
  refine ⟨w, (h2.xt hw hn x).fr fr fun r a b => ty_S_en a b, (h3.xt hw hn x).fr fr fun r a b => decide_eq_false (by omega), h4.cg fun r a b => ⟨(fr.2.1 r (decide_eq_false (by omega))).1, (fr.2.1 r (decide_eq_false (by omega))).2.1⟩, h5.xt h8 hw hn x, h6.xt y x, h7.fr fr fun r a b => ty_S_no a b, fun s hs => (h8 s hs).xt x.1⟩
theorem r405' {j : Nat} {s : qQ} (h' : cI B C ρ P n T) (hj : C.2.1[j]? = some s) : hp_rd P 405 (nI j) = some (nI (sq_k C.2.1 j)) := ((h'.s (Z := True) (G := fun _ => True) fun _ _ => True.intro).first hj).1
/-- 19 -/
def sp_19 (et : List qT) (sq : List qQ) (x : Int32) (pr : List (Int32 × Int32)) (N : qQ) : Prop := ∃ s ps, en_at sq x s ∧ pv_ok et pr ps ∧ pv_nd pr ∧ N = (hy_join none [] (s.1.map (m_rt (ps_s ps))), m_rt (ps_s ps) s.2)
set_option maxHeartbeats 2000000 in
theorem st_89 {f d : Nat} {x : Int32} {kk : Int32 → Nat} (h : cI B C ρ P n T) (hf : 200000 ≤ f) (hc : C.2.1.length < 1000) (hk0 : ∀ c, c < 0 → kk c = 0) (har : ty_ar kk T n) (hl : pr.length ≤ 1000) (hwd : wd_I P fr0 pr) : cO B sa (sp_19 C.2.2.2.2.2.2.1 C.2.1 x pr) C ρ P n T (am_call B sa am_dfl am_tb f (d + 20) 89 [.ref (ρ.1 6), .int x, .ref (ρ.2.1 807), .int (nI fr0), .int (nI pr.length)] (hp_S sa ρ P)) := by
  have w := h.w
  have hwf := h.y.1.wf
  have hn := h.y.1.n31
  have hdi := h.y.1.2.1
  have hs := h.s (Z := True) (G := fun _ => True) fun _ _ => True.intro
  obtain ⟨f, rfl⟩ : ∃ g, f = g + 1 := ⟨f - 1, by omega⟩
  rw [am_c_89, am_s89_0]
  simp only [ho_604 w, hx_4 w, Option.bind_some, sq_has hs, am_i_some, am_c_ne]
  by_cases e1 : ∃ s, en_at C.2.1 x s
  · rw [if_pos (bP_y e1)]
    obtain ⟨s, j, rfl, j31, hj⟩ := e1
    have ej : en_at C.2.1 (nI j) s := ⟨j, rfl, j31, hj⟩
    obtain ⟨f1, f2, f3, -⟩ := hs.first hj
    have hcn := sq_conc (sa := sa) (f := f) (d := d + 18) hs hj
    obtain ⟨P1, u1, u2, u3⟩ := ty_unmark (sa := sa) (f := f + 1) (d := d + 18) w h.y.1.1 (by omega)
    have h1 := h.imo u2
    -- the rows of the sequent, as one stretch
    obtain ⟨A, L, W, lW, l1, l2, lsym, rowsym⟩ : ∃ A L W : List rwS, C.1.flatten = A ++ (L ++ W) ∧ hp_rd P1 304 (nI (sq_k C.2.1 j)) = some (nI A.length) ∧ hp_rd P1 304 (nI (sq_k C.2.1 j + s.1.length + 1)) = some (nI (A.length + L.length)) ∧ (∀ i, i ≤ s.1.length → ∀ R, C.1[sq_k C.2.1 j + i]? = some R → (∀ q ∈ R, q ∈ L)) ∧ ∀ q ∈ L, ∃ X ∈ s.1 ++ [s.2], rt T n q ∈ m_fl X := by
      have hk := sq_k_le hj
      have hlen := h.2.2.2.2.1.len
      have hcc := h1.2.2.2.2.2.2.1.2.2.2.1
      have hsp := sq_split hj
      have hkk : (sq_rows (C.2.1.take j)).length = sq_k C.2.1 j := rfl
      generalize sq_k C.2.1 j = k at *
      have hd1 : C.1 = C.1.take k ++ ((C.1.drop k).take (s.1.length + 1) ++ (C.1.drop k).drop (s.1.length + 1)) := by rw [List.take_append_drop, List.take_append_drop]
      have htk : C.1.take (k + s.1.length + 1) = C.1.take k ++ (C.1.drop k).take (s.1.length + 1) := by rw [Nat.add_assoc]; exact List.take_add
      refine ⟨(C.1.take k).flatten, ((C.1.drop k).take (s.1.length + 1)).flatten, ((C.1.drop k).drop (s.1.length + 1)).flatten, ?_, ?_, ?_, fun i hi R hR q hq => ?_, fun q hq => ?_⟩
      · conv => lhs; rw [hd1]
        rw [List.flatten_append, List.flatten_append]
      · rw [hp_rd_nI (by omega) (by omega), hcc.2.2.2.2 k (by omega)]
      · rw [hp_rd_nI (by omega) (by omega), hcc.2.2.2.2 (k + s.1.length + 1) (by omega), htk, List.flatten_append, List.length_append]
      · refine List.mem_flatten.mpr ⟨R, ?_, hq⟩
        refine List.mem_of_getElem? (i := i) ?_
        rw [List.getElem?_take_of_lt (by omega), List.getElem?_drop]
        exact hR
      · obtain ⟨R, r1, r2⟩ := List.mem_flatten.mp hq
        have hmap : ((C.1.drop k).take (s.1.length + 1)).map (fun R => R.map (rt T n)) = (s.1 ++ [s.2]).map m_fl := by
          rw [List.map_take, List.map_drop, h.2.2.2.2.1.1, hsp]
          rw [List.map_append, List.drop_append_of_le_length (by rw [List.length_map]; omega), List.drop_of_length_le (by rw [List.length_map]; omega), List.nil_append, ← List.append_assoc, List.map_append, List.take_append_of_le_length (by rw [List.length_map, List.length_append]; exact Nat.le_refl _), List.take_of_length_le (by rw [List.length_map, List.length_append]; exact Nat.le_refl _)]
        have : R.map (rt T n) ∈ ((C.1.drop k).take (s.1.length + 1)).map (fun R => R.map (rt T n)) := List.mem_map.mpr ⟨R, r1, rfl⟩
        rw [hmap] at this
        obtain ⟨X, x1, x2⟩ := List.mem_map.mp this
        exact ⟨X, x1, by rw [x2]; exact List.mem_map.mpr ⟨q, r2, rfl⟩⟩
    have hLv : ∀ q ∈ L, rv n q := fun q hq => h.2.2.2.2.2.2.2 q (by rw [lW]; simp [hq])
    obtain ⟨P2, m1, m2, m3⟩ := rw_markTypes (sa := sa) (f := f + 1) (d := d + 17) (M := fun _ => false) w h1.y.1 h1.2.2.2.2.2.2.1 (by omega) hLv (show C.1.flatten ++ [] = A ++ (L ++ W) by rw [List.append_nil]; exact lW) (fun i hi => by rw [u3 i hi]; rfl) rfl rfl
    have h2 := h1.imo m2
    obtain ⟨P3, s1, s2, s3⟩ := ty_spread (sa := sa) (f := f + 1) (d := d + 17) w h2.y.1.1 m3 (by omega)
    have h3 := h2.imo s2
    have imo3 := u2.tr (m2.tr s2)
    have s3 : ty_im P3 n (ty_mL T n L) := s3
    have r405 : ∀ {P' : hp_P}, cI B C ρ P' n T → hp_rd P' 405 (nI j) = some (nI (sq_k C.2.1 j)) := fun h' => ((h'.s (Z := True) (G := fun _ => True) fun _ _ => True.intro).first hj).1
    have hpairs := st_pairs (sa := sa) (ρ := ρ) (f0 := f + 1) (d := d + 14) (x1 := nI j) (x5 := nI (sq_k C.2.1 j + s.1.length)) (by omega) hk0 har hl pr [] [] f P3 rfl True.intro (fun i j p q _ hp => by simp at hp) h3 (im_I_0 hwf hn har s3) (hwd.imo imo3) (by omega)
    simp only [hcn, am_i_some, ho_604 w, hx_4 w, ho_600 w, Option.bind_some, hx_7 w, u1, am_v_some, ho_603 w, hr_304 w, hr_405 w, hl_405 w, r405 h1, hl_304 w, l1, nI_1, l2, hx_3 w, m1, s1]
    rcases hpairs with ⟨ps, P4, g, p1, p2, p3, p4, p5, p6, p7⟩ | ⟨p1, P4, p4, p5, p7⟩
    · refine (congrArg (fun x => cO B sa (sp_19 C.2.2.2.2.2.2.1 C.2.1 (nI j) pr) C ρ P n T x) p4).mpr ?_
      have imo4 := imo3.tr p7
      have fr4 : hp_fr st_S 0 ρ P ρ P4 := (imo4.fr (ρ := ρ)).wy.sw
      generalize hσ : ps_s ps = σ at p6
      have hwin : ∀ c v, σ c = some v → ct_S T n v := fun c v hv => by
        rw [← hσ] at hv
        obtain ⟨p, -, q2, -⟩ := pv_s_some p1 hv
        obtain ⟨vv, v1, v2⟩ := et_rd h.2.1 q2
        exact v2.S
      have hσN : ∀ c v, σ c = some v → ∃ c' l r, v = qN c' l r := fun c v hv => by
        obtain ⟨i, i1, i2⟩ := hwin c v hv
        rw [ct_at hwf hn i1] at i2
        exact ⟨_, _, _, i2.symm⟩
      generalize hHH : hy_join none [] (s.1.map (m_rt σ)) = HH
      have hcon := (h.2.2.2.2.1.2 s.2 (List.mem_of_getElem? (sq_con hj))).1
      obtain ⟨wC, tC, -⟩ := m_rt_ok (σ := σ) s.2 hcon
      have hz : zH (¬ sq_lim (ct_S T n) (m_tot (sq_rows C.2.1)) (HH, m_rt σ s.2)) (m_tot (sq_rows C.2.1)) HH := sl_H
      have hmem : ∀ N ∈ s.1, m_rt σ N ∈ HH := fun N hN => by
        rw [← hHH]
        exact hy_join_mem (List.mem_map.mpr ⟨N, hN, rfl⟩)
      have hR : ∀ N, sp_19 C.2.2.2.2.2.2.1 C.2.1 (nI j) pr N ↔ N = (HH, m_rt σ s.2) := fun N => ⟨fun ⟨s', ps', z1, z2, z3, z4⟩ => by
        obtain rfl := en_at_inj z1 ej
        rw [pv_ok_inj z2 p1, hσ, hHH] at z4
        exact z4, fun z => ⟨s, ps, ej, p1, p2, by rw [hσ, hHH]; exact z⟩⟩
      -- marked types, and what they become
      have mkG : ∀ i, i < n → ty_mL T n L i = true → q_un (ct_S T n) (HH ++ [m_rt σ s.2]) (q_sbs σ (ct T n (nI i))) := fun i hi hm => by
        obtain ⟨q, q1, q2⟩ := (ty_mL_t hwf hdi hn hLv hi).mp hm
        obtain ⟨q0, q01, q02⟩ := List.mem_map.mp q1
        obtain ⟨X, x1, x2⟩ := rowsym q0 q01
        rw [q02] at x2
        obtain ⟨a, a1, a2⟩ := hLv q0 q01
        have hq2 : q.2 = ct T n (nI a) := by rw [← q02, ← a2]; rfl
        refine Or.inr ⟨m_rt σ X, ?_, (q.1, q_sbs σ q.2), ?_, ?_⟩
        · rcases List.mem_append.mp x1 with z | z
          · exact List.mem_append.mpr (Or.inl (hmem X z))
          · rw [List.mem_singleton.mp z]
            exact List.mem_append.mpr (Or.inr (List.mem_singleton.mpr rfl))
        · rw [m_rt_fl]
          exact List.mem_map.mpr ⟨q, x2, rfl⟩
        · show q_sub _ (q_sbs σ q.2)
          rw [hq2] at q2 ⊢
          exact q_sub_sbs hk0 hσN _ _ (har a a1) (ct_lt hwf hn a1) q2
      have mkc : ∀ {i l : Nat}, i < n → l < n → ty_mL T n L i = true → q_sub (ct T n (nI l)) (ct T n (nI i)) → ty_mL T n L l = true := fun {i l} hi hl hm hq => by
        obtain ⟨q, q1, q2⟩ := (ty_mL_t hwf hdi hn hLv hi).mp hm
        exact (ty_mL_t hwf hdi hn hLv hl).mpr ⟨q, q1, q_sub_tr hq _ q2⟩
      have mkch : ∀ i, i < n → ty_mL T n L i = true → (∀ l, l < n → (T i).2.1 = nI l → ty_mL T n L l = true) ∧ ∀ l, l < n → (T i).2.2 = nI l → ty_mL T n L l = true := fun i hi hm =>
        ⟨fun l hl e => mkc hi hl hm (by rw [ct_at hwf hn hi, q_sub_N, e, ct_at hwf hn hl]; exact Or.inr (Or.inl q_sub_rf)), fun l hl e => mkc hi hl hm (by rw [ct_at hwf hn hi, q_sub_N, e, ct_at hwf hn hl]; exact Or.inr (Or.inr q_sub_rf))⟩
      have mkI : ∀ i, i < n → ((P4.2 706).2 i ≠ -1 ↔ ty_mL T n L i = true) := fun i hi => by
        obtain ⟨y1, y2⟩ := p6 i hi
        constructor
        · intro z
          cases hm : ty_mL T n L i with
          | true => rfl
          | false => exact absurd (y1 hm) z
        · intro z
          obtain ⟨a, a1, a2⟩ := (y2 z).1
          rw [a2]
          exact nI_ne_m1 (by omega)
      have hgI : ty_gI T n n (fun i => (P4.2 706).2 i) := fun i hi z => by
        have hm := (mkI i hi).mp z
        exact ⟨((p6 i hi).2 hm).1, fun l hl e => (mkI l hl).mpr ((mkch i hi hm).1 l hl e), fun l hl e => (mkI l hl).mpr ((mkch i hi hm).2 l hl e)⟩
      obtain ⟨ρ5, P5, i1, i2, i3, i4, i5, i6, i7⟩ := ty_makeImages (sa := sa) (f := f + 1) (d := d + 15) (I := fun i => (P4.2 706).2 i) w p5.y.1.1 p5.y.1.2.2 (fun i _ => rfl) hgI (by omega)
      obtain ⟨t1, t2, t3, t4, t5⟩ := ty_mi_t (G := q_un (ct_S T n) (HH ++ [m_rt σ s.2])) (M := ty_mL T n L) (σ := σ) hk0 hwf har hn mkch mkG n 0 n T (fun i => (P4.2 706).2 i) (by omega) hwf hdi h.y.1.1.1.1.2 ty_xt.rf (fun t z => Or.inl z) (fun i hi hm => (p6 i hi).1 hm) (fun i hi hm => ⟨(mkI i hi).mpr hm, fun z => ((p6 i hi).2 hm).2 (z.resolve_left (by omega))⟩)
      generalize ty_mi T n 0 n T (fun i => (P4.2 706).2 i) = R at i1 i3 i5 i6 i7 t1 t2 t3 t4 t5
      have y5 : tyI P5 R.2.1 R.2.2.1 := ⟨i3, t3, Nat.le_trans p5.y.1.2.2 (i4.2.2.2.2.2 700)⟩
      have h5 := p5.ty i2 y5 i4 t4
      have fr5 : hp_fr st_S 0 ρ P ρ5 P5 := hp_fr.tr0 fr4 i4.wy.sw
      unfold tl89
      simp only [ho_600 w, Option.bind_some, hx_7 w, i1, am_i_some, am_c_ne]
      cases hR1 : R.1 with
      | false =>
        rw [if_neg (show ¬ (false = true) by decide), if_neg (fun z => z rfl)]
        exact Or.inr ⟨fun N hN => by rw [(hR N).mp hN]; exact sl_good (t2 hR1), ρ5, P5, R.2.1, R.2.2.1, am_rz_0, h5.u, fr5.cs.up (by omega), t4⟩
      | true =>
        rw [if_pos rfl, if_pos (show (1 : Int32) ≠ 0 by decide), w_ob i4 6]
        have h0 := h5.s (Z := ¬ sq_lim (ct_S T n) (m_tot (sq_rows C.2.1)) (HH, m_rt σ s.2)) (G := q_un (ct_S T n) (HH ++ [m_rt σ s.2])) t5
        have hQ : imQ P5 R.2.1 R.2.2.1 σ (fun k => k < n ∧ ty_mL T n L k = true) := fun k ⟨k1, k2⟩ => by
          have hl6 := ty_len6 i3
          have hnn := t4.1
          refine ⟨by omega, by omega, ?_⟩
          rw [i7 hR1 k k1, ct_ext hwf t4.2 hn t4.1 (Or.inr ⟨k, k1, rfl⟩)]
          exact t1 hR1 k k1 k2
        have hLQ : ∀ i, i ≤ s.1.length → ∀ R, C.1[sq_k C.2.1 j + i]? = some R → ∀ q ∈ R, ∃ k, q.2 = nI k ∧ (k < n ∧ ty_mL T n L k = true) := fun i hi R' hR' q hq => by
          have hqL := lsym i hi R' hR' q hq
          obtain ⟨k, k1, k2⟩ := hLv q hqL
          refine ⟨k, k2, k1, (ty_mL_t hwf hdi hn hLv k1).mpr ⟨rt T n q, List.mem_map.mpr ⟨q, hqL, rfl⟩, ?_⟩⟩
          show q_sub _ (ct T n q.2)
          rw [k2, ct_at hwf hn k1]
          exact q_sub_rf
        have w5 := h5.w
        have f3' := r405' h5 hj
        simp only [ho_604 w5, hr_405 w5, hl_405 w5, f3', Option.bind_some]
        obtain ⟨ρ6, P6, b6, c1, c2, c3, c4⟩ := s_ret_loop (sa := sa) (f0 := f + 1) (d := d + 14) (σ := σ) (by omega) sl_good hj hLQ s.1 [] g ρ5 P5 [] false rfl h0 hQ rfl (by rw [hHH]; exact hz) (fun N hN => (hz.2.2 _ (hmem N hN)).1) (by omega)
        rw [hHH] at c2
        obtain ⟨x', y', ρ7, P7, b7, x1, x2, d1, d2, d3, d4⟩ := s_ret (sa := sa) (f := f + 1) (d := d + 15) c2 (by omega) sl_good (sq_con hj) c3 (hLQ s.1.length (Nat.le_refl _)) (by rw [List.nil_append]; exact sl_M)
        rw [List.nil_append] at d2
        have ad := s_add (sa := sa) (f := f + 1) (d := d + 15) d2 (by omega) wC hc sl_hM sl_tot
        have fin := s_fin hR h.y.1 ad (hp_fr.tr0 fr5 (hp_fr.tr0 (rw_st_fr c4) d3.wx.sw)).cs (by omega) t4
        rw [show sq_k C.2.1 j = sq_k C.2.1 j + ([] : List qM).length from rfl]
        refine (congrArg (fun x => cO B sa (sp_19 C.2.2.2.2.2.2.1 C.2.1 (nI j) pr) C ρ P n T x) c1).mpr ?_
        unfold tm89
        rw [w_ob c4 6]
        have w6 := c2.w
        simp only [ho_603 w6, hr_304 w6, hl_304 w6, x1, nI_1, x2, Option.bind_some, hx_3 w6, d1, am_v_some]
        rw [w_ob d3 6]
        simp only [ho_604 d2.w, Option.bind_some, hx_4 d2.w]
        exact fin
    · refine (congrArg (fun x => cO B sa (sp_19 C.2.2.2.2.2.2.1 C.2.1 (nI j) pr) C ρ P n T x) p4).mpr ?_
      have imo4 := imo3.tr p7
      refine Or.inr ⟨fun N ⟨s', ps', z1, z2, z3, z4⟩ => absurd ⟨ps', z2, z3⟩ p1, ρ, P4, n, T, am_rz_0, p5.u, ((imo4.fr (ρ := ρ)).wy.sw.cs).up (by omega), ty_xt.rf⟩
  · rw [if_neg (fun z => z (bP_n e1))]
    exact cO.no h hp_fr.rf (by omega) fun N ⟨s', ps', z1, z2, z3, z4⟩ => e1 ⟨s', z1⟩
end SP8
