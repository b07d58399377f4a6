/-! ROWS of the class, 5: copyTrading of a term, endOf -/
/-- trading of a symbol below so many binders -/
noncomputable def m_ts (bd : Bool) (c : Int32) (t : qT) (bn : Nat) (s : qS) : qS :=
  if bd = true then @ite _ (s = (c, t)) (Classical.propDecidable _) (4 * nI bn, t) s else if s.1 = 4 * nI bn then (c, t) else s
/-- trading in a term -/
noncomputable def m_tr (bd : Bool) (c : Int32) (t : qT) : qM → Nat → qM
  | .leaf, _ => .leaf
  | .inner k u _ l r, bn => mN (m_ts bd c t bn (Int32.ofNat k, u)).1 (m_ts bd c t bn (Int32.ofNat k, u)).2 (m_tr bd c t l (if Int32.ofNat k = -2 then bn + 1 else bn)) (m_tr bd c t r bn)
theorem m_tr_N {bd : Bool} {c k : Int32} {t u : qT} {l r : qM} {bn : Nat} : m_tr bd c t (mN k u l r) bn = mN (m_ts bd c t bn (k, u)).1 (m_ts bd c t bn (k, u)).2 (m_tr bd c t l (if k = -2 then bn + 1 else bn)) (m_tr bd c t r bn) := by
  unfold mN
  show mN _ _ _ _ = _
  rw [q_code]
  rfl
theorem m_tr_len {bd : Bool} {c : Int32} {t : qT} : ∀ (M : qM) (bn : Nat), (m_fl (m_tr bd c t M bn)).length = (m_fl M).length
  | .leaf, _ => rfl
  | .inner k u _ l r, bn => by
    show (m_fl (mN _ _ _ _)).length = _
    rw [m_fl_N, List.length_cons, List.length_append, m_tr_len l, m_tr_len r]
    show _ = ((Int32.ofNat k, u) :: (m_fl l ++ m_fl r)).length
    rw [List.length_cons, List.length_append]
theorem wI.ao {P P' : hp_P} {Rs : List (List rwS)} {O : List rwS} {b : Bool} {n : Nat} {T : Nat → Int32 × Int32 × Int32} {Z : Prop} {G : qT → Prop} {D : List qS} (h : wI Z G P n T Rs O b D) (k : ao 307 P P') : wI Z G P' n T Rs O b D := by
  obtain ⟨h1, h2, h3⟩ := h
  exact ⟨⟨h1.1.cg (by rw [k.1]) fun r h1 h2 => k.2.1 r (by omega), h1.2⟩, h2.ao k, h3⟩
theorem rw_st.cg {P P' : hp_P} {r : Nat} {st : List Nat} (h : rw_st P r st) (k : P'.2 r = P.2 r) : rw_st P' r st := by
  intro i x hx
  rw [k]
  exact h i x hx
theorem rx_S_307 : rx_S 307 = false := rfl
section RW5
variable {sa : Nat → Nat} {B : Nat} {Rs : List (List rwS)} {n : Nat} {T : Nat → Int32 × Int32 × Int32} {Z : Prop} {G : qT → Prop}
def bI (b : Bool) : Int32 := if b = true then 1 else 0
theorem w_trade_bad {ρ : hp_L} {P : hp_P} {O : List rwS} {D : List qS} {cl : am_F} {f : Nat} {x2 x3 x4 x5 x6 x7 x8 : Int32} (w : hp_w B ρ) (h : wI Z G P n T Rs O true D) :
    am_go B sa am_dfl cl am_r56 (f + 1) 9 [(0, .ref (ρ.1 3)), (2, .int x2), (3, .int x3), (4, .int x4), (5, .int x5), (6, .int x6), (7, .int x7), (8, .int x8)] [] (hp_S sa ρ P) = some (none, hp_S sa ρ P) := by
  rw [am_s56_9]
  simp only [rw_flag w h.2.1, Option.bind_some, am_c_ge, am_c_ne]
  by_cases e : x2 ≤ x8
  · rw [if_pos e]
  · rw [if_neg e, if_pos (by decide)]
theorem w_trade_sym {ρ : hp_L} {P : hp_P} {O : List rwS} {D : List qS} {f0 d f bn e k6 : Nat} {bd : Bool} {c v : Int32} {t : qT} {s : rwS} {L A W : List rwS} (hg : ¬ q_good G → Z) (hv : pl n T v t) (w : hp_w B ρ) (h : wI Z G P n T Rs O false D) (hX : Rs.flatten ++ O = A ++ (s :: L ++ W)) (he : A.length + (s :: L).length ≤ e) (he2 : e ≤ 24000) (hz : 4000 < D.length + 1 → Z) :
    ∃ (ρ' : hp_L) (P' : hp_P) (O' : List rwS) (b' : Bool), am_go B sa am_dfl (am_call B sa am_dfl am_tb (f0 + 2) (d + 3)) am_r56 (f + 1) 9 [(0, .ref (ρ.1 3)), (2, .int (nI e)), (3, .int (bI bd)), (4, .int c), (5, .int v), (6, .int (nI k6)), (7, .int (nI bn)), (8, .int (nI A.length))] [] (hp_S sa ρ P) =
      am_go B sa am_dfl (am_call B sa am_dfl am_tb (f0 + 2) (d + 3)) am_r56 f 108 [(0, .ref (ρ.1 3)), (2, .int (nI e)), (3, .int (bI bd)), (4, .int c), (5, .int v), (6, .int (nI k6)), (7, .int (nI bn)), (8, .int (nI A.length)), (9, .int s.1)] [] (hp_S sa ρ' P') ∧ hp_w B ρ' ∧ wI Z G P' n T Rs O' b' (D ++ [m_ts bd c t bn (rt T n s)]) ∧ hp_fr rx_S 0 ρ P ρ' P' ∧ ∃ E, O' = O ++ E := by
  obtain ⟨r1, r2, hXl, hX', -, hen, hA1⟩ := rw_seg h.2.1 hX
  have hrv : rv n s := h.2.2.1 s (by rw [hX]; simp)
  have hge : (nI e ≤ nI A.length) = False := eq_false (nI_ge (by simp only [List.length_cons] at he; omega) (by omega))
  have hn31 := h.1.1.n31
  have key : ∀ (c1 v1 : Int32) (t1 : qT), pl n T v1 t1 → (c1, t1) = m_ts bd c t bn (rt T n s) →
      (∀ ρ' P', am_call B sa am_dfl am_tb (f0 + 2) (d + 3) 51 [.ref (ρ.1 3), .int c1, .int v1] (hp_S sa ρ P) = some (none, hp_S sa ρ' P') → am_go B sa am_dfl (am_call B sa am_dfl am_tb (f0 + 2) (d + 3)) am_r56 (f + 1) 9 [(0, .ref (ρ.1 3)), (2, .int (nI e)), (3, .int (bI bd)), (4, .int c), (5, .int v), (6, .int (nI k6)), (7, .int (nI bn)), (8, .int (nI A.length))] [] (hp_S sa ρ P) =
      am_go B sa am_dfl (am_call B sa am_dfl am_tb (f0 + 2) (d + 3)) am_r56 f 108 [(0, .ref (ρ.1 3)), (2, .int (nI e)), (3, .int (bI bd)), (4, .int c), (5, .int v), (6, .int (nI k6)), (7, .int (nI bn)), (8, .int (nI A.length)), (9, .int s.1)] [] (hp_S sa ρ' P')) →
      ∃ (ρ' : hp_L) (P' : hp_P) (O' : List rwS) (b' : Bool), am_go B sa am_dfl (am_call B sa am_dfl am_tb (f0 + 2) (d + 3)) am_r56 (f + 1) 9 [(0, .ref (ρ.1 3)), (2, .int (nI e)), (3, .int (bI bd)), (4, .int c), (5, .int v), (6, .int (nI k6)), (7, .int (nI bn)), (8, .int (nI A.length))] [] (hp_S sa ρ P) =
      am_go B sa am_dfl (am_call B sa am_dfl am_tb (f0 + 2) (d + 3)) am_r56 f 108 [(0, .ref (ρ.1 3)), (2, .int (nI e)), (3, .int (bI bd)), (4, .int c), (5, .int v), (6, .int (nI k6)), (7, .int (nI bn)), (8, .int (nI A.length)), (9, .int s.1)] [] (hp_S sa ρ' P') ∧ hp_w B ρ' ∧ wI Z G P' n T Rs O' b' (D ++ [m_ts bd c t bn (rt T n s)]) ∧ hp_fr rx_S 0 ρ P ρ' P' ∧ ∃ E, O' = O ++ E := by
    intro c1 v1 t1 hp1 hm hk
    obtain ⟨ρ1, P1, O1, b1, c1', c2, c3, c4, c5, c6, -⟩ := w_write (sa := sa) (f := f0) (d := d) (c := c1) (v := v1) w h (Or.inl hp1) hg hz
    rw [hm] at c3
    refine ⟨ρ1, P1, O1, b1, hk ρ1 P1 c1', c2, c3, c4, ?_⟩
    cases b1 with
    | true => exact ⟨[], by rw [c6 rfl, List.append_nil]⟩
    | false => exact ⟨[(c1, v1)], (c5 rfl).1⟩
  have hfl : am_geti (hp_S sa ρ P) (ρ.1 3) 3 6 = some 0 := rw_flag w h.2.1
  have same : ∀ {x : Int32 × qT}, (s.1, (rt T n s).2) = x → (s.1, (rt T n s).2) = x := id
  cases bd with
  | true =>
    by_cases e1 : s.1 = c ∧ s.2 = v
    · refine key (4 * nI bn) v t hv ?_ ?_
      · unfold m_ts
        rw [if_pos rfl, if_pos]
        show (s.1, ct T n s.2) = (c, t)
        rw [e1.1, e1.2, hv.ct]
      · intro ρ' P' hc
        rw [am_s56_9]
        have h0 : (4 * nI bn + 0 : Int32) = 4 * nI bn := by grind
        simp only [am_c_ge, hge, if_false, hfl, Option.bind_some, am_c_ne, am_c_eq, hr_301 w, hl_301 w, hr_302 w, hl_302 w, r1, r2, hx_3 w, h0, hc, am_v_some]
        rw [if_neg (show ¬ ((0 : Int32) ≠ 0) by decide), if_neg (show ¬ (bI true = 0) by decide), if_neg (fun z => z e1.1), if_neg (fun z => z e1.2)]
    · refine key s.1 s.2 (rt T n s).2 hrv.pl ?_ ?_
      · unfold m_ts
        rw [if_pos rfl, if_neg]
        · rfl
        · intro z
          have z1 : s.1 = c := (Prod.mk.inj z).1
          have z2 : ct T n s.2 = t := (Prod.mk.inj z).2
          exact e1 ⟨z1, (hrv.pl (T := T)).eq (by show pl n T v (ct T n s.2); rw [z2]; exact hv) h.1.1.wf h.1.1.2.1 hn31⟩
      · intro ρ' P' hc
        rw [am_s56_9]
        simp only [am_c_ge, hge, if_false, hfl, Option.bind_some, am_c_ne, am_c_eq, hr_301 w, hl_301 w, hr_302 w, hl_302 w, r1, r2, hx_3 w, hc, am_v_some]
        rw [if_neg (show ¬ ((0 : Int32) ≠ 0) by decide), if_neg (show ¬ (bI true = 0) by decide), if_pos (show bI true ≠ 0 by decide)]
        by_cases e2 : s.1 = c
        · rw [if_neg (fun z => z e2), if_pos (fun z => e1 ⟨e2, z⟩)]
        · rw [if_pos e2]
  | false =>
    have h0 : (4 * nI bn + 0 : Int32) = 4 * nI bn := by grind
    by_cases e1 : s.1 = 4 * nI bn
    · refine key c v t hv ?_ ?_
      · unfold m_ts
        rw [if_neg (by decide), if_pos]
        exact e1
      · intro ρ' P' hc
        rw [am_s56_9]
        simp only [am_c_ge, hge, if_false, hfl, Option.bind_some, am_c_ne, am_c_eq, hr_301 w, hl_301 w, r1, hx_3 w, h0, hc, am_v_some]
        rw [if_neg (show ¬ ((0 : Int32) ≠ 0) by decide), if_pos (show bI false = 0 from rfl), if_neg (fun z => z rfl), if_neg (fun z => z e1)]
    · refine key s.1 s.2 (rt T n s).2 hrv.pl ?_ ?_
      · unfold m_ts
        rw [if_neg (by decide), if_neg]
        · rfl
        · exact e1
      · intro ρ' P' hc
        rw [am_s56_9]
        simp only [am_c_ge, hge, if_false, hfl, Option.bind_some, am_c_ne, am_c_eq, hr_301 w, hl_301 w, hr_302 w, hl_302 w, r1, r2, hx_3 w, h0, hc, am_v_some]
        rw [if_neg (show ¬ ((0 : Int32) ≠ 0) by decide), if_pos (show bI false = 0 from rfl), if_neg (fun z => z rfl), if_pos e1]
theorem w_trade_loop {f0 d o e : Nat} {bd : Bool} {c v : Int32} {t : qT} (hg : ¬ q_good G → Z) (hv : pl n T v t) (he2 : e ≤ 24000) : ∀ M, m_wf M → ∀ (L A W : List rwS) (st : List Nat) (bn f : Nat) (ρ : hp_L) (P : hp_P) (O : List rwS) (b : Bool) (D : List qS), hp_w B ρ → ρ.1 3 = o → wI Z G P n T Rs O b D → Rs.flatten ++ O = A ++ (L ++ W) → L.map (rt T n) = m_fl M → (b = false → rw_st P 307 st) → st.length + m_ht M ≤ 121 → A.length + L.length ≤ e → (4000 < (D ++ m_fl (m_tr bd c t M bn)).length → Z) →
    ∃ (ρ' : hp_L) (P' : hp_P) (O' : List rwS) (b' : Bool) (bn' : Nat), am_go B sa am_dfl (am_call B sa am_dfl am_tb (f0 + 2) (d + 3)) am_r56 (f + 1 + 2 * L.length) 9 [(0, .ref o), (2, .int (nI e)), (3, .int (bI bd)), (4, .int c), (5, .int v), (6, .int (nI st.length)), (7, .int (nI bn)), (8, .int (nI A.length))] [] (hp_S sa ρ P) =
      am_go B sa am_dfl (am_call B sa am_dfl am_tb (f0 + 2) (d + 3)) am_r56 (f + 1) 9 [(0, .ref o), (2, .int (nI e)), (3, .int (bI bd)), (4, .int c), (5, .int v), (6, .int (nI st.tail.length)), (7, .int (nI bn')), (8, .int (nI (A.length + L.length)))] [] (hp_S sa ρ' P') ∧ hp_w B ρ' ∧ wI Z G P' n T Rs O' b' (D ++ m_fl (m_tr bd c t M bn)) ∧ hp_fr rw_S 0 ρ P ρ' P' ∧ (b' = false → rw_st P' 307 st.tail) ∧ (∀ p q, st = p :: q → bn' = p) ∧ ∃ E, O' = O ++ E := by
  have bad : ∀ (M : qM) (L A W : List rwS) (st : List Nat) (bn f : Nat) (ρ : hp_L) (P : hp_P) (O : List rwS) (D : List qS), hp_w B ρ → ρ.1 3 = o → wI Z G P n T Rs O true D → Rs.flatten ++ O = A ++ (L ++ W) → 
    ∃ (ρ' : hp_L) (P' : hp_P) (O' : List rwS) (b' : Bool) (bn' : Nat), am_go B sa am_dfl (am_call B sa am_dfl am_tb (f0 + 2) (d + 3)) am_r56 (f + 1 + 2 * L.length) 9 [(0, .ref o), (2, .int (nI e)), (3, .int (bI bd)), (4, .int c), (5, .int v), (6, .int (nI st.length)), (7, .int (nI bn)), (8, .int (nI A.length))] [] (hp_S sa ρ P) =
      am_go B sa am_dfl (am_call B sa am_dfl am_tb (f0 + 2) (d + 3)) am_r56 (f + 1) 9 [(0, .ref o), (2, .int (nI e)), (3, .int (bI bd)), (4, .int c), (5, .int v), (6, .int (nI st.tail.length)), (7, .int (nI bn')), (8, .int (nI (A.length + L.length)))] [] (hp_S sa ρ' P') ∧ hp_w B ρ' ∧ wI Z G P' n T Rs O' b' (D ++ m_fl (m_tr bd c t M bn)) ∧ hp_fr rw_S 0 ρ P ρ' P' ∧ (b' = false → rw_st P' 307 st.tail) ∧ (∀ p q, st = p :: q → bn' = p) ∧ ∃ E, O' = O ++ E := by
    intro M L A W st bn f ρ P O D w ho h hX
    subst ho
    refine ⟨ρ, P, O, true, st.headD 0, ?_, w, h.badD, hp_fr.rf, fun z => by (cases z), fun p q e => by rw [e]; rfl, [], by rw [List.append_nil]⟩
    rw [show f + 1 + 2 * L.length = (f + 2 * L.length) + 1 by omega, w_trade_bad w h, w_trade_bad w h]
  refine m_wf_cases ?_ ?_ ?_
  · intro u l r w1 w2 hty ihl ihr L A W st bn f ρ P O b D w ho h hX hL hst hht he hz
    cases b with
    | true => exact bad _ L A W st bn f ρ P O D w ho h hX
    | false =>
      subst ho
      rw [m_fl_N] at hL
      cases L with
      | nil => cases hL
      | cons s L =>
        rw [List.map_cons] at hL
        obtain ⟨hs, hL⟩ := List.cons.inj hL
        obtain ⟨L1, L2, rfl, hL1, hL2⟩ := List.map_eq_append_iff.mp hL
        have hs1 : s.1 = -1 := (Prod.mk.inj hs).1
        have hms : m_ts bd c t bn (rt T n s) = m_ts bd c t bn (-1, u) := by rw [hs]
        have hD : D ++ m_fl (m_tr bd c t (mN (-1) u l r) bn) = ((D ++ [m_ts bd c t bn (rt T n s)]) ++ m_fl (m_tr bd c t l bn)) ++ m_fl (m_tr bd c t r bn) := by
          rw [m_tr_N, m_fl_N, hms]
          simp only [if_neg (show ¬ ((-1 : Int32) = -2) by decide), List.append_assoc, List.singleton_append, List.cons_append, List.nil_append]
        rw [hD] at hz
        rw [m_ht_N] at hht
        simp only [List.length_cons, List.length_append] at he hz ⊢
        obtain ⟨ρ1, P1, O1, b1, c1, c2, c3, c4, E1, rfl⟩ := w_trade_sym (sa := sa) (f0 := f0) (d := d) (f := f + 1 + 2 * L1.length + 2 * L2.length + 1) (bn := bn) (e := e) (k6 := st.length) (bd := bd) (c := c) hg hv w h hX (by simp only [List.length_cons, List.length_append]; omega) he2 (fun z => hz (by simp only [List.length_nil]; omega))
        have hl0 := m_ht_pos w1
        have c7 : hp_ck P1 307 (nI st.length) = some () := hp_ck_nI (by rw [c3.2.1.2.2.2.2.1.2]; omega) (by omega)
        have hst1 : rw_st P1 307 st := (hst rfl).cg (c4.2.1 307 rx_S_307).2.1
        have hA1 : (A ++ [s]).length = A.length + 1 := by simp
        obtain ⟨ρ2, P2, O2, b2, bn2, i1, i2, i3, i4, i5, i6, E2, rfl⟩ := ihl L1 (A ++ [s]) (L2 ++ W ++ E1) (bn :: st) bn (f + 2 * L2.length) ρ1 (hp_sA P1 307 (nI st.length) (nI bn)) (O ++ E1) b1 _ c2 (by rw [c4.1]) (c3.ao ao.sA) (by rw [← List.append_assoc, hX]; simp) hL1 (fun _ => rw_st_push hst1 (by omega)) (by simp only [List.length_cons]; omega) (by rw [hA1]; omega) (fun z => hz (by simp only [List.length_append, List.length_cons, List.length_nil] at z ⊢; omega))
        obtain ⟨ρ3, P3, O3, b3, bn3, j1, j2, j3, j4, j5, j6, E3, rfl⟩ := ihr L2 (A ++ [s] ++ L1) (W ++ E1 ++ E2) st bn f ρ2 P2 (O ++ E1 ++ E2) b2 _ i2 (by rw [i4.1, c4.1]) i3 (by rw [← List.append_assoc, ← List.append_assoc, hX]; simp) hL2 i5 (by omega) (by simp only [List.length_append, hA1]; omega) (fun z => hz (by simp only [List.length_append, List.length_cons, List.length_nil] at z ⊢; omega))
        rw [hD]
        refine ⟨ρ3, P3, _, b3, bn3, ?_, j2, j3, hp_fr.tr0 c4.xw (hp_fr.tr0 (hp_fr.sA (rw_S_t (by decide))) (hp_fr.tr0 i4 j4)), j5, j6, E1 ++ E2 ++ E3, by simp⟩
        rw [show f + 1 + 2 * (L1.length + L2.length + 1) = f + 1 + 2 * L1.length + 2 * L2.length + 1 + 1 by omega, c1, am_s56_108]
        rw [i6 bn st rfl] at i1
        rw [show f + 2 * L2.length + 1 + 2 * L1.length = f + 1 + 2 * L1.length + 2 * L2.length by omega, hA1] at i1
        have ob := w_ob c4 3
        have e1 : (A ++ [s] ++ L1).length = A.length + 1 + L1.length := by simp only [List.length_append, List.length_cons, List.length_nil]
        rw [e1] at j1
        simp only [hs1, am_c_ne]
        rw [if_neg (fun z => z rfl), ob]
        simp only [hr_307 c2, Option.bind_some, ht_307 c2, c7, nI_1]
        rw [ob] at i1 j1
        refine i1.trans ?_
        rw [show f + 2 * L2.length + 1 = f + 1 + 2 * L2.length by omega]
        refine j1.trans ?_
        rw [show A.length + 1 + L1.length + L2.length = A.length + (L1.length + L2.length + 1) by omega]
  · intro a l w1 ihl L A W st bn f ρ P O b D w ho h hX hL hst hht he hz
    cases b with
    | true => exact bad _ L A W st bn f ρ P O D w ho h hX
    | false =>
      subst ho
      rw [m_fl_N] at hL
      cases L with
      | nil => cases hL
      | cons s L =>
        rw [List.map_cons] at hL
        obtain ⟨hs, hL⟩ := List.cons.inj hL
        replace hL : L.map (rt T n) = m_fl l := by rw [hL]; exact List.append_nil _
        have hs1 : s.1 = -2 := (Prod.mk.inj hs).1
        have hms : m_ts bd c t bn (rt T n s) = m_ts bd c t bn (-2, qF a (m_ty l)) := by rw [hs]
        have hD : D ++ m_fl (m_tr bd c t (mN (-2) (qF a (m_ty l)) l .leaf) bn) = (D ++ [m_ts bd c t bn (rt T n s)]) ++ m_fl (m_tr bd c t l (bn + 1)) := by
          rw [m_tr_N, m_fl_N, hms]
          show D ++ (_ :: (_ ++ [])) = _
          simp only [if_true, List.append_assoc, List.singleton_append, List.append_nil]
        rw [hD] at hz
        rw [m_ht_N] at hht
        simp only [List.length_cons, List.length_append] at he hz ⊢
        obtain ⟨ρ1, P1, O1, b1, c1, c2, c3, c4, E1, rfl⟩ := w_trade_sym (sa := sa) (f0 := f0) (d := d) (f := f + 1 + 2 * L.length + 1) (bn := bn) (e := e) (k6 := st.length) (bd := bd) (c := c) hg hv w h hX (by simp only [List.length_cons]; omega) he2 (fun z => hz (by simp only [List.length_nil]; omega))
        have hst1 : rw_st P1 307 st := (hst rfl).cg (c4.2.1 307 rx_S_307).2.1
        have hA1 : (A ++ [s]).length = A.length + 1 := by simp
        obtain ⟨ρ2, P2, O2, b2, bn2, i1, i2, i3, i4, i5, i6, E2, rfl⟩ := ihl L (A ++ [s]) (W ++ E1) st (bn + 1) f ρ1 P1 (O ++ E1) b1 _ c2 (by rw [c4.1]) c3 (by rw [← List.append_assoc, hX]; simp) hL (fun _ => hst1) (by omega) (by rw [hA1]; omega) (fun z => hz (by simp only [List.length_append, List.length_cons, List.length_nil] at z ⊢; omega))
        rw [hD]
        refine ⟨ρ2, P2, _, b2, bn2, ?_, i2, i3, hp_fr.tr0 c4.xw i4, i5, i6, E1 ++ E2, by simp⟩
        rw [show f + 1 + 2 * (L.length + 1) = f + 1 + 2 * L.length + 1 + 1 by omega, c1, am_s56_108]
        rw [hA1] at i1
        simp only [hs1, am_c_ne]
        rw [if_pos (show (-2 : Int32) ≠ -1 by decide), if_neg (fun z => z rfl)]
        simp only [nI_1]
        refine i1.trans ?_
        rw [show A.length + 1 + L.length = A.length + (L.length + 1) by omega]
  · intro k u hk L A W st bn f ρ P O b D w ho h hX hL hst hht he hz
    cases b with
    | true => exact bad _ L A W st bn f ρ P O D w ho h hX
    | false =>
      subst ho
      rw [m_fl_N] at hL
      cases L with
      | nil => cases hL
      | cons s L =>
        rw [List.map_cons] at hL
        obtain ⟨hs, hL⟩ := List.cons.inj hL
        obtain rfl : L = [] := List.map_eq_nil_iff.mp hL
        have hs1 : s.1 = k := (Prod.mk.inj hs).1
        have hms : m_ts bd c t bn (rt T n s) = m_ts bd c t bn (k, u) := by rw [hs]
        have hD : D ++ m_fl (m_tr bd c t (mN k u .leaf .leaf) bn) = D ++ [m_ts bd c t bn (rt T n s)] := by
          rw [m_tr_N, m_fl_N, hms]
          rfl
        rw [hD] at hz
        simp only [List.length_cons, List.length_append, List.length_nil] at he hz ⊢
        obtain ⟨ρ1, P1, O1, b1, c1, c2, c3, c4, E1, rfl⟩ := w_trade_sym (sa := sa) (f0 := f0) (d := d) (f := f + 1 + 1) (bn := bn) (e := e) (k6 := st.length) (bd := bd) (c := c) hg hv w h hX (by simp only [List.length_cons, List.length_nil]; omega) he2 (fun z => hz (by omega))
        have hst1 : rw_st P1 307 st := (hst rfl).cg (c4.2.1 307 rx_S_307).2.1
        have hk1 := m_lf_ne hk
        have ob := w_ob c4 3
        rw [m_ht_N] at hht
        rw [hD, show f + 1 + 2 * (0 + 1) = f + 1 + 1 + 1 by omega, c1, am_s56_108]
        simp only [hs1, am_c_ne, am_c_le, nI_1]
        rw [if_pos hk1.1, if_pos hk1.2]
        cases st with
        | nil =>
          refine ⟨ρ1, P1, _, b1, bn, ?_, c2, c3, c4.xw, fun _ => hst1, fun p q e => by (cases e), E1, rfl⟩
          rw [if_pos (by decide)]
          rfl
        | cons p st =>
          obtain ⟨q1, q2⟩ := rw_st_pop hst1
          simp only [List.length_cons] at hht
          refine ⟨ρ1, P1, _, b1, p, ?_, c2, c3, c4.xw, fun _ => q1, fun p' q e => (List.cons.inj e).1, E1, rfl⟩
          have hn0 : (nI (p :: st).length ≤ 0) = False := eq_false (nI_nle (by simp) (by simp only [List.length_cons]; omega))
          have hpre : nI (p :: st).length + Int32.ofInt (-1) = nI st.length := by rw [i_addm1, List.length_cons, nI_pred]
          have r7 : hp_rd P1 307 (nI st.length) = some (nI p) := by rw [hp_rd_nI (by rw [c3.2.1.2.2.2.2.1.2]; omega) (by omega), q2]
          rw [if_neg (by rw [hn0]; exact id), ob]
          simp only [hr_307 c2, hl_307 c2, Option.bind_some, hpre, r7]
          rfl
/-- Rows.copyTrading of a term -/
theorem w_trade {ρ : hp_L} {P : hp_P} {O : List rwS} {b : Bool} {D : List qS} {f d : Nat} {bd : Bool} {c v : Int32} {t : qT} {M : qM} {L A W : List rwS} (w : hp_w B ρ) (h : wI Z G P n T Rs O b D) (hf : 60000 ≤ f) (hX : Rs.flatten ++ O = A ++ (L ++ W)) (hM : m_wf M) (hL : L.map (rt T n) = m_fl M) (hht : m_ht M ≤ 120) (hg : ¬ q_good G → Z) (hv : pl n T v t) (hz : 4000 < (D ++ m_fl (m_tr bd c t M 0)).length → Z) {x y : Int32} (hx : x = nI A.length) (hy : y = nI (A.length + L.length)) :
    ∃ (ρ' : hp_L) (P' : hp_P) (O' : List rwS) (b' : Bool), am_call B sa am_dfl am_tb f (d + 4) 56 [.ref (ρ.1 3), .int x, .int y, .int (bI bd), .int c, .int v] (hp_S sa ρ P) = some (none, hp_S sa ρ' P') ∧ hp_w B ρ' ∧ wI Z G P' n T Rs O' b' (D ++ m_fl (m_tr bd c t M 0)) ∧ hp_fr rw_S 0 ρ P ρ' P' ∧ ∃ E, O' = O ++ E := by
  have hl := h.2.1.Xle
  rw [hX] at hl
  simp only [List.length_append] at hl
  obtain ⟨f1, rfl⟩ : ∃ g, f = g + 1 + 2 * L.length + 2 := ⟨f - 3 - 2 * L.length, by omega⟩
  obtain ⟨ρ1, P1, O1, b1, bn1, i1, i2, i3, i4, i5, i6, E, rfl⟩ := w_trade_loop (sa := sa) (f0 := f1 + 1 + 2 * L.length) (d := d) (o := ρ.1 3) (e := A.length + L.length) (bd := bd) (c := c) hg hv (by omega) M hM L A W [] 0 (f1 + 1) ρ P O b D w rfl h hX hL (fun _ i x hx => by simp at hx) (by simp only [List.length_nil]; omega) (Nat.le_refl _) hz
  refine ⟨ρ1, P1, _, b1, ?_, i2, i3, i4, E, rfl⟩
  rw [am_c_56, show f1 + 1 + 2 * L.length + 2 = (f1 + 1 + 1 + 2 * L.length) + 1 by omega, am_s56_0, hx, hy]
  rw [show f1 + 1 + 2 * L.length + 2 = (f1 + 1 + 1 + 2 * L.length) + 1 by omega] at i1
  refine i1.trans ?_
  rw [am_s56_9]
  simp only [am_c_ge, Int32.le_refl, if_true]
/-- endOf goes over a term -/
theorem rw_end_loop {cl : am_F} {ρ : hp_L} {P : hp_P} {O : List rwS} {b : Bool} (w : hp_w B ρ) (h : rwI P Rs O b) : ∀ M, m_wf M → ∀ (L A W : List rwS) (k f : Nat), Rs.flatten ++ O = A ++ (L ++ W) → L.map (rt T n) = m_fl M → k + L.length ≤ 60000 →
    am_go B sa am_dfl cl am_r62 (f + L.length) 4 [(0, .ref (ρ.1 3)), (2, .int (nI (k + 1))), (3, .int (nI A.length))] [] (hp_S sa ρ P) = am_go B sa am_dfl cl am_r62 f 4 [(0, .ref (ρ.1 3)), (2, .int (nI k)), (3, .int (nI (A.length + L.length)))] [] (hp_S sa ρ P) := by
  have stp : ∀ (s : rwS) (L A W : List rwS) (k f : Nat), Rs.flatten ++ O = A ++ (s :: L ++ W) → k ≤ 60000 → am_go B sa am_dfl cl am_r62 (f + 1) 4 [(0, .ref (ρ.1 3)), (2, .int (nI (k + 1))), (3, .int (nI A.length))] [] (hp_S sa ρ P) = am_go B sa am_dfl cl am_r62 f 4 [(0, .ref (ρ.1 3)), (2, .int (if s.1 = -1 then nI (k + 2) else if s.1 = -2 then nI (k + 1) else nI k)), (3, .int (nI (A.length + 1)))] [] (hp_S sa ρ P) := by
    intro s L A W k f hX hk
    obtain ⟨r1, r2, hXl, hX1, hge, hen, hA1⟩ := rw_seg h hX
    have hn0 : (nI (k + 1) ≤ 0) = False := eq_false (nI_nle (by omega) (by omega))
    have hlen := h.Xle
    have hl2 : A.length < (Rs.flatten ++ O).length := by rw [hX]; simp only [List.length_append, List.length_cons]; omega
    have hge2 : (nI (Rs.flatten ++ O).length ≤ nI A.length) = False := eq_false (nI_ge hl2 (by omega))
    rw [am_s62_4]
    simp only [am_c_le, hn0, if_false, hg_303 w, Option.bind_some, h.1, am_c_ge, hge2, hr_301 w, hl_301 w, r1, am_c_ne, am_c_eq, nI_1, i_addm1, nI_pred]
    by_cases e1 : s.1 = -1
    · rw [if_neg (fun z => z e1), if_pos e1]
    · rw [if_pos e1, if_neg e1]
      by_cases e2 : s.1 = -2
      · rw [if_pos e2, if_pos e2]
      · rw [if_neg e2, if_neg e2]
  refine m_wf_cases ?_ ?_ ?_
  · intro u l r w1 w2 _ ihl ihr L A W k f hX hL hk2
    rw [m_fl_N] at hL
    cases L with
    | nil => cases hL
    | cons s L =>
      rw [List.map_cons] at hL
      obtain ⟨hs, hL⟩ := List.cons.inj hL
      obtain ⟨L1, L2, rfl, hL1, hL2⟩ := List.map_eq_append_iff.mp hL
      have hs1 : s.1 = -1 := (Prod.mk.inj hs).1
      simp only [List.length_cons, List.length_append] at hk2 ⊢
      rw [show f + (L1.length + L2.length + 1) = (f + L2.length + L1.length) + 1 by omega, stp s (L1 ++ L2) A W k _ hX (by omega), if_pos hs1]
      have hA1 : (A ++ [s]).length = A.length + 1 := by simp
      have i1 := ihl L1 (A ++ [s]) (L2 ++ W) (k + 1) (f + L2.length) (by rw [hX]; simp) hL1 (by omega)
      have i2 := ihr L2 (A ++ [s] ++ L1) W k f (by rw [hX]; simp) hL2 (by omega)
      rw [hA1] at i1
      rw [List.length_append, hA1] at i2
      rw [i1, i2, show A.length + 1 + L1.length + L2.length = A.length + (L1.length + L2.length + 1) by omega]
  · intro a l w1 ihl L A W k f hX hL hk2
    rw [m_fl_N] at hL
    cases L with
    | nil => cases hL
    | cons s L =>
      rw [List.map_cons] at hL
      obtain ⟨hs, hL⟩ := List.cons.inj hL
      replace hL : L.map (rt T n) = m_fl l := by rw [hL]; exact List.append_nil _
      have hs1 : s.1 = -2 := (Prod.mk.inj hs).1
      simp only [List.length_cons] at hk2 ⊢
      rw [show f + (L.length + 1) = (f + L.length) + 1 by omega, stp s L A W k _ hX (by omega), hs1, if_neg (by decide), if_pos rfl]
      have hA1 : (A ++ [s]).length = A.length + 1 := by simp
      have i1 := ihl L (A ++ [s]) W k f (by rw [hX]; simp) hL (by omega)
      rw [hA1] at i1
      rw [i1, show A.length + 1 + L.length = A.length + (L.length + 1) by omega]
  · intro c u hk1 L A W k f hX hL hk2
    rw [m_fl_N] at hL
    cases L with
    | nil => cases hL
    | cons s L =>
      rw [List.map_cons] at hL
      obtain ⟨hs, hL⟩ := List.cons.inj hL
      obtain rfl : L = [] := List.map_eq_nil_iff.mp hL
      have hs1 : s.1 = c := (Prod.mk.inj hs).1
      have hne := m_lf_ne hk1
      simp only [List.length_cons, List.length_nil] at hk2 ⊢
      rw [stp s [] A W k _ hX (by omega), hs1, if_neg hne.1, if_neg hne.2]
end RW5
