/-! ENTRIES of the class, 3: writeTo, bindsType -/
section EN3
variable {sa : Nat → Nat} {B : Nat} {Rs : List (List rwS)} {n : Nat} {T : Nat → Int32 × Int32 × Int32} {Z : Prop} {G : qT → Prop} {et : List qT} {em : List qM}
theorem enI.cg2 {P P' : hp_P} (h : enI P n T et em) (h0 : P'.1 103 = P.1 103) (h1 : P'.1 111 = P.1 111) (h2 : ∀ r, 102 ≤ r → r ≤ 111 → P'.2 r = P.2 r) (h3 : (P'.2 112).1 = (P.2 112).1) (h4 : (P'.2 113).1 = (P.2 113).1) : enI P' n T et em := by
  unfold enI en_row
  rw [h0, h1, h2 102 (by decide) (by decide), h2 104 (by decide) (by decide), h2 105 (by decide) (by decide), h2 106 (by decide) (by decide), h2 107 (by decide) (by decide), h2 108 (by decide) (by decide), h2 109 (by decide) (by decide), h2 110 (by decide) (by decide), h3, h4]
  refine ⟨h.1, ⟨h.2.1.1, ?_, h.2.1.2.2⟩, h.2.2⟩
  obtain ⟨len, a1, a2, a3, a4⟩ := h.2.1.2.1
  exact ⟨len, a1, a2, a3, fun r b1 b2 => by rw [h2 r (by omega) (by omega)]; exact a4 r b1 b2⟩
theorem enI.s12 {P : hp_P} {i v : Int32} (h : enI P n T et em) : enI (hp_sA P 112 i v) n T et em := h.cg2 rfl rfl (fun r _ _ => hA_ne (by omega)) hA_len (by rw [hA_len])
theorem enI.s13 {P : hp_P} {i v : Int32} (h : enI P n T et em) : enI (hp_sA P 113 i v) n T et em := h.cg2 rfl rfl (fun r _ _ => hA_ne (by omega)) (by rw [hA_len]) hA_len
/-- the roles of what is written, and of the way through a term -/
def wn_S : Nat → Bool := fun r => rx_S r || decide (r = 112)
theorem wn_S_x {r : Nat} (h : wn_S r = false) : rx_S r = false := (Bool.or_eq_false_iff.mp h).1
theorem wn_S_12 : wn_S 112 = true := rfl
theorem wI.s12 {P : hp_P} {O : List rwS} {b : Bool} {D : List qS} {i v : Int32} (h : wI Z G P n T Rs O b D) : wI Z G (hp_sA P 112 i v) n T Rs O b D := by
  obtain ⟨h1, h2, h3⟩ := h
  exact ⟨⟨h1.1.cg rfl fun r a b => hA_ne (by omega), h1.2⟩, h2.cg fun r a b => ⟨rfl, hA_ne (by omega)⟩, h3⟩
theorem rx_en {r : Nat} (_ : 102 ≤ r) (h2 : r ≤ 113) : rx_S r = false := by
  unfold rx_S
  exact decide_eq_false (by omega)
theorem w_to_bad {ρ : hp_L} {P : hp_P} {O : List rwS} {D : List qS} {cl : am_F} {f o1 : Nat} {x3 x4 : Int32} (w : hp_w B ρ) (h : wI Z G P n T Rs O true D) :
    am_go B sa am_dfl cl am_r47 (f + 1) 12 [(0, .ref o1), (1, .ref (ρ.1 3)), (3, .int x3), (4, .int x4)] [] (hp_S sa ρ P) = some (none, hp_S sa ρ P) := by
  rw [am_s47_12]
  simp only [rw_flag w h.2.1, Option.bind_some]
  split
  · rfl
  · split
    · rfl
    · rw [if_pos True.intro]
      simp only [am_c_ne]
      rw [if_pos (by decide)]
set_option maxHeartbeats 2000000 in
theorem w_to_loop {f0 d o1 o3 : Nat} (hg : ¬ q_good G → Z) : ∀ M, m_wf M → ∀ (x : Int32) (k s f : Nat) (ρ : hp_L) (P : hp_P) (O : List rwS) (b : Bool) (D : List qS), hp_w B ρ → ρ.1 1 = o1 → ρ.1 3 = o3 → enI P n T et em → wI Z G P n T Rs O b D → en_at em x M → (b = false → (P.2 112).2 k = x) → k + m_ht M ≤ 121 → s + (m_fl M).length ≤ 4000 → (4000 < (D ++ m_fl M).length → Z) →
    ∃ (ρ' : hp_L) (P' : hp_P) (O' : List rwS) (b' : Bool), am_go B sa am_dfl (am_call B sa am_dfl am_tb (f0 + 2) (d + 3)) am_r47 (f + 1 + (m_fl M).length) 12 [(0, .ref o1), (1, .ref o3), (3, .int (nI (k + 1))), (4, .int (nI s))] [] (hp_S sa ρ P) =
      am_go B sa am_dfl (am_call B sa am_dfl am_tb (f0 + 2) (d + 3)) am_r47 (f + 1) 12 [(0, .ref o1), (1, .ref o3), (3, .int (nI k)), (4, .int (nI (s + (m_fl M).length)))] [] (hp_S sa ρ' P') ∧ hp_w B ρ' ∧ enI P' n T et em ∧ wI Z G P' n T Rs O' b' (D ++ m_fl M) ∧ hp_fr wn_S 0 ρ P ρ' P' ∧ (b' = false → b = false ∧ ∀ i, i < k → (P'.2 112).2 i = (P.2 112).2 i) ∧ ∃ E, O' = O ++ E := by
  have bad : ∀ (M : qM) (x : Int32) (k s f : Nat) (ρ : hp_L) (P : hp_P) (O : List rwS) (D : List qS), hp_w B ρ → ρ.1 1 = o1 → ρ.1 3 = o3 → enI P n T et em → wI Z G P n T Rs O true D →
    ∃ (ρ' : hp_L) (P' : hp_P) (O' : List rwS) (b' : Bool), am_go B sa am_dfl (am_call B sa am_dfl am_tb (f0 + 2) (d + 3)) am_r47 (f + 1 + (m_fl M).length) 12 [(0, .ref o1), (1, .ref o3), (3, .int (nI (k + 1))), (4, .int (nI s))] [] (hp_S sa ρ P) =
      am_go B sa am_dfl (am_call B sa am_dfl am_tb (f0 + 2) (d + 3)) am_r47 (f + 1) 12 [(0, .ref o1), (1, .ref o3), (3, .int (nI k)), (4, .int (nI (s + (m_fl M).length)))] [] (hp_S sa ρ' P') ∧ hp_w B ρ' ∧ enI P' n T et em ∧ wI Z G P' n T Rs O' b' (D ++ m_fl M) ∧ hp_fr wn_S 0 ρ P ρ' P' ∧ (b' = false → true = false ∧ ∀ i, i < k → (P'.2 112).2 i = (P.2 112).2 i) ∧ ∃ E, O' = O ++ E := by
    intro M x k s f ρ P O D w ho1 ho3 he h
    subst ho1
    subst ho3
    refine ⟨ρ, P, O, true, ?_, w, he, h.badD, hp_fr.rf, fun z => by (cases z), [], (List.append_nil _).symm⟩
    rw [show f + 1 + (m_fl M).length = (f + (m_fl M).length) + 1 by omega, w_to_bad w h, w_to_bad w h]
  have one : ∀ (M : qM) (x : Int32) (k s f : Nat) (ρ : hp_L) (P : hp_P) (O : List rwS) (D : List qS), m_wf M → hp_w B ρ → ρ.1 1 = o1 → ρ.1 3 = o3 → enI P n T et em → wI Z G P n T Rs O false D → en_at em x M → (P.2 112).2 k = x → k ≤ 121 → s < 4000 → (4000 < D.length + 1 → Z) →
    ∃ (ρ1 : hp_L) (P1 : hp_P) (O1 : List rwS) (b1 : Bool), hp_w B ρ1 ∧ enI P1 n T et em ∧ wI Z G P1 n T Rs O1 b1 (D ++ [(m_c M, m_ty M)]) ∧ hp_fr wn_S 0 ρ P ρ1 P1 ∧ (∀ i, (P1.2 112).2 i = (P.2 112).2 i) ∧ (∃ E, O1 = O ++ E) ∧
      ((m_c M = -1 → ∀ l r, hp_rd P 106 x = some l → hp_rd P 107 x = some r → k + 1 ≤ 121 → am_go B sa am_dfl (am_call B sa am_dfl am_tb (f0 + 2) (d + 3)) am_r47 (f + 1) 12 [(0, .ref o1), (1, .ref o3), (3, .int (nI (k + 1))), (4, .int (nI s))] [] (hp_S sa ρ P) = am_go B sa am_dfl (am_call B sa am_dfl am_tb (f0 + 2) (d + 3)) am_r47 f 12 [(0, .ref o1), (1, .ref o3), (3, .int (nI (k + 2))), (4, .int (nI (s + 1)))] [] (hp_S sa ρ1 (hp_sA (hp_sA P1 112 (nI k) r) 112 (nI (k + 1)) l))) ∧
       (m_c M = -2 → ∀ l, hp_rd P 106 x = some l → am_go B sa am_dfl (am_call B sa am_dfl am_tb (f0 + 2) (d + 3)) am_r47 (f + 1) 12 [(0, .ref o1), (1, .ref o3), (3, .int (nI (k + 1))), (4, .int (nI s))] [] (hp_S sa ρ P) = am_go B sa am_dfl (am_call B sa am_dfl am_tb (f0 + 2) (d + 3)) am_r47 f 12 [(0, .ref o1), (1, .ref o3), (3, .int (nI (k + 1))), (4, .int (nI (s + 1)))] [] (hp_S sa ρ1 (hp_sA P1 112 (nI k) l))) ∧
       (m_c M ≠ -1 → m_c M ≠ -2 → am_go B sa am_dfl (am_call B sa am_dfl am_tb (f0 + 2) (d + 3)) am_r47 (f + 1) 12 [(0, .ref o1), (1, .ref o3), (3, .int (nI (k + 1))), (4, .int (nI s))] [] (hp_S sa ρ P) = am_go B sa am_dfl (am_call B sa am_dfl am_tb (f0 + 2) (d + 3)) am_r47 f 12 [(0, .ref o1), (1, .ref o3), (3, .int (nI k)), (4, .int (nI (s + 1)))] [] (hp_S sa ρ1 P1))) := by
    intro M x k s f ρ P O D hM w ho1 ho3 he h hx hk hk2 hs hz
    subst ho1
    subst ho3
    obtain ⟨-, q1, ⟨v, q2, q2'⟩, -⟩ := en_rd he hx
    obtain ⟨ρ1, P1, O1, b1, c1, c2, c3, c4, c5, c6, -⟩ := w_write (sa := sa) (f := f0) (d := d) (c := m_c M) (v := v) w h (Or.inl q2') hg hz
    have he1 : enI P1 n T et em := he.fr c4 fun r a b => rx_en a b
    have s12 : P1.2 112 = P.2 112 := (c4.2.1 112 rfl).2.1
    have ob1 := w_ob c4 1
    have ob3 := w_ob c4 3
    have rd1 : ∀ {r : Nat} {y : Int32}, 102 ≤ r → r ≤ 111 → hp_rd P1 r y = hp_rd P r y := fun {r y} a b => by
      unfold hp_rd
      rw [(c4.2.1 r (rx_en a (by omega))).2.1]
    have l12 : (P1.2 112).1 = 122 := he1.2.2.1
    refine ⟨ρ1, P1, O1, b1, c2, he1, c3, c4.weaken fun _ z => wn_S_x z, fun i => by rw [s12], ?_, ?_⟩
    · cases b1 with
      | true => exact ⟨[], by rw [c6 rfl, List.append_nil]⟩
      | false => exact ⟨_, (c5 rfl).1⟩
    · have hn0 : (nI (k + 1) ≤ 0) = False := eq_false (nI_nle (by omega) (by omega))
      have hge : ((4000 : Int32) ≤ nI s) = False := by rw [show (4000 : Int32) = nI 4000 from rfl]; exact eq_false (nI_ge hs (by omega))
      have r12 : hp_rd P 112 (nI k) = some x := by rw [hp_rd_nI (by rw [he.2.2.1]; omega) (by omega), hk]
      have hfl : am_geti (hp_S sa ρ P) (ρ.1 3) 3 6 = some 0 := rw_flag w h.2.1
      have q1' : hp_rd P1 104 x = some (m_c M) := by rw [rd1 (by decide) (by decide)]; exact q1
      have ck : ∀ (P' : hp_P) (i : Nat), (P'.2 112).1 = 122 → i ≤ 121 → hp_ck P' 112 (nI i) = some () := fun P' i a b => hp_ck_nI (by omega) (by omega)
      rw [am_s47_12]
      simp only [am_c_le, hn0, if_false, am_c_ge, hge, hfl, Option.bind_some, am_c_ne, am_c_eq, hr_112 w, hl_112 w, i_addm1, nI_pred, r12, hr_104 w, hl_104 w, q1, hr_105 w, hl_105 w, q2, hx_3 w, c1, am_v_some]
      rw [if_neg (show ¬ ((0 : Int32) ≠ 0) by decide), ob1]
      simp only [hr_104 c2, hl_104 c2, q1', Option.bind_some]
      refine ⟨fun e1 l r hl hr hk3 => ?_, fun e2 l hl => ?_, fun e1 e2 => ?_⟩
      · have q3 : hp_rd P1 106 x = some l := by rw [rd1 (by decide) (by decide)]; exact hl
        have q4 : hp_rd P1 107 x = some r := by rw [rd1 (by decide) (by decide)]; exact hr
        have q5 : hp_rd (hp_sA P1 112 (nI k) r) 104 x = some (m_c M) := q1'
        have q6 : hp_rd (hp_sA P1 112 (nI k) r) 106 x = some l := q3
        rw [if_neg (fun z => z e1)]
        simp only [hr_112 c2, hr_107 c2, hl_107 c2, q4, Option.bind_some, ht_112 c2, ck P1 k l12 hk2, hr_104 c2, hl_104 c2, q5]
        rw [if_pos e1]
        simp only [hr_112 c2, hr_106 c2, hl_106 c2, q6, Option.bind_some, ht_112 c2, nI_1, ck (hp_sA P1 112 (nI k) r) (k + 1) (by rw [hA_len]; exact l12) hk3]
      · have e1 : m_c M ≠ -1 := by rw [e2]; decide
        have q3 : hp_rd P1 106 x = some l := by rw [rd1 (by decide) (by decide)]; exact hl
        rw [if_pos e1, if_neg e1, if_neg (fun z => z e2)]
        simp only [hr_112 c2, hr_106 c2, hl_106 c2, q3, Option.bind_some, ht_112 c2, ck P1 k l12 hk2, nI_1]
      · rw [if_pos e1, if_neg e1, if_pos e2]
        simp only [nI_1]
  refine m_wf_cases ?_ ?_ ?_
  · intro u l r w1 w2 hty ihl ihr x k s f ρ P O b D w ho1 ho3 he h hx hk hht hs hz
    cases b with
    | true => exact bad _ x k s f ρ P O D w ho1 ho3 he h
    | false =>
      have hM := m_wf_app w1 w2 hty
      rw [m_ht_N] at hht
      rw [m_fl_N] at hs hz ⊢
      simp only [List.length_cons, List.length_append] at hs hz ⊢
      obtain ⟨-, -, -, ⟨xl, a1, a2⟩, ⟨xr, b1, b2⟩, -⟩ := en_rd he hx
      have a2 : en_at em xl l := a2.resolve_left fun z => by rw [show l = .leaf from z.2] at w1; exact w1.elim
      have b2 : en_at em xr r := b2.resolve_left fun z => by rw [show r = .leaf from z.2] at w2; exact w2.elim
      obtain ⟨ρ1, P1, O1, bb, c2, c3, c4, c5, c6, ⟨E1, rfl⟩, c7, -⟩ := one _ x k s (f + 1 + ((m_fl l).length + (m_fl r).length)) ρ P O D hM w ho1 ho3 he h hx (hk rfl) (by omega) (by omega) (fun z => hz (by omega))
      have c7 := c7 m_c_N xl xr a1 b1 (by have := m_ht_pos w1; omega)
      rw [m_c_N, m_ty_N] at c4
      have hl12 : (P1.2 112).1 = 122 := c3.2.2.1
      have rk : ((hp_sA (hp_sA P1 112 (nI k) xr) 112 (nI (k + 1)) xl).2 112).2 (k + 1) = xl := by
        rw [hA_eq, nI_clamp (by omega)]; exact pk_us
      have rk2 : ∀ i, i < k + 1 → ((hp_sA (hp_sA P1 112 (nI k) xr) 112 (nI (k + 1)) xl).2 112).2 i = if i = k then xr else (P.2 112).2 i := fun i hi => by
        rw [hA_eq, nI_clamp (by omega)]
        show upd _ _ _ i = _
        rw [pk_un (by omega), hA_eq, nI_clamp (by omega)]
        show upd _ _ _ i = _
        by_cases e : i = k
        · rw [e, pk_us, if_pos rfl]
        · rw [pk_un e, if_neg e, c6]
      obtain ⟨ρ2, P2, O2, b2', i1, i2, i3, i4, i5, i6, E2, rfl⟩ := ihl xl (k + 1) (s + 1) (f + (m_fl r).length) ρ1 _ (O ++ E1) bb _ c2 (by rw [c5.1]; exact ho1) (by rw [c5.1]; exact ho3) c3.s12.s12 c4.s12.s12 a2 (fun _ => rk) (by omega) (by omega) (fun z => hz (by simp only [List.length_append, List.length_cons, List.length_nil] at z ⊢; omega))
      obtain ⟨ρ3, P3, O3, b3, j1, j2, j3, j4, j5, j6, E3, rfl⟩ := ihr xr k (s + 1 + (m_fl l).length) f ρ2 P2 (O ++ E1 ++ E2) b2' _ i2 (by rw [i5.1, c5.1]; exact ho1) (by rw [i5.1, c5.1]; exact ho3) i3 i4 b2 (fun e => by rw [(i6 e).2 k (by omega), rk2 k (by omega), if_pos rfl]) (by omega) (by omega) (fun z => hz (by simp only [List.length_append, List.length_cons, List.length_nil] at z ⊢; omega))
      refine ⟨ρ3, P3, O ++ E1 ++ E2 ++ E3, b3, ?_, j2, j3, ?_, hp_fr.tr0 c5 (hp_fr.tr0 (hp_fr.tr0 (hp_fr.sA wn_S_12) (hp_fr.sA wn_S_12)) (hp_fr.tr0 i5 j5)), fun e => ⟨True.intro, fun i hi => ?_⟩, E1 ++ E2 ++ E3, by simp⟩
      · rw [show f + 1 + ((m_fl l).length + (m_fl r).length + 1) = f + 1 + ((m_fl l).length + (m_fl r).length) + 1 by omega, c7]
        rw [show f + (m_fl r).length + 1 + (m_fl l).length = f + 1 + ((m_fl l).length + (m_fl r).length) by omega] at i1
        rw [i1, show f + (m_fl r).length + 1 = f + 1 + (m_fl r).length by omega, j1]
        rw [show s + 1 + (m_fl l).length + (m_fl r).length = s + ((m_fl l).length + (m_fl r).length + 1) by omega]
      · rw [show D ++ ((-1 : Int32), u) :: (m_fl l ++ m_fl r) = D ++ [(-1, u)] ++ m_fl l ++ m_fl r by simp]
        exact j4
      · rw [(j6 e).2 i hi, (i6 (j6 e).1).2 i (by omega), rk2 i (by omega), if_neg (by omega)]
  · intro a l w1 ihl x k s f ρ P O b D w ho1 ho3 he h hx hk hht hs hz
    cases b with
    | true => exact bad _ x k s f ρ P O D w ho1 ho3 he h
    | false =>
      have hM := m_wf_abs (a := a) w1
      rw [m_ht_N] at hht
      rw [m_fl_N] at hs hz ⊢
      have hnil : m_fl (Std.DTreeMap.Internal.Impl.leaf : qM) = [] := rfl
      simp only [hnil, List.append_nil] at hs hz ⊢
      simp only [List.length_cons, List.length_append] at hs hz ⊢
      obtain ⟨-, -, -, ⟨xl, a1, a2⟩, -, -⟩ := en_rd he hx
      have a2 : en_at em xl l := a2.resolve_left fun z => by rw [show l = .leaf from z.2] at w1; exact w1.elim
      obtain ⟨ρ1, P1, O1, bb, c2, c3, c4, c5, c6, ⟨E1, rfl⟩, -, c7, -⟩ := one _ x k s (f + 1 + (m_fl l).length) ρ P O D hM w ho1 ho3 he h hx (hk rfl) (by omega) (by omega) (fun z => hz (by omega))
      have c7 := c7 m_c_N xl a1
      rw [m_c_N, m_ty_N] at c4
      have rk : ((hp_sA P1 112 (nI k) xl).2 112).2 k = xl := by
        rw [hA_eq, nI_clamp (by omega)]; exact pk_us
      obtain ⟨ρ2, P2, O2, b2', i1, i2, i3, i4, i5, i6, E2, rfl⟩ := ihl xl k (s + 1) f ρ1 _ (O ++ E1) bb _ c2 (by rw [c5.1]; exact ho1) (by rw [c5.1]; exact ho3) c3.s12 c4.s12 a2 (fun _ => rk) (by omega) (by omega) (fun z => hz (by simp only [List.length_append, List.length_cons, List.length_nil] at z ⊢; omega))
      refine ⟨ρ2, P2, O ++ E1 ++ E2, b2', ?_, i2, i3, ?_, hp_fr.tr0 c5 (hp_fr.tr0 (hp_fr.sA wn_S_12) i5), fun e => ⟨True.intro, fun i hi => ?_⟩, E1 ++ E2, by simp⟩
      · rw [show f + 1 + ((m_fl l).length + 1) = f + 1 + (m_fl l).length + 1 by omega, c7, i1]
        rw [show s + 1 + (m_fl l).length = s + ((m_fl l).length + 1) by omega]
      · rw [show D ++ ((-2 : Int32), qF a (m_ty l)) :: m_fl l = D ++ [(-2, qF a (m_ty l))] ++ m_fl l by simp]
        exact i4
      · rw [(i6 e).2 i hi, hA_eq, nI_clamp (by omega)]
        show upd _ _ _ i = _
        rw [pk_un (by omega), c6]
  · intro c u hc x k s f ρ P O b D w ho1 ho3 he h hx hk hht hs hz
    cases b with
    | true => exact bad _ x k s f ρ P O D w ho1 ho3 he h
    | false =>
      have hM := m_wf_lf hc
      rw [m_ht_N] at hht
      rw [m_fl_N] at hs hz ⊢
      have hnil : m_fl (Std.DTreeMap.Internal.Impl.leaf : qM) = [] := rfl
      simp only [hnil, List.append_nil] at hs hz ⊢
      simp only [List.length_cons, List.length_append, List.length_nil] at hs hz ⊢
      obtain ⟨ρ1, P1, O1, bb, c2, c3, c4, c5, c6, c8, -, -, c7⟩ := one _ x k s (f + 1) ρ P O D hM w ho1 ho3 he h hx (hk rfl) (by omega) (by omega) (fun z => hz (by omega))
      have c7 := c7 (by rw [m_c_N]; exact (m_lf_ne hc).1) (by rw [m_c_N]; exact (m_lf_ne hc).2)
      rw [m_c_N, m_ty_N] at c4
      exact ⟨ρ1, P1, O1, bb, c7, c2, c3, c4, c5, fun _ => ⟨True.intro, fun i _ => c6 i⟩, c8⟩
/-- writeTo of a term -/
theorem w_to {ρ : hp_L} {P : hp_P} {O : List rwS} {b : Bool} {D : List qS} {f d : Nat} {x : Int32} {M : qM} (w : hp_w B ρ) (he : enI P n T et em) (h : wI Z G P n T Rs O b D) (hf : 10000 ≤ f) (hx : en_at em x M) (hg : ¬ q_good G → Z) (hz : 4000 < (D ++ m_fl M).length → Z) :
    ∃ (ρ' : hp_L) (P' : hp_P) (O' : List rwS) (b' : Bool), am_call B sa am_dfl am_tb f (d + 4) 47 [.ref (ρ.1 1), .ref (ρ.1 3), .int x] (hp_S sa ρ P) = some (none, hp_S sa ρ' P') ∧ hp_w B ρ' ∧ enI P' n T et em ∧ wI Z G P' n T Rs O' b' (D ++ m_fl M) ∧ hp_fr wn_S 0 ρ P ρ' P' ∧ (b' = false → b = false) ∧ ∃ E, O' = O ++ E := by
  obtain ⟨hM, -, -, -, -, -, -, -, h4, h12⟩ := en_rd he hx
  obtain ⟨f1, rfl⟩ : ∃ g, f = g + 1 + (m_fl M).length + 1 + 1 := ⟨f - 3 - (m_fl M).length, by omega⟩
  have l12 : (P.2 112).1 = 122 := he.2.2.1
  have ck : hp_ck P 112 0 = some () := hp_ck_nI (j := 0) (by omega) (by omega)
  have rk : ((hp_sA P 112 0 x).2 112).2 0 = x := by
    rw [hA_eq]
    show upd (P.2 112).2 (Int32.toNatClampNeg 0) x 0 = x
    rw [sb_cl0, pk_us]
  obtain ⟨ρ1, P1, O1, b1, i1, i2, i3, i4, i5, i6, E, rfl⟩ := w_to_loop (sa := sa) (f0 := f1 + 1 + (m_fl M).length) (d := d) (o1 := ρ.1 1) (o3 := ρ.1 3) hg M hM x 0 0 (f1 + 1) ρ (hp_sA P 112 0 x) O b D w rfl rfl he.s12 h.s12 hx (fun _ => rk) (by omega) (by omega) hz
  refine ⟨ρ1, P1, O ++ E, b1, ?_, i2, i3, i4, hp_fr.tr0 (hp_fr.sA wn_S_12) i5, fun e => (i6 e).1, E, rfl⟩
  rw [am_c_47, am_s47_0]
  simp only [hr_112 w, Option.bind_some, ht_112 w, ck]
  rw [show f1 + 1 + 1 + (m_fl M).length = f1 + 1 + (m_fl M).length + 1 by omega] at i1
  refine i1.trans ?_
  rw [am_s47_12]
  simp only [am_c_le]
  rw [if_pos (by decide)]
end EN3
/-- what is bound so many abstractions outside is of a type -/
def m_of (t : qT) : qM → Nat → Prop
  | .leaf, _ => True
  | .inner c u _ l r, o => (Int32.ofNat c = 4 * nI o → u = t) ∧ m_of t l (if Int32.ofNat c = -2 then o + 1 else o) ∧ m_of t r o
theorem m_of_N {t u : qT} {c : Int32} {l r : qM} {o : Nat} : m_of t (mN c u l r) o = ((c = 4 * nI o → u = t) ∧ m_of t l (if c = -2 then o + 1 else o) ∧ m_of t r o) := by
  unfold mN
  show ((Int32.ofNat _ = _ → _) ∧ m_of t l (if Int32.ofNat _ = _ then _ else _) ∧ _) = _
  rw [q_code]
theorem nI4 {o : Nat} : 4 * nI o = nI (4 * o) := by rw [show (4 : Int32) = nI 4 from rfl, pk_mul]
theorem nI4_ne {o : Nat} (h : o ≤ 1000) : (-1 : Int32) ≠ 4 * nI o ∧ (-2 : Int32) ≠ 4 * nI o := by
  rw [nI4]
  exact ⟨fun e => by have := nI_pos (show 4 * o < 2 ^ 31 by omega); rw [← e] at this; exact this (by decide), fun e => by have := nI_pos (show 4 * o < 2 ^ 31 by omega); rw [← e] at this; exact this (by decide)⟩
/-- a part that needs no more abstractions than stand there binds nothing so far outside -/
theorem m_of_lo {t : qT} : ∀ M, m_wf M → ∀ o, m_lo M ≤ o → o + m_ht M ≤ 1000 → m_of t M o := by
  refine m_wf_cases ?_ ?_ ?_
  · intro u l r w1 w2 _ i1 i2 o h1 h2
    rw [m_lo_N, if_pos rfl] at h1
    rw [m_ht_N] at h2
    rw [m_of_N, if_neg (by decide)]
    exact ⟨fun e => absurd e (nI4_ne (by omega)).1, i1 o (by omega) (by omega), i2 o (by omega) (by omega)⟩
  · intro a l w1 i1 o h1 h2
    rw [m_lo_N, if_neg (by decide), if_pos rfl] at h1
    rw [m_ht_N] at h2
    rw [m_of_N, if_pos rfl]
    exact ⟨fun e => absurd e (nI4_ne (by omega)).2, i1 (o + 1) (by omega) (by omega), True.intro⟩
  · intro c u hc o h1 h2
    rw [m_ht_N] at h2
    rw [m_of_N]
    refine ⟨fun e => ?_, True.intro, True.intro⟩
    rw [m_lo_N, if_neg (m_lf_ne hc).1, if_neg (m_lf_ne hc).2, e, nI4, show (nI (4 * o)).toBitVec.toNat = 4 * o from pk_tn (by omega), if_pos (by omega)] at h1
    omega
section EN4
variable {sa : Nat → Nat} {B : Nat} {ρ : hp_L} {n : Nat} {T : Nat → Int32 × Int32 × Int32} {et : List qT} {em : List qM}
/-- only the way through a term has changed -/
def bt_o (P P' : hp_P) : Prop := P'.1 = P.1 ∧ (∀ r, r ≠ 112 → r ≠ 113 → P'.2 r = P.2 r) ∧ (P'.2 112).1 = (P.2 112).1 ∧ (P'.2 113).1 = (P.2 113).1
theorem bt_o.rf {P : hp_P} : bt_o P P := ⟨rfl, fun _ _ _ => rfl, rfl, rfl⟩
theorem bt_o.tr {P P' P'' : hp_P} (h : bt_o P P') (k : bt_o P' P'') : bt_o P P'' := ⟨k.1.trans h.1, fun r a b => (k.2.1 r a b).trans (h.2.1 r a b), k.2.2.1.trans h.2.2.1, k.2.2.2.trans h.2.2.2⟩
theorem bt_o.s12 {P : hp_P} {i v : Int32} : bt_o P (hp_sA P 112 i v) := ⟨rfl, fun _ a _ => hA_ne a, hA_len, by rw [hA_len]⟩
theorem bt_o.s13 {P : hp_P} {i v : Int32} : bt_o P (hp_sA P 113 i v) := ⟨rfl, fun _ _ b => hA_ne b, by rw [hA_len], hA_len⟩
theorem bt_o.en {P P' : hp_P} (h : bt_o P P') (k : enI P n T et em) : enI P' n T et em := k.cg2 (by rw [h.1]) (by rw [h.1]) (fun r a b => h.2.1 r (by omega) (by omega)) h.2.2.1 h.2.2.2
theorem bt_o.len {P P' : hp_P} (h : bt_o P P') (x : Nat) : (P'.2 x).1 = (P.2 x).1 := by
  by_cases e : x = 112
  · rw [e]; exact h.2.2.1
  · by_cases e' : x = 113
    · rw [e']; exact h.2.2.2
    · rw [h.2.1 x e e']
theorem bt_o.fr {P P' : hp_P} (h : bt_o P P') : hp_fr en_S 0 ρ P ρ P' := by
  have hl : hp_len P' = hp_len P := by
    unfold hp_len
    congr 1
    exact List.map_congr_left fun x _ => h.len x
  refine ⟨rfl, fun x hx => ⟨by rw [h.1], h.2.1 x (fun e => ?_) (fun e => ?_), rfl⟩, fun _ _ h => h, by rw [hl]; omega, by rw [hl]; omega, fun x => by rw [h.len]; exact Nat.le_refl _⟩
  · rw [e] at hx; exact absurd hx (by decide)
  · rw [e] at hx; exact absurd hx (by decide)
end EN4
