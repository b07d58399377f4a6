/-! ENTRIES of the class, 4: bindsType -/
section EN5
variable {sa : Nat → Nat} {B : Nat} {ρ : hp_L} {n : Nat} {T : Nat → Int32 × Int32 × Int32} {et : List qT} {em : List qM}
/-- the stores of a way on to two parts -/
def bt_2 (P : hp_P) (k : Nat) (l r : Int32) (o : Nat) : hp_P := hp_sA (hp_sA (hp_sA (hp_sA P 112 (nI k) r) 113 (nI k) (nI o)) 112 (nI (k + 1)) l) 113 (nI (k + 1)) (nI o)
def bt_1 (P : hp_P) (k : Nat) (l : Int32) (o : Nat) : hp_P := hp_sA (hp_sA P 112 (nI k) l) 113 (nI k) (nI (o + 1))
theorem bt_2_o {P : hp_P} {k o : Nat} {l r : Int32} : bt_o P (bt_2 P k l r o) := bt_o.s12.tr (bt_o.s13.tr (bt_o.s12.tr bt_o.s13))
theorem bt_1_o {P : hp_P} {k o : Nat} {l : Int32} : bt_o P (bt_1 P k l o) := bt_o.s12.tr bt_o.s13
theorem bt_2_rd {P : hp_P} {k o : Nat} {l r : Int32} (hk : k < 1000) : ((bt_2 P k l r o).2 112).2 (k + 1) = l ∧ ((bt_2 P k l r o).2 113).2 (k + 1) = nI o ∧ ((bt_2 P k l r o).2 112).2 k = r ∧ ((bt_2 P k l r o).2 113).2 k = nI o ∧ ∀ i, i < k → ((bt_2 P k l r o).2 112).2 i = (P.2 112).2 i ∧ ((bt_2 P k l r o).2 113).2 i = (P.2 113).2 i := by
  have c1 := nI_clamp (show k < 2 ^ 31 by omega)
  have c2 := nI_clamp (show k + 1 < 2 ^ 31 by omega)
  have e12 : (bt_2 P k l r o).2 112 = ((P.2 112).1, upd (upd (P.2 112).2 k r) (k + 1) l) := by
    unfold bt_2
    rw [hA_ne (by decide), hA_eq, hA_ne (show (112 : Nat) ≠ 113 by decide), hA_eq, c1, c2]
  have e13 : (bt_2 P k l r o).2 113 = ((P.2 113).1, upd (upd (P.2 113).2 k (nI o)) (k + 1) (nI o)) := by
    unfold bt_2
    rw [hA_eq, hA_ne (show (113 : Nat) ≠ 112 by decide), hA_eq, hA_ne (show (113 : Nat) ≠ 112 by decide), c1, c2]
  rw [e12, e13]
  dsimp only
  refine ⟨by rw [pk_us], by rw [pk_us], by rw [pk_un (by omega), pk_us], by rw [pk_un (by omega), pk_us], fun i hi => ⟨by rw [pk_un (by omega), pk_un (by omega)], by rw [pk_un (by omega), pk_un (by omega)]⟩⟩
theorem bt_1_rd {P : hp_P} {k o : Nat} {l : Int32} (hk : k < 1000) : ((bt_1 P k l o).2 112).2 k = l ∧ ((bt_1 P k l o).2 113).2 k = nI (o + 1) ∧ ∀ i, i < k → ((bt_1 P k l o).2 112).2 i = (P.2 112).2 i ∧ ((bt_1 P k l o).2 113).2 i = (P.2 113).2 i := by
  have c1 := nI_clamp (show k < 2 ^ 31 by omega)
  have e12 : (bt_1 P k l o).2 112 = ((P.2 112).1, upd (P.2 112).2 k l) := by
    unfold bt_1
    rw [hA_ne (by decide), hA_eq, c1]
  have e13 : (bt_1 P k l o).2 113 = ((P.2 113).1, upd (P.2 113).2 k (nI (o + 1))) := by
    unfold bt_1
    rw [hA_eq, hA_ne (show (113 : Nat) ≠ 112 by decide), c1]
  rw [e12, e13]
  dsimp only
  exact ⟨by rw [pk_us], by rw [pk_us], fun i hi => ⟨by rw [pk_un (by omega)], by rw [pk_un (by omega)]⟩⟩
theorem bt_one {cl : am_F} {P : hp_P} {f k s o : Nat} {x v : Int32} {t : qT} {M : qM} (w : hp_w B ρ) (y : tyI P n T) (he : enI P n T et em) (hv : pl n T v t) (hx : en_at em x M) (h12 : (P.2 112).2 k = x) (h13 : (P.2 113).2 k = nI o) (hk : k + 1 ≤ 121) (hs : s < 4000) (ho : o ≤ 500) :
    (m_c M = 4 * nI o ∧ m_ty M ≠ t → am_go B sa am_dfl cl am_r46 (f + 2) 19 [(0, .ref (ρ.1 1)), (2, .int v), (3, .int (nI (k + 1))), (4, .int (nI s))] [] (hp_S sa ρ P) = some (some (.int 0), hp_S sa ρ P)) ∧
    (¬ (m_c M = 4 * nI o ∧ m_ty M ≠ t) →
      (m_lo M ≤ o → am_go B sa am_dfl cl am_r46 (f + 2) 19 [(0, .ref (ρ.1 1)), (2, .int v), (3, .int (nI (k + 1))), (4, .int (nI s))] [] (hp_S sa ρ P) = am_go B sa am_dfl cl am_r46 f 19 [(0, .ref (ρ.1 1)), (2, .int v), (3, .int (nI k)), (4, .int (nI (s + 1)))] [] (hp_S sa ρ P)) ∧
      (o < m_lo M → (m_c M = -1 → ∀ l r, hp_rd P 106 x = some l → hp_rd P 107 x = some r → am_go B sa am_dfl cl am_r46 (f + 2) 19 [(0, .ref (ρ.1 1)), (2, .int v), (3, .int (nI (k + 1))), (4, .int (nI s))] [] (hp_S sa ρ P) = am_go B sa am_dfl cl am_r46 f 19 [(0, .ref (ρ.1 1)), (2, .int v), (3, .int (nI (k + 2))), (4, .int (nI (s + 1)))] [] (hp_S sa ρ (bt_2 P k l r o))) ∧
       (m_c M = -2 → ∀ l, hp_rd P 106 x = some l → am_go B sa am_dfl cl am_r46 (f + 2) 19 [(0, .ref (ρ.1 1)), (2, .int v), (3, .int (nI (k + 1))), (4, .int (nI s))] [] (hp_S sa ρ P) = am_go B sa am_dfl cl am_r46 f 19 [(0, .ref (ρ.1 1)), (2, .int v), (3, .int (nI (k + 1))), (4, .int (nI (s + 1)))] [] (hp_S sa ρ (bt_1 P k l o))) ∧
       (m_c M ≠ -1 → m_c M ≠ -2 → am_go B sa am_dfl cl am_r46 (f + 2) 19 [(0, .ref (ρ.1 1)), (2, .int v), (3, .int (nI (k + 1))), (4, .int (nI s))] [] (hp_S sa ρ P) = am_go B sa am_dfl cl am_r46 f 19 [(0, .ref (ρ.1 1)), (2, .int v), (3, .int (nI k)), (4, .int (nI (s + 1)))] [] (hp_S sa ρ P)))) := by
  obtain ⟨q0, q1, ⟨u, q2, q2'⟩, -, -, -, -, q7, -⟩ := en_rd he hx
  have hlo := m_lo_le q0
  have l12 := he.2.2.1
  have l13 := he.2.2.2
  have hn0 : (nI (k + 1) ≤ 0) = False := eq_false (nI_nle (by omega) (by omega))
  have hge : ((4000 : Int32) ≤ nI s) = False := by rw [show (4000 : Int32) = nI 4000 from rfl]; exact eq_false (nI_ge hs (by omega))
  have r12 : hp_rd P 112 (nI k) = some x := by rw [hp_rd_nI (by omega) (by omega), h12]
  have r13 : hp_rd P 113 (nI k) = some (nI o) := by rw [hp_rd_nI (by omega) (by omega), h13]
  have e40 : (4 * nI o + 0 : Int32) = 4 * nI o := by grind
  have hle : (nI (m_lo M) ≤ nI o) = (m_lo M ≤ o) := propext (nI_leI (by omega) (by omega))
  have huv : u = v ↔ m_ty M = t := ⟨fun e => by rw [← q2'.ct, e, hv.ct], fun e => q2'.eq (by rw [e]; exact hv) y.wf y.2.1 y.n31⟩
  have cks : ∀ (P' : hp_P) (x i : Nat), (P'.2 x).1 = 122 → i ≤ 121 → hp_ck P' x (nI i) = some () := fun P' x i e z => hp_ck_nI (by omega) (by omega)
  -- the second stretch, with the mark that it goes on
  have go1 : m_c M = -1 → ∀ l r, hp_rd P 106 x = some l → hp_rd P 107 x = some r → am_go B sa am_dfl cl am_r46 (f + 1) 96 [(0, .ref (ρ.1 1)), (2, .int v), (3, .int (nI k)), (4, .int (nI s)), (5, .int x), (6, .int (nI o))] [.int 1] (hp_S sa ρ P) = am_go B sa am_dfl cl am_r46 f 19 [(0, .ref (ρ.1 1)), (2, .int v), (3, .int (nI (k + 2))), (4, .int (nI (s + 1)))] [] (hp_S sa ρ (bt_2 P k l r o)) := by
    intro e l r hl hr
    have a1 : hp_rd (hp_sA (hp_sA P 112 (nI k) r) 113 (nI k) (nI o)) 106 x = some l := hl
    rw [am_s46_96]
    simp only [am_c_eq, am_c_ne, hr_104 w, hl_104 w, q1, Option.bind_some]
    rw [if_neg (show ¬ ((1 : Int32) = 0) by decide), if_neg (fun z => z e)]
    simp only [hr_112 w, hr_107 w, hl_107 w, hr, Option.bind_some, ht_112 w, cks P 112 k l12 (by omega), hr_113 w, ht_113 w, cks (hp_sA P 112 (nI k) r) 113 k (by rw [hA_len]; exact l13) (by omega), hr_106 w, hl_106 w, a1, nI_1, cks (hp_sA (hp_sA P 112 (nI k) r) 113 (nI k) (nI o)) 112 (k + 1) (by rw [hA_len, hA_len]; exact l12) hk, cks (hp_sA (hp_sA (hp_sA P 112 (nI k) r) 113 (nI k) (nI o)) 112 (nI (k + 1)) l) 113 (k + 1) (by rw [hA_len, hA_len, hA_len]; exact l13) hk]
    rw [show nI k + 2 = nI (k + 2) from nI_add k 2]
    rfl
  have go2 : m_c M = -2 → ∀ l, hp_rd P 106 x = some l → am_go B sa am_dfl cl am_r46 (f + 1) 96 [(0, .ref (ρ.1 1)), (2, .int v), (3, .int (nI k)), (4, .int (nI s)), (5, .int x), (6, .int (nI o))] [.int 1] (hp_S sa ρ P) = am_go B sa am_dfl cl am_r46 f 19 [(0, .ref (ρ.1 1)), (2, .int v), (3, .int (nI (k + 1))), (4, .int (nI (s + 1)))] [] (hp_S sa ρ (bt_1 P k l o)) := by
    intro e l hl
    rw [am_s46_96]
    simp only [am_c_eq, am_c_ne, hr_104 w, hl_104 w, q1, Option.bind_some]
    rw [if_neg (show ¬ ((1 : Int32) = 0) by decide), if_pos (by rw [e]; decide), if_neg (show ¬ ((1 : Int32) = 0) by decide), if_neg (fun z => z e)]
    simp only [hr_112 w, hr_106 w, hl_106 w, hl, Option.bind_some, ht_112 w, cks P 112 k l12 (by omega), hr_113 w, ht_113 w, cks (hp_sA P 112 (nI k) l) 113 k (by rw [hA_len]; exact l13) (by omega), nI_1]
    rfl
  have go3 : m_c M ≠ -1 → m_c M ≠ -2 → am_go B sa am_dfl cl am_r46 (f + 1) 96 [(0, .ref (ρ.1 1)), (2, .int v), (3, .int (nI k)), (4, .int (nI s)), (5, .int x), (6, .int (nI o))] [.int 1] (hp_S sa ρ P) = am_go B sa am_dfl cl am_r46 f 19 [(0, .ref (ρ.1 1)), (2, .int v), (3, .int (nI k)), (4, .int (nI (s + 1)))] [] (hp_S sa ρ P) := by
    intro e1 e2
    rw [am_s46_96]
    simp only [am_c_eq, am_c_ne, hr_104 w, hl_104 w, q1, Option.bind_some]
    rw [if_neg (show ¬ ((1 : Int32) = 0) by decide), if_pos e1, if_neg (show ¬ ((1 : Int32) = 0) by decide), if_pos e2, nI_1]
  have go0 : am_go B sa am_dfl cl am_r46 (f + 1) 96 [(0, .ref (ρ.1 1)), (2, .int v), (3, .int (nI k)), (4, .int (nI s)), (5, .int x), (6, .int (nI o))] [.int 0] (hp_S sa ρ P) = am_go B sa am_dfl cl am_r46 f 19 [(0, .ref (ρ.1 1)), (2, .int v), (3, .int (nI k)), (4, .int (nI (s + 1)))] [] (hp_S sa ρ P) := by
    rw [am_s46_96]
    simp only [am_c_eq, if_true, nI_1]
  rw [am_s46_19]
  simp only [am_c_le, hn0, if_false, am_c_ge, hge, Option.bind_some, am_c_ne, am_c_eq, hr_112 w, hl_112 w, hr_113 w, hl_113 w, i_addm1, nI_pred, r12, r13, hr_104 w, hl_104 w, q1, hr_105 w, hl_105 w, q2, hr_110 w, hl_110 w, q7, e40, hle]
  refine ⟨fun ⟨e1, e2⟩ => ?_, fun hno => ⟨fun e3 => ?_, fun e3 => ?_⟩⟩
  · rw [if_neg (fun z => z e1), if_neg (fun z => e2 (huv.mp z)), am_rz_0]
  · by_cases e1 : m_c M = 4 * nI o
    · rw [if_neg (fun z => z e1), if_pos (huv.mpr (Classical.byContradiction fun z => hno ⟨e1, z⟩)), if_pos e3]
      exact go0
    · rw [if_pos e1, if_pos e3]
      exact go0
  · have e3 : ¬ m_lo M ≤ o := by omega
    by_cases e1 : m_c M = 4 * nI o
    · rw [if_neg (fun z => z e1), if_pos (huv.mpr (Classical.byContradiction fun z => hno ⟨e1, z⟩)), if_neg e3]
      exact ⟨go1, go2, go3⟩
    · rw [if_pos e1, if_neg e3]
      exact ⟨go1, go2, go3⟩
theorem bt_loop {cl : am_F} {v : Int32} {t : qT} (w : hp_w B ρ) (hv : pl n T v t) : ∀ M, m_wf M → ∀ (x : Int32) (k s o : Nat) (P : hp_P), tyI P n T → enI P n T et em → en_at em x M → (P.2 112).2 k = x → (P.2 113).2 k = nI o → k + m_ht M ≤ 121 → s + (m_fl M).length ≤ 4000 → o + m_ht M ≤ 500 →
    (m_of t M o ∧ ∃ (u : Nat) (P' : hp_P), u ≤ (m_fl M).length ∧ bt_o P P' ∧ (∀ i, i < k → (P'.2 112).2 i = (P.2 112).2 i ∧ (P'.2 113).2 i = (P.2 113).2 i) ∧ ∀ f, am_go B sa am_dfl cl am_r46 (f + 2 * u) 19 [(0, .ref (ρ.1 1)), (2, .int v), (3, .int (nI (k + 1))), (4, .int (nI s))] [] (hp_S sa ρ P) = am_go B sa am_dfl cl am_r46 f 19 [(0, .ref (ρ.1 1)), (2, .int v), (3, .int (nI k)), (4, .int (nI (s + u)))] [] (hp_S sa ρ P')) ∨
    (¬ m_of t M o ∧ ∃ (u : Nat) (P' : hp_P), u ≤ (m_fl M).length ∧ bt_o P P' ∧ ∀ f, am_go B sa am_dfl cl am_r46 (f + 2 * u) 19 [(0, .ref (ρ.1 1)), (2, .int v), (3, .int (nI (k + 1))), (4, .int (nI s))] [] (hp_S sa ρ P) = some (some (.int 0), hp_S sa ρ P')) := by
  have tyo : ∀ {P P' : hp_P}, bt_o P P' → tyI P n T → tyI P' n T := fun h y => y.cg (by rw [h.1]) fun r a b => h.2.1 r (by omega) (by omega)
  refine m_wf_cases ?_ ?_ ?_
  · intro c l r w1 w2 hty ihl ihr x k s o P y he hx h12 h13 hk hs ho
    rw [m_ht_N] at hk ho
    rw [m_fl_N] at hs ⊢
    simp only [List.length_cons, List.length_append] at hs ⊢
    have hl0 := m_ht_pos w1
    have hM := m_wf_app w1 w2 hty
    obtain ⟨-, -, -, ⟨xl, a1, a2⟩, ⟨xr, b1, b2⟩, -⟩ := en_rd he hx
    have a2 : en_at em xl l := a2.resolve_left fun z => by rw [show l = .leaf from z.2] at w1; exact w1.elim
    have b2 : en_at em xr r := b2.resolve_left fun z => by rw [show r = .leaf from z.2] at w2; exact w2.elim
    have one := fun f => bt_one (sa := sa) (cl := cl) (f := f) (k := k) (s := s) (o := o) w y he hv hx h12 h13 (by omega) (by omega) (by omega)
    have hne := (nI4_ne (show o ≤ 1000 by omega)).1
    have hno : ¬ (m_c (mN (-1) c l r) = 4 * nI o ∧ m_ty (mN (-1) c l r) ≠ t) := fun z => hne (by rw [← m_c_N (c := -1) (t := c) (l := l) (r := r)]; exact z.1)
    by_cases e : m_lo (mN (-1) c l r) ≤ o
    · exact Or.inl ⟨m_of_lo _ hM o e (by rw [m_ht_N]; omega), 1, P, by omega, bt_o.rf, fun _ _ => ⟨rfl, rfl⟩, fun f => ((one f).2 hno).1 e⟩
    · have stp := fun f => (((one f).2 hno).2 (by omega)).1 m_c_N xl xr a1 b1
      obtain ⟨d1, d2, d3, d4, d5⟩ := bt_2_rd (P := P) (k := k) (o := o) (l := xl) (r := xr) (by omega)
      have ho2 := bt_2_o (P := P) (k := k) (o := o) (l := xl) (r := xr)
      rw [m_of_N, if_neg (show ¬ ((-1 : Int32) = -2) by decide)]
      rcases ihl xl (k + 1) (s + 1) o (bt_2 P k xl xr o) (tyo ho2 y) (ho2.en he) a2 d1 d2 (by omega) (by omega) (by omega) with ⟨i0, u, P1, i1, i2, i3, i4⟩ | ⟨i0, u, P1, i1, i2, i4⟩
      · have ho3 := ho2.tr i2
        rcases ihr xr k (s + 1 + u) o P1 (tyo ho3 y) (ho3.en he) b2 (by rw [(i3 k (by omega)).1, d3]) (by rw [(i3 k (by omega)).2, d4]) (by omega) (by omega) (by omega) with ⟨j0, u', P2, j1, j2, j3, j4⟩ | ⟨j0, u', P2, j1, j2, j4⟩
        · refine Or.inl ⟨⟨fun z => absurd z hne, i0, j0⟩, 1 + u + u', P2, by omega, ho3.tr j2, fun i hi => ?_, fun f => ?_⟩
          · rw [(j3 i hi).1, (j3 i hi).2, (i3 i (by omega)).1, (i3 i (by omega)).2]
            exact d5 i hi
          · rw [show f + 2 * (1 + u + u') = (f + 2 * u' + 2 * u) + 2 by omega, stp, i4, j4, show s + 1 + u + u' = s + (1 + u + u') by omega]
        · refine Or.inr ⟨fun z => j0 z.2.2, 1 + u + u', P2, by omega, ho3.tr j2, fun f => ?_⟩
          rw [show f + 2 * (1 + u + u') = (f + 2 * u' + 2 * u) + 2 by omega, stp, i4, j4]
      · refine Or.inr ⟨fun z => i0 z.2.1, 1 + u, P1, by omega, ho2.tr i2, fun f => ?_⟩
        rw [show f + 2 * (1 + u) = (f + 2 * u) + 2 by omega, stp, i4]
  · intro a l w1 ihl x k s o P y he hx h12 h13 hk hs ho
    rw [m_ht_N] at hk ho
    rw [m_fl_N] at hs ⊢
    simp only [List.length_cons, List.length_append] at hs ⊢
    have hl0 := m_ht_pos w1
    have hM := m_wf_abs (a := a) w1
    obtain ⟨-, -, -, ⟨xl, a1, a2⟩, -, -⟩ := en_rd he hx
    have a2 : en_at em xl l := a2.resolve_left fun z => by rw [show l = .leaf from z.2] at w1; exact w1.elim
    have one := fun f => bt_one (sa := sa) (cl := cl) (f := f) (k := k) (s := s) (o := o) w y he hv hx h12 h13 (by omega) (by omega) (by omega)
    have hne := (nI4_ne (show o ≤ 1000 by omega)).2
    have hno : ¬ (m_c (mN (-2) (qF a (m_ty l)) l .leaf) = 4 * nI o ∧ m_ty (mN (-2) (qF a (m_ty l)) l .leaf) ≠ t) := fun z => hne (by rw [← m_c_N (c := -2) (t := qF a (m_ty l)) (l := l) (r := .leaf)]; exact z.1)
    by_cases e : m_lo (mN (-2) (qF a (m_ty l)) l .leaf) ≤ o
    · exact Or.inl ⟨m_of_lo _ hM o e (by rw [m_ht_N]; omega), 1, P, by omega, bt_o.rf, fun _ _ => ⟨rfl, rfl⟩, fun f => ((one f).2 hno).1 e⟩
    · have stp := fun f => (((one f).2 hno).2 (by omega)).2.1 m_c_N xl a1
      obtain ⟨d1, d2, d3⟩ := bt_1_rd (P := P) (k := k) (o := o) (l := xl) (by omega)
      have ho2 := bt_1_o (P := P) (k := k) (o := o) (l := xl)
      rw [m_of_N, if_pos rfl]
      rcases ihl xl k (s + 1) (o + 1) (bt_1 P k xl o) (tyo ho2 y) (ho2.en he) a2 d1 d2 (by omega) (by omega) (by omega) with ⟨i0, u, P1, i1, i2, i3, i4⟩ | ⟨i0, u, P1, i1, i2, i4⟩
      · refine Or.inl ⟨⟨fun z => absurd z hne, i0, True.intro⟩, 1 + u, P1, by omega, ho2.tr i2, fun i hi => ?_, fun f => ?_⟩
        · rw [(i3 i hi).1, (i3 i hi).2]
          exact d3 i hi
        · rw [show f + 2 * (1 + u) = (f + 2 * u) + 2 by omega, stp, i4, show s + 1 + u = s + (1 + u) by omega]
      · refine Or.inr ⟨fun z => i0 z.2.1, 1 + u, P1, by omega, ho2.tr i2, fun f => ?_⟩
        rw [show f + 2 * (1 + u) = (f + 2 * u) + 2 by omega, stp, i4]
  · intro c u hc x k s o P y he hx h12 h13 hk hs ho
    rw [m_ht_N] at hk ho
    rw [m_fl_N] at hs ⊢
    simp only [List.length_cons, List.length_append] at hs ⊢
    have one := fun f => bt_one (sa := sa) (cl := cl) (f := f) (k := k) (s := s) (o := o) w y he hv hx h12 h13 (by omega) (by omega) (by omega)
    rw [m_of_N]
    rw [m_c_N, m_ty_N] at one
    by_cases e0 : c = 4 * nI o ∧ u ≠ t
    · exact Or.inr ⟨fun z => e0.2 (z.1 e0.1), 1, P, by omega, bt_o.rf, fun f => (one f).1 e0⟩
    · refine Or.inl ⟨⟨fun z => Classical.byContradiction fun q => e0 ⟨z, q⟩, True.intro, True.intro⟩, 1, P, by omega, bt_o.rf, fun _ _ => ⟨rfl, rfl⟩, fun f => ?_⟩
      by_cases e : m_lo (mN c u .leaf .leaf) ≤ o
      · exact ((one f).2 e0).1 e
      · exact (((one f).2 e0).2 (by omega)).2.2 (m_lf_ne hc).1 (m_lf_ne hc).2
/-- bindsType -/
theorem en_binds {P : hp_P} {f d : Nat} {x v : Int32} {t : qT} {M : qM} (w : hp_w B ρ) (y : tyI P n T) (he : enI P n T et em) (hf : 10000 ≤ f) (hx : en_at em x M) (hv : pl n T v t) :
    ∃ P', am_call B sa am_dfl am_tb f (d + 1) 46 [.ref (ρ.1 1), .int x, .int v] (hp_S sa ρ P) = some (some (.int (bP (m_of t M 0))), hp_S sa ρ P') ∧ bt_o P P' := by
  obtain ⟨hM, -, -, -, -, -, -, -, h4, h12⟩ := en_rd he hx
  have l12 := he.2.2.1
  have l13 := he.2.2.2
  have o1 : bt_o P (hp_sA (hp_sA P 112 0 x) 113 0 0) := bt_o.s12.tr bt_o.s13
  have ck1 : hp_ck P 112 0 = some () := hp_ck_nI (j := 0) (by omega) (by omega)
  have ck2 : hp_ck (hp_sA P 112 0 x) 113 0 = some () := hp_ck_nI (j := 0) (by rw [hA_len]; omega) (by omega)
  have r1 : ((hp_sA (hp_sA P 112 0 x) 113 0 0).2 112).2 0 = x := by
    rw [hA_ne (by decide), hA_eq]
    show upd (P.2 112).2 (Int32.toNatClampNeg 0) x 0 = x
    rw [sb_cl0, pk_us]
  have r2 : ((hp_sA (hp_sA P 112 0 x) 113 0 0).2 113).2 0 = nI 0 := by
    rw [hA_eq, hA_ne (show (113 : Nat) ≠ 112 by decide)]
    show upd (P.2 113).2 (Int32.toNatClampNeg 0) 0 0 = 0
    rw [sb_cl0, pk_us]
  obtain ⟨f, rfl⟩ : ∃ g, f = g + 1 := ⟨f - 1, by omega⟩
  rw [am_c_46, am_s46_0]
  simp only [hr_112 w, ht_112 w, ck1, hr_113 w, ht_113 w, ck2, Option.bind_some]
  rcases bt_loop (sa := sa) (cl := am_call B sa am_dfl am_tb (f + 1) d) w hv M hM x 0 0 0 _ (y.cg (by rw [o1.1]) fun r a b => o1.2.1 r (by omega) (by omega)) (o1.en he) hx r1 r2 (by omega) (by omega) (by omega) with ⟨i0, u, P1, i1, i2, i3, i4⟩ | ⟨i0, u, P1, i1, i2, i4⟩
  · rw [bP_t i0]
    obtain ⟨g, rfl⟩ : ∃ g, f = g + 1 + 2 * u := ⟨f - 1 - 2 * u, by omega⟩
    refine ⟨P1, ?_, o1.tr i2⟩
    have := i4 (g + 1)
    refine this.trans ?_
    rw [am_s46_19]
    simp only [am_c_le]
    rw [if_pos (by decide), am_rz_1]
  · rw [bP_f i0]
    obtain ⟨g, rfl⟩ : ∃ g, f = g + 2 * u := ⟨f - 2 * u, by omega⟩
    exact ⟨P1, i4 g, o1.tr i2⟩
end EN5
