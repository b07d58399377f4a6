/-! TREES, 3: equations -/
/-- the equation of two terms -/
def mE (x y : qM) : qM := mN (-1) qB (mN (-1) (qF (m_ty x) qB) (mN 2 (qF (m_ty x) (qF (m_ty x) qB)) .leaf .leaf) x) y
def m_isE (M x y : qM) : Prop := m_wf x ∧ m_wf y ∧ m_ty y = m_ty x ∧ M = mE x y
theorem m_wf_2 {t : qT} : m_wf (mN 2 (qF t (qF t qB)) .leaf .leaf) := m_wf_lf ⟨by decide, fun _ => ⟨t, rfl⟩⟩
theorem mE_wf {x y : qM} (hx : m_wf x) (hy : m_wf y) (e : m_ty y = m_ty x) : m_wf (mE x y) := by
  refine m_wf_app (m_wf_app m_wf_2 hx ?_) hy ?_
  · rfl
  · rw [m_ty_N, e]
theorem mE_fl {x y : qM} : m_fl (mE x y) = w_eq (m_ty x) ++ (m_fl x ++ m_fl y) := by
  unfold mE
  rw [m_fl_N, m_fl_N, m_fl_N]
  show _ :: ((_ :: ((_ :: ([] ++ [])) ++ m_fl x)) ++ m_fl y) = _
  simp [w_eq]
theorem mE_ty {x y : qM} : m_ty (mE x y) = qB := rfl
theorem mN_inj {c c' : Int32} {t t' : qT} {l l' r r' : qM} (h : mN c t l r = mN c' t' l' r') : c = c' ∧ t = t' ∧ l = l' ∧ r = r' := by
  unfold mN at h
  injection h with h1 h2 h3 h4 h5
  refine ⟨?_, h2, h4, h5⟩
  rw [← q_code c, ← q_code c', h1]
theorem mE_inj {x y x' y' : qM} (h : mE x y = mE x' y') : x = x' ∧ y = y' := by
  obtain ⟨-, -, h3, h4⟩ := mN_inj h
  exact ⟨(mN_inj h3).2.2.2, h4⟩
/-- a term whose symbols begin like an equation's is one -/
theorem m_isE_of {M : qM} (h : m_wf M) {a b c : qS} {R : List qS} (hl : m_fl M = a :: b :: c :: R) (ha : a.1 = -1) (hb : b.1 = -1) (hc : c.1 = 2) : ∃ x y, m_isE M x y := by
  revert hl
  refine m_wf_cases (C := fun M => m_fl M = a :: b :: c :: R → ∃ x y, m_isE M x y) ?_ ?_ ?_ M h
  · intro t l r w1 w2 hty _ _ hl
    rw [m_fl_N] at hl
    obtain ⟨e1, e2⟩ := List.cons.inj hl
    revert hty e2
    refine m_wf_cases (C := fun l => m_ty l = qF (m_ty r) t → m_fl l ++ m_fl r = b :: c :: R → ∃ x y, m_isE (mN (-1) t l r) x y) ?_ ?_ ?_ l w1
    · intro t2 l2 r2 v1 v2 hty2 _ _ hty e2
      rw [m_fl_N, List.cons_append, List.append_assoc] at e2
      obtain ⟨-, e3⟩ := List.cons.inj e2
      revert hty2 e3
      refine m_wf_cases (C := fun l2 => m_ty l2 = qF (m_ty r2) t2 → m_fl l2 ++ (m_fl r2 ++ m_fl r) = c :: R → ∃ x y, m_isE (mN (-1) t (mN (-1) t2 l2 r2) r) x y) ?_ ?_ ?_ l2 v1
      · intro t3 l3 r3 _ _ _ _ _ _ e3
        rw [m_fl_N, List.cons_append] at e3
        have := (List.cons.inj e3).1
        rw [← this] at hc
        exact absurd (show (-1 : Int32) = 2 from hc) (by decide)
      · intro a3 l3 _ _ _ e3
        rw [m_fl_N, List.cons_append] at e3
        have := (List.cons.inj e3).1
        rw [← this] at hc
        exact absurd (show (-2 : Int32) = 2 from hc) (by decide)
      · intro c3 t3 hc3 hty2 e3
        rw [m_fl_N, List.cons_append] at e3
        have h3 := (List.cons.inj e3).1
        rw [← h3] at hc
        obtain ⟨a4, h4⟩ := hc3.2 hc
        rw [m_ty_N, h4] at hty2
        rw [m_ty_N] at hty
        obtain ⟨-, q1, q2⟩ := qN_inj.mp hty2
        rw [← q2] at hty
        obtain ⟨-, q3, q4⟩ := qN_inj.mp hty
        refine ⟨r2, r, v2, w2, ?_, ?_⟩
        · rw [← q3, q1]
        · unfold mE
          have hc' : c3 = 2 := hc
          rw [← q1, ← q2, ← q4, h4, hc']
    · intro a2 l2 _ _ _ e2
      rw [m_fl_N, List.cons_append] at e2
      have := (List.cons.inj e2).1
      rw [← this] at hb
      exact absurd (show (-2 : Int32) = -1 from hb) (by decide)
    · intro c2 t2 hc2 _ e2
      rw [m_fl_N, List.cons_append] at e2
      have := (List.cons.inj e2).1
      rw [← this] at hb
      exact absurd hb (m_lf_ne hc2).1
  · intro a2 l2 _ _ hl
    rw [m_fl_N] at hl
    have := (List.cons.inj hl).1
    rw [← this] at ha
    exact absurd (show (-2 : Int32) = -1 from ha) (by decide)
  · intro c2 t2 hc2 hl
    rw [m_fl_N] at hl
    have := (List.cons.inj hl).1
    rw [← this] at ha
    exact absurd ha (m_lf_ne hc2).1
theorem m_fl_hd {M : qM} (h : m_wf M) : ∃ c R, m_fl M = (c, m_ty M) :: R := by
  cases M with
  | leaf => exact h.elim
  | inner c t u l r => exact ⟨_, _, rfl⟩
section EQ
variable {sa : Nat → Nat} {B : Nat} {ρ : hp_L} {P : hp_P} {Rs : List (List rwS)} {O : List rwS} {b : Bool} {n : Nat} {T : Nat → Int32 × Int32 × Int32}
/-- an equation object: where the sides stand, and the place of their type -/
def eq_at (ρ : hp_L) (n : Nat) (T : Nat → Int32 × Int32 × Int32) (Rs : List (List rwS)) (O : List rwS) (a : Nat) (x y : qM) : Prop :=
  ∃ (A X Y W : List rwS) (v : Int32), hp_jk ρ a (.inr (2, [.int (nI A.length), .int (nI (A.length + X.length)), .int (nI (A.length + X.length + Y.length)), .int v])) ∧ Rs.flatten ++ O = A ++ (X ++ (Y ++ W)) ∧ X.map (rt T n) = m_fl x ∧ Y.map (rt T n) = m_fl y ∧ pl n T v (m_ty x)
/-- Rows.equationAt of a closed row that is a term -/
theorem rw_equationAt {f d j : Nat} {R : List rwS} {M : qM} (w : hp_w B ρ) (h : rwI P Rs O b) (hf : 60001 ≤ f) (hj : Rs[j]? = some R) (hM : m_wf M) (hR : R.map (rt T n) = m_fl M) (hrv : ∀ s ∈ R, rv n s) :
    (∃ x y a ρ', m_isE M x y ∧ am_call B sa am_dfl am_tb f (d + 2) 63 [.ref (ρ.1 3), .int (nI j)] (hp_S sa ρ P) = some (some (.ref a), hp_S sa ρ' P) ∧ hp_w B ρ' ∧ (∀ S, hp_fr S 1 ρ P ρ' P) ∧ eq_at ρ' n T Rs O a x y) ∨
    ((¬ ∃ x y, m_isE M x y) ∧ am_call B sa am_dfl am_tb f (d + 2) 63 [.ref (ρ.1 3), .int (nI j)] (hp_S sa ρ P) = some (some .null, hp_S sa ρ P)) := by
  obtain ⟨a1, a2, ⟨W, a3⟩, a4, a5⟩ := rw_row h hj
  generalize hA : (Rs.take j).flatten = A at a1 a2 a3 a5
  have hlen := h.Xle
  by_cases hE : ∃ x y, m_isE M x y
  · left
    obtain ⟨x, y, hx, hy, hxy, rfl⟩ := hE
    rw [mE_fl] at hR
    obtain ⟨E, XY, rfl, hE, hXY⟩ := List.map_eq_append_iff.mp hR
    obtain ⟨X, Y, rfl, hX, hY⟩ := List.map_eq_append_iff.mp hXY
    obtain ⟨s0, E, rfl, e0, hE⟩ := List.map_eq_cons_iff.mp hE
    obtain ⟨s1, E, rfl, e1, hE⟩ := List.map_eq_cons_iff.mp hE
    obtain ⟨s2, E, rfl, e2, hE⟩ := List.map_eq_cons_iff.mp hE
    obtain rfl : E = [] := List.map_eq_nil_iff.mp hE
    · skip
      have e0 : s0.1 = -1 := (Prod.mk.inj e0).1
      have e1 : s1.1 = -1 := (Prod.mk.inj e1).1
      have e2 : s2.1 = 2 := (Prod.mk.inj e2).1
      have p0 := (h.rd (k := A.length) (s := s0) (by rw [a3]; simp)).1
      have p1 := (h.rd (k := A.length + 1) (s := s1) (by rw [a3]; simp)).1
      have p2 := (h.rd (k := A.length + 2) (s := s2) (by rw [a3]; simp)).1
      rw [e0] at p0
      rw [e1] at p1
      rw [e2] at p2
      have hA3 : (A ++ [s0, s1, s2]).length = A.length + 3 := by simp
      have hX' : Rs.flatten ++ O = (A ++ [s0, s1, s2]) ++ (X ++ (Y ++ W)) := by rw [a3]; simp
      obtain ⟨c, Q, hq⟩ := m_fl_hd hx
      obtain ⟨s3, X', rfl, hs3, -⟩ := List.map_eq_cons_iff.mp (hX.trans hq)
      have hs3v : rv n s3 := hrv s3 (by simp)
      have p3 := (h.rd (k := A.length + 3) (s := s3) (by rw [a3]; simp [List.getElem?_append_right])).2.1
      have hYn : 0 < Y.length := by
        have := congrArg List.length hY
        rw [List.length_map] at this
        have := List.length_pos_iff.mpr (m_fl_ne hy)
        omega
      have hen := rw_endOf (sa := sa) (f := f) (d := d) (ρ := hp_po ρ (am_dfl 2)) (P := P) (T := T) (n := n) (hp_w_po w) h (by omega) hX' hx hX rfl
      rw [hA3] at hen
      generalize hXe : s3 :: X' = X at *
      have hXl : X.length = X'.length + 1 := by rw [← hXe]; rfl
      have hlR : (([s0, s1, s2] : List rwS) ++ (X ++ Y)).length = 3 + X.length + Y.length := by simp only [List.length_append, List.length_cons, List.length_nil]; omega
      rw [hlR] at a2 a5
      refine ⟨x, y, ρ.2.2.2.1, hp_po ρ [.int (nI (A.length + 3)), .int (nI (A.length + 3 + X.length)), .int (nI (A.length + (3 + X.length + Y.length))), .int s3.2], ⟨hx, hy, hxy, rfl⟩, ?_, hp_w_po w, fun S => hp_fr_po w, ?_⟩
      · obtain ⟨f, rfl⟩ : ∃ g, f = g + 1 := ⟨f - 1, by omega⟩
        rw [am_c_63, am_s63_0]
        have hlt : (nI (A.length + (3 + X.length + Y.length)) - nI A.length < 5) = False := by
          rw [pk_sub (by omega), show (5 : Int32) = nI 5 from rfl]
          exact eq_false (fun z => by have := (nI_ltI (by omega) (by omega)).mp z; omega)
        have n3 : nI A.length + 3 = nI (A.length + 3) := by rw [show (3 : Int32) = nI 3 from rfl, nI_add]
        have n2 : nI A.length + 2 = nI (A.length + 2) := by rw [show (2 : Int32) = nI 2 from rfl, nI_add]
        have wd := hp_w_po (fs := am_dfl 2) w
        have ob : (hp_po ρ (am_dfl 2)).1 3 = ρ.1 3 := rfl
        have x3 := hx_3 (sa := sa) (P := P) wd
        have g1 := hr_302 (sa := sa) (P := P) wd
        have g2 := hl_302 (sa := sa) (P := P) (i := nI (A.length + 3)) wd
        rw [ob] at x3 g1 hen
        have ei := eq_init (sa := sa) (P := P) (f := f) (d := d) (x1 := nI (A.length + 3)) (x2 := nI (A.length + 3 + X.length)) (x3 := nI (A.length + (3 + X.length + Y.length))) (x4 := s3.2) (y1 := 0) (y2 := 0) (y3 := 0) (y4 := 0) w
        have hnw : am_new (hp_S sa ρ P) 2 (am_dfl 2) = hp_S sa (hp_po ρ (am_dfl 2)) P := hp_new rfl w
        simp only [hr_304 w, hl_304 w, nI_1, a1, a2, Option.bind_some, am_c_lt, hlt, if_false, hr_301 w, hl_301 w, p0, p1, n2, p2, n3, am_c_ne, am_c_eq, hnw, x3, hen, am_i_some, g1, g2, p3]
        rw [if_neg (fun z => z rfl), if_neg (fun z => z rfl), if_pos True.intro]
        show (am_v (am_call B sa am_dfl am_tb (f + 1) (d + 1) 48 [.ref ρ.2.2.2.1, .int (nI (A.length + 3)), .int (nI (A.length + 3 + X.length)), .int (nI (A.length + (3 + X.length + Y.length))), .int s3.2] (hp_S sa (hp_po ρ [.int 0, .int 0, .int 0, .int 0]) P)) fun g14 => some (some (Value.ref ρ.2.2.2.1), g14)) = _
        rw [ei, am_v_some]
      · refine ⟨A ++ [s0, s1, s2], X, Y, W, s3.2, ?_, hX', hX, hY, ?_⟩
        · rw [hA3, show A.length + 3 + X.length + Y.length = A.length + (3 + X.length + Y.length) by omega]
          exact hp_jk_po w
        · have := hs3v.pl (T := T)
          rw [hs3] at this
          exact this
  · right
    refine ⟨hE, ?_⟩
    obtain ⟨f, rfl⟩ : ∃ g, f = g + 1 := ⟨f - 1, by omega⟩
    rw [am_c_63, am_s63_0]
    have n2 : nI A.length + 2 = nI (A.length + 2) := by rw [show (2 : Int32) = nI 2 from rfl, nI_add]
    have hlt : (nI (A.length + R.length) - nI A.length < 5) = (R.length < 5) := by
      rw [pk_sub (by omega), show (5 : Int32) = nI 5 from rfl, Nat.add_sub_cancel_left]
      exact propext (nI_ltI (by omega) (by omega))
    simp only [hr_304 w, hl_304 w, nI_1, a1, a2, Option.bind_some, am_c_lt, hlt]
    by_cases e5 : R.length < 5
    · rw [if_pos e5]
    · rw [if_neg e5]
      match R, e5 with
      | s0 :: s1 :: s2 :: R, e5 =>
        have p0 := (h.rd (k := A.length) (s := s0) (by rw [a3]; simp)).1
        have p1 := (h.rd (k := A.length + 1) (s := s1) (by rw [a3]; simp)).1
        have p2 := (h.rd (k := A.length + 2) (s := s2) (by rw [a3]; simp)).1
        simp only [hr_301 w, hl_301 w, p0, p1, n2, p2, Option.bind_some, am_c_ne, am_c_eq]
        by_cases c0 : s0.1 = -1
        · rw [if_neg (fun z => z c0)]
          by_cases c1 : s1.1 = -1
          · rw [if_neg (fun z => z c1)]
            by_cases c2 : s2.1 = 2
            · exact absurd (m_isE_of hM hR.symm c0 c1 c2) hE
            · rw [if_neg c2]
          · rw [if_pos c1]
        · rw [if_pos c0]
      | [], e5 => exact absurd (show ([] : List rwS).length < 5 by decide) e5
      | [_], e5 => exact absurd (by simp) e5
      | [_, _], e5 => exact absurd (by simp) e5
end EQ
