/-! TREES, 2: terms -/
abbrev qM : Type := Std.DTreeMap.Internal.Impl qT (fun _ => Unit)
def mN (c : Int32) (t : qT) (l r : qM) : qM := .inner c.toBitVec.toNat t () l r
/-- the symbols, in their order -/
def m_fl : qM → List qS
  | .leaf => []
  | .inner c t _ l r => (Int32.ofNat c, t) :: (m_fl l ++ m_fl r)
def m_ty : qM → qT
  | .leaf => qE
  | .inner _ t _ _ _ => t
def m_ht : qM → Nat
  | .leaf => 0
  | .inner _ _ _ l r => 1 + max (m_ht l) (m_ht r)
/-- what a symbol without parts is: a code that is not negative; equality of its type -/
def m_lf (c : Int32) (t : qT) : Prop := 0 ≤ c ∧ (c = 2 → ∃ a, t = qF a (qF a qB))
/-- terms as they are made: applications of functions, abstractions with a body, symbols without parts -/
def m_wf : qM → Prop
  | .leaf => False
  | .inner c t _ l r => c < 2 ^ 32 ∧ ((Int32.ofNat c = -1 ∧ m_wf l ∧ m_wf r ∧ m_ty l = qF (m_ty r) t) ∨ (Int32.ofNat c = -2 ∧ m_wf l ∧ r = .leaf ∧ ∃ a, t = qF a (m_ty l)) ∨ (l = .leaf ∧ r = .leaf ∧ m_lf (Int32.ofNat c) t))
theorem m_code {c : Nat} (h : c < 2 ^ 32) : (Int32.ofNat c).toBitVec.toNat = c := pk_tn h
theorem mN_eta {c : Nat} {t : qT} {u : Unit} {l r : qM} (h : c < 2 ^ 32) : (Std.DTreeMap.Internal.Impl.inner c t u l r : qM) = mN (Int32.ofNat c) t l r := by
  unfold mN
  rw [m_code h]
theorem m_fl_N {c : Int32} {t : qT} {l r : qM} : m_fl (mN c t l r) = (c, t) :: (m_fl l ++ m_fl r) := by
  show (Int32.ofNat c.toBitVec.toNat, t) :: _ = _
  rw [q_code]
theorem m_ht_N {c : Int32} {t : qT} {l r : qM} : m_ht (mN c t l r) = 1 + max (m_ht l) (m_ht r) := rfl
theorem m_ty_N {c : Int32} {t : qT} {l r : qM} : m_ty (mN c t l r) = t := rfl
theorem mN_lt (c : Int32) : c.toBitVec.toNat < 2 ^ 32 := c.toBitVec.isLt
theorem m_wf_app {t : qT} {l r : qM} (h1 : m_wf l) (h2 : m_wf r) (h3 : m_ty l = qF (m_ty r) t) : m_wf (mN (-1) t l r) := ⟨mN_lt _, Or.inl ⟨q_code _, h1, h2, h3⟩⟩
theorem m_wf_abs {a : qT} {l : qM} (h1 : m_wf l) : m_wf (mN (-2) (qF a (m_ty l)) l .leaf) := ⟨mN_lt _, Or.inr (Or.inl ⟨q_code _, h1, rfl, a, rfl⟩)⟩
theorem m_wf_lf {c : Int32} {t : qT} (h : m_lf c t) : m_wf (mN c t .leaf .leaf) := ⟨mN_lt _, Or.inr (Or.inr ⟨rfl, rfl, by rw [q_code]; exact h⟩)⟩
/-- a well made term, case by case -/
theorem m_wf_cases {C : qM → Prop} (ha : ∀ t l r, m_wf l → m_wf r → m_ty l = qF (m_ty r) t → C l → C r → C (mN (-1) t l r)) (hb : ∀ a l, m_wf l → C l → C (mN (-2) (qF a (m_ty l)) l .leaf)) (hc : ∀ c t, m_lf c t → C (mN c t .leaf .leaf)) : ∀ t, m_wf t → C t := by
  intro t
  induction t with
  | leaf => exact fun h => h.elim
  | inner c t u l r ihl ihr =>
    intro h
    obtain ⟨h0, h⟩ := h
    rw [mN_eta h0]
    rcases h with ⟨h1, h2, h3, h4⟩ | ⟨h1, h2, h3, a, h4⟩ | ⟨h1, h2, h3⟩
    · rw [h1]; exact ha t l r h2 h3 h4 (ihl h2) (ihr h3)
    · rw [h1, h3, h4]; exact hb a l h2 (ihl h2)
    · rw [h1, h2]; exact hc _ t h3
theorem m_fl_ne {t : qM} (h : m_wf t) : m_fl t ≠ [] := by
  cases t with
  | leaf => exact h.elim
  | inner c t u l r => exact List.cons_ne_nil _ _
theorem m_lf_ne {c : Int32} {t : qT} (h : m_lf c t) : c ≠ -1 ∧ c ≠ -2 := ⟨fun e => by have := h.1; rw [e] at this; exact absurd this (by decide), fun e => by have := h.1; rw [e] at this; exact absurd this (by decide)⟩
/-- no term's symbols begin another's -/
theorem m_fl_inj : ∀ t, m_wf t → ∀ t' r r', m_wf t' → m_fl t ++ r = m_fl t' ++ r' → t = t' ∧ r = r' := by
  refine m_wf_cases ?_ ?_ ?_
  · intro t l r _ _ _ ihl ihr t' q q' ht' he
    refine m_wf_cases (C := fun t' => m_fl (mN (-1) t l r) ++ q = m_fl t' ++ q' → mN (-1) t l r = t' ∧ q = q') ?_ ?_ ?_ t' ht' he
    · intro t2 l2 r2 w1 w2 _ _ _ he
      rw [m_fl_N, m_fl_N, List.cons_append, List.cons_append, List.append_assoc, List.append_assoc] at he
      obtain ⟨e1, e2⟩ := List.cons.inj he
      obtain ⟨f1, f2⟩ := ihl l2 _ _ w1 e2
      obtain ⟨g1, g2⟩ := ihr r2 _ _ w2 f2
      rw [f1, g1, (Prod.mk.inj e1).2]
      exact ⟨rfl, g2⟩
    · intro a l2 _ _ he
      rw [m_fl_N, m_fl_N, List.cons_append, List.cons_append] at he
      exact absurd (Prod.mk.inj (List.cons.inj he).1).1 (by decide)
    · intro c t2 hc he
      rw [m_fl_N, m_fl_N, List.cons_append, List.cons_append] at he
      exact absurd (Prod.mk.inj (List.cons.inj he).1).1.symm (m_lf_ne hc).1
  · intro a l _ ihl t' q q' ht' he
    refine m_wf_cases (C := fun t' => m_fl (mN (-2) (qF a (m_ty l)) l .leaf) ++ q = m_fl t' ++ q' → mN (-2) (qF a (m_ty l)) l .leaf = t' ∧ q = q') ?_ ?_ ?_ t' ht' he
    · intro t2 l2 r2 w1 w2 _ _ _ he
      rw [m_fl_N, m_fl_N, List.cons_append, List.cons_append] at he
      exact absurd (Prod.mk.inj (List.cons.inj he).1).1 (by decide)
    · intro a2 l2 w1 _ he
      rw [m_fl_N, m_fl_N, List.cons_append, List.cons_append, List.append_assoc, List.append_assoc] at he
      obtain ⟨e1, e2⟩ := List.cons.inj he
      obtain ⟨f1, f2⟩ := ihl l2 _ _ w1 e2
      rw [f1] at e1 ⊢
      rw [(Prod.mk.inj e1).2]
      exact ⟨rfl, f2⟩
    · intro c t2 hc he
      rw [m_fl_N, m_fl_N, List.cons_append, List.cons_append] at he
      exact absurd (Prod.mk.inj (List.cons.inj he).1).1.symm (m_lf_ne hc).2
  · intro c t hc t' q q' ht' he
    refine m_wf_cases (C := fun t' => m_fl (mN c t .leaf .leaf) ++ q = m_fl t' ++ q' → mN c t .leaf .leaf = t' ∧ q = q') ?_ ?_ ?_ t' ht' he
    · intro t2 l2 r2 w1 w2 _ _ _ he
      rw [m_fl_N, m_fl_N, List.cons_append, List.cons_append] at he
      exact absurd (Prod.mk.inj (List.cons.inj he).1).1 (m_lf_ne hc).1
    · intro a2 l2 w1 _ he
      rw [m_fl_N, m_fl_N, List.cons_append, List.cons_append] at he
      exact absurd (Prod.mk.inj (List.cons.inj he).1).1 (m_lf_ne hc).2
    · intro c2 t2 hc2 he
      rw [m_fl_N, m_fl_N] at he
      obtain ⟨e1, e2⟩ := List.cons.inj he
      rw [(Prod.mk.inj e1).1, (Prod.mk.inj e1).2]
      exact ⟨rfl, e2⟩
theorem m_fl_eq {t t' : qM} (h : m_wf t) (h' : m_wf t') (e : m_fl t = m_fl t') : t = t' := (m_fl_inj t h t' [] [] h' (by rw [e])).1
theorem m_ht_pos {t : qM} (h : m_wf t) : 0 < m_ht t := by
  cases t with
  | leaf => exact h.elim
  | inner c t u l r => show 0 < 1 + _; omega
/-- lowness of a term with more behind it -/
theorem m_low1 : ∀ t, m_wf t → ∀ (R : List qS) (st : List Nat) (p lv : Nat), rw_low (m_fl t ++ R) (p :: st) lv = if lv + m_ht t ≤ 121 then rw_low R st p else false := by
  refine m_wf_cases ?_ ?_ ?_
  · intro t l r w1 w2 _ ihl ihr R st p lv
    rw [m_fl_N, m_ht_N, List.cons_append, List.append_assoc]
    simp only [rw_low]
    have := m_ht_pos w1
    by_cases e : 120 < lv
    · rw [if_pos e, if_neg (by omega)]
    · rw [if_neg e, if_pos True.intro, ihl]
      by_cases e1 : lv + 1 + m_ht l ≤ 121
      · rw [if_pos e1, ihr]
        by_cases e2 : lv + 1 + m_ht r ≤ 121
        · rw [if_pos e2, if_pos (by omega)]
        · rw [if_neg e2, if_neg (by omega)]
      · rw [if_neg e1, if_neg (by omega)]
  · intro a l w1 ihl R st p lv
    rw [m_fl_N, m_ht_N, List.cons_append, List.append_assoc]
    simp only [rw_low]
    have := m_ht_pos w1
    have hz : m_ht .leaf = 0 := rfl
    by_cases e : 120 < lv
    · rw [if_pos e, if_neg (by omega)]
    · rw [if_neg e, if_neg (by decide), if_pos True.intro]
      show rw_low (m_fl l ++ ([] ++ R)) (p :: st) (lv + 1) = _
      rw [List.nil_append, ihl]
      by_cases e1 : lv + 1 + m_ht l ≤ 121
      · rw [if_pos e1, if_pos (by omega)]
      · rw [if_neg e1, if_neg (by omega)]
  · intro c t hc R st p lv
    rw [m_fl_N, m_ht_N]
    have hz : m_ht .leaf = 0 := rfl
    show rw_low ((c, t) :: R) (p :: st) lv = _
    simp only [rw_low]
    by_cases e : 120 < lv
    · rw [if_pos e, if_neg (by omega)]
    · rw [if_neg e, if_neg (m_lf_ne hc).1, if_neg (m_lf_ne hc).2, if_pos (by omega)]
theorem m_low : ∀ t, m_wf t → ∀ lv, rw_low (m_fl t) [] lv = decide (lv + m_ht t ≤ 121) := by
  refine m_wf_cases ?_ ?_ ?_
  · intro t l r w1 w2 _ _ ihr lv
    rw [m_fl_N, m_ht_N]
    simp only [rw_low]
    have := m_ht_pos w1
    by_cases e : 120 < lv
    · rw [if_pos e, decide_eq_false (by omega)]
    · rw [if_neg e, if_pos True.intro, m_low1 l w1]
      by_cases e1 : lv + 1 + m_ht l ≤ 121
      · rw [if_pos e1, ihr]
        exact decide_eq_decide.mpr (by omega)
      · rw [if_neg e1, decide_eq_false (by omega)]
  · intro a l w1 ihl lv
    rw [m_fl_N, m_ht_N]
    simp only [rw_low]
    have := m_ht_pos w1
    have hz : m_ht .leaf = 0 := rfl
    by_cases e : 120 < lv
    · rw [if_pos e, decide_eq_false (by omega)]
    · rw [if_neg e, if_neg (by decide), if_pos True.intro]
      show rw_low (m_fl l ++ []) [] (lv + 1) = _
      rw [List.append_nil, ihl]
      exact decide_eq_decide.mpr (by omega)
  · intro c t hc lv
    rw [m_fl_N, m_ht_N]
    have hz : m_ht .leaf = 0 := rfl
    show rw_low [(c, t)] [] lv = _
    simp only [rw_low]
    by_cases e : 120 < lv
    · rw [if_pos e, decide_eq_false (by omega)]
    · rw [if_neg e, if_neg (m_lf_ne hc).1, if_neg (m_lf_ne hc).2, decide_eq_true (by omega)]
theorem rw_low_map {T : Nat → Int32 × Int32 × Int32} {n : Nat} : ∀ (R : List rwS) (st : List Nat) (lv : Nat), rw_low (R.map (rt T n)) st lv = rw_low R st lv
  | [], _, _ => rfl
  | s :: R, st, lv => by
    simp only [List.map_cons, rw_low]
    rw [rw_low_map R, rw_low_map R]
    cases st with
    | nil => simp only [rw_low_map R]; rfl
    | cons p st => simp only [rw_low_map R]; rfl
