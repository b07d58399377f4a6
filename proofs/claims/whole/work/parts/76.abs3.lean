/-! WHAT STANDS, 2: it holds from entry to entry -/
def aG (S : qT → Prop) (sq : List qQ) (ow et : List qT) (em : List qM) : Prop :=
  (∀ t u, S t → q_sub u t → S u) ∧ (S qA ∧ S qB) ∧ (∀ t ∈ ow, S t) ∧ (∀ t ∈ et, S t) ∧ (∀ t, q_of em t → S t) ∧ ∀ t, q_of (sq_rows sq) t → S t
def aH (S : qT → Prop) (A : sV) : Prop :=
  (∀ j, A.2.1 ≤ j → j ≤ A.1.length → aG (A.2.2.1 j).1 (A.1.take j) A.2.2.2.2.1 (A.2.2.2.2.2.1.take (A.2.2.1 j).2.1) (A.2.2.2.2.2.2.take (A.2.2.1 j).2.2) ∧ (A.2.2.1 j).2.1 ≤ A.2.2.2.2.2.1.length ∧ (A.2.2.1 j).2.2 ≤ A.2.2.2.2.2.2.length ∧ ∀ t, (A.2.2.1 j).1 t → S t) ∧
  (∀ i j, A.2.1 ≤ i → i ≤ j → j ≤ A.1.length → (∀ t, (A.2.2.1 i).1 t → (A.2.2.1 j).1 t) ∧ (A.2.2.1 i).2.1 ≤ (A.2.2.1 j).2.1 ∧ (A.2.2.1 i).2.2 ≤ (A.2.2.1 j).2.2)
def aI (S : qT → Prop) (A : sV) : Prop :=
  aG S A.1 A.2.2.2.2.1 A.2.2.2.2.2.1 A.2.2.2.2.2.2 ∧ (∀ t, S t → q_ok A.2.2.2.1 t) ∧ q_good S ∧ sgk A.2.2.2.1 ∧ (A.2.2.2.2.1[0]? = some (qF qA (qF qA qB)) ∧ A.2.2.2.2.1.length ≤ 200) ∧ (∀ s ∈ A.1, m_ty s.2 = qB) ∧ (∀ M ∈ A.2.2.2.2.2.2, m_bd M ∧ m_ok A.2.2.2.1 M) ∧ (∀ X ∈ sq_rows A.1, m_ok A.2.2.2.1 X) ∧ A.2.1 ≤ A.1.length ∧ aH S A
theorem q_sub_self {t : qT} (h : t ≠ qE) : q_sub t t := by
  cases t with
  | leaf u => exact absurd rfl h
  | branch c l r => exact Or.inl rfl
theorem q_of_ap {X Y : List qM} {t : qT} : q_of (X ++ Y) t ↔ q_of X t ∨ q_of Y t := by
  constructor
  · intro ⟨M, m1, m2⟩
    rcases List.mem_append.mp m1 with z | z
    · exact Or.inl ⟨M, z, m2⟩
    · exact Or.inr ⟨M, z, m2⟩
  · intro h
    rcases h with ⟨M, m1, m2⟩ | ⟨M, m1, m2⟩
    · exact ⟨M, List.mem_append.mpr (Or.inl m1), m2⟩
    · exact ⟨M, List.mem_append.mpr (Or.inr m1), m2⟩
theorem q_of_1 {c : Int32} {u t : qT} {l r : qM} : q_of [mN c u l r] t ↔ q_sub t u ∨ q_of [l] t ∨ q_of [r] t := by
  constructor
  · intro ⟨M, m1, s, s1, s2⟩
    rw [List.mem_singleton.mp m1, m_fl_N] at s1
    rcases List.mem_cons.mp s1 with e | e
    · rw [e] at s2; exact Or.inl s2
    · rcases List.mem_append.mp e with e | e
      · exact Or.inr (Or.inl ⟨l, List.mem_singleton.mpr rfl, s, e, s2⟩)
      · exact Or.inr (Or.inr ⟨r, List.mem_singleton.mpr rfl, s, e, s2⟩)
  · intro h
    rcases h with h | ⟨M, m1, s, s1, s2⟩ | ⟨M, m1, s, s1, s2⟩
    · exact ⟨_, List.mem_singleton.mpr rfl, (c, u), by rw [m_fl_N]; exact List.mem_cons_self, h⟩
    · rw [List.mem_singleton.mp m1] at s1
      exact ⟨_, List.mem_singleton.mpr rfl, s, by rw [m_fl_N]; exact List.mem_cons_of_mem _ (List.mem_append.mpr (Or.inl s1)), s2⟩
    · rw [List.mem_singleton.mp m1] at s1
      exact ⟨_, List.mem_singleton.mpr rfl, s, by rw [m_fl_N]; exact List.mem_cons_of_mem _ (List.mem_append.mpr (Or.inr s1)), s2⟩
theorem q_of_lf {t : qT} : ¬ q_of [Std.DTreeMap.Internal.Impl.leaf] t := fun ⟨M, m1, s, s1, _⟩ => by
  rw [List.mem_singleton.mp m1] at s1
  cases s1
theorem q_of_mem {X : qM} {L : List qM} {t : qT} (h : X ∈ L) (k : q_of [X] t) : q_of L t := by
  obtain ⟨M, m1, m2⟩ := k
  rw [List.mem_singleton.mp m1] at m2
  exact ⟨X, h, m2⟩
theorem q_of_ty {X : qM} {t : qT} (hw : m_wf X) (h : q_sub t (m_ty X)) : q_of [X] t := by
  have e : m_fl X = (m_c X, m_ty X) :: (m_fl (m_l X) ++ m_fl (m_r X)) := by
    conv => lhs; rw [m_eta hw]
    exact m_fl_N
  exact ⟨X, List.mem_singleton.mpr rfl, (m_c X, m_ty X), by rw [e]; exact List.mem_cons_self, h⟩
section AI
variable {S S' : qT → Prop} {A : sV}
theorem aI.et (h : aI S A) {t : qT} (hc : ∀ u, q_sub u t → u = t ∨ S u) (ht : q_ok A.2.2.2.1 t) (hg : q_good (q_ad S t)) : aI (q_ad S t) (a_et A t) := by
  obtain ⟨⟨a1, a2, a3, a4, a5, a6⟩, b, c, d, e, f, g, g', i, j1, j2⟩ := h
  refine ⟨⟨?_, ⟨Or.inl a2.1, Or.inl a2.2⟩, fun t ht => Or.inl (a3 t ht), fun u hu => ?_, fun t ht => Or.inl (a5 t ht), fun t ht => Or.inl (a6 t ht)⟩, ?_, hg, d, e, f, g, g', i, ?_, j2⟩
  · intro u v hu hv
    rcases hu with hu | hu
    · exact Or.inl (a1 u v hu hv)
    · rw [hu] at hv
      exact (hc v hv).symm
  · rcases List.mem_append.mp hu with z | z
    · exact Or.inl (a4 u z)
    · exact Or.inr (List.mem_singleton.mp z)
  · intro u hu
    rcases hu with hu | hu
    · exact b u hu
    · rw [hu]; exact ht
  · intro j k1 k2
    obtain ⟨l1, l2, l3, l4⟩ := j1 j k1 k2
    refine ⟨?_, ?_, l3, fun t ht => Or.inl (l4 t ht)⟩
    · show aG _ _ _ ((A.2.2.2.2.2.1 ++ [t]).take (A.2.2.1 j).2.1) _
      rw [List.take_append_of_le_length l2]; exact l1
    · show (A.2.2.1 j).2.1 ≤ (A.2.2.2.2.2.1 ++ [t]).length
      rw [List.length_append]; omega
theorem aI.em (h : aI S A) {M : qM} (hm : m_bd M) (hk : m_ok A.2.2.2.1 M) (hc : ∀ u, q_sub u (m_ty M) → u = m_ty M ∨ S u) (hq : ∀ t, q_of [M] t → t = m_ty M ∨ S t) (ht : q_ok A.2.2.2.1 (m_ty M)) (hg : q_good (q_ad S (m_ty M))) : aI (q_ad S (m_ty M)) (a_em A M) := by
  obtain ⟨⟨a1, a2, a3, a4, a5, a6⟩, b, c, d, e, f, g, g', i, j1, j2⟩ := h
  refine ⟨⟨?_, ⟨Or.inl a2.1, Or.inl a2.2⟩, fun t ht => Or.inl (a3 t ht), fun t ht => Or.inl (a4 t ht), fun u hu => ?_, fun t ht => Or.inl (a6 t ht)⟩, ?_, hg, d, e, f, ?_, g', i, ?_, j2⟩
  · intro u v hu hv
    rcases hu with hu | hu
    · exact Or.inl (a1 u v hu hv)
    · rw [hu] at hv
      exact (hc v hv).symm
  · rcases q_of_ap.mp hu with z | z
    · exact Or.inl (a5 u z)
    · exact (hq u z).symm
  · intro u hu
    rcases hu with hu | hu
    · exact b u hu
    · rw [hu]; exact ht
  · intro X hX
    rcases List.mem_append.mp hX with z | z
    · exact g X z
    · rw [List.mem_singleton.mp z]; exact ⟨hm, hk⟩
  · intro j k1 k2
    obtain ⟨l1, l2, l3, l4⟩ := j1 j k1 k2
    refine ⟨?_, l2, ?_, fun t ht => Or.inl (l4 t ht)⟩
    · show aG _ _ _ _ ((A.2.2.2.2.2.2 ++ [M]).take (A.2.2.1 j).2.2)
      rw [List.take_append_of_le_length l3]; exact l1
    · show (A.2.2.1 j).2.2 ≤ (A.2.2.2.2.2.2 ++ [M]).length
      rw [List.length_append]; omega
theorem aI.new (h : aI S A) {fm : Nat} {Q : List qQ} {ks : List Nat} {os : List qT} (hS : ∀ t, S t → S' t) (hcl : ∀ t u, S' t → q_sub u t → S' u) (hQ : ∀ t, q_of (sq_rows Q) t → S' t) (hok : ∀ t, S' t → q_ok (A.2.2.2.1 ++ ks) t) (hg : q_good S') (hsg : sgk (A.2.2.2.1 ++ ks)) (hol : (A.2.2.2.2.1 ++ os).length ≤ 200) (hos : ∀ t ∈ os, S' t) (hB : ∀ s ∈ Q, m_ty s.2 = qB) (hm : ∀ X ∈ sq_rows Q, m_ok (A.2.2.2.1 ++ ks) X) (hold : ∀ t, q_ok A.2.2.2.1 t → q_ok (A.2.2.2.1 ++ ks) t) (hfm : (fm = A.2.1 ∧ os = [] ∧ Q.length = 1) ∨ fm = A.1.length + Q.length) : aI S' (a_new A fm S' Q ks os) := by
  obtain ⟨⟨a1, a2, a3, a4, a5, a6⟩, b, c, d, e, f, g, g', i, j1, j2⟩ := h
  have hG : aG S' (A.1 ++ Q) (A.2.2.2.2.1 ++ os) A.2.2.2.2.2.1 A.2.2.2.2.2.2 := by
    refine ⟨hcl, ⟨hS _ a2.1, hS _ a2.2⟩, fun t ht => ?_, fun t ht => hS t (a4 t ht), fun t ht => hS t (a5 t ht), fun t ht => ?_⟩
    · rcases List.mem_append.mp ht with z | z
      · exact hS t (a3 t z)
      · exact hos t z
    · rw [sq_rows_ap] at ht
      rcases q_of_ap.mp ht with z | z
      · exact hS t (a6 t z)
      · exact hQ t z
  have hl : (A.1 ++ Q).length = A.1.length + Q.length := List.length_append
  refine ⟨hG, hok, hg, hsg, ⟨?_, hol⟩, ?_, ?_, ?_, ?_, ?_, ?_⟩
  · show (A.2.2.2.2.1 ++ os)[0]? = _
    rw [List.getElem?_append_left (List.getElem?_eq_some_iff.mp e.1).1]; exact e.1
  · intro s hs
    rcases List.mem_append.mp hs with z | z
    · exact f s z
    · exact hB s z
  · intro M hM
    obtain ⟨g1, g2⟩ := g M hM
    exact ⟨g1, fun s hs => hold _ (g2 s hs)⟩
  · intro X hX
    have hX : X ∈ sq_rows (A.1 ++ Q) := hX
    rw [sq_rows_ap] at hX
    rcases List.mem_append.mp hX with z | z
    · exact fun s hs => hold _ (g' X z s hs)
    · exact hm X z
  · show fm ≤ (A.1 ++ Q).length
    rw [hl]
    rcases hfm with ⟨h1, _, h2⟩ | h1 <;> omega
  · intro j k1 k2
    have k1 : fm ≤ j := k1
    have k2 : j ≤ (A.1 ++ Q).length := k2
    rw [hl] at k2
    show aG (th_ad A.2.2.1 (A.1.length + Q.length) (S', A.2.2.2.2.2.1.length, A.2.2.2.2.2.2.length) j).1 ((A.1 ++ Q).take j) _ (A.2.2.2.2.2.1.take (th_ad A.2.2.1 (A.1.length + Q.length) (S', A.2.2.2.2.2.1.length, A.2.2.2.2.2.2.length) j).2.1) (A.2.2.2.2.2.2.take (th_ad A.2.2.1 (A.1.length + Q.length) (S', A.2.2.2.2.2.1.length, A.2.2.2.2.2.2.length) j).2.2) ∧ (th_ad A.2.2.1 (A.1.length + Q.length) (S', A.2.2.2.2.2.1.length, A.2.2.2.2.2.2.length) j).2.1 ≤ _ ∧ (th_ad A.2.2.1 (A.1.length + Q.length) (S', A.2.2.2.2.2.1.length, A.2.2.2.2.2.2.length) j).2.2 ≤ _ ∧ ∀ t, (th_ad A.2.2.1 (A.1.length + Q.length) (S', A.2.2.2.2.2.1.length, A.2.2.2.2.2.2.length) j).1 t → S' t
    unfold th_ad
    by_cases ej : j = A.1.length + Q.length
    · rw [if_pos ej, List.take_length, List.take_length, ej, ← hl, List.take_length]
      exact ⟨hG, Nat.le_refl _, Nat.le_refl _, fun t ht => ht⟩
    · rw [if_neg ej]
      rcases hfm with ⟨h1, h2, h3⟩ | h1
      · obtain ⟨l1, l2, l3, l4⟩ := j1 j (by omega) (by omega)
        rw [List.take_append_of_le_length (by omega)]
        refine ⟨?_, l2, l3, fun t ht => hS t (l4 t ht)⟩
        show aG _ _ (A.2.2.2.2.1 ++ os) _ _
        rw [h2, List.append_nil]; exact l1
      · omega
  · intro p q k1 k2 k3
    have k1 : fm ≤ p := k1
    have k3 : q ≤ (A.1 ++ Q).length := k3
    rw [hl] at k3
    show (∀ t, (th_ad A.2.2.1 (A.1.length + Q.length) (S', A.2.2.2.2.2.1.length, A.2.2.2.2.2.2.length) p).1 t → (th_ad A.2.2.1 (A.1.length + Q.length) (S', A.2.2.2.2.2.1.length, A.2.2.2.2.2.2.length) q).1 t) ∧ (th_ad A.2.2.1 (A.1.length + Q.length) (S', A.2.2.2.2.2.1.length, A.2.2.2.2.2.2.length) p).2.1 ≤ (th_ad A.2.2.1 (A.1.length + Q.length) (S', A.2.2.2.2.2.1.length, A.2.2.2.2.2.2.length) q).2.1 ∧ (th_ad A.2.2.1 (A.1.length + Q.length) (S', A.2.2.2.2.2.1.length, A.2.2.2.2.2.2.length) p).2.2 ≤ (th_ad A.2.2.1 (A.1.length + Q.length) (S', A.2.2.2.2.2.1.length, A.2.2.2.2.2.2.length) q).2.2
    unfold th_ad
    by_cases eq : q = A.1.length + Q.length
    · rw [if_pos eq]
      by_cases ep : p = A.1.length + Q.length
      · rw [if_pos ep]; exact ⟨fun _ h => h, Nat.le_refl _, Nat.le_refl _⟩
      · rw [if_neg ep]
        rcases hfm with ⟨h1, h2, h3⟩ | h1
        · obtain ⟨l1, l2, l3, l4⟩ := j1 p (by omega) (by omega)
          exact ⟨fun t ht => hS t (l4 t ht), l2, l3⟩
        · omega
    · rw [if_neg eq]
      rcases hfm with ⟨h1, h2, h3⟩ | h1
      · rw [if_neg (by omega)]
        exact j2 p q (by omega) k2 (by omega)
      · omega
/-- cut -/
def a_cut (A : sV) (n : Nat) : sV := (A.1.take n, A.2.1, A.2.2.1, A.2.2.2.1, A.2.2.2.2.1, A.2.2.2.2.2.1.take (A.2.2.1 n).2.1, A.2.2.2.2.2.2.take (A.2.2.1 n).2.2)
theorem aI.cut (h : aI S A) {n : Nat} (h1 : A.2.1 ≤ n) (h2 : n ≤ A.1.length) : aI (A.2.2.1 n).1 (a_cut A n) := by
  obtain ⟨-, b, c, d, e, f, g, g', i, j1, j2⟩ := h
  obtain ⟨l1, l2, l3, l4⟩ := j1 n h1 h2
  have hl : (A.1.take n).length = n := by rw [List.length_take]; omega
  refine ⟨l1, fun t ht => b t (l4 t ht), c.mono l4, d, e, fun s hs => f s (List.mem_of_mem_take hs), fun M hM => g M (List.mem_of_mem_take hM), fun X hX => g' X ?_, by rw [show (a_cut A n).1 = A.1.take n from rfl, hl]; exact h1, ?_, ?_⟩
  · have hX : X ∈ sq_rows (A.1.take n) := hX
    have : X ∈ sq_rows (A.1.take n ++ A.1.drop n) := by rw [sq_rows_ap]; exact List.mem_append.mpr (Or.inl hX)
    rw [List.take_append_drop] at this
    exact this
  · intro j k1 k2
    have k2 : j ≤ (A.1.take n).length := k2
    rw [hl] at k2
    obtain ⟨m1, m2, m3, m4⟩ := j1 j k1 (by omega)
    obtain ⟨p1, p2, p3⟩ := j2 j n k1 k2 h2
    show aG (A.2.2.1 j).1 ((A.1.take n).take j) _ ((A.2.2.2.2.2.1.take (A.2.2.1 n).2.1).take (A.2.2.1 j).2.1) ((A.2.2.2.2.2.2.take (A.2.2.1 n).2.2).take (A.2.2.1 j).2.2) ∧ (A.2.2.1 j).2.1 ≤ (A.2.2.2.2.2.1.take (A.2.2.1 n).2.1).length ∧ (A.2.2.1 j).2.2 ≤ (A.2.2.2.2.2.2.take (A.2.2.1 n).2.2).length ∧ ∀ t, (A.2.2.1 j).1 t → (A.2.2.1 n).1 t
    rw [List.take_take, List.take_take, List.take_take, Nat.min_eq_left k2, Nat.min_eq_left p2, Nat.min_eq_left p3, List.length_take, List.length_take]
    exact ⟨m1, by omega, by omega, p1⟩
  · intro p q k1 k2 k3
    have k3 : q ≤ (A.1.take n).length := k3
    rw [hl] at k3
    exact j2 p q k1 k2 (by omega)
end AI
