/-! KEEP of the class, 1: what shortenToMarked leaves, by trees -/
section KP
variable {T0 : Nat → Int32 × Int32 × Int32} {n0 m : Nat} {M : Nat → Bool}
theorem ty_sm_t (hw0 : ty_wf T0 n0) (hd0 : ty_di T0 n0) (h8 : n0 ≤ 8000) (hg : q_good (ct_S T0 n0)) (hm : m ≤ n0) (hM : ∀ i, i < n0 → M i = true → (∀ l, l < n0 → (T0 i).2.1 = nI l → M l = true) ∧ ∀ l, l < n0 → (T0 i).2.2 = nI l → M l = true) :
    ∀ (j k n : Nat) (T : Nat → Int32 × Int32 × Int32) (I : Nat → Int32), k + j = n0 → m ≤ k → n ≤ k → ty_wf T n → ty_di T n → ty_xt m T0 n T → (∀ i, i < k → M i = true → pl n T (I i) (ct T0 n0 (nI i))) → (∀ i, k ≤ i → i < n0 → (I i = -1 ↔ M i = false)) → (∀ t, ct_S T n t ↔ ct_S T0 m t ∨ ∃ i, i < k ∧ M i = true ∧ t = ct T0 n0 (nI i)) →
    ty_wf (ty_sm T0 j k n T I).2.1 (ty_sm T0 j k n T I).1 ∧ ty_di (ty_sm T0 j k n T I).2.1 (ty_sm T0 j k n T I).1 ∧ ty_xt m T0 (ty_sm T0 j k n T I).1 (ty_sm T0 j k n T I).2.1 ∧ (∀ i, i < n0 → M i = true → pl (ty_sm T0 j k n T I).1 (ty_sm T0 j k n T I).2.1 ((ty_sm T0 j k n T I).2.2 i) (ct T0 n0 (nI i))) ∧ ∀ t, ct_S (ty_sm T0 j k n T I).2.1 (ty_sm T0 j k n T I).1 t ↔ ct_S T0 m t ∨ ∃ i, i < n0 ∧ M i = true ∧ t = ct T0 n0 (nI i) := by
  have h31 : n0 < 2 ^ 31 := by omega
  intro j
  induction j with
  | zero =>
    intro k n T I hk hmk hnk hw hd hx h1 h2 h3
    obtain rfl : k = n0 := by omega
    exact ⟨hw, hd, hx, h1, h3⟩
  | succ j ih =>
    intro k n T I hk hmk hnk hw hd hx h1 h2 h3
    have hkn : k < n0 := by omega
    simp only [ty_sm]
    by_cases e : I k = -1
    · rw [if_pos e]
      have hMk : M k = false := (h2 k (Nat.le_refl _) hkn).mp e
      have nk : ∀ {i}, i < k + 1 → M i = true → i < k := fun {i} a b => by
        by_cases z : i = k
        · rw [z, hMk] at b; cases b
        · omega
      exact ih (k + 1) n T I (by omega) (by omega) (by omega) hw hd hx (fun i hi hm => h1 i (nk hi hm) hm) (fun i a b => h2 i (by omega) b) fun t => by
        rw [h3 t]
        exact ⟨fun z => z.imp id fun ⟨i, a, b⟩ => ⟨i, by omega, b⟩, fun z => z.imp id fun ⟨i, a, b⟩ => ⟨i, nk a b.1, b⟩⟩
    · rw [if_neg e]
      have hMk : M k = true := by
        cases hh : M k with
        | true => rfl
        | false => exact absurd ((h2 k (Nat.le_refl _) hkn).mpr hh) e
      obtain ⟨w1, w2⟩ := hw0 k hkn
      obtain ⟨m1, m2⟩ := hM k hkn hMk
      have hn : n < 2 ^ 31 := by omega
      have im : ∀ {x : Int32}, ty_in k x → (∀ l, l < n0 → x = nI l → M l = true) → ty_in n (ty_imv I x) ∧ ct T n (ty_imv I x) = ct T0 n0 x := fun {x} hx' hl => by
        rcases hx' with rfl | ⟨l, l1, rfl⟩
        · refine ⟨Or.inl (by simp [ty_imv]), ?_⟩
          rw [show ty_imv I (-1) = -1 by simp [ty_imv], ct_m1, ct_m1]
        · have e1 : ty_imv I (nI l) = I l := by simp only [ty_imv, if_neg (nI_ne_m1 (show l < 2 ^ 31 by omega)), nI_clamp (show l < 2 ^ 31 by omega)]
          have p := h1 l l1 (hl l (by omega) rfl)
          rw [e1]
          exact ⟨p.In, p.ct⟩
      obtain ⟨a1, a2⟩ := im w1 m1
      obtain ⟨b1, b2⟩ := im w2 m2
      have hc := ct_at hw0 h31 hkn
      obtain ⟨d1, d2, d3⟩ := ty_mk_mo hw hd (show n ≤ 8000 by omega) (q := ((T0 k).1, ty_imv I (T0 k).2.1, ty_imv I (T0 k).2.2)) a1 b1
      obtain ⟨d4, d5⟩ := ty_mk_wf hw (q := ((T0 k).1, ty_imv I (T0 k).2.1, ty_imv I (T0 k).2.2)) a1 b1 (show n ≤ 8000 by omega)
      have d6 := ty_mk_le (T := T) (n := n) (q := ((T0 k).1, ty_imv I (T0 k).2.1, ty_imv I (T0 k).2.2))
      rw [a2, b2, ← hc] at d1
      have sub : ∀ t, ct_S T n t → ct_S T0 n0 t := fun t ht => by
        rcases (h3 t).mp ht with z | ⟨i, i1, i2, i3⟩
        · exact z.xt (fun j hj => hw0 j (by omega)) (by omega) ⟨hm, fun _ _ => rfl⟩
        · exact ⟨i, by omega, i3.symm⟩
      rcases d1 with ⟨g1, g2⟩ | ⟨g1, g2, g3, g4⟩
      · refine ih (k + 1) _ _ _ (by omega) (by omega) (by omega) d4 d2 (hx.tr d3) (fun i hi hm' => ?_) (fun i a b => ?_) (fun t => ?_)
        · by_cases z : i = k
          · rw [z]
            unfold ty_updI
            rw [if_pos rfl]
            exact g1
          · unfold ty_updI
            rw [if_neg z]
            exact (h1 i (by omega) hm').xt hw hn d3
        · unfold ty_updI
          rw [if_neg (by omega)]
          exact h2 i (by omega) b
        · constructor
          · intro z
            rcases g2 t z with z | z
            · rcases (h3 t).mp z with z | ⟨i, i1, i2⟩
              · exact Or.inl z
              · exact Or.inr ⟨i, by omega, i2⟩
            · exact Or.inr ⟨k, by omega, hMk, z⟩
          · rintro (z | ⟨i, i1, i2, i3⟩)
            · exact ((h3 t).mpr (Or.inl z)).xt hw hn d3
            · by_cases y : i = k
              · rw [i3, y]; exact g1.S
              · exact ((h3 t).mpr (Or.inr ⟨i, by omega, i2, i3⟩)).xt hw hn d3
      · exact absurd hg (g4 _ sub ⟨k, hkn, rfl⟩)
/-- from the start -/
theorem ty_sm_0 {I : Nat → Int32} (hw0 : ty_wf T0 n0) (hd0 : ty_di T0 n0) (h8 : n0 ≤ 8000) (hg : q_good (ct_S T0 n0)) (hm : m ≤ n0) (hM : ∀ i, i < n0 → M i = true → (∀ l, l < n0 → (T0 i).2.1 = nI l → M l = true) ∧ ∀ l, l < n0 → (T0 i).2.2 = nI l → M l = true) (hI : ∀ i, i < n0 → I i = if M i = true then nI i else -1) :
    ty_gk T0 n0 m m I ∧ ty_wf (ty_sm T0 (n0 - m) m m T0 I).2.1 (ty_sm T0 (n0 - m) m m T0 I).1 ∧ ty_di (ty_sm T0 (n0 - m) m m T0 I).2.1 (ty_sm T0 (n0 - m) m m T0 I).1 ∧ ty_xt m T0 (ty_sm T0 (n0 - m) m m T0 I).1 (ty_sm T0 (n0 - m) m m T0 I).2.1 ∧ (∀ i, i < n0 → M i = true → pl (ty_sm T0 (n0 - m) m m T0 I).1 (ty_sm T0 (n0 - m) m m T0 I).2.1 ((ty_sm T0 (n0 - m) m m T0 I).2.2 i) (ct T0 n0 (nI i))) ∧ ∀ t, ct_S (ty_sm T0 (n0 - m) m m T0 I).2.1 (ty_sm T0 (n0 - m) m m T0 I).1 t ↔ ct_S T0 m t ∨ ∃ i, i < n0 ∧ M i = true ∧ t = ct T0 n0 (nI i) := by
  have hwm : ty_wf T0 m := fun j hj => hw0 j (by omega)
  have hne : ∀ i, i < n0 → (I i ≠ -1 ↔ M i = true) := fun i hi => by
    rw [hI i hi]
    by_cases z : M i = true
    · rw [if_pos z]; exact ⟨fun _ => z, fun _ => nI_ne_m1 (by omega)⟩
    · rw [if_neg z]; exact ⟨fun y => absurd rfl y, fun y => absurd y z⟩
  have e : ∀ i, i < m → ct T0 n0 (nI i) = ct T0 m (nI i) := fun i hi => ct_ext hwm (fun _ _ => rfl) (by omega) hm (Or.inr ⟨i, hi, rfl⟩)
  refine ⟨⟨fun i hi hi' => Or.inr ⟨i, hi, ?_⟩, fun i hi hi' => ?_⟩, ty_sm_t hw0 hd0 h8 hg hm hM (n0 - m) m m T0 I (by omega) (Nat.le_refl _) (Nat.le_refl _) hwm (fun i j a b => hd0 i j a (by omega)) ⟨Nat.le_refl _, fun _ _ => rfl⟩ (fun i hi hm' => ?_) (fun i a b => ?_) (fun t => ?_)⟩
  · rw [hI i (by omega), if_pos ((hne i (by omega)).mp hi')]
  · obtain ⟨a, b⟩ := hM i hi ((hne i hi).mp hi')
    exact ⟨fun l l1 l2 => (hne l l1).mpr (a l l1 l2), fun l l1 l2 => (hne l l1).mpr (b l l1 l2)⟩
  · rw [hI i (by omega), if_pos hm']
    exact ⟨i, hi, rfl, (e i hi).symm⟩
  · constructor
    · intro z
      cases hh : M i with
      | false => rfl
      | true => exact absurd z ((hne i b).mpr hh)
    · intro z
      rw [hI i b, z]; rfl
  · constructor
    · exact Or.inl
    · rintro (z | ⟨i, i1, i2, i3⟩)
      · exact z
      · exact ⟨i, i1, by rw [i3, e i i1]⟩
end KP
