/-! TYPE VARIABLES, by trees -/
theorem nd_len {α : Type} {l l' : List α} (h : l.Nodup) (hs : ∀ x ∈ l, x ∈ l') : l.length ≤ l'.length := by
  cases l with
  | nil => exact Nat.zero_le _
  | cons a l0 =>
    refine q_pig (a :: l0).length (fun i => ((a :: l0)[i]?).getD a) l' (fun i j hij hj e => ?_) (fun i hi => ?_)
    · have hi : i < (a :: l0).length := by omega
      rw [List.getElem?_eq_getElem hi, List.getElem?_eq_getElem hj] at e
      have e : (a :: l0)[i] = (a :: l0)[j] := e
      have := (List.pairwise_iff_getElem.mp h) i j hi hj hij
      exact this e
    · rw [List.getElem?_eq_getElem hi]
      exact hs _ (List.getElem_mem hi)
theorem nd_eq {α : Type} {l l' : List α} (h : l.Nodup) (h' : l'.Nodup) (hs : ∀ x ∈ l, x ∈ l') : l'.length = l.length ↔ ∀ x ∈ l', x ∈ l := by
  constructor
  · intro e x hx
    refine Classical.byContradiction fun hn => ?_
    have h1 : (x :: l).Nodup := List.nodup_cons.mpr ⟨hn, h⟩
    have := nd_len h1 (fun y hy => (List.mem_cons.mp hy).elim (fun z => by rw [z]; exact hx) (hs y))
    rw [List.length_cons] at this
    omega
  · intro e
    have := nd_len h hs
    have := nd_len h' e
    omega
/-- a type variable -/
def q_vr (c : Int32) : qT := qN c qE qE
/-- a variable is in the types of symbols -/
def vs_in (K : List qS) (c : Int32) : Prop := c < 0 ∧ ∃ s ∈ K, q_sub (q_vr c) s.2
section VR
variable {T : Nat → Int32 × Int32 × Int32} {n : Nat} {kk : Int32 → Nat} {Mk : Nat → Bool}
/-- the codes of the marked variables -/
def ty_vl (T : Nat → Int32 × Int32 × Int32) (M : Nat → Bool) : Nat → List Int32
  | 0 => []
  | k + 1 => if M k = true ∧ (T k).1 < 0 then (T k).1 :: ty_vl T M k else ty_vl T M k
theorem ty_vl_len : ∀ k, (ty_vl T Mk k).length = ty_mv T Mk k
  | 0 => rfl
  | k + 1 => by
    simp only [ty_vl, ty_mv]
    split
    · rw [List.length_cons, ty_vl_len k]
    · rw [ty_vl_len k]; rfl
theorem ty_vl_mem {c : Int32} : ∀ k, (c ∈ ty_vl T Mk k ↔ ∃ i, i < k ∧ Mk i = true ∧ (T i).1 = c ∧ c < 0)
  | 0 => ⟨fun h => by (cases h), fun ⟨i, hi, _⟩ => absurd hi (Nat.not_lt_zero i)⟩
  | k + 1 => by
    simp only [ty_vl]
    by_cases e : Mk k = true ∧ (T k).1 < 0
    · rw [if_pos e, List.mem_cons, ty_vl_mem k]
      constructor
      · rintro (z | ⟨i, i1, i2⟩)
        · exact ⟨k, Nat.lt_succ_self k, e.1, z.symm, by rw [z]; exact e.2⟩
        · exact ⟨i, by omega, i2⟩
      · rintro ⟨i, i1, i2, i3, i4⟩
        by_cases ei : i = k
        · rw [ei] at i3; exact Or.inl i3.symm
        · exact Or.inr ⟨i, by omega, i2, i3, i4⟩
    · rw [if_neg e, ty_vl_mem k]
      constructor
      · exact fun ⟨i, i1, i2⟩ => ⟨i, by omega, i2⟩
      · rintro ⟨i, i1, i2, i3, i4⟩
        have : i ≠ k := fun z => e (by rw [← z]; exact ⟨i2, by rw [i3]; exact i4⟩)
        exact ⟨i, by omega, i2, i3, i4⟩
/-- a variable's place has nothing below it -/
theorem ty_var_row (hk0 : ∀ c, c < 0 → kk c = 0) (hw : ty_wf T n) (hn : n < 2 ^ 31) (har : ty_ar kk T n) {i : Nat} (hi : i < n) (hc : (T i).1 < 0) : T i = ((T i).1, -1, -1) ∧ ct T n (nI i) = q_vr (T i).1 := by
  have h1 := har i hi
  have hct := ct_at hw hn hi
  rw [hct, q_ar_N] at h1
  have h2 := hk0 _ hc
  obtain ⟨w1, w2⟩ := hw i hi
  have f1 : ct T n (T i).2.1 = qE := h1.1.mp h2
  have f2 : ct T n (T i).2.2 = qE := h1.2.1.mp (by omega)
  have e1 : (T i).2.1 = -1 := by
    rcases w1 with z | ⟨x, hx, ex⟩
    · exact z
    · rw [ex, ct_at hw hn (by omega)] at f1
      exact absurd f1 qN_ne
  have e2 : (T i).2.2 = -1 := by
    rcases w2 with z | ⟨x, hx, ex⟩
    · exact z
    · rw [ex, ct_at hw hn (by omega)] at f2
      exact absurd f2 qN_ne
  exact ⟨Prod.ext rfl (Prod.ext e1 e2), by rw [hct, f1, f2]; rfl⟩
theorem ty_vl_nd (hk0 : ∀ c, c < 0 → kk c = 0) (hw : ty_wf T n) (hd : ty_di T n) (hn : n < 2 ^ 31) (har : ty_ar kk T n) : ∀ k, k ≤ n → (ty_vl T Mk k).Nodup
  | 0, _ => List.nodup_nil
  | k + 1, hk => by
    simp only [ty_vl]
    by_cases e : Mk k = true ∧ (T k).1 < 0
    · rw [if_pos e]
      refine List.nodup_cons.mpr ⟨fun z => ?_, ty_vl_nd hk0 hw hd hn har k (by omega)⟩
      obtain ⟨i, i1, i2, i3, i4⟩ := (ty_vl_mem k).mp z
      have a := (ty_var_row hk0 hw hn har (show i < n by omega) (by rw [i3]; exact e.2)).1
      have b := (ty_var_row hk0 hw hn har (show k < n by omega) e.2).1
      exact hd i k i1 (by omega) (by rw [a, b, i3])
    · rw [if_neg e]
      exact ty_vl_nd hk0 hw hd hn har k (by omega)
/-- the marked variables of a stretch are those of its types -/
theorem ty_vl_in (hk0 : ∀ c, c < 0 → kk c = 0) (hw : ty_wf T n) (hd : ty_di T n) (hn : n < 2 ^ 31) (har : ty_ar kk T n) {L : List rwS} (hv : ∀ s ∈ L, rv n s) {c : Int32} : c ∈ ty_vl T (ty_mL T n L) n ↔ vs_in (L.map (rt T n)) c := by
  rw [ty_vl_mem]
  constructor
  · intro ⟨i, i1, i2, i3, i4⟩
    obtain ⟨s, s1, s2⟩ := (ty_mL_t hw hd hn hv i1).mp i2
    rw [(ty_var_row hk0 hw hn har i1 (by rw [i3]; exact i4)).2, i3] at s2
    exact ⟨i4, s, s1, s2⟩
  · intro ⟨c0, s, s1, s2⟩
    obtain ⟨s', s3, s4⟩ := List.mem_map.mp s1
    obtain ⟨a, a1, a2⟩ := hv s' s3
    have hS : ct_S T n (q_vr c) := by
      refine ct_S_sub hw hn ⟨a, a1, rfl⟩ ?_
      rw [← s4] at s2
      have : q_sub (q_vr c) (ct T n s'.2) := s2
      rw [a2] at this
      exact this
    obtain ⟨i, i1, i2⟩ := hS
    have hci : (T i).1 = c := by
      rw [ct_at hw hn i1] at i2
      exact (qN_inj.mp i2).1
    exact ⟨i, i1, (ty_mL_t hw hd hn hv i1).mpr ⟨s, s1, by rw [i2]; exact s2⟩, hci, c0⟩
/-- a marked variable with a number from x on -/
def M_ok (T : Nat → Int32 × Int32 × Int32) (Mk : Nat → Bool) (x : Int32) (k : Nat) : Prop := Mk k = true ∧ (T k).1 < 0 ∧ ¬ (-1 - (T k).1 < x)
/-- the variable with the lowest number from x on -/
theorem ty_lmv_t {x : Int32} : ∀ k, (ty_lmv T Mk x k = -1 ∧ ∀ j, j < k → Mk j = true → (T j).1 < 0 → -1 - (T j).1 < x) ∨ ∃ i, i < k ∧ ty_lmv T Mk x k = nI i ∧ Mk i = true ∧ (T i).1 < 0 ∧ ¬ (-1 - (T i).1 < x) ∧ (k < 2 ^ 31 → ∀ j, j < k → Mk j = true → (T j).1 < 0 → ¬ (-1 - (T j).1 < x) → (T j).1 ≤ (T i).1)
  | 0 => Or.inl ⟨rfl, fun j hj => absurd hj (Nat.not_lt_zero j)⟩
  | k + 1 => by
    rw [ty_lmv_succ]
    rcases ty_lmv_t (x := x) k with ⟨a1, a2⟩ | ⟨i, i1, i2, i3, i4, i5, i6⟩
    · by_cases e : M_ok T Mk x k
      · rw [if_pos ⟨e.1, e.2.1, e.2.2, Or.inl a1⟩]
        refine Or.inr ⟨k, Nat.lt_succ_self k, rfl, e.1, e.2.1, e.2.2, fun _ j hj h1 h2 h3 => ?_⟩
        by_cases ej : j = k
        · rw [ej]; exact Int32.le_refl _
        · exact absurd (a2 j (by omega) h1 h2) h3
      · rw [if_neg (fun z => e ⟨z.1, z.2.1, z.2.2.1⟩)]
        refine Or.inl ⟨a1, fun j hj h1 h2 => ?_⟩
        by_cases ej : j = k
        · refine Classical.byContradiction fun h3 => e ?_
          rw [ej] at h1 h2 h3
          exact ⟨h1, h2, h3⟩
        · exact a2 j (by omega) h1 h2
    · by_cases e : M_ok T Mk x k ∧ (T (ty_lmv T Mk x k).toNatClampNeg).1 < (T k).1
      · rw [if_pos ⟨e.1.1, e.1.2.1, e.1.2.2, Or.inr e.2⟩]
        refine Or.inr ⟨k, Nat.lt_succ_self k, rfl, e.1.1, e.1.2.1, e.1.2.2, fun h31 j hj h1 h2 h3 => ?_⟩
        have e2 := e.2
        rw [i2, nI_clamp (by omega)] at e2
        by_cases ej : j = k
        · rw [ej]; exact Int32.le_refl _
        · exact Int32.le_trans (i6 (by omega) j (by omega) h1 h2 h3) (Int32.le_of_lt e2)
      · by_cases hk31 : k + 1 < 2 ^ 31
        · rw [if_neg (fun z => by
            rcases z.2.2.2 with q | q
            · rw [i2] at q; exact nI_ne_m1 (by omega) q
            · exact e ⟨⟨z.1, z.2.1, z.2.2.1⟩, q⟩)]
          refine Or.inr ⟨i, by omega, i2, i3, i4, i5, fun _ j hj h1 h2 h3 => ?_⟩
          by_cases ej : j = k
          · refine Int32.not_lt.mp fun z => e ⟨?_, ?_⟩
            · rw [ej] at h1 h2 h3; exact ⟨h1, h2, h3⟩
            · rw [i2, nI_clamp (by omega), ← ej]; exact z
          · exact i6 (by omega) j (by omega) h1 h2 h3
        · by_cases e7 : M_ok T Mk x k ∧ (ty_lmv T Mk x k = -1 ∨ (T (ty_lmv T Mk x k).toNatClampNeg).1 < (T k).1)
          · rw [if_pos ⟨e7.1.1, e7.1.2.1, e7.1.2.2, e7.2⟩]
            exact Or.inr ⟨k, Nat.lt_succ_self k, rfl, e7.1.1, e7.1.2.1, e7.1.2.2, fun z => absurd z hk31⟩
          · rw [if_neg (fun z => e7 ⟨⟨z.1, z.2.1, z.2.2.1⟩, z.2.2.2⟩)]
            exact Or.inr ⟨i, by omega, i2, i3, i4, i5, fun z => absurd z hk31⟩
end VR
