/-! TYPES of the class, 6: make -/
/-- a type may be made: no limit forbids it -/
def ty_lim (T : Nat → Int32 × Int32 × Int32) (n : Nat) (q : Int32 × Int32 × Int32) : Prop := 1 + ty_sz T n q.2.1 + ty_sz T n q.2.2 ≤ 200 ∧ 1 + max (ty_ht T n q.2.1) (ty_ht T n q.2.2) ≤ 24 ∧ n < 8000
/-- what make answers, and the table behind it -/
noncomputable def ty_mk (T : Nat → Int32 × Int32 × Int32) (n : Nat) (q : Int32 × Int32 × Int32) : Int32 × Nat × (Nat → Int32 × Int32 × Int32) :=
  if q.2.1 = -2 ∨ q.2.2 = -2 then (-2, n, T) else if ty_fnd T q n ≠ -1 then (ty_fnd T q n, n, T) else @ite _ (ty_lim T n q) (Classical.propDecidable _) (nI n, n + 1, ty_add T n q) (-2, n, T)
section TY6
variable {sa : Nat → Nat} {B : Nat} {ρ : hp_L} {P : hp_P} {n : Nat} {T : Nat → Int32 × Int32 × Int32}
theorem ty_bucket {f d : Nat} {q : Int32 × Int32 × Int32} {σ : am_S} : am_call B sa am_dfl am_tb (f + 1) (d + 1) 6 [.int q.1, .int q.2.1, .int q.2.2] σ = some (some (.int (ty_bk q)), σ) := by
  rw [am_c_6, am_s6_0]
  rfl
theorem ty_in_m2 {i : Int32} {m : Nat} (h : ty_in m i) (hm : m < 2 ^ 31) : i ≠ -2 := by
  rcases h with rfl | ⟨a, ha, rfl⟩
  · decide
  · intro e
    have h1 := nI_pos' (show a < 2 ^ 31 by omega)
    rw [e] at h1
    exact absurd h1 (by decide)
/-- Types.make -/
theorem ty_make {f d : Nat} (w : hp_w B ρ) (h : ty_okk P n T) (h64 : 64 ≤ (P.2 700).1) (hf : 10000 ≤ f) {q : Int32 × Int32 × Int32} (h1 : ty_in n q.2.1 ∨ q.2.1 = -2) (h2 : ty_in n q.2.2 ∨ q.2.2 = -2) :
    ∃ (ρ' : hp_L) (P' : hp_P), am_call B sa am_dfl am_tb f (d + 3) 3 [.ref (ρ.1 7), .int q.1, .int q.2.1, .int q.2.2] (hp_S sa ρ P) = some (some (.int (ty_mk T n q).1), hp_S sa ρ' P') ∧ hp_w B ρ' ∧ ty_okk P' (ty_mk T n q).2.1 (ty_mk T n q).2.2 ∧ hp_fr ty_S 0 ρ P ρ' P' ∧ (∀ j, j < n → (P'.2 706).2 j = (P.2 706).2 j) ∧ ∀ r i, 700 ≤ r → r ≤ 706 → i < (P.2 700).1 → i ≠ n ∨ r = 706 → (P'.2 r).2 i = (P.2 r).2 i := by
  have h8 := h.1.1.2
  obtain ⟨f, rfl⟩ : ∃ g, f = g + 2 := ⟨f - 2, by omega⟩
  rw [am_c_3, am_s3_0]
  by_cases e1 : q.2.1 = -2
  · have hm : ty_mk T n q = (-2, n, T) := by unfold ty_mk; rw [if_pos (Or.inl e1)]
    rw [hm]
    refine ⟨ρ, P, ?_, w, h, hp_fr.rf, fun _ _ => rfl, fun _ _ _ _ _ _ => rfl⟩
    simp only [am_c_eq, e1, if_true]
  by_cases e2 : q.2.2 = -2
  · have hm : ty_mk T n q = (-2, n, T) := by unfold ty_mk; rw [if_pos (Or.inr e2)]
    rw [hm]
    refine ⟨ρ, P, ?_, w, h, hp_fr.rf, fun _ _ => rfl, fun _ _ _ _ _ _ => rfl⟩
    simp only [am_c_eq, am_c_ne, e1, e2, if_false, ne_eq, not_true_eq_false]
  have h1 := h1.resolve_right e1
  have h2 := h2.resolve_right e2
  have e12 : ¬ (q.2.1 = -2 ∨ q.2.2 = -2) := fun z => z.elim e1 e2
  have hfind := ty_find (sa := sa) (f := f + 2) (d := d + 1) w h.1 q hf
  simp only [am_c_eq, am_c_ne, e1, e2, if_false, ne_eq, not_false_eq_true, if_true, ty_bucket (f := f + 1) (d := d + 1), am_i_some, hx_7 w, Option.bind_some, hfind]
  by_cases e3 : ty_fnd T q n = -1
  · rw [if_pos e3]
    by_cases e4 : ty_lim T n q
    · have hm : ty_mk T n q = (nI n, n + 1, ty_add T n q) := by unfold ty_mk; rw [if_neg e12, if_neg (fun z => z e3), if_pos e4]
      rw [hm]
      obtain ⟨ρ', P', r1, r2, r3, r4, r5⟩ := ty_append_yes (sa := sa) (f := f) (d := d) w h h64 h1 h2 e4.1 e4.2.1 e4.2.2
      exact ⟨ρ', P', by rw [r1]; rfl, r2, r3, r4, r5⟩
    · have hm : ty_mk T n q = (-2, n, T) := by unfold ty_mk; rw [if_neg e12, if_neg (fun z => z e3), if_neg e4]
      rw [hm]
      refine ⟨ρ, P, ?_, w, h, hp_fr.rf, fun _ _ => rfl, fun _ _ _ _ _ _ => rfl⟩
      rw [ty_append_no (f := f + 1) (d := d) w h h1 h2 (by unfold ty_lim at e4; omega)]
      rfl
  · have hm : ty_mk T n q = (ty_fnd T q n, n, T) := by unfold ty_mk; rw [if_neg e12, if_pos e3]
    rw [hm, if_neg e3]
    exact ⟨ρ, P, rfl, w, h, hp_fr.rf, fun _ _ => rfl, fun _ _ _ _ _ _ => rfl⟩
end TY6
