/-! TYPES of the class, 10: lowestMarkedVariable, putIn, imageOf -/
/-- the images are any -/
def ty_ii (P : hp_P) (n : Nat) (I : Nat → Int32) : Prop := ∀ i, i < n → (P.2 706).2 i = I i
/-- the marked variable with the lowest number from x on among the k lowest -/
noncomputable def ty_lmv (T : Nat → Int32 × Int32 × Int32) (M : Nat → Bool) (x : Int32) : Nat → Int32
  | 0 => -1
  | k + 1 => @ite _ (M k = true ∧ (T k).1 < 0 ∧ ¬ (-1 - (T k).1 < x) ∧ (ty_lmv T M x k = -1 ∨ (T (ty_lmv T M x k).toNatClampNeg).1 < (T k).1)) (Classical.propDecidable _) (nI k) (ty_lmv T M x k)
section TYA
variable {sa : Nat → Nat} {B : Nat} {ρ : hp_L} {P : hp_P} {n : Nat} {T : Nat → Int32 × Int32 × Int32}
theorem ty_lmv_succ {M : Nat → Bool} {x : Int32} {k : Nat} : ty_lmv T M x (k + 1) = @ite _ (M k = true ∧ (T k).1 < 0 ∧ ¬ (-1 - (T k).1 < x) ∧ (ty_lmv T M x k = -1 ∨ (T (ty_lmv T M x k).toNatClampNeg).1 < (T k).1)) (Classical.propDecidable _) (nI k) (ty_lmv T M x k) := rfl
theorem ty_lmv_in {M : Nat → Bool} {x : Int32} : ∀ k, ty_in k (ty_lmv T M x k)
  | 0 => Or.inl rfl
  | k + 1 => by
    have ih := ty_lmv_in (M := M) (x := x) k
    rw [ty_lmv_succ]
    split
    · exact Or.inr ⟨k, by omega, rfl⟩
    · exact ih.mono (by omega)
theorem ty_lmv_loop {cl : am_F} {M : Nat → Bool} {x : Int32} (w : hp_w B ρ) (h : ty_okk P n T) (hM : ty_im P n M) : ∀ (j k f : Nat), k + j = n → 2 * j + 1 ≤ f →
    am_go B sa am_dfl cl am_r15 f 4 [(0, .ref (ρ.1 7)), (1, .int x), (2, .int (ty_lmv T M x k)), (3, .int (nI k))] [] (hp_S sa ρ P) = some (some (.int (ty_lmv T M x n)), hp_S sa ρ P) := by
  obtain ⟨len, a1, a2, l0, l1, l2, l3, l4, l5, l6⟩ := h.1.2.1
  have h8 := h.1.1.2
  intro j
  induction j with
  | zero =>
    intro k f hk hf
    obtain ⟨f, rfl⟩ : ∃ g, f = g + 1 := ⟨f - 1, by omega⟩
    obtain rfl : k = n := by omega
    rw [am_s15_4]
    simp only [hg_708 w, Option.bind_some, h.1.1.1, am_c_ge, Int32.le_refl, if_true]
  | succ j ih =>
    intro k f hk hf
    obtain ⟨f, rfl⟩ : ∃ g, f = g + 2 := ⟨f - 2, by omega⟩
    have k31 : k < 2 ^ 31 := by omega
    have hge : (nI n ≤ nI k) = False := eq_false (nI_ge (by omega) (by omega))
    have hk1 : (nI k = -1) = False := eq_false (nI_ne_m1 k31)
    have r6 : hp_rd P 706 (nI k) = some (if M k = true then nI k else -1) := ty_im_rd hM (by omega) (by omega) (by omega)
    have r0 : hp_rd P 700 (nI k) = some (T k).1 := by rw [hp_rd_nI (by omega) k31, (h.1.2.2.2.1 k (by omega)).1]
    have i1 := ih (k + 1) f (by omega) (by omega)
    have no : ∀ {A : Prop}, (A → False) → ¬ A := fun h => h
    rw [am_s15_4]
    simp only [hg_708 w, Option.bind_some, h.1.1.1, am_c_ge, am_c_eq, am_c_lt, hge, if_false, hr_706 w, hl_706 w, hr_700 w, hl_700 w, r6, r0]
    have stay : ¬ (M k = true ∧ (T k).1 < 0 ∧ ¬ (-1 - (T k).1 < x) ∧ (ty_lmv T M x k = -1 ∨ (T (ty_lmv T M x k).toNatClampNeg).1 < (T k).1)) → ty_lmv T M x (k + 1) = ty_lmv T M x k := fun hh => by
      rw [ty_lmv_succ]
      exact if_neg hh
    have zero : am_go B sa am_dfl cl am_r15 (f + 1) 48 [(0, .ref (ρ.1 7)), (1, .int x), (2, .int (ty_lmv T M x k)), (3, .int (nI k))] [.int 0] (hp_S sa ρ P) = am_go B sa am_dfl cl am_r15 f 4 [(0, .ref (ρ.1 7)), (1, .int x), (2, .int (ty_lmv T M x k)), (3, .int (nI (k + 1)))] [] (hp_S sa ρ P) := by
      rw [am_s15_48]
      simp only [am_c_eq, if_true, nI_1]
    by_cases m : M k = true
    · rw [if_pos m]
      simp only [hk1, if_false]
      by_cases c : (0 : Int32) ≤ (T k).1
      · rw [if_pos c, zero, ← stay (fun z => absurd z.2.1 (Int32.not_lt.mpr c))]
        exact i1
      · rw [if_neg c]
        by_cases c2 : -1 - (T k).1 < x
        · rw [if_pos c2, zero, ← stay (fun z => z.2.2.1 c2)]
          exact i1
        · rw [if_neg c2, am_s15_48]
          have one0 : ((1 : Int32) = 0) = False := eq_false (by decide)
          have hin := ty_lmv_in (T := T) (M := M) (x := x) k
          have moved : (ty_lmv T M x k = -1 ∨ (T (ty_lmv T M x k).toNatClampNeg).1 < (T k).1) → ty_lmv T M x (k + 1) = nI k := fun hh => by
            rw [ty_lmv_succ]
            exact if_pos ⟨m, Int32.not_le.mp c, c2, hh⟩
          by_cases c3 : ty_lmv T M x k = -1
          · rw [moved (Or.inl c3)] at i1
            simp only [am_c_eq, one0, if_false, c3, if_true, nI_1]
            exact i1
          · obtain ⟨a, ha, hae⟩ := hin.resolve_left c3
            have r0a : hp_rd P 700 (ty_lmv T M x k) = some (T a).1 := by rw [hae, hp_rd_nI (by omega) (by omega), (h.1.2.2.2.1 a (by omega)).1]
            have hca : (ty_lmv T M x k).toNatClampNeg = a := by rw [hae, nI_clamp (by omega)]
            simp only [am_c_eq, am_c_le, one0, if_false, c3, hr_700 w, hl_700 w, Option.bind_some, r0, r0a, nI_1]
            by_cases c4 : (T k).1 ≤ (T a).1
            · rw [if_pos c4, ← stay (fun z => z.2.2.2.elim c3 (fun z => absurd (hca ▸ z) (Int32.not_lt.mpr c4)))]
              exact i1
            · rw [if_neg c4]
              rw [moved (Or.inr (by rw [hca]; exact Int32.not_le.mp c4))] at i1
              exact i1
    · rw [if_neg m, if_pos rfl, zero, ← stay (fun z => m z.1)]
      exact i1
/-- Types.lowestMarkedVariable -/
theorem ty_lowest {f d : Nat} {M : Nat → Bool} {x : Int32} (w : hp_w B ρ) (h : ty_okk P n T) (hM : ty_im P n M) (hf : 20000 ≤ f) :
    am_call B sa am_dfl am_tb f (d + 1) 15 [.ref (ρ.1 7), .int x] (hp_S sa ρ P) = some (some (.int (ty_lmv T M x n)), hp_S sa ρ P) := by
  obtain ⟨f, rfl⟩ : ∃ g, f = g + 1 := ⟨f - 1, by omega⟩
  have h8 := h.1.1.2
  have := ty_lmv_loop (sa := sa) (cl := am_call B sa am_dfl am_tb (f + 1) d) (x := x) w h hM n 0 f (by omega) (by omega)
  rw [am_c_15, am_s15_0]
  rw [show ty_lmv T M x 0 = -1 from rfl, nI_0] at this
  exact this
/-- Types.imageOf -/
theorem ty_imageOf {f d : Nat} {I : Nat → Int32} {i : Int32} (w : hp_w B ρ) (h : ty_okk P n T) (hI : ty_ii P n I) (hi : ty_in n i) :
    am_call B sa am_dfl am_tb (f + 1) (d + 1) 19 [.ref (ρ.1 7), .int i] (hp_S sa ρ P) = some (some (.int (if i = -1 then -1 else I i.toNatClampNeg)), hp_S sa ρ P) := by
  obtain ⟨len, a1, a2, l0, l1, l2, l3, l4, l5, l6⟩ := h.1.2.1
  have h8 := h.1.1.2
  rw [am_c_19, am_s19_0]
  rcases hi with rfl | ⟨a, ha, rfl⟩
  · simp only [am_c_ne, ne_eq, not_true_eq_false, if_false, if_true]
  · have hne := nI_ne_m1 (show a < 2 ^ 31 by omega)
    have r6 : hp_rd P 706 (nI a) = some (I a) := by rw [hp_rd_nI (by omega) (by omega), hI a ha]
    simp only [am_c_ne, ne_eq, hne, not_false_eq_true, if_true, if_false, hr_706 w, hl_706 w, Option.bind_some, r6, nI_clamp (show a < 2 ^ 31 by omega)]
theorem ty_fnd_in {q : Int32 × Int32 × Int32} : ∀ k, ty_in k (ty_fnd T q k)
  | 0 => Or.inl rfl
  | k + 1 => by
    have ih := ty_fnd_in (q := q) k
    unfold ty_fnd
    split
    · exact Or.inr ⟨k, by omega, rfl⟩
    · exact ih.mono (by omega)
/-- Types.putIn -/
theorem ty_putIn {f d : Nat} {I : Nat → Int32} {x t : Int32} (w : hp_w B ρ) (h : ty_okk P n T) (hI : ty_ii P n I) (hf : 10000 ≤ f) :
    ∃ P', am_call B sa am_dfl am_tb f (d + 2) 16 [.ref (ρ.1 7), .int x, .int t] (hp_S sa ρ P) = some (none, hp_S sa ρ P') ∧ ty_imo P P' ∧ ty_ii P' n (fun i => if ty_fnd T (-1 - x, -1, -1) n = nI i ∧ I i ≠ -1 then t else I i) := by
  obtain ⟨f, rfl⟩ : ∃ g, f = g + 1 := ⟨f - 1, by omega⟩
  obtain ⟨len, a1, a2, l0, l1, l2, l3, l4, l5, l6⟩ := h.1.2.1
  have h8 := h.1.1.2
  have hfind := ty_find (sa := sa) (f := f + 1) (d := d) w h.1 (-1 - x, -1, -1) hf
  have hbk := ty_bucket (B := B) (sa := sa) (f := f) (d := d) (q := (-1 - x, -1, -1)) (σ := hp_S sa ρ P)
  dsimp only at hfind hbk
  rw [am_c_16, am_s16_0]
  simp only [hbk, am_i_some, hx_7 w, Option.bind_some, hfind, am_c_eq]
  rcases ty_fnd_in (T := T) (q := (-1 - x, -1, -1)) n with e | ⟨a, ha, e⟩
  · refine ⟨P, ?_, ty_imo.rf, fun i hi => ?_⟩
    · rw [if_pos e]
    · rw [hI i hi]
      dsimp only
      rw [e, if_neg (fun z => absurd z.1.symm (nI_ne_m1 (by omega)))]
  · have hne := nI_ne_m1 (show a < 2 ^ 31 by omega)
    have r6 : hp_rd P 706 (nI a) = some (I a) := by rw [hp_rd_nI (by omega) (by omega), hI a ha]
    have c6 : hp_ck P 706 (nI a) = some () := hp_ck_nI (by omega) (by omega)
    rw [e, if_neg hne]
    simp only [hr_706 w, hl_706 w, ht_706 w, Option.bind_some, r6, c6]
    by_cases m : I a = -1
    · refine ⟨P, by rw [if_pos m], ty_imo.rf, fun i hi => ?_⟩
      rw [hI i hi]
      dsimp only
      by_cases c : i = a
      · rw [c, if_neg (fun z => z.2 m)]
      · rw [if_neg (fun z => c ((nI_eq (by omega) (by omega)).mp z.1).symm)]
    · refine ⟨_, by rw [if_neg m], ty_imo.sA, fun i hi => ?_⟩
      rw [hA_eq, nI_clamp (by omega)]
      show upd _ a t i = (if nI a = nI i ∧ I i ≠ -1 then t else I i)
      by_cases c : i = a
      · rw [c, pk_us, if_pos ⟨rfl, m⟩]
      · rw [pk_un c, hI i hi, if_neg (fun z => c ((nI_eq (by omega) (by omega)).mp z.1).symm)]
end TYA
