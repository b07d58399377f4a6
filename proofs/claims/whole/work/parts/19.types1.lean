/-! TYPES of the class, 1: buckets, find -/
/-- the bucket of a type -/
def ty_bk (q : Int32 × Int32 × Int32) : Int32 := (Int32.toUInt32 (((((q.1 * 2654435761) + (q.2.1 * 2246822507)) + (q.2.2 * 3266489909)) ^^^ (Int32.toUInt32 (((q.1 * 2654435761) + (q.2.1 * 2246822507)) + (q.2.2 * 3266489909)) >>> (Int32.toUInt32 15 &&& Int32.toUInt32 31)).toInt32) * 668265263) >>> (Int32.toUInt32 22 &&& Int32.toUInt32 31)).toInt32
theorem ty_bk_in (q : Int32 × Int32 × Int32) : ∃ b : Nat, b < 1024 ∧ ty_bk q = nI b := by
  generalize hz : (((((q.1 * 2654435761) + (q.2.1 * 2246822507)) + (q.2.2 * 3266489909)) ^^^ (Int32.toUInt32 (((q.1 * 2654435761) + (q.2.1 * 2246822507)) + (q.2.2 * 3266489909)) >>> (Int32.toUInt32 15 &&& Int32.toUInt32 31)).toInt32) * 668265263) = z
  have h := pk_ushr z 22 22 (by decide)
  have h1 : (ty_bk q).toBitVec.toNat < 1024 := by
    unfold ty_bk
    rw [hz, h]
    have := z.toBitVec.isLt
    omega
  refine ⟨(ty_bk q).toBitVec.toNat, h1, ?_⟩
  apply Int32.toBitVec_inj.mp
  apply BitVec.eq_of_toNat_eq
  rw [pk_tn (by omega)]
/-- the last one below n in a bucket, -1 if there is none -/
def ty_last (T : Nat → Int32 × Int32 × Int32) (b : Int32) : Nat → Int32
  | 0 => -1
  | n + 1 => if ty_bk (T n) = b then nI n else ty_last T b n
/-- the place of a type below n, -1 if it isn't there -/
def ty_fnd (T : Nat → Int32 × Int32 × Int32) (q : Int32 × Int32 × Int32) : Nat → Int32
  | 0 => -1
  | n + 1 => if T n = q then nI n else ty_fnd T q n
/-- the table of types, as the class holds it -/
def ty_ok (P : hp_P) (n : Nat) (T : Nat → Int32 × Int32 × Int32) : Prop :=
  (P.1 708 = nI n ∧ n ≤ 8000) ∧ (∃ len, n ≤ len ∧ len ≤ 16384 ∧ (P.2 700).1 = len ∧ (P.2 701).1 = len ∧ (P.2 702).1 = len ∧ (P.2 703).1 = len ∧ (P.2 704).1 = len ∧ (P.2 705).1 = len ∧ (P.2 706).1 = len) ∧ (P.2 707).1 = 1024 ∧
  (∀ j, j < n → (P.2 700).2 j = (T j).1 ∧ (P.2 701).2 j = (T j).2.1 ∧ (P.2 702).2 j = (T j).2.2 ∧ (P.2 705).2 j = ty_last T (ty_bk (T j)) j) ∧ ∀ b, b < 1024 → (P.2 707).2 b = ty_last T (nI b) n
theorem nI_ne_m1 {n : Nat} (h : n < 2 ^ 31) : nI n ≠ -1 := by
  intro e
  have h1 := nI_pos' h
  rw [e] at h1
  exact absurd h1 (by decide)
section TY1
variable {sa : Nat → Nat} {B : Nat} {ρ : hp_L} {P : hp_P} {cl : am_F} {n : Nat} {T : Nat → Int32 × Int32 × Int32}
set_option maxRecDepth 4000 in
theorem ty_find_loop (w : hp_w B ρ) (h : ty_ok P n T) (q : Int32 × Int32 × Int32) : ∀ (m : Nat) (looked f : Nat), m ≤ n → looked + m ≤ n → m + 1 ≤ f →
    am_go B sa am_dfl cl am_r4 f 11 [(0, .ref (ρ.1 7)), (2, .int q.1), (3, .int q.2.1), (4, .int q.2.2), (5, .int (ty_last T (ty_bk q) m)), (6, .int (nI looked))] [] (hp_S sa ρ P) = some (some (.int (ty_fnd T q m)), hp_S sa ρ P) := by
  obtain ⟨⟨hn, hn8⟩, ⟨len, hl1, hl2, l0, l1, l2, l3, l4, l5, l6⟩, l7, hrow, hhd⟩ := h
  intro m
  induction m with
  | zero =>
    intro looked f _ _ hf
    obtain ⟨f, rfl⟩ : ∃ g, f = g + 1 := ⟨f - 1, by omega⟩
    rw [am_s4_11]
    simp only [ty_last, ty_fnd, am_c_eq, if_true]
  | succ m ih =>
    intro looked f hm hlk hf
    by_cases hb : ty_bk (T m) = ty_bk q
    · have hlast : ty_last T (ty_bk q) (m + 1) = nI m := by simp only [ty_last, hb, if_true]
      rw [hlast]
      obtain ⟨f, rfl⟩ : ∃ g, f = g + 1 := ⟨f - 1, by omega⟩
      obtain ⟨e0, e1, e2, e5⟩ := hrow m (by omega)
      have hge : ¬ nI n ≤ nI looked := nI_ge (by omega) (by omega)
      have r0 : hp_rd P 700 (nI m) = some (T m).1 := by rw [hp_rd_nI (by omega) (by omega), e0]
      have r1 : hp_rd P 701 (nI m) = some (T m).2.1 := by rw [hp_rd_nI (by omega) (by omega), e1]
      have r2 : hp_rd P 702 (nI m) = some (T m).2.2 := by rw [hp_rd_nI (by omega) (by omega), e2]
      have r5 : hp_rd P 705 (nI m) = some (ty_last T (ty_bk q) m) := by rw [hp_rd_nI (by omega) (by omega), e5, hb]
      have hih := ih (looked + 1) f (by omega) (by omega) (by omega)
      rw [← nI_1] at hih
      rw [am_s4_11]
      simp only [hg_708 w, hr_700 w, hr_701 w, hr_702 w, hr_705 w, hl_700 w, hl_701 w, hl_702 w, hl_705 w, Option.bind_some, am_c_eq, am_c_ne, am_c_ge, hn, if_neg (nI_ne_m1 (show m < 2 ^ 31 by omega)), if_neg hge, r0, r1, r2, r5, hih]
      rw [show ty_fnd T q (m + 1) = if T m = q then nI m else ty_fnd T q m from rfl]
      by_cases ht : T m = q
      · rw [if_pos ht, ht]
        simp only [ne_eq, not_true_eq_false, if_false]
      · rw [if_neg ht]
        by_cases h0 : (T m).1 = q.1
        · by_cases h1 : (T m).2.1 = q.2.1
          · have h2 : (T m).2.2 ≠ q.2.2 := fun h2 => ht (Prod.ext h0 (Prod.ext h1 h2))
            simp only [h0, h1, h2, ne_eq, not_true_eq_false, if_false, not_false_eq_true, if_true]
          · simp only [h0, h1, ne_eq, not_true_eq_false, if_false, not_false_eq_true, if_true]
        · simp only [h0, ne_eq, not_false_eq_true, if_true]
    · have hlast : ty_last T (ty_bk q) (m + 1) = ty_last T (ty_bk q) m := by simp only [ty_last, hb, if_false]
      have hfnd : ty_fnd T q (m + 1) = ty_fnd T q m := by
        have : T m ≠ q := fun e => hb (by rw [e])
        simp only [ty_fnd, this, if_false]
      rw [hlast, hfnd]
      exact ih looked f (by omega) (by omega) (by omega)
/-- Types.find, of the bucket of what is sought -/
theorem ty_find (w : hp_w B ρ) (h : ty_ok P n T) (q : Int32 × Int32 × Int32) {f d : Nat} (hf : 10000 ≤ f) :
    am_call B sa am_dfl am_tb f (d + 1) 4 [.ref (ρ.1 7), .int (ty_bk q), .int q.1, .int q.2.1, .int q.2.2] (hp_S sa ρ P) = some (some (.int (ty_fnd T q n)), hp_S sa ρ P) := by
  rw [am_call_succ (M := am_m4) rfl (Nat.le_of_ble_eq_true rfl)]
  obtain ⟨f', rfl⟩ : ∃ g, f = g + 1 := ⟨f - 1, by omega⟩
  show am_go B sa am_dfl (am_call B sa am_dfl am_tb (f' + 1) d) am_r4 (f' + 1) 0 [(0, .ref (ρ.1 7)), (1, .int (ty_bk q)), (2, .int q.1), (3, .int q.2.1), (4, .int q.2.2)] [] (hp_S sa ρ P) = _
  rw [am_s4_0]
  obtain ⟨b, hb, hbe⟩ := ty_bk_in q
  have hr : hp_rd P 707 (ty_bk q) = some (ty_last T (ty_bk q) n) := by
    rw [hbe, hp_rd_nI (by rw [h.2.2.1]; exact hb) (by omega), h.2.2.2.2 b hb]
  simp only [hr_707 w, hl_707 w, Option.bind_some, hr]
  have h8 := h.1.2
  have := ty_find_loop (sa := sa) (cl := am_call B sa am_dfl am_tb (f' + 1) d) w h q n 0 f' (Nat.le_refl _) (by omega) (by omega)
  rw [nI_0] at this
  exact this
end TY1
