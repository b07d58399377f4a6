/-! ROWS of the class, 4: copy, copyTrading, same, sameRows, endOf, hasSymbol, hasFree, markTypes -/
section RW4
variable {sa : Nat → Nat} {B : Nat} {ρ : hp_L} {P : hp_P} {Rs : List (List rwS)} {O : List rwS} {b : Bool} {n : Nat} {T : Nat → Int32 × Int32 × Int32} {Z : Prop} {G : qT → Prop} {D : List qS}
theorem wI.badD {D' : List qS} (h : wI Z G P n T Rs O true D) : wI Z G P n T Rs O true D' := ⟨h.1, h.2.1, h.2.2.1, h.2.2.2.1, fun z => by (cases z), h.2.2.2.2.2⟩
/-- a symbol of a stretch of the rows is read -/
theorem rw_seg {A M W : List rwS} {s : rwS} (h : rwI P Rs O b) (hX : Rs.flatten ++ O = A ++ (s :: M ++ W)) :
    hp_rd P 301 (nI A.length) = some s.1 ∧ hp_rd P 302 (nI A.length) = some s.2 ∧ A.length + (M.length + 1) ≤ 24000 ∧ Rs.flatten ++ O = (A ++ [s]) ++ (M ++ W) ∧ (nI (A.length + (s :: M).length) ≤ nI A.length) = False ∧ A.length + (s :: M).length = (A ++ [s]).length + M.length ∧ (A ++ [s]).length = A.length + 1 := by
  have hs : (Rs.flatten ++ O)[A.length]? = some s := by rw [hX]; simp
  obtain ⟨r1, r2, k31⟩ := h.rd hs
  have hlen := h.Xle
  have hXl : A.length + (M.length + 1) ≤ 24000 := by
    rw [hX] at hlen
    simp only [List.length_append, List.length_cons] at hlen
    omega
  have hA1 : (A ++ [s]).length = A.length + 1 := by simp
  exact ⟨r1, r2, hXl, by rw [hX]; simp, eq_false (nI_ge (by simp only [List.length_cons]; omega) (by simp only [List.length_cons]; omega)), by simp only [List.length_cons, hA1]; omega, hA1⟩
theorem rw_flag (w : hp_w B ρ) (h : rwI P Rs O b) : am_geti (hp_S sa ρ P) (ρ.1 3) 3 6 = some (if b = true then 1 else 0) := by rw [hg_306 w, h.2.2.2.2.1.1]
theorem w_copy_loop {f0 d o : Nat} (hg : ¬ q_good G → Z) : ∀ (M A W : List rwS) (f : Nat) (ρ : hp_L) (P : hp_P) (O : List rwS) (b : Bool) (D : List qS), hp_w B ρ → ρ.1 3 = o → wI Z G P n T Rs O b D → Rs.flatten ++ O = A ++ (M ++ W) → (4000 < (D ++ M.map (rt T n)).length → Z) → M.length + 1 ≤ f →
    ∃ (ρ' : hp_L) (P' : hp_P) (O' : List rwS) (b' : Bool), am_go B sa am_dfl (am_call B sa am_dfl am_tb (f0 + 2) (d + 3)) am_r54 f 2 [(0, .ref o), (2, .int (nI (A.length + M.length))), (3, .int (nI A.length))] [] (hp_S sa ρ P) = some (none, hp_S sa ρ' P') ∧ hp_w B ρ' ∧ wI Z G P' n T Rs O' b' (D ++ M.map (rt T n)) ∧ hp_fr rx_S 0 ρ P ρ' P' := by
  intro M
  induction M with
  | nil =>
    intro A W f ρ P O b D w ho h hX hz hf
    obtain ⟨f, rfl⟩ : ∃ g, f = g + 1 := ⟨f - 1, by omega⟩
    refine ⟨ρ, P, O, b, ?_, w, by rw [List.map_nil, List.append_nil]; exact h, hp_fr.rf⟩
    rw [am_s54_2]
    simp only [List.length_nil, Nat.add_zero, am_c_ge, Int32.le_refl, if_true]
  | cons s M ih =>
    intro A W f ρ P O b D w ho h hX hz hf
    obtain ⟨f, rfl⟩ : ∃ g, f = g + 1 := ⟨f - 1, by omega⟩
    subst ho
    obtain ⟨r1, r2, hXl, hX', hge, hen, hA1⟩ := rw_seg h.2.1 hX
    have hfl : M.length + 1 ≤ f := by simp only [List.length_cons] at hf; omega
    rw [am_s54_2]
    simp only [am_c_ge, hge, if_false, rw_flag w h.2.1, Option.bind_some, am_c_ne]
    cases b with
    | true =>
      refine ⟨ρ, P, O, true, ?_, w, h.badD, hp_fr.rf⟩
      rw [if_pos (by decide)]
    | false =>
      have hrv : rv n s := h.2.2.1 s (by rw [hX]; simp)
      obtain ⟨ρ1, P1, O1, b1, c1, c2, c3, c4, c5, c6, -⟩ := w_write (sa := sa) (f := f0) (d := d) (c := s.1) (v := s.2) w h (Or.inl hrv.pl) hg (fun z => hz (by rw [List.length_append, List.map_cons, List.length_cons]; omega))
      have hD : D ++ [(s.1, (rt T n s).2)] ++ M.map (rt T n) = D ++ (s :: M).map (rt T n) := by rw [List.append_assoc, List.map_cons]; rfl
      obtain ⟨W', hX''⟩ : ∃ W', Rs.flatten ++ O1 = (A ++ [s]) ++ (M ++ W') := by
        cases b1 with
        | true => exact ⟨W, by rw [c6 rfl]; exact hX'⟩
        | false => exact ⟨W ++ [(s.1, s.2)], by rw [(c5 rfl).1, ← List.append_assoc, hX']; simp⟩
      obtain ⟨ρ2, P2, O2, b2, i1, i2, i3, i4⟩ := ih (A ++ [s]) W' f ρ1 P1 O1 b1 _ c2 (by rw [c4.1]) c3 hX'' (fun z => hz (by rw [hD] at z; exact z)) hfl
      rw [hD] at i3
      refine ⟨ρ2, P2, O2, b2, ?_, i2, i3, hp_fr.tr0 c4 i4⟩
      rw [if_neg (by decide)]
      simp only [hr_301 w, hl_301 w, hr_302 w, hl_302 w, r1, r2, Option.bind_some, hx_3 w, c1, am_v_some, nI_1]
      rw [hen, ← hA1]
      exact i1
/-- Rows.copy of a stretch -/
theorem w_copy {f d : Nat} {M A W : List rwS} (w : hp_w B ρ) (h : wI Z G P n T Rs O b D) (hf : 30000 ≤ f) (hX : Rs.flatten ++ O = A ++ (M ++ W)) (hg : ¬ q_good G → Z) (hz : 4000 < (D ++ M.map (rt T n)).length → Z) {x y : Int32} (hx : x = nI A.length) (hy : y = nI (A.length + M.length)) :
    ∃ (ρ' : hp_L) (P' : hp_P) (O' : List rwS) (b' : Bool), am_call B sa am_dfl am_tb f (d + 4) 54 [.ref (ρ.1 3), .int x, .int y] (hp_S sa ρ P) = some (none, hp_S sa ρ' P') ∧ hp_w B ρ' ∧ wI Z G P' n T Rs O' b' (D ++ M.map (rt T n)) ∧ hp_fr rx_S 0 ρ P ρ' P' := by
  obtain ⟨f, rfl⟩ : ∃ g, f = g + 2 := ⟨f - 2, by omega⟩
  have hl := h.2.1.Xle
  rw [hX] at hl
  simp only [List.length_append] at hl
  rw [am_c_54, am_s54_0, hx, hy]
  exact w_copy_loop (f0 := f) (d := d) hg M A W (f + 1) ρ P O b D w rfl h hX hz (by omega)
/-- Rows.same of two stretches -/
theorem rw_same_loop {cl : am_F} (w : hp_w B ρ) (h : rwI P Rs O b) : ∀ (M M' A A' W W' : List rwS) (f : Nat), M.length = M'.length → Rs.flatten ++ O = A ++ (M ++ W) → Rs.flatten ++ O = A' ++ (M' ++ W') → M.length + 1 ≤ f →
    am_go B sa am_dfl cl am_r60 f 20 [(0, .ref (ρ.1 3)), (2, .int (nI (A.length + M.length))), (5, .int (nI A'.length - nI A.length)), (6, .int (nI A.length))] [] (hp_S sa ρ P) = some (some (.int (if M = M' then 1 else 0)), hp_S sa ρ P) := by
  intro M
  induction M with
  | nil =>
    intro M' A A' W W' f hl hX hX' hf
    obtain ⟨f, rfl⟩ : ∃ g, f = g + 1 := ⟨f - 1, by omega⟩
    obtain rfl : M' = [] := List.length_eq_zero_iff.mp hl.symm
    rw [am_s60_20]
    simp only [List.length_nil, Nat.add_zero, am_c_ge, Int32.le_refl, if_true, am_rz_1]
  | cons s M ih =>
    intro M' A A' W W' f hl hX hX' hf
    obtain ⟨f, rfl⟩ : ∃ g, f = g + 1 := ⟨f - 1, by omega⟩
    cases M' with
    | nil => simp at hl
    | cons s' M' =>
      obtain ⟨r1, r2, hXl, hX1, hge, hen, hA1⟩ := rw_seg h hX
      obtain ⟨q1, q2, -, hX1', -, -, hA1'⟩ := rw_seg h hX'
      have hfl : M.length + 1 ≤ f := by simp only [List.length_cons] at hf; omega
      have hap : nI A.length + (nI A'.length - nI A.length) = nI A'.length := by grind
      have hap2 : nI A'.length - nI A.length = nI (A' ++ [s']).length - nI (A ++ [s]).length := by
        rw [hA1, hA1', ← nI_1, ← nI_1]
        grind
      have i1 := ih M' (A ++ [s]) (A' ++ [s']) W W' f (by simp only [List.length_cons] at hl; omega) hX1 hX1' hfl
      rw [am_s60_20]
      simp only [am_c_ge, hge, if_false, hr_301 w, hl_301 w, hr_302 w, hl_302 w, r1, r2, q1, q2, Option.bind_some, hap, am_c_ne, am_c_eq, nI_1]
      by_cases e1 : s.1 = s'.1
      · rw [if_neg (fun z => z e1)]
        by_cases e2 : s.2 = s'.2
        · rw [if_pos e2, hen, ← hA1, hap2, i1]
          have hs : s = s' := Prod.ext e1 e2
          simp only [hs, List.cons.injEq, true_and]
        · rw [if_neg e2, if_neg (fun z => e2 (by rw [(List.cons.inj z).1])), am_rz_0]
      · rw [if_pos e1, if_neg (fun z => e1 (by rw [(List.cons.inj z).1])), am_rz_0]
theorem rw_same {f d : Nat} {M M' A A' W W' : List rwS} (w : hp_w B ρ) (h : rwI P Rs O b) (hf : 30000 ≤ f) (hX : Rs.flatten ++ O = A ++ (M ++ W)) (hX' : Rs.flatten ++ O = A' ++ (M' ++ W')) {x y x' y' : Int32} (hx : x = nI A.length) (hy : y = nI (A.length + M.length)) (hx' : x' = nI A'.length) (hy' : y' = nI (A'.length + M'.length)) :
    am_call B sa am_dfl am_tb f (d + 1) 60 [.ref (ρ.1 3), .int x, .int y, .int x', .int y'] (hp_S sa ρ P) = some (some (.int (if M = M' then 1 else 0)), hp_S sa ρ P) := by
  obtain ⟨f, rfl⟩ : ∃ g, f = g + 2 := ⟨f - 2, by omega⟩
  have hl := h.Xle
  have hl' := h.Xle
  rw [hX] at hl
  rw [hX'] at hl'
  simp only [List.length_append] at hl hl'
  rw [am_c_60, am_s60_0, hx, hy, hx', hy']
  simp only [am_c_eq, pk_sub (Nat.le_add_right _ _), Nat.add_sub_cancel_left]
  by_cases e : M.length = M'.length
  · rw [if_pos (by rw [e])]
    exact rw_same_loop w h M M' A A' W W' (f + 1) e hX hX' (by omega)
  · rw [if_neg (fun z => e ((nI_eq (by omega) (by omega)).mp z)), if_neg (fun z => e (by rw [z])), am_rz_0]
/-- Rows.hasSymbol of a stretch -/
theorem rw_hasSym_loop {cl : am_F} {c v : Int32} (w : hp_w B ρ) (h : rwI P Rs O b) : ∀ (M A W : List rwS) (f : Nat), Rs.flatten ++ O = A ++ (M ++ W) → M.length + 1 ≤ f →
    am_go B sa am_dfl cl am_r64 f 3 [(0, .ref (ρ.1 3)), (2, .int (nI (A.length + M.length))), (3, .int c), (4, .int v), (5, .int (nI A.length))] [] (hp_S sa ρ P) = some (some (.int (if (c, v) ∈ M then 1 else 0)), hp_S sa ρ P) := by
  intro M
  induction M with
  | nil =>
    intro A W f hX hf
    obtain ⟨f, rfl⟩ : ∃ g, f = g + 1 := ⟨f - 1, by omega⟩
    rw [am_s64_3]
    simp only [List.length_nil, Nat.add_zero, am_c_ge, Int32.le_refl, if_true, am_rz_0, List.not_mem_nil, if_false]
  | cons s M ih =>
    intro A W f hX hf
    obtain ⟨f, rfl⟩ : ∃ g, f = g + 1 := ⟨f - 1, by omega⟩
    obtain ⟨r1, r2, hXl, hX1, hge, hen, hA1⟩ := rw_seg h hX
    have hfl : M.length + 1 ≤ f := by simp only [List.length_cons] at hf; omega
    have i1 := ih (A ++ [s]) W f hX1 hfl
    rw [am_s64_3]
    simp only [am_c_ge, hge, if_false, hr_301 w, hl_301 w, hr_302 w, hl_302 w, r1, r2, Option.bind_some, am_c_ne, nI_1]
    rw [hen, ← hA1, i1]
    by_cases e1 : s.1 = c
    · rw [if_neg (fun z => z e1)]
      by_cases e2 : s.2 = v
      · have hs : (c, v) = s := Prod.ext e1.symm e2.symm
        rw [if_neg (fun z => z e2), if_pos (by rw [hs]; exact List.mem_cons_self), am_rz_1]
      · rw [if_pos e2]
        have : ((c, v) ∈ s :: M) = ((c, v) ∈ M) := propext ⟨fun z => (List.mem_cons.mp z).resolve_left (fun q => e2 (by rw [← q])), List.mem_cons_of_mem _⟩
        simp only [this]
    · rw [if_pos e1]
      have : ((c, v) ∈ s :: M) = ((c, v) ∈ M) := propext ⟨fun z => (List.mem_cons.mp z).resolve_left (fun q => e1 (by rw [← q])), List.mem_cons_of_mem _⟩
      simp only [this]
theorem rw_hasSym {f d : Nat} {c v : Int32} {M A W : List rwS} (w : hp_w B ρ) (h : rwI P Rs O b) (hf : 30000 ≤ f) (hX : Rs.flatten ++ O = A ++ (M ++ W)) {x y : Int32} (hx : x = nI A.length) (hy : y = nI (A.length + M.length)) :
    am_call B sa am_dfl am_tb f (d + 1) 64 [.ref (ρ.1 3), .int x, .int y, .int c, .int v] (hp_S sa ρ P) = some (some (.int (if (c, v) ∈ M then 1 else 0)), hp_S sa ρ P) := by
  obtain ⟨f, rfl⟩ : ∃ g, f = g + 2 := ⟨f - 2, by omega⟩
  have hl := h.Xle
  rw [hX] at hl
  simp only [List.length_append] at hl
  rw [am_c_64, am_s64_0, hx, hy]
  exact rw_hasSym_loop w h M A W (f + 1) hX (by omega)
/-- a code of a free variable -/
def q_fr (c : Int32) : Prop := 0 ≤ c ∧ c - c / 4 * 4 = 1
theorem rw_hasFree_loop {cl : am_F} (w : hp_w B ρ) (h : rwI P Rs O b) : ∀ (M A W : List rwS) (f : Nat), Rs.flatten ++ O = A ++ (M ++ W) → M.length + 1 ≤ f →
    am_go B sa am_dfl cl am_r65 f 2 [(0, .ref (ρ.1 3)), (2, .int (nI (A.length + M.length))), (3, .int (nI A.length))] [] (hp_S sa ρ P) = some (some (.int (@ite _ (∃ s ∈ M, q_fr s.1) (Classical.propDecidable _) 1 0)), hp_S sa ρ P) := by
  intro M
  induction M with
  | nil =>
    intro A W f hX hf
    obtain ⟨f, rfl⟩ : ∃ g, f = g + 1 := ⟨f - 1, by omega⟩
    rw [am_s65_2]
    simp only [List.length_nil, Nat.add_zero, am_c_ge, Int32.le_refl, if_true, am_rz_0]
    rw [if_neg (fun ⟨s, hs, _⟩ => by cases hs)]
  | cons s M ih =>
    intro A W f hX hf
    obtain ⟨f, rfl⟩ : ∃ g, f = g + 1 := ⟨f - 1, by omega⟩
    obtain ⟨r1, r2, hXl, hX1, hge, hen, hA1⟩ := rw_seg h hX
    have hfl : M.length + 1 ≤ f := by simp only [List.length_cons] at hf; omega
    have i1 := ih (A ++ [s]) W f hX1 hfl
    rw [am_s65_2]
    simp only [am_c_ge, hge, if_false, hr_301 w, hl_301 w, r1, Option.bind_some, am_c_ne, am_c_lt, nI_1]
    rw [hen, ← hA1, i1, if_neg (show ¬ (4 : Int32) = 0 by decide)]
    have hno : ¬ q_fr s.1 → (∃ s' ∈ s :: M, q_fr s'.1) = ∃ s' ∈ M, q_fr s'.1 := fun hn => propext ⟨fun ⟨s', a1, a2⟩ => ⟨s', (List.mem_cons.mp a1).resolve_left (fun z => hn (by rw [← z]; exact a2)), a2⟩, fun ⟨s', a1, a2⟩ => ⟨s', List.mem_cons_of_mem _ a1, a2⟩⟩
    by_cases e1 : s.1 < 0
    · rw [if_pos e1]
      exact congrArg (fun p : Prop => some (some (Value.int (@ite _ p (Classical.propDecidable _) 1 0)), hp_S sa ρ P)) (hno (fun z => Int32.not_lt.mpr z.1 e1)).symm
    · rw [if_neg e1]
      by_cases e2 : s.1 - s.1 / 4 * 4 = 1
      · rw [if_neg (fun z => z e2), if_pos ⟨s, List.mem_cons_self, Int32.not_lt.mp e1, e2⟩, am_rz_1]
      · rw [if_pos e2]
        exact congrArg (fun p : Prop => some (some (Value.int (@ite _ p (Classical.propDecidable _) 1 0)), hp_S sa ρ P)) (hno (fun z => e2 z.2)).symm
theorem rw_hasFree {f d : Nat} {M A W : List rwS} (w : hp_w B ρ) (h : rwI P Rs O b) (hf : 30000 ≤ f) (hX : Rs.flatten ++ O = A ++ (M ++ W)) {x y : Int32} (hx : x = nI A.length) (hy : y = nI (A.length + M.length)) :
    am_call B sa am_dfl am_tb f (d + 1) 65 [.ref (ρ.1 3), .int x, .int y] (hp_S sa ρ P) = some (some (.int (@ite _ (∃ s ∈ M, q_fr s.1) (Classical.propDecidable _) 1 0)), hp_S sa ρ P) := by
  obtain ⟨f, rfl⟩ : ∃ g, f = g + 2 := ⟨f - 2, by omega⟩
  have hl := h.Xle
  rw [hX] at hl
  simp only [List.length_append] at hl
  rw [am_c_65, am_s65_0, hx, hy]
  exact rw_hasFree_loop w h M A W (f + 1) hX (by omega)
end RW4
