/-! SEQUENTS of the class, 1: where rows stand; what is asked -/
theorem sq_rows_ap (a b : List qQ) : sq_rows (a ++ b) = sq_rows a ++ sq_rows b := by
  unfold sq_rows
  rw [List.flatMap_append]
theorem sq_rows_1 (s : qQ) : sq_rows [s] = s.1 ++ [s.2] := by
  unfold sq_rows
  simp
/-- where the rows of a sequent begin -/
def sq_k (sq : List qQ) (a : Nat) : Nat := (sq_rows (sq.take a)).length
theorem sq_split {sq : List qQ} {a : Nat} {s : qQ} (h : sq[a]? = some s) : sq_rows sq = sq_rows (sq.take a) ++ (s.1 ++ ([s.2] ++ sq_rows (sq.drop (a + 1)))) := by
  have ht : sq.take (a + 1) = sq.take a ++ [s] := by rw [List.take_add_one, h]; rfl
  conv => lhs; rw [← List.take_append_drop (a + 1) sq, ht]
  rw [sq_rows_ap, sq_rows_ap, sq_rows_1]
  simp
theorem sq_k1 {sq : List qQ} {a : Nat} {s : qQ} (h : sq[a]? = some s) : sq_k sq (a + 1) = sq_k sq a + s.1.length + 1 := by
  unfold sq_k
  have ht : sq.take (a + 1) = sq.take a ++ [s] := by rw [List.take_add_one, h]; rfl
  rw [ht, sq_rows_ap, sq_rows_1, List.length_append, List.length_append]
  rfl
theorem sq_hyp {sq : List qQ} {a i : Nat} {s : qQ} {M : qM} (h : sq[a]? = some s) (hi : s.1[i]? = some M) : (sq_rows sq)[sq_k sq a + i]? = some M := by
  have hil : i < s.1.length := (List.getElem?_eq_some_iff.mp hi).1
  rw [sq_split h, List.getElem?_append_right (by unfold sq_k; omega)]
  unfold sq_k
  rw [Nat.add_sub_cancel_left, List.getElem?_append_left hil]
  exact hi
theorem sq_con {sq : List qQ} {a : Nat} {s : qQ} (h : sq[a]? = some s) : (sq_rows sq)[sq_k sq a + s.1.length]? = some s.2 := by
  rw [sq_split h, List.getElem?_append_right (by unfold sq_k; omega)]
  unfold sq_k
  rw [Nat.add_sub_cancel_left, List.getElem?_append_right (Nat.le_refl _), Nat.sub_self]
  rfl
theorem sq_k_le {sq : List qQ} {a : Nat} {s : qQ} (h : sq[a]? = some s) : sq_k sq a + s.1.length + 1 ≤ (sq_rows sq).length := by
  have := (List.getElem?_eq_some_iff.mp (sq_con h)).1
  omega
theorem sq_k_all {sq : List qQ} : sq_k sq sq.length = (sq_rows sq).length := by
  unfold sq_k
  rw [List.take_length]
/-- how many symbols there are together -/
def m_tot (L : List qM) : Nat := (L.map fun M => (m_fl M).length).sum
theorem m_tot_ap {a b : List qM} : m_tot (a ++ b) = m_tot a + m_tot b := by
  unfold m_tot
  rw [List.map_append, List.sum_append]
theorem rsI.len {n : Nat} {T : Nat → Int32 × Int32 × Int32} {Rb : List (List rwS)} {rows : List qM} (h : rsI n T Rb rows) : Rb.length = rows.length := by
  have := congrArg List.length h.1
  rw [List.length_map, List.length_map] at this
  exact this
theorem flat_tot {n : Nat} {T : Nat → Int32 × Int32 × Int32} : ∀ {Rb : List (List rwS)} {rows : List qM}, Rb.map (fun R => R.map (rt T n)) = rows.map m_fl → Rb.flatten.length = m_tot rows
  | [], [], _ => rfl
  | [], _ :: _, h => by cases h
  | _ :: _, [], h => by cases h
  | R :: Rb, M :: rows, h => by
    rw [List.map_cons, List.map_cons] at h
    obtain ⟨h1, h2⟩ := List.cons.inj h
    have h1 := congrArg List.length h1
    rw [List.length_map] at h1
    have := flat_tot h2
    unfold m_tot at this ⊢
    rw [List.flatten_cons, List.length_append, List.map_cons, List.sum_cons, this, h1]
theorem rsI.at {n : Nat} {T : Nat → Int32 × Int32 × Int32} {Rb : List (List rwS)} {rows : List qM} (h : rsI n T Rb rows) {j : Nat} {M : qM} (hj : rows[j]? = some M) : ∃ L, Rb[j]? = some L ∧ L.map (rt T n) = m_fl M := by
  have h1 : (Rb.map fun R => R.map (rt T n))[j]? = some (m_fl M) := by rw [h.1, List.getElem?_map, hj]; rfl
  rw [List.getElem?_map] at h1
  obtain ⟨L, h2, h3⟩ := Option.map_eq_some_iff.mp h1
  exact ⟨L, h2, h3⟩
section SQ1
variable {sa : Nat → Nat} {B : Nat} {ρ : hp_L} {P : hp_P} {b : Bool} {n : Nat} {T : Nat → Int32 × Int32 × Int32} {Z : Prop} {G : qT → Prop} {C : sC} {H : List qM} {D : List qS}
theorem sI.rowsle (h : sI Z G B C ρ P n T H D b) : (sq_rows C.2.1).length ≤ 20000 ∧ m_tot (sq_rows C.2.1) ≤ 20000 ∧ C.1.flatten.length = m_tot (sq_rows C.2.1) := by
  obtain ⟨-, -, -, -, h5, Dr, O, hw, -⟩ := h
  have h20 := hw.2.1.2.2.2.2.2.1
  have h8 := hw.2.1.2.2.2.2.2.2.2
  have e := flat_tot h5.1
  have hl := rw_len_Rs (Rs := C.1) (fun r hr => h8 r (List.mem_append.mpr (Or.inl hr)))
  rw [List.flatten_append, List.length_append] at h20
  rw [h5.len] at hl
  exact ⟨by omega, by omega, e⟩
/-- a row of a sequent -/
theorem sI.row {j : Nat} {M : qM} (h : sI Z G B C ρ P n T H D b) (hj : (sq_rows C.2.1)[j]? = some M) : ∃ A L, srcB n T C.1 A L M ∧ hp_rd P 304 (nI j) = some (nI A.length) ∧ hp_rd P 304 (nI (j + 1)) = some (nI (A.length + L.length)) ∧ A = (C.1.take j).flatten ∧ C.1[j]? = some L ∧ A.length + L.length ≤ 20000 := by
  obtain ⟨-, -, -, -, h5, Dr, O, hw, -⟩ := h
  obtain ⟨L, h1, h2⟩ := h5.at hj
  have hjl : j < C.1.length := (List.getElem?_eq_some_iff.mp h1).1
  have h3 : (C.1 ++ Dr)[j]? = some L := by rw [List.getElem?_append_left hjl]; exact h1
  obtain ⟨r1, r2, -, r4, r5⟩ := rw_row hw.2.1 h3
  have ht : (C.1 ++ Dr).take j = C.1.take j := List.take_append_of_le_length (by omega)
  rw [ht] at r1 r2 r5
  refine ⟨_, L, ⟨?_, h2, fun s hs => hw.2.2.1 s ?_⟩, r1, r2, rfl, h1, r5⟩
  · refine ⟨(C.1.drop (j + 1)).flatten, ?_⟩
    have ht : C.1.take (j + 1) = C.1.take j ++ [L] := by rw [List.take_add_one, h1]; rfl
    conv => lhs; rw [← List.take_append_drop (j + 1) C.1, ht]
    simp
  · rw [List.flatten_append]
    exact List.mem_append.mpr (Or.inl (List.mem_append.mpr (Or.inl (List.mem_flatten.mpr ⟨L, List.mem_of_getElem? h1, hs⟩))))
/-- where a sequent's rows begin, and where the next one's do -/
theorem sI.first {a : Nat} {s : qQ} (h : sI Z G B C ρ P n T H D b) (ha : C.2.1[a]? = some s) : hp_rd P 405 (nI a) = some (nI (sq_k C.2.1 a)) ∧ hp_rd P 405 (nI (a + 1)) = some (nI (sq_k C.2.1 a + s.1.length + 1)) ∧ sq_k C.2.1 a + s.1.length + 1 ≤ 20000 ∧ a < 1000 := by
  have hal : a < C.2.1.length := (List.getElem?_eq_some_iff.mp ha).1
  obtain ⟨a1, a2, a3, a4, ⟨len, l1, l2, l3, l4⟩, a6⟩ := h.2.2.2.1
  have hl := l4 405 (by decide) (by decide)
  have := sq_k_le ha
  have := h.rowsle.1
  refine ⟨?_, ?_, by omega, by omega⟩
  · rw [hp_rd_nI (by omega) (by omega), (a6 a (by omega)).1]; rfl
  · rw [hp_rd_nI (by omega) (by omega), (a6 (a + 1) (by omega)).1, ← sq_k1 ha]; rfl
/-- has -/
theorem sq_has {f d : Nat} {x : Int32} (h : sI Z G B C ρ P n T H D b) : am_call B sa am_dfl am_tb (f + 1) (d + 1) 68 [.ref (ρ.1 4), .int x] (hp_S sa ρ P) = some (some (.int (bP (∃ s, en_at C.2.1 x s))), hp_S sa ρ P) := by
  have hl := h.2.2.2.1.2.2.2.1
  rw [am_c_68, am_s68_0]
  simp only [hg_403 h.w, h.2.2.2.1.1, Option.bind_some, am_c_lt, am_c_ge]
  rw [← bP_c (en_at_R (x := x) (by omega))]
  exact rng_ck (by omega)
/-- conclusionOf -/
theorem sq_conc {f d a : Nat} {s : qQ} (h : sI Z G B C ρ P n T H D b) (ha : C.2.1[a]? = some s) : am_call B sa am_dfl am_tb (f + 1) (d + 1) 69 [.ref (ρ.1 4), .int (nI a)] (hp_S sa ρ P) = some (some (.int (nI (sq_k C.2.1 a + s.1.length))), hp_S sa ρ P) := by
  obtain ⟨r1, r2, -⟩ := h.first ha
  rw [am_c_69, am_s69_0]
  simp only [hr_405 h.w, hl_405 h.w, nI_1, r2, Option.bind_some, nI_pred]
/-- hypothesesOf -/
theorem sq_hyps {f d a : Nat} {s : qQ} (h : sI Z G B C ρ P n T H D b) (ha : C.2.1[a]? = some s) : am_call B sa am_dfl am_tb (f + 1) (d + 2) 70 [.ref (ρ.1 4), .int (nI a)] (hp_S sa ρ P) = some (some (.int (nI s.1.length)), hp_S sa ρ P) := by
  obtain ⟨r1, r2, -⟩ := h.first ha
  rw [am_c_70, am_s70_0]
  simp only [hx_4 h.w, Option.bind_some, sq_conc h ha, am_i_some, hr_405 h.w, hl_405 h.w, r1, pk_sub (Nat.le_add_right _ _), Nat.add_sub_cancel_left]
/-- canEndAt -/
theorem sq_canEnd {f d : Nat} {x : Int32} (h : sI Z G B C ρ P n T H D b) : am_call B sa am_dfl am_tb (f + 1) (d + 1) 72 [.ref (ρ.1 4), .int x] (hp_S sa ρ P) = some (some (.int (bP (∃ j, x = nI j ∧ C.2.2.1 ≤ j ∧ j ≤ C.2.1.length))), hp_S sa ρ P) := by
  obtain ⟨a1, a2, a3, a4, -⟩ := h.2.2.2.1
  rw [am_c_72, am_s72_0]
  simp only [hg_404 h.w, hg_403 h.w, a1, a2, Option.bind_some, am_c_lt, am_c_gt]
  by_cases e1 : x < nI C.2.2.1
  · rw [if_pos e1, bP_f, am_rz_0]
    intro ⟨j, j1, j2, j3⟩
    rw [j1] at e1
    exact nI_nlt j2 (by omega) e1
  · rw [if_neg e1]
    by_cases e2 : nI C.2.1.length < x
    · rw [if_pos e2, bP_f, am_rz_0]
      intro ⟨j, j1, j2, j3⟩
      rw [j1] at e2
      exact nI_nlt j3 (by omega) e2
    · rw [if_neg e2, bP_t, am_rz_1]
      have e0 : ¬ x < 0 := fun z => e1 (Int32.lt_of_lt_of_le z (nI_pos' (by omega)))
      obtain ⟨j, j1, rfl⟩ := nI_of e0
      exact ⟨j, rfl, Nat.le_of_not_lt fun z => e1 (nI_lt z (by omega)), Nat.le_of_not_lt fun z => e2 (nI_lt z j1)⟩
end SQ1
