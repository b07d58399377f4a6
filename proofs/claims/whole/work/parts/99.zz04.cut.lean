/-! THE REFERENCE, 41: cut -/
section PUB4
variable {Z : Prop} {G : qT → Prop} {L : List qM} {sa : Nat → Nat} {B : Nat} {ρ : hp_L} {K : kS} {A : sV} {S : qT → Prop} {ws : List Int32} {P P' : hp_P} {flt : Int32} {n : Nat} {T : Nat → Int32 × Int32 × Int32} {ns : List qM} {j : Nat}
theorem c_can {cl : am_F} (w : hp_w B ρ) (h : rI A K) (hP : P.2 = K.1.2) (e32 : P.1 932 = nI A.1.length) : ∀ (m j f : Nat), A.1.length - j = m → j ≤ A.1.length → m + 2 ≤ f →
    am_go B sa am_dfl cl am_r196 f 20 [(0, .ref (ρ.1 9)), (2, .int 1), (3, .int (nI j))] [] (hp_S sa ρ P) = some (some (.int (bP (A.2.1 ≤ j))), hp_S sa ρ P) := by
  have l1 : A.1.length ≤ 1000 := h.2.2.1.1.2
  obtain ⟨t1, t2, t3⟩ := h.2.2.2.1.1
  intro m
  induction m with
  | zero =>
    intro j f hm hj hf
    obtain ⟨f, rfl⟩ : ∃ g, f = g + 1 := ⟨f - 1, by omega⟩
    rw [am_s196_20]
    simp only [am_c_eq, hg_932 w, e32, Option.bind_some, am_c_ge]
    rw [if_neg (show ¬ (1 : Int32) = 0 by decide), if_pos (nI_le (by omega) (by omega)), bP_t (by omega)]
    rfl
  | succ m ih =>
    intro j f hm hj hf
    obtain ⟨f, rfl⟩ : ∃ g, f = g + 2 := ⟨f - 2, by omega⟩
    have r := h.r37 (r := 938) (j := j) (by decide) (by decide) (by omega)
    rw [← hp_rd_cg hP] at r
    rw [am_s196_20]
    simp only [am_c_eq, hg_932 w, e32, Option.bind_some, am_c_ge, hr_938 w, hl_938 w, r]
    rw [if_neg (show ¬ (1 : Int32) = 0 by decide), if_neg (nI_ge (by omega) (by omega))]
    have stop : am_go B sa am_dfl cl am_r196 (f + 1) 20 [(0, .ref (ρ.1 9)), (2, .int 0), (3, .int (nI j + 1))] [] (hp_S sa ρ P) = some (some (.int 0), hp_S sa ρ P) := by
      rw [am_s196_20]
      simp only [am_c_eq]
      rw [if_pos True.intro]
      rfl
    by_cases z0 : (K.1.2 938).2 j = 20
    · rw [if_pos z0, stop, bP_f (fun z => (t2 j z (by omega)).1 z0)]
    · rw [if_neg z0]
      by_cases z1 : (K.1.2 938).2 j = 21
      · rw [if_pos z1, stop, bP_f (fun z => (t2 j z (by omega)).2 z1)]
      · rw [if_neg z1, nI_1, ih (j + 1) (f + 1) (by omega) (by omega) (by omega)]
        have : (A.2.1 ≤ j + 1) = (A.2.1 ≤ j) := propext ⟨fun z => by
          by_cases e : A.2.1 = j + 1
          · have := t3 (by omega)
            rw [e, Nat.add_sub_cancel] at this
            rcases this with y | y
            · exact absurd y z0
            · exact absurd y z1
          · omega, fun z => by omega⟩
        rw [this]
theorem m_canCut {f d : Nat} {x : Int32} (w : hp_w B ρ) (h : rI A K) (hP : P.2 = K.1.2) (e32 : P.1 932 = nI A.1.length) (hf : 2000 ≤ f) : am_call B sa am_dfl am_tb f (d + 1) 196 [.ref (ρ.1 9), .int x] (hp_S sa ρ P) = some (some (.int (bP (∃ j, x = nI j ∧ A.2.1 ≤ j ∧ j ≤ A.1.length))), hp_S sa ρ P) := by
  have l1 : A.1.length ≤ 1000 := h.2.2.1.1.2
  obtain ⟨f, rfl⟩ : ∃ g, f = g + 2 := ⟨f - 2, by omega⟩
  have stop : am_go B sa am_dfl (am_call B sa am_dfl am_tb (f + 2) d) am_r196 (f + 1) 20 [(0, .ref (ρ.1 9)), (2, .int 0), (3, .int x)] [] (hp_S sa ρ P) = some (some (.int 0), hp_S sa ρ P) := by
    rw [am_s196_20]
    simp only [am_c_eq]
    rw [if_pos True.intro]
    rfl
  rw [am_c_196, am_s196_0]
  simp only [am_c_lt, am_c_gt, hg_932 w, e32, Option.bind_some]
  rcases pk_ix x (show A.1.length + 1 < 2 ^ 31 by omega) with z | z | ⟨j, hj, rfl⟩
  · rw [if_pos z, stop, bP_f]
    rintro ⟨j, rfl, -, h2⟩
    exact nI_pos (by omega) z
  · have h0 : ¬ x < 0 := Int32.not_lt.mpr (Int32.le_trans (Int32.not_lt.mp (nI_pos (by omega))) z)
    rw [if_neg h0, if_pos (Int32.lt_of_lt_of_le (nI_lt (show A.1.length < A.1.length + 1 by omega) (by omega)) z), stop, bP_f]
    rintro ⟨j, rfl, -, h2⟩
    exact nI_ge (show j < A.1.length + 1 by omega) (by omega) z
  · rw [if_neg (nI_pos (by omega)), if_neg (nI_nlt (by omega) (by omega)), c_can (sa := sa) w h hP e32 _ j (f + 1) rfl (by omega) (by omega)]
    have : (∃ i, nI j = nI i ∧ A.2.1 ≤ i ∧ i ≤ A.1.length) = (A.2.1 ≤ j) := propext ⟨fun ⟨i, a, b, c⟩ => by
      have := (nI_eq (by omega) (by omega)).mp a
      omega, fun z => ⟨j, rfl, z, by omega⟩⟩
    rw [this]
theorem m_tot_c {X : qM} {l : List qM} : m_tot (X :: l) = (m_fl X).length + m_tot l := by
  unfold m_tot
  rw [List.map_cons, List.sum_cons]
theorem hp_sI_P2 {r : Nat} {v : Int32} : (hp_sI P r v).2 = P.2 := rfl
/-- hypotheses taken off -/
theorem c_cutH {cl : am_F} {i : Nat} {s : qQ} {x1 : Int32} (w : hp_w B ρ) (J : kI Z G L K) (h : rI A K) (hs : A.1[i]? = some s) : ∀ (m c f : Nat) (P : hp_P) (t : Nat), s.1.length - c = m → c ≤ s.1.length → P.2 = K.1.2 → P.1 934 = nI (t + m_tot (s.1.drop c)) → t + m_tot (s.1.drop c) < 2 ^ 31 → m + 1 ≤ f →
    ∃ f', f ≤ f' + (m + 1) ∧ am_go B sa am_dfl cl am_r197 f 32 [(0, .ref (ρ.1 9)), (1, .int x1), (2, .int (nI i)), (3, .int (nI c))] [] (hp_S sa ρ P) = am_go B sa am_dfl cl am_r197 f' 2 [(0, .ref (ρ.1 9)), (1, .int x1), (2, .int (nI (i + 1)))] [] (hp_S sa ρ (hp_sI P 934 (nI t))) := by
  have l1 : A.1.length ≤ 1000 := h.2.2.1.1.2
  have il := (List.getElem?_eq_some_iff.mp hs).1
  obtain ⟨q1, q2, q3, q4, q5⟩ := h.2.2.1.2.2.2.2.2 i s hs
  have hz := hys_at hs
  have u60 := h.u60
  intro m
  induction m with
  | zero =>
    intro c f P t hm hc hP h34 hlt hf
    obtain ⟨f, rfl⟩ : ∃ g, f = g + 1 := ⟨f - 1, by omega⟩
    have r37 := h.r37 (r := 937) (j := i) (by decide) (by decide) (by omega)
    rw [← hp_rd_cg hP, q3] at r37
    rw [am_s197_32]
    simp only [hr_937 w, hl_937 w, r37, Option.bind_some, am_c_ge, nI_1]
    rw [if_pos (nI_le (by omega) (by omega))]
    have e : m_tot (s.1.drop c) = 0 := by rw [List.drop_eq_nil_of_le (by omega)]; rfl
    rw [e, Nat.add_zero] at h34
    exact ⟨f, by omega, by rw [hp_sI_self h34]⟩
  | succ m ih =>
    intro c f P t hm hc hP h34 hlt hf
    obtain ⟨f, rfl⟩ : ∃ g, f = g + 1 := ⟨f - 1, by omega⟩
    have cl : c < s.1.length := by omega
    have r37 := h.r37 (r := 937) (j := i) (by decide) (by decide) (by omega)
    rw [← hp_rd_cg hP, q3] at r37
    have r36 := h.r37 (r := 936) (j := i) (by decide) (by decide) (by omega)
    rw [← hp_rd_cg hP, q2] at r36
    have r43 := h.r43 (i := (hys (A.1.take i)).length + c) (by omega)
    rw [← hp_rd_cg hP] at r43
    have hX : s.1[c]? = some s.1[c] := List.getElem?_eq_getElem cl
    obtain ⟨y, y6, ey, hy⟩ := q5 c _ hX
    have row := J.row hy
    have r22 : hp_rd P 922 (nI y) = some (nI (m_fl s.1[c]).length) := by
      rw [hp_rd_cg hP, J.2.1.rd (by decide) (by decide) (List.getElem?_eq_some_iff.mp hy).1, row.2.2.1]
    rw [ey] at r43
    rw [am_s197_32]
    simp only [hr_937 w, hl_937 w, r37, Option.bind_some, am_c_ge, nI_1, hg_934 w, h34, hr_922 w, hr_943 w, hr_936 w, hl_936 w, r36, nI_add, hl_943 w, r43, hl_922 w, r22, hs_934 w]
    rw [if_neg (nI_ge cl (by omega))]
    have ed : m_tot (s.1.drop c) = (m_fl s.1[c]).length + m_tot (s.1.drop (c + 1)) := by rw [List.drop_eq_getElem_cons cl, m_tot_c]
    rw [ed] at hlt
    rw [ed, pk_sub (by omega), show t + ((m_fl s.1[c]).length + m_tot (s.1.drop (c + 1))) - (m_fl s.1[c]).length = t + m_tot (s.1.drop (c + 1)) by omega]
    obtain ⟨f', g1, g2⟩ := ih (c + 1) f (hp_sI P 934 (nI (t + m_tot (s.1.drop (c + 1))))) t (by omega) (by omega) hP hI_eq (by omega) (by omega)
    rw [hp_sI_sI] at g2
    exact ⟨f', by omega, g2⟩
/-- sequents taken off -/
theorem c_cutS {cl : am_F} {x1 : Int32} (w : hp_w B ρ) (J : kI Z G L K) (h : rI A K) : ∀ (m i f : Nat) (P : hp_P) (t : Nat), A.1.length - i = m → i ≤ A.1.length → P.2 = K.1.2 → P.1 932 = nI A.1.length → P.1 934 = nI (t + m_tot (sq_rows (A.1.drop i))) → t + m_tot (sq_rows (A.1.drop i)) < 2 ^ 31 → 62 * m ≤ f →
    ∃ f', f ≤ f' + 62 * m ∧ am_go B sa am_dfl cl am_r197 f 2 [(0, .ref (ρ.1 9)), (1, .int x1), (2, .int (nI i))] [] (hp_S sa ρ P) = am_go B sa am_dfl cl am_r197 f' 2 [(0, .ref (ρ.1 9)), (1, .int x1), (2, .int (nI A.1.length))] [] (hp_S sa ρ (hp_sI P 934 (nI t))) := by
  have l1 : A.1.length ≤ 1000 := h.2.2.1.1.2
  intro m
  induction m with
  | zero =>
    intro i f P t hm hi hP h32 h34 hlt hf
    have ei : i = A.1.length := by omega
    have e : m_tot (sq_rows (A.1.drop i)) = 0 := by rw [List.drop_eq_nil_of_le (by omega)]; rfl
    rw [e, Nat.add_zero] at h34
    exact ⟨f, by omega, by rw [hp_sI_self h34, ei]⟩
  | succ m ih =>
    intro i f P t hm hi hP h32 h34 hlt hf
    obtain ⟨f, rfl⟩ : ∃ g, f = g + 1 := ⟨f - 1, by omega⟩
    have il : i < A.1.length := by omega
    have hs : A.1[i]? = some A.1[i] := List.getElem?_eq_getElem il
    obtain ⟨q1, q2, q3, q4, q5⟩ := h.2.2.1.2.2.2.2.2 i _ hs
    have r35 := h.r37 (r := 935) (j := i) (by decide) (by decide) (by omega)
    rw [← hp_rd_cg hP] at r35
    obtain ⟨y, y6, ey, hy⟩ := q1
    have row := J.row hy
    have r22 : hp_rd P 922 (nI y) = some (nI (m_fl A.1[i].2).length) := by
      rw [hp_rd_cg hP, J.2.1.rd (by decide) (by decide) (List.getElem?_eq_some_iff.mp hy).1, row.2.2.1]
    rw [ey] at r35
    have ed : m_tot (sq_rows (A.1.drop i)) = m_tot A.1[i].1 + (m_fl A.1[i].2).length + m_tot (sq_rows (A.1.drop (i + 1))) := by
      rw [List.drop_eq_getElem_cons il]
      show m_tot (sq_rows ([A.1[i]] ++ A.1.drop (i + 1))) = _
      rw [sq_rows_ap, sq_rows_1, m_tot_ap, m_tot_ap, m_tot_c]
      show _ + (_ + 0) + _ = _
      rw [Nat.add_zero]
    rw [ed] at hlt
    rw [am_s197_2]
    simp only [hg_932 w, h32, Option.bind_some, am_c_ge, hg_934 w, h34, hr_922 w, hr_935 w, hl_935 w, r35, hl_922 w, r22, hs_934 w]
    rw [if_neg (nI_ge il (by omega)), ed, pk_sub (by omega), show t + (m_tot A.1[i].1 + (m_fl A.1[i].2).length + m_tot (sq_rows (A.1.drop (i + 1)))) - (m_fl A.1[i].2).length = (t + m_tot (sq_rows (A.1.drop (i + 1)))) + m_tot A.1[i].1 by omega]
    obtain ⟨f1, g1, g2⟩ := c_cutH (sa := sa) (cl := cl) (x1 := x1) w J h hs A.1[i].1.length 0 f (hp_sI P 934 (nI ((t + m_tot (sq_rows (A.1.drop (i + 1)))) + m_tot A.1[i].1))) (t + m_tot (sq_rows (A.1.drop (i + 1)))) (Nat.sub_zero _) (Nat.zero_le _) hP (by rw [hI_eq, List.drop_zero]) (by rw [List.drop_zero]; omega) (by omega)
    rw [hp_sI_sI] at g2
    obtain ⟨f2, k1, k2⟩ := ih (i + 1) f1 (hp_sI P 934 (nI (t + m_tot (sq_rows (A.1.drop (i + 1)))))) t (by omega) (by omega) hP (by rw [hI_ne (by decide)]; exact h32) hI_eq (by omega) (by omega)
    rw [hp_sI_sI] at k2
    exact ⟨f2, by omega, by rw [← k2, ← g2]; rfl⟩
end PUB4
