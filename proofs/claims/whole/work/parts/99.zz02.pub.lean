/-! THE REFERENCE, 39: symbols -/
section PUB2
variable {Z : Prop} {G : qT → Prop} {L : List qM} {sa : Nat → Nat} {B : Nat} {ρ : hp_L} {K : kS} {A : sV} {S : qT → Prop} {ws : List Int32} {P : hp_P} {flt : Int32}
theorem hp_rd_cg {P Q : hp_P} {r : Nat} {i : Int32} (h : P.2 = Q.2) : hp_rd P r i = hp_rd Q r i := by
  unfold hp_rd
  rw [h]
theorem m_partAt {cl : am_F} (w : hp_w B ρ) (h : kI Z G L K) (hP : P.2 = K.1.2) : ∀ (k j f : Nat) (M : qM), K.2.2.2.1[j]? = some M → k < (m_fl M).length → k + 1 ≤ f →
    ∃ v Y, am_go B sa am_dfl cl am_r192 f 5 [(0, .ref (ρ.1 9)), (3, .int (nI j)), (4, .int (nI k))] [] (hp_S sa ρ P) = some (some (.int v), hp_S sa ρ P) ∧ nq K v Y ∧ (m_fl Y)[0]? = (m_fl M)[k]? := by
  intro k
  induction k using Nat.strongRecOn with
  | ind k ih =>
    intro j f M hj hk hf
    obtain ⟨f, rfl⟩ : ∃ g, f = g + 1 := ⟨f - 1, by omega⟩
    have jl := (List.getElem?_eq_some_iff.mp hj).1
    have l6 := h.2.1.1.2
    rw [am_s192_5]
    simp only [am_c_le]
    cases k with
    | zero =>
      rw [if_pos (show nI 0 ≤ 0 by decide)]
      exact ⟨nI j, M, rfl, ⟨j, by omega, rfl, hj⟩, rfl⟩
    | succ k =>
      obtain ⟨r1, r2, r3, r4⟩ := h.rdN hj
      rw [← hp_rd_cg hP] at r1 r2 r3 r4
      obtain ⟨key, -, w2, -, -, w4, -⟩ := h.row hj
      rw [if_neg (nI_nle (by omega) (by omega))]
      simp only [hr_918 w, hl_918 w, r1, Option.bind_some, am_c_ne]
      obtain ⟨-, ⟨q1, a, b, F, X, u, a1, b1, q2, q3, ha, hb, rfl⟩ | ⟨q1, b, t, Y, b1, -, q3, hb, rfl⟩ | ⟨x, e, u, -, -, -, -, rfl⟩⟩ := key
      · rw [q1, if_pos (by decide)]
        obtain ⟨-, -, w2a, -, -, w4a, -⟩ := h.row ha
        have rw1 : hp_rd P 922 (nI a) = some (nI (m_fl F).length) := by
          rw [hp_rd_cg hP, ← w2a]
          exact hp_rd_nI (by rw [h.2.1.2.1.1 922 (by decide) (by decide)]; omega) (by omega)
        rw [m_fl_N, List.length_cons, List.length_append] at hk w4
        rw [q2] at r2
        rw [q3] at r3
        simp only [hr_922 w, hr_919 w, hl_919 w, r2, hl_922 w, rw1, Option.bind_some, am_c_ge, i_addm1, nI_pred]
        rw [m_fl_N, List.getElem?_cons_succ]
        by_cases e : (m_fl F).length ≤ k
        · rw [if_pos (nI_le e (by omega))]
          simp only [hr_920 w, hl_920 w, r3, Option.bind_some, pk_sub e]
          rw [List.getElem?_append_right e]
          exact ih (k - (m_fl F).length) (by omega) b f X hb (by omega) (by omega)
        · rw [if_neg (nI_ge (by omega) (by omega)), List.getElem?_append_left (by omega)]
          exact ih k (by omega) a f F ha (by omega) (by omega)
      · rw [q1, if_neg (fun z => z rfl)]
        rw [q3] at r3
        rw [m_fl_N, List.length_cons, List.length_append] at hk
        have hk : k + 1 < (m_fl Y).length + 0 + 1 := hk
        simp only [hr_920 w, hl_920 w, r3, Option.bind_some, i_addm1, nI_pred]
        rw [m_fl_N, List.getElem?_cons_succ, List.getElem?_append_left (by omega)]
        exact ih k (by omega) b f Y hb (by omega) (by omega)
      · rw [m_fl_N] at hk
        have hk : k + 1 < 0 + 1 := hk
        omega
theorem i_mm1 {i : Int32} (h : i < 0) (h' : ¬ i < -1) : i = -1 := by
  apply Int32.toInt_inj.mp
  have h := Int32.lt_iff_toInt_lt.mp h
  have h' : ¬ i.toInt < (-1 : Int32).toInt := fun z => h' (Int32.lt_iff_toInt_lt.mpr z)
  have e : (-1 : Int32).toInt = -1 := by decide
  have e0 : (0 : Int32).toInt = 0 := by decide
  omega
set_option maxHeartbeats 2000000 in
/-- look -/
theorem m_look {f d : Nat} {a i k : Int32} {q : qS} (w : hp_w B ρ) (h : mI S A ws flt P) (hq : sy_at A.1 a i k q) (hf : 5000 ≤ f) :
    ∃ v Y n T ns, am_call B sa am_dfl am_tb f (d + 2) 193 [.ref (ρ.1 9), .int a, .int i, .int k] (hp_S sa ρ P) = some (some (.int v), hp_S sa ρ (hp_sI P 900 0)) ∧ kJ S A (hp_sI P 945 (bI false), n, T, ns, false) ∧ nq (hp_sI P 945 (bI false), n, T, ns, false) v Y ∧ (m_fl Y)[0]? = some q := by
  obtain ⟨f, rfl⟩ : ∃ g, f = g + 2 := ⟨f - 2, by omega⟩
  obtain ⟨n, T, ns, J⟩ := h.op
  obtain ⟨s, X, kk, ⟨c, rfl, hc, hs⟩, hi, rfl, k31, hX⟩ := hq
  have cl := (List.getElem?_eq_some_iff.mp hs).1
  have l1 : A.1.length ≤ 1000 := J.2.1.2.2.1.1.2
  have kl := (List.getElem?_eq_some_iff.mp hX).1
  have e32 : P.1 932 = nI A.1.length := by rw [← J.2.1.2.2.1.1.1]; exact (hI_ne (by decide)).symm
  obtain ⟨q1, q2, q3, q4, q5⟩ := J.2.1.2.2.1.2.2.2.2.2 c s hs
  have q1 : nq (hp_sI P 945 (bI false), n, T, ns, false) ((P.2 935).2 c) s.2 := q1
  have q2 : (P.2 936).2 c = nI (hys (A.1.take c)).length := q2
  have q3 : (P.2 937).2 c = nI s.1.length := q3
  have hz : (hys (A.1.take c)).length + s.1.length ≤ 60000 := by
    have e : A.1 = A.1.take c ++ [s] ++ A.1.drop (c + 1) := by
      rw [List.append_assoc, List.singleton_append]
      have := List.getElem?_eq_some_iff.mp hs
      rw [← this.2, ← List.drop_eq_getElem_cons, List.take_append_drop]
    have u := J.2.1.u60
    rw [e, hys_ap, hys_ap, List.length_append, List.length_append] at u
    have e1 : (hys [s]).length = s.1.length := by unfold hys; simp
    have : (A.1.take c ++ [s] ++ A.1.drop (c + 1)).length = A.1.length := by rw [← e]
    rw [this, e1] at u
    omega
  have rd37 : hp_rd P 937 (nI c) = some (nI s.1.length) := by rw [← q3]; exact J.2.1.r37 (r := 937) (j := c) (by decide) (by decide) (by omega)
  have rd36 : hp_rd (hp_sI P 900 0) 936 (nI c) = some (nI (hys (A.1.take c)).length) := by rw [← q2]; exact J.2.1.r37 (r := 936) (j := c) (by decide) (by decide) (by omega)
  have rd35 : hp_rd (hp_sI P 900 0) 935 (nI c) = some ((P.2 935).2 c) := J.2.1.r37 (r := 935) (j := c) (by decide) (by decide) (by omega)
  have mo : ∀ (m : Nat) (x : Int32) σ, m < 2 ^ 31 → am_call B sa am_dfl am_tb (f + 2) (d + 1) 123 [.int x, .int (nI m)] σ = some (some (.int (bP (¬ inR x m))), σ) := fun m x σ hm => m_out hm
  have go : ∀ {v : Int32}, nq (hp_sI P 945 (bI false), n, T, ns, false) v X → ∃ v' Y, am_call B sa am_dfl am_tb (f + 2) (d + 1) 192 [.ref (ρ.1 9), .int v, .int (nI kk)] (hp_S sa ρ (hp_sI P 900 0)) = some (some (.int v'), hp_S sa ρ (hp_sI P 900 0)) ∧ nq (hp_sI P 945 (bI false), n, T, ns, false) v' Y ∧ (m_fl Y)[0]? = some q ∧ hp_rd (hp_sI P 900 0) 922 v = some (nI (m_fl X).length) ∧ (m_fl X).length ≤ 4000 := by
    rintro v ⟨j, j6, rfl, hj⟩
    obtain ⟨-, -, w2, -, -, w4, -⟩ := J.1.row hj
    obtain ⟨v', Y, y1, y2, y3⟩ := m_partAt (sa := sa) (P := hp_sI P 900 0) (cl := am_call B sa am_dfl am_tb (f + 2) d) w J.1 rfl kk j (f + 1) X hj kl (by omega)
    refine ⟨v', Y, ?_, y2, y3.trans hX, ?_, w4⟩
    · rw [am_c_192, am_s192_0]; exact y1
    · rw [← w2]
      exact hp_rd_nI (by have := J.1.2.1.2.1.1 922 (by decide) (by decide); rw [hI_A]; have this : (P.2 922).1 = 60000 := this; omega) (by omega)
  rw [am_c_193, am_s193_0]
  simp only [hg_932 w, e32, Option.bind_some, am_c_ne]
  rw [mo _ _ _ (by omega), am_i_some, bP_f (fun z => z ⟨c, cl, rfl⟩), if_neg (fun z => z rfl)]
  simp only [hr_937 w, hl_937 w, rd37, Option.bind_some, am_c_lt]
  rcases hi with ⟨rfl, rfl⟩ | ⟨j, rfl, j31, hj⟩
  · obtain ⟨v', Y, y1, y2, y3, y4, y5⟩ := go q1
    rw [if_neg (by decide), if_pos (show (-1 : Int32) < nI s.1.length from Int32.lt_of_lt_of_le (by decide) (Int32.not_lt.mp (nI_pos (by omega))))]
    rw [am_s193_32]
    simp only [hs_900 w, hg_900 w, hI_eq, Option.bind_some, am_c_le, am_c_ge, am_c_eq]
    rw [if_pos (by decide), if_neg (by decide)]
    simp only [hr_935 w, hl_935 w, rd35, hr_922 w, hl_922 w, y4, Option.bind_some]
    rw [mo _ _ _ (by omega), am_i_some, bP_f (fun z => z ⟨kk, kl, rfl⟩), if_pos rfl]
    simp only [hs_900 w, hp_sI_sI, hg_900 w, hI_eq, Option.bind_some, hx_9 w, y1, am_i_some]
    rw [if_pos (by decide)]
    exact ⟨v', Y, n, T, ns, rfl, J, y2, y3⟩
  · have jl := (List.getElem?_eq_some_iff.mp hj).1
    have hq := q5 j X hj
    have hq : nq (hp_sI P 945 (bI false), n, T, ns, false) ((P.2 943).2 ((hys (A.1.take c)).length + j)) X := hq
    obtain ⟨v', Y, y1, y2, y3, y4, y5⟩ := go hq
    have rd43 : hp_rd (hp_sI P 900 0) 943 (nI ((hys (A.1.take c)).length + j)) = some ((P.2 943).2 ((hys (A.1.take c)).length + j)) := J.2.1.r43 (by omega)
    rw [if_neg (show ¬ nI j < -1 from fun z => nI_pos (n := j) j31 (Int32.lt_trans z (by decide))), if_pos (nI_lt (by omega) (by omega))]
    rw [am_s193_32]
    simp only [hs_900 w, hg_900 w, hI_eq, Option.bind_some, am_c_le, am_c_ge, am_c_eq]
    rw [if_pos (by decide), if_pos (Int32.not_lt.mp (nI_pos j31))]
    simp only [hr_943 w, hr_936 w, hl_936 w, rd36, hl_943 w, nI_add, rd43, hr_922 w, hl_922 w, y4, Option.bind_some]
    rw [mo _ _ _ (by omega), am_i_some, bP_f (fun z => z ⟨kk, kl, rfl⟩), if_pos rfl]
    simp only [hs_900 w, hp_sI_sI, hg_900 w, hI_eq, Option.bind_some, hx_9 w, y1, am_i_some]
    rw [if_pos (by decide)]
    exact ⟨v', Y, n, T, ns, rfl, J, y2, y3⟩
end PUB2
