/-! THE REFERENCE, 48: keep, as it is called -/
section KP4
variable {sa : Nat → Nat} {B : Nat} {ρ : hp_L} {A : sV} {S : qT → Prop} {ws : List Int32} {P P' : hp_P} {flt : Int32} {j a : Nat} {s : qQ}
theorem m_keep_go {f d : Nat} {x : Int32} (w : hp_w B ρ) (h : mI S A ws flt P) (ha : A.1[a]? = some s) (hf : 2000 ≤ f) :
    (s.1 ≠ [] → am_call B sa am_dfl am_tb f (d + 2) 200 [.ref (ρ.1 9), .int (nI a), .int x] (hp_S sa ρ P) = some (none, hp_S sa ρ (hp_sI P 900 2))) ∧
    (s.1 = [] → (¬ ∃ j, x = nI j ∧ A.2.1 ≤ j ∧ j ≤ a) → am_call B sa am_dfl am_tb f (d + 2) 200 [.ref (ρ.1 9), .int (nI a), .int x] (hp_S sa ρ P) = some (none, hp_S sa ρ (hp_sI P 900 3))) ∧
    (s.1 = [] → ∀ j, x = nI j → A.2.1 ≤ j → j ≤ a → am_call B sa am_dfl am_tb f (d + 2) 200 [.ref (ρ.1 9), .int (nI a), .int x] (hp_S sa ρ P) = am_go B sa am_dfl (am_call B sa am_dfl am_tb f (d + 1)) am_r200 (f - 1) 47 [(0, .ref (ρ.1 9)), (1, .int (nI a)), (2, .int (nI j))] [.int 0, .ref (ρ.1 9)] (hp_S sa ρ P)) := by
  obtain ⟨n, T, ns, J⟩ := h.op
  have al := (List.getElem?_eq_some_iff.mp ha).1
  have l1 : A.1.length ≤ 1000 := J.2.1.2.2.1.1.2
  have e32 : P.1 932 = nI A.1.length := by rw [← J.2.1.2.2.1.1.1]; exact (hI_ne (by decide)).symm
  have cc := m_canCut (sa := sa) (f := f) (d := d) (x := x) w J.2.1 (P := P) rfl e32 hf
  obtain ⟨q1, q2, q3, q4, q5⟩ := J.2.1.2.2.1.2.2.2.2.2 a s ha
  have r37 : hp_rd P 937 (nI a) = some (nI s.1.length) := by rw [← q3]; exact J.2.1.r37 (r := 937) (j := a) (by decide) (by decide) (by omega)
  obtain ⟨f, rfl⟩ : ∃ g, f = g + 2 := ⟨f - 2, by omega⟩
  have code : ∀ c : Int32, ¬ c ≤ 0 → am_go B sa am_dfl (am_call B sa am_dfl am_tb (f + 2) (d + 1)) am_r200 (f + 1) 47 [(0, .ref (ρ.1 9)), (1, .int (nI a)), (2, .int x)] [.int c, .ref (ρ.1 9)] (hp_S sa ρ P) = some (none, hp_S sa ρ (hp_sI P 900 c)) := by
    intro c hc
    rw [am_s200_47]
    simp only [hs_900 w, hg_900 w, hI_eq, Option.bind_some, am_c_le]
    rw [if_neg hc]
  rw [am_c_200, am_s200_0]
  simp only [hg_932 w, e32, Option.bind_some]
  rw [m_out (by omega), am_i_some]
  simp only [am_c_eq, am_c_le, am_c_ge, hr_937 w, hl_937 w, r37, Option.bind_some, hx_9 w, cc, am_i_some]
  rw [bP_f (fun z => z ⟨a, al, rfl⟩), if_pos rfl]
  refine ⟨fun hs => ?_, fun hs hx => ?_, fun hs j ej h1 h3 => ?_⟩
  · rw [if_neg (nI_nle (by have := List.length_pos_iff.mpr hs; omega) (by omega))]
    exact code 2 (by decide)
  · rw [hs, if_pos (show (nI ([] : List qM).length) ≤ 0 by decide)]
    by_cases hj : ∃ j, x = nI j ∧ A.2.1 ≤ j ∧ j ≤ A.1.length
    · rw [bP_t hj, if_neg (by decide)]
      obtain ⟨j, ej, j1, j2⟩ := hj
      have lt : a < j := by
        apply Nat.lt_of_not_le
        intro z
        exact hx ⟨j, ej, j1, z⟩
      rw [if_neg (by rw [ej]; exact nI_ge lt (by omega))]
      exact code 3 (by decide)
    · rw [bP_f hj, if_pos rfl]
      exact code 3 (by decide)
  · rw [hs, if_pos (show (nI ([] : List qM).length) ≤ 0 by decide), bP_t ⟨j, ej, h1, by omega⟩, if_neg (by decide), if_pos (by rw [ej]; exact nI_le h3 (by omega)), ej]
    rfl
theorem m_keep_no1 {f d : Nat} {x y : Int32} (w : hp_w B ρ) (h : mI S A ws flt P) (hx : ¬ ∃ s, en_at A.1 x s) (hf : 2000 ≤ f) : am_call B sa am_dfl am_tb f (d + 2) 200 [.ref (ρ.1 9), .int x, .int y] (hp_S sa ρ P) = some (none, hp_S sa ρ (hp_sI P 900 1)) := by
  obtain ⟨n, T, ns, J⟩ := h.op
  have l1 : A.1.length ≤ 1000 := J.2.1.2.2.1.1.2
  have e32 : P.1 932 = nI A.1.length := by rw [← J.2.1.2.2.1.1.1]; exact (hI_ne (by decide)).symm
  obtain ⟨f, rfl⟩ : ∃ g, f = g + 2 := ⟨f - 2, by omega⟩
  rw [am_c_200, am_s200_0]
  simp only [hg_932 w, e32, Option.bind_some]
  rw [m_out (by omega), am_i_some, bP_t (fun ⟨i, il, z⟩ => hx ⟨A.1[i], i, z, by omega, List.getElem?_eq_getElem il⟩)]
  simp only [am_c_eq]
  rw [if_neg (by decide), am_s200_47]
  simp only [hs_900 w, hg_900 w, hI_eq, Option.bind_some, am_c_le]
  rw [if_neg (by decide)]
/-- keep -/
theorem m_keep {f d : Nat} (w : hp_w B ρ) (h : mI S A ws flt P) (hI : aI S A) (ha : A.1[a]? = some s) (hh : s.1 = []) (h1 : A.2.1 ≤ j) (h3 : j ≤ a) (h8 : A.2.2.2.2.2.1.length < 8000) (h16 : A.2.2.2.2.2.2.length < 16000) (hf : 400000 ≤ f) :
    ∃ P', am_call B sa am_dfl am_tb f (d + 5) 200 [.ref (ρ.1 9), .int (nI a), .int (nI j)] (hp_S sa ρ P) = some (none, hp_S sa ρ P') ∧ mI (q_un (A.2.2.1 j).1 [s.2]) (a_new (a_cut A j) A.2.1 (q_un (A.2.2.1 j).1 [s.2]) [([], s.2)] [] []) ws flt P' ∧ mfr mp_S P P' ∧ P'.1 900 = 0 := by
  have go := (m_keep_go (sa := sa) (f := f) (d := d + 3) (x := nI j) w h ha (by omega)).2.2 hh j rfl h1 h3
  obtain ⟨n, T, ns, b, k1, k2, k3, k4⟩ := h
  have J : kJ S A (hp_sI P 945 (bI false), n, T, ns, false) := k2
  have J0 : kJ S A (hp_sI (hp_sI P 900 0) 945 (bI false), n, T, ns, false) := J.cg (P' := hp_sI (hp_sI P 900 0) 945 (bI false)) (fun r z => ⟨by
    show (hp_sI (hp_sI P 900 0) 945 (bI false)).1 r = (hp_sI P 945 (bI false)).1 r
    rw [hp_sI_cm (by decide), hI_ne (ks_ne z rfl)], rfl⟩) (fun r z => ⟨by
    show (hp_sI (hp_sI P 900 0) 945 (bI false)).1 r = (hp_sI P 945 (bI false)).1 r
    rw [hp_sI_cm (by decide), hI_ne (rr_ne z rfl)], rfl⟩) (fun _ => rfl)
  have al := (List.getElem?_eq_some_iff.mp ha).1
  have l1 : A.1.length ≤ 1000 := J.2.1.2.2.1.1.2
  obtain ⟨nk, nt, z1, z2⟩ := J0.2.1.2.2.2.1.2.1 j h1 (by omega)
  have z1 : r_tq (hp_sI P 900 0) j nk nt (A.2.2.1 j).2.1 (A.2.2.1 j).2.2 := z1.go fun r hr => ⟨(hI_ne (rr_ne hr rfl)).symm, rfl⟩
  obtain ⟨⟨ti, t6, et, hti⟩, -⟩ := J0.2.1.2.2.1.2.2.2.2.2 a s ha
  have et : (P.2 935).2 a = nI ti := et
  obtain ⟨K', e1, e2, e3⟩ := k_keep (sa := sa) (f := f) (d := d) (b := b) (P := hp_sI P 900 0) w J0 (by rw [hI_ne (by decide)]; exact k1) hI ha h1 h3 h8 h16 z1 z2 hti hf
  have s47 : am_go B sa am_dfl (am_call B sa am_dfl am_tb f (d + 4)) am_r200 (f - 1) 47 [(0, .ref (ρ.1 9)), (1, .int (nI a)), (2, .int (nI j))] [.int 0, .ref (ρ.1 9)] (hp_S sa ρ P) = am_go B sa am_dfl (am_call B sa am_dfl am_tb f (d + 4)) am_r200 (f - 2) 102 [(0, .ref (ρ.1 9)), (2, .int (nI j)), (3, .int (nI ti)), (4, .int (nI nk))] [.int (nI nt)] (hp_S sa ρ (hp_sI P 900 0)) := by
    obtain ⟨f, rfl⟩ : ∃ g, f = g + 2 := ⟨f - 2, by omega⟩
    have rd : ∀ {r k x : Nat}, 935 ≤ r → r ≤ 942 → k ≤ 1000 → (P.2 r).2 k = nI x → hp_rd (hp_sI P 900 0) r (nI k) = some (nI x) := fun {r k x} p q u v => by
      rw [← v]; exact J0.2.1.r37 (r := r) (j := k) p q (by omega)
    have r35 := rd (by decide) (by decide) (by omega) et
    rw [show f + 2 - 1 = f + 1 by omega, am_s200_47]
    simp only [hs_900 w, hg_900 w, hI_eq, Option.bind_some, am_c_le, hr_935 w, hl_935 w, r35]
    rw [if_pos (show (0 : Int32) ≤ 0 by decide)]
    by_cases j0 : j = 0
    · obtain ⟨t1, t2, t3, t4⟩ := z1.1 j0
      rw [if_pos (by rw [j0]; decide), if_pos (by rw [j0]; decide), t2]
      simp only [hg_944 w, t1, Option.bind_some]
      rfl
    · obtain ⟨t1, t2, t3, t4⟩ := z1.2 (by omega)
      obtain ⟨k, ek⟩ : ∃ k, j = k + 1 := ⟨j - 1, by omega⟩
      have ek' : j - 1 = k := by omega
      rw [ek'] at t1 t2
      have r39 := rd (r := 939) (by decide) (by decide) (by omega) t1
      have r40 := rd (r := 940) (by decide) (by decide) (by omega) t2
      have ej : nI j - 1 = nI k := by rw [ek, nI_pred]
      rw [if_neg (nI_nle (by omega) (by omega)), ej]
      simp only [hr_939 w, hl_939 w, r39, Option.bind_some]
      rw [if_neg (nI_nle (by omega) (by omega))]
      simp only [hr_940 w, hl_940 w, r40, Option.bind_some]
      rfl
  have go : am_call B sa am_dfl am_tb f (d + 5) 200 [.ref (ρ.1 9), .int (nI a), .int (nI j)] (hp_S sa ρ P) = am_go B sa am_dfl (am_call B sa am_dfl am_tb f (d + 4)) am_r200 (f - 1) 47 [(0, .ref (ρ.1 9)), (1, .int (nI a)), (2, .int (nI j))] [.int 0, .ref (ρ.1 9)] (hp_S sa ρ P) := go
  rw [go, s47, e1]
  have fr : ∀ r, dW_S r = false → r ≠ 900 → K'.1.1 r = P.1 r ∧ K'.1.2 r = P.2 r := fun r hr h0 => ⟨(e3.1 r hr).1.trans (hI_ne h0), (e3.1 r hr).2⟩
  refine ⟨K'.1, rfl, ⟨K'.2.1, K'.2.2.1, K'.2.2.2.1, false, ?_, ?_, ⟨(fr 901 rfl (by decide)).1.trans k3.1, k3.2.1, ?_, ?_⟩, (fr 903 rfl (by decide)).1.trans k4⟩, mfr.c.tr (e3.mp fun r hr => by have := of_decide_eq_true hr; omega), (e3.1 900 rfl).1.trans hI_eq⟩
  · have := e2.1.2.2.1
    rw [e2.b] at this
    exact this
  · have h45 := e2.1.2.2.1
    rw [e2.b] at h45
    have : kB (K'.1, K'.2.1, K'.2.2.1, K'.2.2.2.1, false) false = K' := by
      have e : (K'.1, K'.2.1, K'.2.2.1, K'.2.2.2.1, false) = K' := by
        obtain ⟨x1, x2, x3, x4, x5⟩ := K'
        have : x5 = false := e2.b
        rw [this]
      rw [e]
      exact kB_self h45 e2.b
    rw [this]
    exact e2
  · show (K'.1.2 902).1 = 20000
    rw [(fr 902 rfl (by decide)).2]; exact k3.2.2.1
  · show ∀ i x, ws[i]? = some x → (K'.1.2 902).2 i = x
    rw [(fr 902 rfl (by decide)).2]; exact k3.2.2.2
/-- what keep leaves is in order -/
theorem aI_keep (hI : aI S A) (ha : A.1[a]? = some s) (h1 : A.2.1 ≤ j) (h3 : j ≤ a) : aI (q_un (A.2.2.1 j).1 [s.2]) (a_new (a_cut A j) A.2.1 (q_un (A.2.2.1 j).1 [s.2]) [([], s.2)] [] []) := by
  have al := (List.getElem?_eq_some_iff.mp ha).1
  have sm : s ∈ A.1 := List.mem_of_getElem? ha
  have hc := hI.cut h1 (show j ≤ A.1.length by omega)
  have gl : ∀ t, q_un (A.2.2.1 j).1 [s.2] t → S t := fun t ht => by
    rcases ht with z | z
    · exact aH_t hI h1 (by omega) t z
    · exact hI.1.2.2.2.2.2 t (q_of_mem (sq_mc sm) z)
  have e1 : sq_rows [(([] : List qM), s.2)] = [s.2] := rfl
  refine aI.new (A := a_cut A j) (S := (A.2.2.1 j).1) (S' := q_un (A.2.2.1 j).1 [s.2]) hc (fun t ht => Or.inl ht) (q_un_cl hc.1.1) (fun t ht => Or.inr ht) (fun t ht => ?_) (hI.2.2.1.mono gl) ?_ ?_ (fun t ht => by cases ht) (fun x hx => ?_) (fun X hX => ?_) (fun t ht => ?_) (Or.inl ⟨rfl, rfl, rfl⟩)
  · show q_ok (A.2.2.2.1 ++ []) t
    rw [List.append_nil]; exact hI.2.1 t (gl t ht)
  · show sgk (A.2.2.2.1 ++ [])
    rw [List.append_nil]; exact hI.2.2.2.1
  · show (A.2.2.2.2.1 ++ []).length ≤ 200
    rw [List.append_nil]; exact hI.2.2.2.2.1.2
  · rw [List.mem_singleton.mp hx]; exact hI.2.2.2.2.2.1 s sm
  · show m_ok (A.2.2.2.1 ++ []) X
    rw [e1] at hX
    rw [List.append_nil, List.mem_singleton.mp hX]; exact hI.2.2.2.2.2.2.2.1 _ (sq_mc sm)
  · show q_ok (A.2.2.2.1 ++ []) t
    rw [List.append_nil]; exact ht
end KP4
