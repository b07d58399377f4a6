/-! THE REFERENCE, 42: cut -/
section PUB5
variable {Z : Prop} {G : qT → Prop} {L : List qM} {sa : Nat → Nat} {B : Nat} {ρ : hp_L} {K : kS} {A : sV} {S : qT → Prop} {ws : List Int32} {P P' : hp_P} {flt : Int32} {n : Nat} {T : Nat → Int32 × Int32 × Int32} {ns : List qM} {j : Nat}
/-- roles that a cut changes -/
def cu_S : Nat → Bool := fun r => decide (r = 904 ∨ r = 911 ∨ r = 917 ∨ r = 926 ∨ r = 928 ∨ r = 929 ∨ r = 932 ∨ r = 933 ∨ r = 934)
theorem hys_take_take {sq : List qQ} {i : Nat} (h : i ≤ j) : (sq.take j).take i = sq.take i := by rw [List.take_take, Nat.min_eq_left h]
/-- what a cut leaves -/
theorem kJ.cut {nk nt : Nat} (J : kJ S A (P, n, T, ns, false)) (hI : aI S A) (h1 : A.2.1 ≤ j) (h2 : j ≤ A.1.length) (tq : r_tq P j nk nt (A.2.2.1 j).2.1 (A.2.2.1 j).2.2) (rc : r_cut n T ns nk nt (A.2.2.1 j).1 (A.1.take j) (A.2.2.2.2.2.2.take (A.2.2.1 j).2.2)) (ty : tyN P' nt T) (nd : ndN P' nt T (ns.take nk)) (fr : mfr cu_S P P') (e28 : P'.1 928 = nI (A.2.2.1 j).2.1) (e29 : P'.1 929 = nI (A.2.2.1 j).2.2) (e32 : P'.1 932 = nI j) (e33 : P'.1 933 = nI (hys (A.1.take j)).length) (e34 : P'.1 934 = nI (m_tot (sq_rows (A.1.take j)))) : kJ (A.2.2.1 j).1 (a_cut A j) (P', nt, T, ns.take nk, false) := by
  obtain ⟨⟨c1, c2, c3⟩, c4, c5, c6, c7, c8⟩ := rc
  have l1 : A.1.length ≤ 1000 := J.2.1.2.2.1.1.2
  have hw : ty_wf T n := J.1.wf
  have hd : ty_di T n := J.1.di
  have hn : n < 2 ^ 31 := J.1.n31
  have nod : ns.Nodup := J.1.2.1.2.2.1
  obtain ⟨g1, g2, g3, -⟩ := hI.2.2.2.2.2.2.2.2.2.1 j h1 h2
  have hp : ∀ {v t}, (A.2.2.1 j).1 t → pl n T v t → pl nt T v t := fun {v t} ht z => pl_cut z c1 hw hd hn (by rw [c4]; exact ht)
  have hq : ∀ {v M}, M ∈ ns.take nk → nq (P, n, T, ns, false) v M → nq (P', nt, T, ns.take nk, false) v M := fun {v M} hM ⟨i, a, c, e⟩ => by
    obtain ⟨l, hl, el⟩ := List.mem_iff_getElem.mp hM
    have hl' : (ns.take nk)[l]? = some M := List.getElem?_eq_some_iff.mpr ⟨hl, el⟩
    have hl2 : ns[l]? = some M := by
      rw [List.getElem?_take] at hl'
      split at hl'
      · exact hl'
      · cases hl'
    have : i = l := nd_nodup nod e hl2
    exact ⟨i, a, c, by rw [this]; exact hl'⟩
  have f1 : ∀ r, cu_S r = false → P'.1 r = P.1 r := fun r hr => (fr.1 r hr).1
  have f2 : ∀ r, r ≠ 911 → r ≠ 926 → (P'.2 r).2 = (P.2 r).2 ∨ cu_S r = true := fun r _ _ => by
    cases e : cu_S r with
    | true => exact Or.inr rfl
    | false => exact Or.inl (by rw [(fr.1 r e).2])
  have a2 : ∀ r, cu_S r = false → P'.2 r = P.2 r := fun r hr => (fr.1 r hr).2
  have hx := J.1.2.2.2.2.2.2
  have el : (A.1.take j).length = j := by rw [List.length_take]; omega
  refine ⟨⟨ty, nd, ?_, fun z => Bool.noConfusion z, fun t ht => ?_, fun X hX => hX, c2, hx.2⟩, ⟨?_, ?_, ⟨?_, ?_, ?_, ?_, ?_, fun i s hi => ?_⟩, ⟨⟨?_, fun i a b => ?_, fun a => ?_⟩, fun i a b => ?_, fun i i' a b c e => ?_⟩, ?_⟩, c4, ?_⟩
  · rw [show (P', nt, T, ns.take nk, false).1 = P' from rfl, f1 945 rfl]; exact J.1.2.2.1
  · rw [← c4]; exact ht
  · unfold r_sg
    rw [show (P', nt, T, ns.take nk, false).1 = P' from rfl, f1 913 rfl, a2 914 rfl, f1 915 rfl, a2 916 rfl]
    have s := J.2.1.1
    exact ⟨s.1, s.2.1, s.2.2.1, s.2.2.2.1, s.2.2.2.2.1, fun c t hc => hp (g1.2.2.1 t (List.mem_of_getElem? hc)) (s.2.2.2.2.2 c t hc)⟩
  · have s := J.2.1.2.1
    refine ⟨e28.trans ?_, ?_, fun i t hi => ?_, e29.trans ?_, ?_, fun i M hi => ?_⟩
    · show _ = nI (A.2.2.2.2.2.1.take _).length
      rw [List.length_take, Nat.min_eq_left g2]
    · rw [fr.2 930]; exact s.2.1
    · have hm := List.mem_of_getElem? hi
      have hi : (A.2.2.2.2.2.1.take (A.2.2.1 j).2.1)[i]? = some t := hi
      rw [List.getElem?_take] at hi
      split at hi
      · rw [show (P', nt, T, ns.take nk, false).1 = P' from rfl, a2 930 rfl]
        exact hp (g1.2.2.2.1 t hm) (s.2.2.1 i t hi)
      · cases hi
    · show _ = nI (A.2.2.2.2.2.2.take _).length
      rw [List.length_take, Nat.min_eq_left g3]
    · rw [fr.2 931]; exact s.2.2.2.2.1
    · have hm := List.mem_of_getElem? hi
      have hi : (A.2.2.2.2.2.2.take (A.2.2.1 j).2.2)[i]? = some M := hi
      rw [List.getElem?_take] at hi
      split at hi
      · rw [show (P', nt, T, ns.take nk, false).1 = P' from rfl, a2 931 rfl]
        exact hq (c6 M hm) (s.2.2.2.2.2 i M hi)
      · cases hi
  · show P'.1 932 = nI (A.1.take j).length ∧ (A.1.take j).length ≤ 1000
    rw [el]; exact ⟨e32, by omega⟩
  · exact e33
  · refine ⟨e34, ?_⟩
    have := J.2.1.2.2.1.2.2.1.2
    have e : sq_rows A.1 = sq_rows (A.1.take j) ++ sq_rows (A.1.drop j) := by rw [← sq_rows_ap, List.take_append_drop]
    rw [e, m_tot_ap] at this
    show m_tot (sq_rows (A.1.take j)) ≤ 20000
    omega
  · exact fun r a b => (fr.2 r).trans (J.2.1.2.2.1.2.2.2.1 r a b)
  · exact (fr.2 943).trans J.2.1.2.2.1.2.2.2.2.1
  · have hm : s ∈ A.1.take j := List.mem_of_getElem? hi
    have hi : (A.1.take j)[i]? = some s := hi
    have hil := (List.getElem?_eq_some_iff.mp hi).1
    rw [el] at hil
    rw [List.getElem?_take, if_pos hil] at hi
    obtain ⟨q1, q2, q3, q4, q5⟩ := J.2.1.2.2.1.2.2.2.2.2 i s hi
    unfold r_row
    show nq _ ((P'.2 935).2 i) s.2 ∧ (P'.2 936).2 i = nI (hys ((A.1.take j).take i)).length ∧ (P'.2 937).2 i = nI s.1.length ∧ s.1.length ≤ 60 ∧ ∀ l X, s.1[l]? = some X → nq _ ((P'.2 943).2 ((hys ((A.1.take j).take i)).length + l)) X
    rw [hys_take_take (by omega), a2 935 rfl, a2 936 rfl, a2 937 rfl, a2 943 rfl]
    exact ⟨hq (c5 _ (sq_mc hm)) q1, q2, q3, q4, fun l X hl => hq (c5 _ (sq_mh hm (List.mem_of_getElem? hl))) (q5 l X hl)⟩
  · show A.2.1 ≤ (A.1.take j).length
    rw [el]; exact h1
  · have b : i < (A.1.take j).length := b
    rw [el] at b
    rw [show (P', nt, T, ns.take nk, false).1 = P' from rfl, a2 938 rfl]
    exact J.2.1.2.2.2.1.1.2.1 i a (by omega)
  · rw [show (P', nt, T, ns.take nk, false).1 = P' from rfl, a2 938 rfl]
    exact J.2.1.2.2.2.1.1.2.2 a
  · have b : i ≤ (A.1.take j).length := b
    rw [el] at b
    obtain ⟨nk', nt', z1, z2⟩ := J.2.1.2.2.2.1.2.1 i a (by omega)
    have tn : nt' ≤ nt := by
      refine ct_S_le hw hd hn z2.1.1 c1 fun t ht => ?_
      rw [show ct_S T nt' = _ from z2.2.1] at ht
      rw [c4]
      exact (hI.2.2.2.2.2.2.2.2.2.2 i j a b h2).1 t ht
    have kn : nk' ≤ nk := by
      have l6 : ns.length ≤ 60000 := J.1.2.1.1.2
      by_cases i0 : i = 0
      · have := (z1.1 i0).2.1; omega
      · obtain ⟨x, y, xy, y6, ex, ey⟩ := J.2.1.2.2.2.1.2.2 i j a (by omega) b h2
        have ex' := (z1.2 (by omega)).1
        have ey' := (tq.2 (by omega)).1
        have k' := z2.1.2.2
        have k' : nk' ≤ ns.length := k'
        have := (nI_eq (by omega) (by omega)).mp (ex'.symm.trans ex)
        have := (nI_eq (by omega) (by omega)).mp (ey'.symm.trans ey)
        omega
    refine ⟨nk', nt', ⟨fun e => ?_, fun e => ?_⟩, ?_⟩
    · rw [show (P', nt, T, ns.take nk, false).1 = P' from rfl, f1 944 rfl]; exact z1.1 e
    · rw [show (P', nt, T, ns.take nk, false).1 = P' from rfl, a2 939 rfl, a2 940 rfl, a2 941 rfl, a2 942 rfl]; exact z1.2 e
    · obtain ⟨⟨y1, y2, y3⟩, y4, y5, y6, y7, y8⟩ := z2
      have et : (ns.take nk).take nk' = ns.take nk' := by rw [List.take_take, Nat.min_eq_left kn]
      have eb : (A.2.2.2.2.2.2.take (A.2.2.1 j).2.2).take (A.2.2.1 i).2.2 = A.2.2.2.2.2.2.take (A.2.2.1 i).2.2 := by
        rw [List.take_take, Nat.min_eq_left (hI.2.2.2.2.2.2.2.2.2.2 i j a b h2).2.2]
      show r_cut nt T (ns.take nk) nk' nt' (A.2.2.1 i).1 ((A.1.take j).take i) ((A.2.2.2.2.2.2.take (A.2.2.1 j).2.2).take (A.2.2.1 i).2.2)
      rw [eb, hys_take_take b]
      unfold r_cut
      rw [et]
      exact ⟨⟨tn, y2, by rw [List.length_take]; omega⟩, y4, y5, y6, y7, y8⟩
  · have e : i' ≤ (A.1.take j).length := e
    rw [el] at e
    rw [show (P', nt, T, ns.take nk, false).1 = P' from rfl, a2 939 rfl]
    exact J.2.1.2.2.2.1.2.2 i i' a b c (by omega)
  · exact J.2.1.2.2.2.2.go (K' := (P', nt, T, ns.take nk, false)) fun r => fr.2 r
  · show (ns.take nk).length ≤ 2 * m_tot (sq_rows (A.1.take j)) + (A.2.2.2.2.2.2.take _).length
    rw [List.length_take]
    omega
theorem kB0 (h : P.1 945 = bI false) : hp_sI P 945 (bI false) = P := hp_sI_self h
set_option maxHeartbeats 4000000 in
/-- cutTo -/
theorem m_cutTo {f d nk nt : Nat} (w : hp_w B ρ) (J : kJ S A (hp_sI P 945 (bI false), n, T, ns, false)) (hI : aI S A) (h1 : A.2.1 ≤ j) (h2 : j ≤ A.1.length) (tq : r_tq P j nk nt (A.2.2.1 j).2.1 (A.2.2.1 j).2.2) (rc : r_cut n T ns nk nt (A.2.2.1 j).1 (A.1.take j) (A.2.2.2.2.2.2.take (A.2.2.1 j).2.2)) (hf : 140000 ≤ f) :
    ∃ P', am_call B sa am_dfl am_tb f (d + 3) 197 [.ref (ρ.1 9), .int (nI j)] (hp_S sa ρ P) = some (none, hp_S sa ρ P') ∧ mfr cu_S P P' ∧ kJ (A.2.2.1 j).1 (a_cut A j) (hp_sI P' 945 (bI false), nt, T, ns.take nk, false) := by
  obtain ⟨f, rfl⟩ : ∃ g, f = g + 1 := ⟨f - 1, by omega⟩
  have l1 : A.1.length ≤ 1000 := J.2.1.2.2.1.1.2
  have i1 : ∀ {r}, r ≠ 945 → (hp_sI P 945 (bI false)).1 r = P.1 r := fun {r} h => hI_ne h
  have e32 : P.1 932 = nI A.1.length := by rw [← i1 (by decide)]; exact J.2.1.2.2.1.1.1
  have e33 : P.1 933 = nI (hys A.1).length := by rw [← i1 (by decide)]; exact J.2.1.2.2.1.2.1
  have e34 : P.1 934 = nI (m_tot (sq_rows A.1)) := by rw [← i1 (by decide)]; exact J.2.1.2.2.1.2.2.1.1
  have et : m_tot (sq_rows A.1) = m_tot (sq_rows (A.1.take j)) + m_tot (sq_rows (A.1.drop j)) := by
    rw [← m_tot_ap, ← sq_rows_ap, List.take_append_drop]
  have l2 : m_tot (sq_rows A.1) ≤ 20000 := J.2.1.2.2.1.2.2.1.2
  rw [am_c_197, am_s197_0]
  obtain ⟨f1, g1, g2⟩ := c_cutS (sa := sa) (cl := am_call B sa am_dfl am_tb (f + 1) (d + 2)) (x1 := nI j) w J.1 J.2.1 (A.1.length - j) j f P (m_tot (sq_rows (A.1.take j))) rfl h2 rfl e32 (by rw [e34, et]) (by omega) (by omega)
  rw [g2]
  obtain ⟨f1, rfl⟩ : ∃ g, f1 = g + 3 := ⟨f1 - 3, by omega⟩
  generalize hQ : hp_sI P 934 (nI (m_tot (sq_rows (A.1.take j)))) = Q
  have q32 : Q.1 932 = nI A.1.length := by rw [← hQ, hI_ne (by decide)]; exact e32
  have q33 : Q.1 933 = nI (hys A.1).length := by rw [← hQ, hI_ne (by decide)]; exact e33
  have Q2 : Q.2 = P.2 := by rw [← hQ]; rfl
  -- the stretch behind the loop
  have s1 : am_go B sa am_dfl (am_call B sa am_dfl am_tb (f + 1) (d + 2)) am_r197 (f1 + 3) 2 [(0, .ref (ρ.1 9)), (1, .int (nI j)), (2, .int (nI A.1.length))] [] (hp_S sa ρ Q) = am_go B sa am_dfl (am_call B sa am_dfl am_tb (f + 1) (d + 2)) am_r197 (f1 + 2) 128 [(0, .ref (ρ.1 9)), (1, .int (nI j))] [.int (nI nk), .ref (ρ.1 9)] (hp_S sa ρ (hp_sI (hp_sI Q 933 (nI (hys (A.1.take j)).length)) 932 (nI j))) := by
    rw [am_s197_2]
    simp only [hg_932 w, q32, Option.bind_some, am_c_ge, am_c_le, hg_933 w, q33, hs_933 w, hs_932 w]
    rw [if_pos (Int32.le_refl _)]
    have tail : ∀ v, (if nI j ≤ 0 then am_go B sa am_dfl (am_call B sa am_dfl am_tb (f + 1) (d + 2)) am_r197 (f1 + 2) 128 [(0, .ref (ρ.1 9)), (1, .int (nI j))] [.int 0, .ref (ρ.1 9)] (hp_S sa ρ (hp_sI (hp_sI Q 933 v) 932 (nI j))) else (am_getr (hp_S sa ρ (hp_sI (hp_sI Q 933 v) 932 (nI j))) (ρ.1 9) 9 39).bind fun p6 => (am_iald (hp_S sa ρ (hp_sI (hp_sI Q 933 v) 932 (nI j))) p6 (nI j - 1)).bind fun v7 => am_go B sa am_dfl (am_call B sa am_dfl am_tb (f + 1) (d + 2)) am_r197 (f1 + 2) 128 [(0, .ref (ρ.1 9)), (1, .int (nI j))] [.int v7, .ref (ρ.1 9)] (hp_S sa ρ (hp_sI (hp_sI Q 933 v) 932 (nI j)))) = am_go B sa am_dfl (am_call B sa am_dfl am_tb (f + 1) (d + 2)) am_r197 (f1 + 2) 128 [(0, .ref (ρ.1 9)), (1, .int (nI j))] [.int (nI nk), .ref (ρ.1 9)] (hp_S sa ρ (hp_sI (hp_sI Q 933 v) 932 (nI j))) := by
      intro v
      by_cases j0 : j = 0
      · rw [j0, if_pos (by decide), (tq.1 j0).2.1]; rfl
      · obtain ⟨k, rfl⟩ : ∃ k, j = k + 1 := ⟨j - 1, by omega⟩
        have r39 : hp_rd (hp_sI (hp_sI Q 933 v) 932 (nI (k + 1))) 939 (nI k) = some (nI nk) := by
          have := (tq.2 (by omega)).1
          rw [Nat.add_sub_cancel] at this
          rw [← this]
          show hp_rd Q 939 (nI k) = _
          rw [hp_rd_cg Q2]
          exact J.2.1.r37 (r := 939) (j := k) (by decide) (by decide) (by omega)
        rw [if_neg (nI_nle (by omega) (by omega)), nI_pred]
        simp only [hr_939 w, hl_939 w, r39, Option.bind_some]
    by_cases ej : j = A.1.length
    · rw [if_pos (nI_le (by omega) (by omega)), tail, ej, List.take_length]
    · have hs : A.1[j]? = some A.1[j] := List.getElem?_eq_getElem (by omega)
      have r36 : hp_rd Q 936 (nI j) = some (nI (hys (A.1.take j)).length) := by
        have := (J.2.1.2.2.1.2.2.2.2.2 j _ hs).2.1
        rw [← this, hp_rd_cg Q2]
        exact J.2.1.r37 (r := 936) (j := j) (by decide) (by decide) (by omega)
      rw [if_neg (nI_ge (by omega) (by omega))]
      simp only [hr_936 w, hl_936 w, r36, Option.bind_some]
      exact tail _
  rw [s1]
  generalize hR : hp_sI (hp_sI Q 933 (nI (hys (A.1.take j)).length)) 932 (nI j) = R
  have R2 : R.2 = P.2 := by rw [← hR]; exact Q2
  have Ri : ∀ r, r ≠ 932 → r ≠ 933 → r ≠ 934 → R.1 r = P.1 r := fun r a b c => by rw [← hR, hI_ne a, hI_ne b, ← hQ, hI_ne c]
  have R32 : R.1 932 = nI j := by rw [← hR, hI_eq]
  have R33 : R.1 933 = nI (hys (A.1.take j)).length := by rw [← hR, hI_ne (by decide), hI_eq]
  have R34 : R.1 934 = nI (m_tot (sq_rows (A.1.take j))) := by rw [← hR, hI_ne (by decide), hI_ne (by decide), ← hQ, hI_eq]
  obtain ⟨⟨c1, c2, c3⟩, c4, c5, c6, c7, c8⟩ := rc
  have l6 : ns.length ≤ 60000 := J.1.2.1.1.2
  have n8 : n ≤ 8000 := J.1.1.1.2
  have ndR : ndN R n T (ns.take nk ++ ns.drop nk) := by
    rw [List.take_append_drop]
    exact J.1.2.1.cg (by rw [Ri _ (by decide) (by decide) (by decide)]; exact (i1 (by decide)).symm) fun r _ _ => by rw [R2]; rfl
  have tyR : tyN R n T := J.1.1.cg (by rw [Ri _ (by decide) (by decide) (by decide)]; exact (i1 (by decide)).symm) fun r _ _ => by rw [R2]; rfl
  obtain ⟨P2, a1, a2, a3⟩ := c_cutN (sa := sa) (f0 := f) (d := d) (xs := ns.take nk) w (ns.drop nk) (f + 1) R ndR (by rw [List.length_drop]; omega)
  rw [List.length_take, Nat.min_eq_left c3] at a1
  have ty2 : tyN P2 n T := tyR.cg (a3.1 904 rfl).1 fun r x y => (a3.1 r (decide_eq_false (by omega))).2
  obtain ⟨e, ee⟩ : ∃ e, n = nt + e := ⟨n - nt, by omega⟩
  rw [ee] at ty2
  obtain ⟨P3, b1, b2, b3⟩ := c_cutT (sa := sa) (f0 := f) (d := d) (m := nt) w e (f + 1) P2 ty2 (by omega)
  have nd2 : ndN P3 n T (ns.take nk) := a2.cg (b3.1 917 rfl).1 fun r x y => (b3.1 r (decide_eq_false (by omega))).2
  have nd3 : ndN P3 nt T (ns.take nk) := nd2.cutT J.1.wf J.1.di J.1.n31 c1 c7
  have c187 : am_call B sa am_dfl am_tb (f + 1) (d + 2) 187 [.ref (ρ.1 9), .int (nI nk)] (hp_S sa ρ R) = some (none, hp_S sa ρ P2) := by rw [am_c_187]; exact a1
  have c186 : am_call B sa am_dfl am_tb (f + 1) (d + 2) 186 [.ref (ρ.1 9), .int (nI nt)] (hp_S sa ρ P2) = some (none, hp_S sa ρ P3) := by rw [am_c_186]; exact b1
  have rdP : ∀ {Q : hp_P} {r k x : Nat}, 939 ≤ r → r ≤ 942 → Q.2 r = P.2 r → k < j → (P.2 r).2 k = nI x → hp_rd Q r (nI k) = some (nI x) := fun {Q r k x} a b c e g => by
    rw [← g]
    have := J.2.1.r37 (r := r) (j := k) (by omega) (by omega) (by omega)
    unfold hp_rd at this ⊢
    rw [c]
    exact this
  have k2 : ∀ r, 939 ≤ r → r ≤ 944 → P2.2 r = P.2 r ∧ P2.1 r = R.1 r := fun r a b => by
    have := a3.1 r (decide_eq_false (by omega))
    rw [← R2]; exact ⟨this.2, this.1⟩
  have k3 : ∀ r, 939 ≤ r → r ≤ 944 → P3.2 r = P.2 r := fun r a b => by
    rw [← (k2 r a b).1]; exact (b3.1 r (decide_eq_false (by omega))).2
  have s2 : am_go B sa am_dfl (am_call B sa am_dfl am_tb (f + 1) (d + 2)) am_r197 (f1 + 2) 128 [(0, .ref (ρ.1 9)), (1, .int (nI j))] [.int (nI nk), .ref (ρ.1 9)] (hp_S sa ρ R) = some (none, hp_S sa ρ (hp_sI (hp_sI P3 928 (nI (A.2.2.1 j).2.1)) 929 (nI (A.2.2.1 j).2.2))) := by
    rw [am_s197_128]
    simp only [hx_9 w, Option.bind_some, c187, am_v_some, am_c_le]
    by_cases j0 : j = 0
    · obtain ⟨t1, t2, t3, t4⟩ := tq.1 j0
      have e44 : P2.1 944 = nI nt := by rw [(k2 944 (by decide) (by decide)).2, Ri _ (by decide) (by decide) (by decide)]; exact t1
      rw [if_pos (by rw [j0]; decide)]
      simp only [hg_944 w, e44, Option.bind_some]
      rw [am_s197_151]
      simp only [hx_9 w, Option.bind_some, c186, am_v_some, am_c_le, hs_928 w, hs_929 w]
      rw [if_pos (by rw [j0]; decide), if_pos (by rw [j0]; decide), t3, t4]
      rfl
    · obtain ⟨t1, t2, t3, t4⟩ := tq.2 (by omega)
      obtain ⟨k, ek⟩ : ∃ k, j = k + 1 := ⟨j - 1, by omega⟩
      have ek' : j - 1 = k := by omega
      rw [ek'] at t1 t2 t3 t4
      have r40 : hp_rd P2 940 (nI k) = some (nI nt) := rdP (by decide) (by decide) (k2 940 (by decide) (by decide)).1 (by omega) t2
      have r41 : hp_rd P3 941 (nI k) = some (nI (A.2.2.1 j).2.1) := rdP (by decide) (by decide) (k3 941 (by decide) (by decide)) (by omega) t3
      have r42 : ∀ v, hp_rd (hp_sI P3 928 v) 942 (nI k) = some (nI (A.2.2.1 j).2.2) := fun v => rdP (by decide) (by decide) (k3 942 (by decide) (by decide)) (by omega) t4
      have ej : nI j - 1 = nI k := by rw [ek, nI_pred]
      rw [if_neg (nI_nle (by omega) (by omega)), ej]
      simp only [hr_940 w, hl_940 w, r40, Option.bind_some]
      rw [am_s197_151]
      simp only [hx_9 w, Option.bind_some, c186, am_v_some, am_c_le, ej, hr_941 w, hl_941 w, r41, hs_928 w, hr_942 w, hl_942 w, r42, hs_929 w]
      rw [if_neg (nI_nle (by omega) (by omega)), if_neg (nI_nle (by omega) (by omega))]
  rw [s2]
  have frR : mfr cu_S P R := by
    rw [← hR, ← hQ]
    exact ((mfr.sI rfl).tr (mfr.sI rfl)).tr (mfr.sI rfl)
  have fr : mfr cu_S P (hp_sI (hp_sI P3 928 (nI (A.2.2.1 j).2.1)) 929 (nI (A.2.2.1 j).2.2)) := by
    refine frR.tr ((a3.up fun r hr => ?_).tr ((b3.up fun r hr => ?_).tr ((mfr.sI rfl).tr (mfr.sI rfl))))
    · have := of_decide_eq_false hr
      exact decide_eq_false (by omega)
    · have := of_decide_eq_false hr
      exact decide_eq_false (by omega)
  have kp : ∀ r, (932 ≤ r ∧ r ≤ 934) → P3.1 r = R.1 r := fun r hr => by
    rw [(b3.1 r (decide_eq_false (by omega))).1, (a3.1 r (decide_eq_false (by omega))).1]
  refine ⟨_, rfl, fr, ?_⟩
  refine J.cut (P' := hp_sI (hp_sI (hp_sI P3 928 (nI (A.2.2.1 j).2.1)) 929 (nI (A.2.2.1 j).2.2)) 945 (bI false)) hI h1 h2 (tq.go fun r hr => ⟨hI_ne (rr_ne hr rfl), rfl⟩) ⟨⟨c1, c2, c3⟩, c4, c5, c6, c7, c8⟩ ?_ ?_ ?_ ?_ ?_ ?_ ?_ ?_
  · exact b2.cg (by rw [hI_ne (by decide), hI_ne (by decide), hI_ne (by decide)]) fun _ _ _ => rfl
  · exact nd3.cg (by rw [hI_ne (by decide), hI_ne (by decide), hI_ne (by decide)]) fun _ _ _ => rfl
  · refine ⟨fun r hr => ⟨?_, (fr.1 r hr).2⟩, fr.2⟩
    by_cases e : r = 945
    · rw [e, hI_eq, hI_eq]
    · rw [hI_ne e, hI_ne e]; exact (fr.1 r hr).1
  · rw [hI_ne (by decide), hI_ne (by decide), hI_eq]
  · rw [hI_ne (by decide), hI_eq]
  · rw [hI_ne (by decide), hI_ne (by decide), hI_ne (by decide), kp 932 (by omega)]; exact R32
  · rw [hI_ne (by decide), hI_ne (by decide), hI_ne (by decide), kp 933 (by omega)]; exact R33
  · rw [hI_ne (by decide), hI_ne (by decide), hI_ne (by decide), kp 934 (by omega)]; exact R34
/-- cut -/
theorem m_cut {f d : Nat} (w : hp_w B ρ) (h : mI S A ws flt P) (hI : aI S A) (h1 : A.2.1 ≤ j) (h2 : j ≤ A.1.length) (hf : 140000 ≤ f) :
    ∃ P', am_call B sa am_dfl am_tb f (d + 4) 198 [.ref (ρ.1 9), .int (nI j)] (hp_S sa ρ P) = some (none, hp_S sa ρ P') ∧ mI (A.2.2.1 j).1 (a_cut A j) ws flt P' ∧ mfr mp_S P P' ∧ P'.1 900 = 0 := by
  obtain ⟨n, T, ns, b, k1, k2, k3, k4⟩ := h
  have J : kJ S A (hp_sI P 945 (bI false), n, T, ns, false) := k2
  have J0 : kJ S A (hp_sI (hp_sI P 900 0) 945 (bI false), n, T, ns, false) := J.cg (P' := hp_sI (hp_sI P 900 0) 945 (bI false)) (fun r z => ⟨by
    show (hp_sI (hp_sI P 900 0) 945 (bI false)).1 r = (hp_sI P 945 (bI false)).1 r
    rw [hp_sI_cm (by decide), hI_ne (ks_ne z rfl)], rfl⟩) (fun r z => ⟨by
    show (hp_sI (hp_sI P 900 0) 945 (bI false)).1 r = (hp_sI P 945 (bI false)).1 r
    rw [hp_sI_cm (by decide), hI_ne (rr_ne z rfl)], rfl⟩) (fun _ => rfl)
  have e32 : P.1 932 = nI A.1.length := by rw [← J.2.1.2.2.1.1.1]; exact (hI_ne (by decide)).symm
  have cc := m_canCut (sa := sa) (f := f) (d := d + 2) (x := nI j) w J.2.1 (P := P) rfl e32 (by omega)
  rw [bP_t ⟨j, rfl, h1, h2⟩] at cc
  obtain ⟨nk, nt, z1, z2⟩ := J0.2.1.2.2.2.1.2.1 j h1 h2
  obtain ⟨P', a1, a2, a3⟩ := m_cutTo (sa := sa) (f := f) (d := d) (P := hp_sI P 900 0) w J0 hI h1 h2 (z1.go fun r hr => ⟨(hI_ne (rr_ne hr rfl)).symm, rfl⟩) z2 hf
  obtain ⟨f, rfl⟩ : ∃ g, f = g + 1 := ⟨f - 1, by omega⟩
  rw [am_c_198, am_s198_0]
  simp only [hx_9 w, Option.bind_some, cc, am_i_some, am_c_eq]
  rw [if_neg (by decide)]
  simp only [hs_900 w, hg_900 w, hI_eq, Option.bind_some, am_c_ne, hx_9 w, a1, am_v_some]
  rw [if_neg (fun z => z rfl)]
  have m1 : mfr mp_S P P' := mfr.c.tr (a2.mp fun r hr => by have := of_decide_eq_true hr; omega)
  have i1 : ∀ r, r ≠ 900 → cu_S r = false → P'.1 r = P.1 r ∧ P'.2 r = P.2 r := fun r hr hc => ⟨((a2.1 r hc).1).trans (hI_ne hr), (a2.1 r hc).2⟩
  refine ⟨P', rfl, ⟨nt, T, ns.take nk, b, (i1 945 (by decide) rfl).1.trans k1, a3, ⟨(i1 901 (by decide) rfl).1.trans k3.1, k3.2.1, ?_, ?_⟩, (i1 903 (by decide) rfl).1.trans k4⟩, m1, (a2.1 900 rfl).1.trans hI_eq⟩
  · show (P'.2 902).1 = 20000
    rw [(i1 902 (by decide) rfl).2]; exact k3.2.2.1
  · show ∀ i x, ws[i]? = some x → (P'.2 902).2 i = x
    rw [(i1 902 (by decide) rfl).2]; exact k3.2.2.2
theorem m_cut_no {f d : Nat} {x : Int32} (w : hp_w B ρ) (h : mI S A ws flt P) (hx : ¬ ∃ j, x = nI j ∧ A.2.1 ≤ j ∧ j ≤ A.1.length) (hf : 2000 ≤ f) :
    am_call B sa am_dfl am_tb f (d + 2) 198 [.ref (ρ.1 9), .int x] (hp_S sa ρ P) = some (none, hp_S sa ρ (hp_sI P 900 1)) := by
  obtain ⟨n, T, ns, J⟩ := h.op
  have e32 : P.1 932 = nI A.1.length := by rw [← J.2.1.2.2.1.1.1]; exact (hI_ne (by decide)).symm
  have cc := m_canCut (sa := sa) (f := f) (d := d) (x := x) w J.2.1 (P := P) rfl e32 (by omega)
  rw [bP_f hx] at cc
  obtain ⟨f, rfl⟩ : ∃ g, f = g + 1 := ⟨f - 1, by omega⟩
  rw [am_c_198, am_s198_0]
  simp only [hx_9 w, Option.bind_some, cc, am_i_some, am_c_eq]
  rw [if_pos True.intro]
  simp only [hs_900 w, hg_900 w, hI_eq, Option.bind_some, am_c_ne]
  rw [if_pos (by decide)]
end PUB5
