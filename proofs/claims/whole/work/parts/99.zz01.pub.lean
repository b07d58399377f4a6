/-! THE REFERENCE, 38: its public methods -/
section PUB
variable {sa : Nat → Nat} {B : Nat} {ρ : hp_L} {A : sV} {S : qT → Prop} {ws : List Int32} {P : hp_P} {flt : Int32}
theorem aE_tk {S S' : qT → Prop} {A A' : sV} {k : Nat} {w : List Int32} (ht : A.2.2.2.1.length ≤ 40) (h : aE S A k w S' A') : A'.2.2.2.1.length ≤ 40 := by
  rcases h with ⟨t, h1, h2, h3, h4⟩ | ⟨M, h1, h2, h3, h4⟩ | ⟨N, h1, h2, h3, h4⟩ | ⟨hk, N, h1, h2, h3, h4⟩ | ⟨hk, old, made, p, kk, h1, h2, h3, h4⟩ <;> rw [h4]
  · exact ht
  · exact ht
  · show (A.2.2.2.1 ++ []).length ≤ 40
    rw [List.append_nil]; exact ht
  · show (A.2.2.2.1 ++ []).length ≤ 40
    rw [List.append_nil]; exact ht
  · obtain ⟨s, xx, vs, -, -, -, -, -, -, z, -⟩ := h1
    show (A.2.2.2.1 ++ [kk]).length ≤ 40
    rw [List.length_append]; exact z
theorem aJ_inj : ∀ {g g' : Nat} {S S1 S2 : qT → Prop} {A A1 A2 : sV} {a acc c1 c2 : Nat} {f1 f2 : Int32}, A.2.2.2.1.length ≤ 40 → aJ g S A ws a acc S1 A1 c1 f1 → aJ g' S A ws a acc S2 A2 c2 f2 → S1 = S2 ∧ A1 = A2 ∧ c1 = c2 ∧ f1 = f2
  | 0, _, _, _, _, _, _, _, _, _, _, _, _, _, _, h, _ => h.elim
  | _ + 1, 0, _, _, _, _, _, _, _, _, _, _, _, _, _, _, h => h.elim
  | g + 1, g' + 1, S, S1, S2, A, A1, A2, a, acc, c1, c2, f1, f2, hI, h, h' => by
    rcases h with ⟨z, rfl, rfl, rfl, rfl⟩ | ⟨z, ⟨k, L, B1, D1, n1, n2⟩ | ⟨n1, rfl, rfl, rfl, rfl⟩⟩
    · rcases h' with ⟨z', rfl, rfl, rfl, rfl⟩ | ⟨z', -⟩
      · exact ⟨rfl, rfl, rfl, rfl⟩
      · omega
    · rcases h' with ⟨z', -⟩ | ⟨z', ⟨k', L', B2, D2, m1, m2⟩ | ⟨m1, -⟩⟩
      · omega
      · obtain ⟨rfl, rfl, rfl, rfl⟩ := aN_inj hI n1 m1
        exact aJ_inj (aE_tk hI n1.2.2.2.2) n2 m2
      · exact absurd n1 (m1 _ _ _ _)
    · rcases h' with ⟨z', -⟩ | ⟨z', ⟨k', L', B2, D2, m1, m2⟩ | ⟨m1, rfl, rfl, rfl, rfl⟩⟩
      · omega
      · exact absurd m1 (n1 _ _ _ _)
      · exact ⟨rfl, rfl, rfl, rfl⟩
theorem mI.op (h : mI S A ws flt P) : ∃ n T ns, kJ S A (hp_sI P 945 (bI false), n, T, ns, false) := by
  obtain ⟨n, T, ns, b, h1, h2, h3, h4⟩ := h
  exact ⟨n, T, ns, h2⟩
theorem mI.cg {P' : hp_P} {ws' : List Int32} {flt' : Int32} (h : mI S A ws flt P) (hk : ∀ r, ks_S r = true → P'.1 r = P.1 r ∧ P'.2 r = P.2 r) (hr : ∀ r, rr_S r = true → P'.1 r = P.1 r ∧ P'.2 r = P.2 r) (hl : ∀ r, (P'.2 r).1 = (P.2 r).1) (h1 : P'.1 901 = nI ws'.length) (hw : ws'.length ≤ 20000) (h2 : ∀ i x, ws'[i]? = some x → (P'.2 902).2 i = x) (h3 : P'.1 903 = flt') : mI S A ws' flt' P' := by
  obtain ⟨n, T, ns, b, k1, k2, k3, k4⟩ := h
  refine ⟨n, T, ns, b, (hk 945 rfl).1.trans k1, ?_, ⟨h1, hw, (hl 902).trans k3.2.2.1, h2⟩, h3⟩
  refine k2.cg (P' := hp_sI P' 945 (bI false)) (fun r z => ⟨?_, (hk r z).2⟩) (fun r z => ⟨?_, (hr r z).2⟩) (fun r => hl r)
  · by_cases e : r = 945
    · rw [e, hI_eq]; exact hI_eq.symm
    · rw [hI_ne e]; exact (hk r z).1.trans (hI_ne e).symm
  · have e := rr_ne z (s := 945) rfl
    rw [hI_ne e]; exact (hr r z).1.trans (hI_ne e).symm
theorem mI.c {v : Int32} (h : mI S A ws flt P) : mI S A ws flt (hp_sI P 900 v) := by
  obtain ⟨n, T, ns, b, k1, k2, k3, k4⟩ := h
  exact mI.cg ⟨n, T, ns, b, k1, k2, k3, k4⟩ (fun r z => ⟨hI_ne (ks_ne z rfl), rfl⟩) (fun r z => ⟨hI_ne (rr_ne z rfl), rfl⟩) (fun _ => rfl) (by rw [hI_ne (by decide)]; exact k3.1) k3.2.1 k3.2.2.2 (by rw [hI_ne (by decide)]; exact k4)
theorem mfr.c {v : Int32} : mfr mp_S P (hp_sI P 900 v) := mfr.sI rfl
/-- say -/
theorem m_say {f d : Nat} {x : Int32} (w : hp_w B ρ) (h : mI S A ws flt P) (hl : ws.length ≤ 900) : ∃ P', am_call B sa am_dfl am_tb (f + 1) (d + 1) 185 [.ref (ρ.1 9), .int x] (hp_S sa ρ P) = some (some (.int 1), hp_S sa ρ P') ∧ mI S A (ws ++ [x]) flt P' ∧ mfr mp_S P P' ∧ P'.1 900 = 0 := by
  have h0 := h
  obtain ⟨n, T, ns, b, k1, k2, k3, k4⟩ := h
  rw [am_c_185, am_s185_0]
  have e1 : (hp_sI P 900 0).1 901 = nI ws.length := by rw [hI_ne (by decide)]; exact k3.1
  have ck : hp_ck (hp_sI P 900 0) 902 (nI ws.length) = some () := hp_ck_nI (by rw [hI_A]; have : (P.2 902).1 = 20000 := k3.2.2.1; omega) (by omega)
  simp only [hs_900 w, Option.bind_some, hg_901 w, e1, am_c_ne]
  rw [if_pos (show nI ws.length ≠ 20000 from fun z => by have := (nI_eq (a := ws.length) (b := 20000) (by omega) (by decide)).mp z; omega)]
  simp only [hr_902 w, ht_902 w, ck, Option.bind_some, hg_901 w, hA_I, e1, hs_901 w, nI_1]
  refine ⟨_, rfl, ?_, ((mfr.sI rfl).tr (mfr.sA rfl)).tr (mfr.sI rfl), ?_⟩
  · refine h0.cg (fun r z => ⟨?_, ?_⟩) (fun r z => ⟨?_, ?_⟩) (fun r => ?_) ?_ ?_ (fun i y hi => ?_) ?_
    · rw [hI_ne (ks_ne z rfl), hA_I, hI_ne (ks_ne z rfl)]
    · rw [hI_A, hA_ne (ks_ne z rfl), hI_A]
    · rw [hI_ne (rr_ne z rfl), hA_I, hI_ne (rr_ne z rfl)]
    · rw [hI_A, hA_ne (rr_ne z rfl), hI_A]
    · rw [hI_A, hA_len, hI_A]
    · rw [hI_eq, List.length_append]; rfl
    · rw [List.length_append, List.length_singleton]; omega
    · rw [hI_A, hA_eq, nI_clamp (by omega), hI_A]
      show upd (P.2 902).2 ws.length x i = y
      by_cases e : i = ws.length
      · rw [e, List.getElem?_append_right (Nat.le_refl _), Nat.sub_self] at hi
        rw [e, show upd (P.2 902).2 ws.length x ws.length = x from if_pos rfl]
        exact Option.some.inj hi
      · have := (List.getElem?_eq_some_iff.mp hi).1
        rw [List.length_append, List.length_singleton] at this
        rw [List.getElem?_append_left (by omega)] at hi
        rw [show upd (P.2 902).2 ws.length x i = (P.2 902).2 i from if_neg e]
        exact k3.2.2.2 i y hi
    · rw [hI_ne (by decide), hA_I, hI_ne (by decide)]; exact k4
  · rw [hI_ne (by decide), hA_I, hI_eq]
/-- judge -/
theorem m_judge {f d : Nat} (w : hp_w B ρ) (h : mI S A ws flt P) (hI : aI S A) (hf : 100000 ≤ f) (hmu : aMu A + ws.length ≤ 900) :
    ∃ g S' A' acc flt' P', aJ g S A ws 0 0 S' A' acc flt' ∧ am_call B sa am_dfl am_tb f (d + 202) 188 [.ref (ρ.1 9)] (hp_S sa ρ P) = some (some (.int (nI acc)), hp_S sa ρ P') ∧ mI S' A' [] flt' P' ∧ mfr mp_S P P' ∧ P'.1 900 = 0 := by
  obtain ⟨f, rfl⟩ : ∃ g, f = g + 1 := ⟨f - 1, by omega⟩
  obtain ⟨n, T, ns, b, k1, k2, k3, k4⟩ := h
  rw [am_c_188, am_s188_0]
  simp only [hs_900 w, hs_949 w, hs_903 w, hs_945 w, Option.bind_some]
  rw [if_pos (Or.inl True.intro)]
  have lt : ws.length ≤ 900 := by omega
  have J0 : kJ S A (hp_sI (hp_sI (hp_sI (hp_sI P 900 0) 949 0) 903 (-1)) 945 0, n, T, ns, false) := by
    refine k2.cg (P' := hp_sI (hp_sI (hp_sI (hp_sI P 900 0) 949 0) 903 (-1)) 945 0) (fun r z => ⟨?_, rfl⟩) (fun r z => ⟨?_, rfl⟩) (fun r => rfl)
    · by_cases e : r = 945
      · rw [e, hI_eq]; exact hI_eq.symm
      · rw [hI_ne e, hI_ne (ks_ne z rfl), hI_ne (ks_ne z rfl), hI_ne (ks_ne z rfl)]; exact (hI_ne e).symm
    · have e := rr_ne z (s := 945) rfl
      rw [hI_ne e, hI_ne (rr_ne z rfl), hI_ne (rr_ne z rfl), hI_ne (rr_ne z rfl)]; exact (hI_ne e).symm
  have V0 : vS ws (hp_sI (hp_sI (hp_sI (hp_sI P 900 0) 949 0) 903 (-1)) 945 0, n, T, ns, false) := by
    refine ⟨?_, k3.2⟩
    show (hp_sI (hp_sI (hp_sI (hp_sI P 900 0) 949 0) 903 (-1)) 945 0).1 901 = _
    rw [hI_ne (by decide), hI_ne (by decide), hI_ne (by decide), hI_ne (by decide)]; exact k3.1
  have e49 : (hp_sI (hp_sI (hp_sI (hp_sI P 900 0) 949 0) 903 (-1)) 945 0).1 949 = nI 0 := by
    rw [hI_ne (by decide), hI_ne (by decide), hI_eq]; rfl
  have e03 : (hp_sI (hp_sI (hp_sI (hp_sI P 900 0) 949 0) 903 (-1)) 945 0).1 903 = -1 := by
    rw [hI_ne (by decide), hI_eq]
  obtain ⟨S', A', acc, flt', P', j1, j2, j3, j4, j5, j6⟩ := m_loop (sa := sa) (ws := ws) (f0 := f + 1) (d := d) w hf (ws.length + 1) S A (hp_sI (hp_sI (hp_sI (hp_sI P 900 0) 949 0) 903 (-1)) 945 0, n, T, ns, false) 0 0 f J0 hI V0 e49 e03 (Nat.zero_le _) (by omega) (by omega) (by omega)
  refine ⟨_, S', A', acc, flt', P', j1, j2, j3, ?_, ?_⟩
  · exact ((((mfr.sI rfl).tr (mfr.sI rfl)).tr (mfr.sI rfl)).tr (mfr.sI rfl)).tr j5
  · rw [j6]
    show (hp_sI (hp_sI (hp_sI (hp_sI P 900 0) 949 0) 903 (-1)) 945 0).1 900 = 0
    rw [hI_ne (by decide), hI_ne (by decide), hI_ne (by decide), hI_eq]
theorem m_fault {f d : Nat} (w : hp_w B ρ) (h : mI S A ws flt P) : am_call B sa am_dfl am_tb (f + 1) (d + 1) 189 [.ref (ρ.1 9)] (hp_S sa ρ P) = some (some (.int flt), hp_S sa ρ (hp_sI P 900 0)) := by
  obtain ⟨n, T, ns, b, k1, k2, k3, k4⟩ := h
  rw [am_c_189, am_s189_0]
  simp only [hs_900 w, hg_903 w, Option.bind_some]
  rw [hI_ne (by decide), k4]
theorem m_size {f d : Nat} (w : hp_w B ρ) (h : mI S A ws flt P) : am_call B sa am_dfl am_tb (f + 1) (d + 1) 190 [.ref (ρ.1 9)] (hp_S sa ρ P) = some (some (.int (nI A.1.length)), hp_S sa ρ (hp_sI P 900 0)) := by
  obtain ⟨n, T, ns, J⟩ := h.op
  have e : P.1 932 = nI A.1.length := by rw [← J.2.1.2.2.1.1.1]; exact (hI_ne (by decide)).symm
  rw [am_c_190, am_s190_0]
  simp only [hs_900 w, hg_932 w, Option.bind_some]
  rw [hI_ne (by decide), e]
/-- hypotheses -/
theorem m_hyps {f d : Nat} {a : Int32} {s : qQ} (w : hp_w B ρ) (h : mI S A ws flt P) (ha : en_at A.1 a s) : am_call B sa am_dfl am_tb (f + 1) (d + 2) 191 [.ref (ρ.1 9), .int a] (hp_S sa ρ P) = some (some (.int (nI s.1.length)), hp_S sa ρ (hp_sI P 900 0)) := by
  obtain ⟨n, T, ns, J⟩ := h.op
  obtain ⟨i, rfl, hi, hs⟩ := ha
  have il := (List.getElem?_eq_some_iff.mp hs).1
  have l1 := J.2.1.2.2.1.1.2
  have e : P.1 932 = nI A.1.length := by rw [← J.2.1.2.2.1.1.1]; exact (hI_ne (by decide)).symm
  obtain ⟨-, -, q3, -⟩ := J.2.1.2.2.1.2.2.2.2.2 i s hs
  have r : hp_rd (hp_sI P 900 0) 937 (nI i) = some (nI s.1.length) := by
    have := J.2.1.r37 (r := 937) (j := i) (by decide) (by decide) (by omega)
    rw [q3] at this
    exact this
  rw [am_c_191, am_s191_0]
  simp only [hg_932 w, e, Option.bind_some, am_c_eq]
  rw [m_out (by omega), am_i_some, bP_f (fun z => z ⟨i, il, rfl⟩), if_pos rfl]
  simp only [hs_900 w, hg_900 w, hI_eq, Option.bind_some, am_c_le]
  rw [if_pos (by decide)]
  simp only [hr_937 w, hl_937 w, r, Option.bind_some]
theorem m_hyps_no {f d : Nat} {a : Int32} (w : hp_w B ρ) (h : mI S A ws flt P) (ha : ¬ ∃ s, en_at A.1 a s) : am_call B sa am_dfl am_tb (f + 1) (d + 2) 191 [.ref (ρ.1 9), .int a] (hp_S sa ρ P) = some (some (.int 0), hp_S sa ρ (hp_sI P 900 1)) := by
  obtain ⟨n, T, ns, J⟩ := h.op
  have l1 := J.2.1.2.2.1.1.2
  have l1 : A.1.length ≤ 1000 := l1
  have e : P.1 932 = nI A.1.length := by rw [← J.2.1.2.2.1.1.1]; exact (hI_ne (by decide)).symm
  rw [am_c_191, am_s191_0]
  simp only [hg_932 w, e, Option.bind_some, am_c_eq]
  rw [m_out (by omega), am_i_some, bP_t (fun ⟨i, il, z⟩ => ha ⟨A.1[i], i, z, by omega, List.getElem?_eq_getElem il⟩), if_neg (by decide)]
  simp only [hs_900 w, hg_900 w, hI_eq, Option.bind_some, am_c_le]
  rw [if_neg (by decide)]
end PUB
