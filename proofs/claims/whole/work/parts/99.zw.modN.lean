/-! THE REFERENCE, 35: led back -/
section CUT
variable {Z : Prop} {G : qT → Prop} {L : List qM} {sa : Nat → Nat} {B : Nat} {ρ : hp_L} {K K' K0 : kS} {P : hp_P} {n : Nat} {T : Nat → Int32 × Int32 × Int32} {ns : List qM}
theorem ty_wf_le {m : Nat} (h : ty_wf T n) (k : m ≤ n) : ty_wf T m := fun j hj => h j (by omega)
theorem ct_le {m : Nat} (hw : ty_wf T n) (hn : n < 2 ^ 31) (k : m ≤ n) {i : Int32} (hi : ty_in m i) : ct T m i = ct T n i := (ct_ext (ty_wf_le hw k) (fun _ _ => rfl) (by omega) k hi).symm
theorem tyN.cut1 {c : Nat} (h : tyN P (n + 1) T) (hc : c < 4096) (ec : c4 (T n).1 (T n).2.1 (T n).2.2 0 = nI c) : tyN (hp_sA (hp_sI P 904 (nI n)) 911 (nI c) ((P.2 910).2 n)) n T := by
  obtain ⟨h1, ⟨h2, h3, h4⟩, h5, h6, h7, h8⟩ := h
  have n8 := h1.2
  have ne : ∀ {r}, r ≠ 911 → (hp_sA (hp_sI P 904 (nI n)) 911 (nI c) ((P.2 910).2 n)).2 r = P.2 r := fun {r} z => hA_ne z
  have len : ∀ r, ((hp_sA (hp_sI P 904 (nI n)) 911 (nI c) ((P.2 910).2 n)).2 r).1 = (P.2 r).1 := fun r => hA_len
  have e11 : ((hp_sA (hp_sI P 904 (nI n)) 911 (nI c) ((P.2 910).2 n)).2 911).2 = upd (P.2 911).2 c ((P.2 910).2 n) := by rw [hA_eq, nI_clamp (by omega)]; rfl
  refine ⟨⟨by rw [hA_I]; exact hI_eq, by omega⟩, ⟨fun r a b => by rw [len]; exact h2 r a b, by rw [len]; exact h3, by rw [len]; exact h4⟩, fun j hj => ?_, ty_wf_le h6 (by omega), fun i j hi hj => h7 i j hi (by omega), ?_⟩
  · rw [ne (by decide), ne (by decide), ne (by decide), ne (by decide), ne (by decide)]
    have := h5 j (by omega)
    have e := ct_le h6 (by omega) (Nat.le_succ n) (i := nI j) (Or.inr ⟨j, hj, rfl⟩)
    rw [← ct_sz, ← ct_ht, e, ct_sz, ct_ht]
    exact this
  · rw [e11, ne (by decide)]
    exact h8.cut hc ec
theorem ndN.cut1 {c : Nat} {M : qM} (h : ndN P n T (ns ++ [M])) (hc : c < 4096) (ec : c4' (Nk P ns.length) = nI c) : ndN (hp_sA (hp_sI P 917 (nI ns.length)) 926 (nI c) ((P.2 925).2 ns.length)) n T ns := by
  obtain ⟨h1, ⟨h2, h3, h4⟩, h5, h6, h7⟩ := h
  have l6 := h1.2
  rw [List.length_append] at l6
  have l6 : ns.length + 1 ≤ 60000 := l6
  have ne : ∀ {r}, r ≠ 926 → (hp_sA (hp_sI P 917 (nI ns.length)) 926 (nI c) ((P.2 925).2 ns.length)).2 r = P.2 r := fun {r} z => hA_ne z
  have len : ∀ r, ((hp_sA (hp_sI P 917 (nI ns.length)) 926 (nI c) ((P.2 925).2 ns.length)).2 r).1 = (P.2 r).1 := fun r => hA_len
  have e11 : ((hp_sA (hp_sI P 917 (nI ns.length)) 926 (nI c) ((P.2 925).2 ns.length)).2 926).2 = upd (P.2 926).2 c ((P.2 925).2 ns.length) := by rw [hA_eq, nI_clamp (by omega)]; rfl
  have nk : Nk (hp_sA (hp_sI P 917 (nI ns.length)) 926 (nI c) ((P.2 925).2 ns.length)) = Nk P := by
    funext i
    unfold Nk
    rw [ne (by decide), ne (by decide), ne (by decide), ne (by decide)]
  refine ⟨⟨by rw [hA_I]; exact hI_eq, by omega⟩, ⟨fun r a b => by rw [len]; exact h2 r a b, by rw [len]; exact h3, by rw [len]; exact h4⟩, (List.nodup_append.mp h5).1, fun j X hj => ?_, ?_⟩
  · have jl := (List.getElem?_eq_some_iff.mp hj).1
    obtain ⟨r1, r2⟩ := h6 j X (by rw [List.getElem?_append_left jl]; exact hj)
    unfold nd_row
    rw [nk, ne (by decide), ne (by decide), ne (by decide)]
    exact ⟨r1.up (Nat.le_refl _) fun i Y hi hY => by rw [List.getElem?_append_left (by omega)] at hY; exact hY, r2⟩
  · rw [e11, ne (by decide), nk]
    rw [List.length_append] at h7
    exact h7.cut hc ec
def cT_S : Nat → Bool := fun r => decide (r = 904 ∨ r = 911)
def cN_S : Nat → Bool := fun r => decide (r = 917 ∨ r = 926)
/-- cutTypes -/
theorem c_cutT {f0 d m : Nat} (w : hp_w B ρ) : ∀ (q f : Nat) (P : hp_P), tyN P (m + q) T → q + 1 ≤ f → ∃ P', am_go B sa am_dfl (am_call B sa am_dfl am_tb (f0 + 1) (d + 1)) am_r186 f 0 [(0, .ref (ρ.1 9)), (1, .int (nI m))] [] (hp_S sa ρ P) = some (none, hp_S sa ρ P') ∧ tyN P' m T ∧ mfr cT_S P P' := by
  intro q
  induction q with
  | zero =>
    intro f P h hf
    obtain ⟨f, rfl⟩ : ∃ x, f = x + 1 := ⟨f - 1, by omega⟩
    have n8 := h.1.2
    rw [am_s186_0]
    simp only [hg_904 w, h.1.1, Option.bind_some, am_c_le]
    rw [if_pos (nI_le (by omega) (by omega))]
    exact ⟨P, rfl, h, mfr.rf⟩
  | succ q ih =>
    intro f P h hf
    obtain ⟨f, rfl⟩ : ∃ x, f = x + 1 := ⟨f - 1, by omega⟩
    have n8 := h.1.2
    have h : tyN P (m + q + 1) T := h
    obtain ⟨c, hc, ec⟩ := c4_in (T (m + q)).1 (T (m + q)).2.1 (T (m + q)).2.2 0
    have ec : c4 (T (m + q)).1 (T (m + q)).2.1 (T (m + q)).2.2 0 = nI c := ec
    obtain ⟨q0, q1, q2, -⟩ := h.2.2.1 (m + q) (by omega)
    have rd : ∀ (r : Nat), 905 ≤ r → r ≤ 910 → hp_rd (hp_sI P 904 (nI (m + q))) r (nI (m + q)) = some ((P.2 r).2 (m + q)) := fun r a b => hp_rd_nI (by rw [hI_A, h.2.1.1 r a b]; omega) (by omega)
    have r0 : hp_rd (hp_sI P 904 (nI (m + q))) 905 (nI (m + q)) = some (T (m + q)).1 := by rw [rd 905 (by decide) (by decide), q0]
    have r1 : hp_rd (hp_sI P 904 (nI (m + q))) 906 (nI (m + q)) = some (T (m + q)).2.1 := by rw [rd 906 (by decide) (by decide), q1]
    have r2 : hp_rd (hp_sI P 904 (nI (m + q))) 907 (nI (m + q)) = some (T (m + q)).2.2 := by rw [rd 907 (by decide) (by decide), q2]
    have r3 := rd 910 (by decide) (by decide)
    have ck : hp_ck (hp_sI P 904 (nI (m + q))) 911 (nI c) = some () := hp_ck_nI (by rw [hI_A, h.2.1.2.2]; exact hc) (by omega)
    rw [am_s186_0]
    simp only [hg_904 w, h.1.1, Option.bind_some, am_c_le, hs_904 w, nI_pred, hI_eq, hr_911 w, hr_905 w, hl_905 w, r0, hr_906 w, hl_906 w, r1, hr_907 w, hl_907 w, r2]
    rw [if_neg (show ¬ nI (m + q + 1) ≤ nI m from nI_ge (by omega) (by omega)), m_chain, am_i_some]
    simp only [hr_910 w, hg_904 w, hI_eq, hl_910 w, r3, Option.bind_some]
    rw [ec]
    simp only [ht_911 w, ck, Option.bind_some]
    obtain ⟨P', a1, a2, a3⟩ := ih f _ (h.cut1 hc ec) (by omega)
    exact ⟨P', a1, a2, ((mfr.sI rfl).tr (mfr.sA rfl)).tr a3⟩
/-- cutNodes -/
theorem c_cutN {f0 d : Nat} {xs : List qM} (w : hp_w B ρ) : ∀ (q : List qM) (f : Nat) (P : hp_P), ndN P n T (xs ++ q) → q.length + 1 ≤ f → ∃ P', am_go B sa am_dfl (am_call B sa am_dfl am_tb (f0 + 1) (d + 1)) am_r187 f 0 [(0, .ref (ρ.1 9)), (1, .int (nI xs.length))] [] (hp_S sa ρ P) = some (none, hp_S sa ρ P') ∧ ndN P' n T xs ∧ mfr cN_S P P' := by
  intro q
  generalize hm : q.length = m
  induction m generalizing q with
  | zero =>
    intro f P h hf
    obtain ⟨f, rfl⟩ : ∃ x, f = x + 1 := ⟨f - 1, by omega⟩
    rw [List.length_eq_zero_iff.mp hm, List.append_nil] at h
    have l6 := h.1.2
    rw [am_s187_0]
    simp only [hg_917 w, h.1.1, Option.bind_some, am_c_le]
    rw [if_pos (Int32.le_refl _)]
    exact ⟨P, rfl, h, mfr.rf⟩
  | succ m ih =>
    intro f P h hf
    obtain ⟨f, rfl⟩ : ∃ x, f = x + 1 := ⟨f - 1, by omega⟩
    obtain ⟨q', M, rfl⟩ : ∃ q' M, q = q' ++ [M] := by
      have hne : q ≠ [] := fun z => by rw [z] at hm; cases hm
      exact ⟨q.dropLast, q.getLast hne, (List.dropLast_concat_getLast hne).symm⟩
    rw [List.length_append] at hm
    have hm : q'.length + 1 = m + 1 := hm
    rw [← List.append_assoc] at h
    have l6 := h.1.2
    rw [List.length_append] at l6
    have l6 : (xs ++ q').length + 1 ≤ 60000 := l6
    obtain ⟨c, hc, ec⟩ := c4_in (Nk P (xs ++ q').length).1 (Nk P (xs ++ q').length).2.1 (Nk P (xs ++ q').length).2.2.1 (Nk P (xs ++ q').length).2.2.2
    have ec : c4' (Nk P (xs ++ q').length) = nI c := ec
    have e17 : P.1 917 = nI ((xs ++ q').length + 1) := by have := h.1.1; rw [List.length_append] at this; exact this
    have rd : ∀ (r : Nat), 918 ≤ r → r ≤ 925 → hp_rd (hp_sI P 917 (nI (xs ++ q').length)) r (nI (xs ++ q').length) = some ((P.2 r).2 (xs ++ q').length) := fun r a b => hp_rd_nI (by rw [hI_A, h.2.1.1 r a b]; omega) (by omega)
    have r0 := rd 918 (by decide) (by decide)
    have r1 := rd 919 (by decide) (by decide)
    have r2 := rd 920 (by decide) (by decide)
    have r3 := rd 921 (by decide) (by decide)
    have r4 := rd 925 (by decide) (by decide)
    have ck : hp_ck (hp_sI P 917 (nI (xs ++ q').length)) 926 (nI c) = some () := hp_ck_nI (by rw [hI_A, h.2.1.2.2]; exact hc) (by omega)
    have hch : ∀ σ, am_call B sa am_dfl am_tb (f0 + 1) (d + 1) 125 [.int ((P.2 918).2 (xs ++ q').length), .int ((P.2 919).2 (xs ++ q').length), .int ((P.2 920).2 (xs ++ q').length), .int ((P.2 921).2 (xs ++ q').length)] σ = some (some (.int (c4' (Nk P (xs ++ q').length))), σ) := fun σ => m_chain
    have lt : xs.length < (xs ++ q').length + 1 := by rw [List.length_append]; omega
    rw [am_s187_0]
    simp only [hg_917 w, e17, Option.bind_some, am_c_le, hs_917 w, nI_pred, hI_eq, hr_926 w, hr_918 w, hl_918 w, r0, hr_919 w, hl_919 w, r1, hr_920 w, hl_920 w, r2, hr_921 w, hl_921 w, r3]
    rw [if_neg (show ¬ nI ((xs ++ q').length + 1) ≤ nI xs.length from nI_ge lt (by omega)), hch, am_i_some]
    simp only [hr_925 w, hg_917 w, hI_eq, hl_925 w, r4, Option.bind_some]
    rw [ec]
    simp only [ht_926 w, ck, Option.bind_some]
    obtain ⟨P', a1, a2, a3⟩ := ih q' (by omega) f _ (h.cut1 hc ec) (by omega)
    exact ⟨P', a1, a2, ((mfr.sI rfl).tr (mfr.sA rfl)).tr a3⟩
/-- types cut under nodes -/
theorem ndN.cutT {m : Nat} (h : ndN P n T ns) (hw : ty_wf T n) (hd : ty_di T n) (hn : n < 2 ^ 31) (hm : m ≤ n) (ht : ∀ X ∈ ns, ∀ t, q_of [X] t → ct_S T m t) : ndN P m T ns := by
  refine ⟨h.1, h.2.1, h.2.2.1, fun j M hj => ?_, h.2.2.2.2⟩
  obtain ⟨⟨k1, k2⟩, r2⟩ := h.2.2.2.1 j M hj
  have mem := List.mem_of_getElem? hj
  have hq := q_of_ty r2.1 (q_sub_self (fun z => by
    rw [z] at k1
    obtain ⟨a, a1, a2, a3⟩ := k1
    rw [a2] at a3
    exact ct_ne hw hn a1 a3))
  refine ⟨⟨pl_cut k1 hm hw hd hn (ht M mem _ hq), ?_⟩, r2⟩
  rcases k2 with z | ⟨z1, b, t, Y, z2, z3, z4, z5, z6⟩ | z
  · exact Or.inl z
  · refine Or.inr (Or.inl ⟨z1, b, t, Y, z2, pl_cut z3 hm hw hd hn (ht M mem t ?_), z4, z5, z6⟩)
    rw [z6]
    refine q_of_1.mpr (Or.inl (Or.inr (Or.inl (q_sub_self fun z => ?_))))
    rw [z] at z3
    obtain ⟨a, a1, a2, a3⟩ := z3
    rw [a2] at a3
    exact ct_ne hw hn a1 a3
  · exact Or.inr (Or.inr z)
theorem ct_S_of_cut {m : Nat} (hw : ty_wf T n) (hn : n < 2 ^ 31) (hm : m ≤ n) {t : qT} (h : ct_S T m t) : ct_S T n t := by
  obtain ⟨i, i1, i2⟩ := h
  exact ⟨i, by omega, by rw [← ct_le hw hn hm (Or.inr ⟨i, i1, rfl⟩)]; exact i2⟩
end CUT
