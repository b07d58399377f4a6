/-! THE REFERENCE, 27: a new type -/
section TY
variable {Z : Prop} {G : qT → Prop} {L : List qM} {sa : Nat → Nat} {B : Nat} {ρ : hp_L} {K K' K0 K1 : kS} {P : hp_P} {vs : List Int32} {A : sV} {S : qT → Prop} {k fr : Nat} {ws wr : List Int32} {H : List qM} {M : qM}
theorem mK_eq {c : Nat} {t : qT} : mK c t = mN (nI (4 * c + 2)) t .leaf .leaf := by unfold mK; rw [nm_2]
theorem kE_21 {S' : qT → Prop} {A' : sV} (h : aE S A 21 wr S' A') : ∃ old made p kk, sp_21 A.1 A.2.2.2.1 A.2.2.2.2.1 (wd wr 1) old made p kk ∧ lim21 S (m_tot (sq_rows A.1)) (n21a old made A.2.2.2.2.1.length) (n21b old made A.2.2.2.2.1.length p) := by
  rcases h with ⟨t, h1, -⟩ | ⟨M, h1, -⟩ | ⟨N, h1, -⟩ | ⟨h, -⟩ | ⟨-, old, made, p, kk, h1, h2, -⟩
  · have := aT_k h1; omega
  · have := aM_k h1; omega
  · have := aQ_k h1; omega
  · exact absurd h (by decide)
  · exact ⟨old, made, p, kk, h1, h2⟩
/-- where a constructor's takes are written -/
theorem rI.tk {v : Int32} (h : rI A K) (hl : A.2.2.2.1.length < 2 ^ 31) : rI A (hp_sA K.1 914 (nI A.2.2.2.1.length) v, K.2) := by
  obtain ⟨⟨h1, h2, h3, h4, h5, h6⟩, g2, g3, g4, g5⟩ := h
  have ne : ∀ {r}, r ≠ 914 → (hp_sA K.1 914 (nI A.2.2.2.1.length) v).2 r = K.1.2 r := fun {r} z => hA_ne z
  refine ⟨⟨h1, by rw [show (hp_sA K.1 914 (nI A.2.2.2.1.length) v, K.2).1 = hp_sA K.1 914 (nI A.2.2.2.1.length) v from rfl, hA_len]; exact h2, fun c x hc => ?_, h4, ?_, ?_⟩, g2.cg rfl rfl (ne (by decide)) (ne (by decide)), g3.cg fun r a b => ⟨rfl, ne (by omega)⟩, g4.cg fun r a b => ⟨rfl, ne (by omega)⟩, g5.go (K' := (hp_sA K.1 914 (nI A.2.2.2.1.length) v, K.2)) fun r => hA_len⟩
  · show ((hp_sA K.1 914 (nI _) v).2 914).2 c = _
    have hcl := (List.getElem?_eq_some_iff.mp hc).1
    rw [hA_eq, nI_clamp hl]
    show upd _ _ _ c = _
    rw [pk_un (show c ≠ A.2.2.2.1.length by omega)]
    exact h3 c x hc
  · show ((hp_sA K.1 914 (nI _) v).2 916).1 = _
    rw [ne (by decide)]; exact h5
  · show ∀ c t, _ → pl _ _ (((hp_sA K.1 914 (nI _) v).2 916).2 c) t
    rw [ne (by decide)]; exact h6
/-- the limits of rows of other types -/
theorem kz_2 {tk : List Nat} {rows : List qM} (J : kJ S A K0) (h16 : A.2.2.2.2.2.2.length < 16000) (hw : ∀ X ∈ rows, m_wf X) (hk : ∀ X ∈ rows, m_ok tk X) (hg : ¬ q_good (q_un S rows) → Z) (hl : ∀ X ∈ rows, (4000 < (m_fl X).length → Z) ∧ (120 < m_ht X → Z)) (ht : 20000 < m_tot (sq_rows A.1) + m_tot rows → Z) : kz Z (q_un S rows) (K0.2.2.2.1 ++ rows.flatMap m_subs) := by
  refine kz_add J.1 hg (fun u hu => Or.inl (by rw [← J.2.2.1]; exact hu)) (fun z => ?_) (fun X hX => ?_)
  · have h1 := J.2.2.2
    have h2 := J.2.1.2.2.1.2.2.1.2
    rw [m_subs_tot] at z
    by_cases c : 20000 < m_tot (sq_rows A.1) + m_tot rows
    · exact ht c
    · omega
  · obtain ⟨R, hR, hs⟩ := List.mem_flatMap.mp hX
    have hs := m_subs_mem.mp hs
    have ln := m_sub_len hs
    refine ⟨⟨m_sub_wf (hw R hR) hs, sub_ty (hw R hR) (hk R hR) hs⟩, fun z => (hl R hR).1 (by omega), fun z => (hl R hR).2 (by omega), fun t ht => Or.inr (q_of_mem hR (q_of_sub hs ht)), fun Y hY => ?_⟩
    exact List.mem_append.mpr (Or.inr (List.mem_flatMap.mpr ⟨R, hR, m_subs_mem.mpr (m_sub_tr hY hs)⟩))
theorem q_un_2 {S : qT → Prop} {a b : qM} : q_un (q_un S [a]) [b] = q_un S [a, b] := by
  funext t
  have e : q_of [a, b] t ↔ q_of [a] t ∨ q_of [b] t := q_of_ap (X := [a]) (Y := [b])
  refine propext ⟨fun z => ?_, fun z => ?_⟩
  · rcases z with (z | z) | z
    · exact Or.inl z
    · exact Or.inr (e.mpr (Or.inl z))
    · exact Or.inr (e.mpr (Or.inr z))
  · rcases z with z | z
    · exact Or.inl (Or.inl z)
    · rcases e.mp z with y | y
      · exact Or.inl (Or.inr y)
      · exact Or.inr y
/-- the two sequents are closed, the signature grows -/
def t2P (P : hp_P) (m n : Nat) (x6 x7 : Int32) : hp_P := hp_sI (hp_sI (hp_sA (hp_sA P 916 (nI m) x6) 916 (nI (m + 1)) x7) 915 (nI (m + 2))) 913 (nI (n + 1))
theorem t2_2 {P : hp_P} {m n r : Nat} {x6 x7 : Int32} (h : r ≠ 916) : (t2P P m n x6 x7).2 r = P.2 r := by
  show (hp_sA (hp_sA P 916 (nI m) x6) 916 (nI (m + 1)) x7).2 r = _
  rw [hA_ne h, hA_ne h]
theorem t2_1 {P : hp_P} {m n r : Nat} {x6 x7 : Int32} (h : r ≠ 913) (h' : r ≠ 915) : (t2P P m n x6 x7).1 r = P.1 r := by
  unfold t2P
  rw [hI_ne h, hI_ne h']; rfl
theorem t2_l {P : hp_P} {m n r : Nat} {x6 x7 : Int32} : ((t2P P m n x6 x7).2 r).1 = (P.2 r).1 := by
  show ((hp_sA (hp_sA P 916 (nI m) x6) 916 (nI (m + 1)) x7).2 r).1 = _
  rw [hA_len, hA_len]
end TY
