/-! TRACEJUDGE, the class: what was said; entryLength -/
def el_T : List Nat := [2, 0, 3, 3, 3, 3, 3, 0, 0, 0, 2, 3, 3, 3, 2, 2, 3, 3, 4, 0, 2, 2, 2]
def stI (sa : Nat → Nat) (ρ : hp_L) (P : hp_P) : Prop := axS sa ρ ∧ hp_jk ρ (sa 1) (.inl (23, fun i => nI ((el_T[i]?).getD 0))) ∧ (P.2 3).1 = 5 ∧ (P.2 4).1 = 5
def saI (P : hp_P) (ws : List Int32) : Prop := P.1 808 = nI ws.length ∧ ws.length ≤ (P.2 807).1 ∧ 64 ≤ (P.2 807).1 ∧ (P.2 807).1 ≤ 40000 ∧ ∀ j x, ws[j]? = some x → (P.2 807).2 j = x
theorem el_k : ∀ k, k < 23 → k ≠ 1 → k ≠ 19 → ((k ∈ [0, 10, 14, 15, 20, 21, 22] ∧ (el_T[k]?).getD 0 = 2) ∨ (k ∈ [2, 3, 4, 5, 6, 11, 12, 13, 16, 17] ∧ (el_T[k]?).getD 0 = 3) ∨ (k = 18 ∧ (el_T[k]?).getD 0 = 4) ∨ ((el_T[k]?).getD 0 = 0 ∧ k ∉ [0, 10, 14, 15, 20, 21, 22] ∧ k ∉ [2, 3, 4, 5, 6, 11, 12, 13, 16, 17] ∧ k ≠ 18)) := by
  intro k hk h1 h19
  have : k = 0 ∨ k = 2 ∨ k = 3 ∨ k = 4 ∨ k = 5 ∨ k = 6 ∨ k = 7 ∨ k = 8 ∨ k = 9 ∨ k = 10 ∨ k = 11 ∨ k = 12 ∨ k = 13 ∨ k = 14 ∨ k = 15 ∨ k = 16 ∨ k = 17 ∨ k = 18 ∨ k = 20 ∨ k = 21 ∨ k = 22 := by omega
  rcases this with rfl | rfl | rfl | rfl | rfl | rfl | rfl | rfl | rfl | rfl | rfl | rfl | rfl | rfl | rfl | rfl | rfl | rfl | rfl | rfl | rfl
  · exact Or.inl ⟨by decide, rfl⟩
  · exact Or.inr (Or.inl ⟨by decide, rfl⟩)
  · exact Or.inr (Or.inl ⟨by decide, rfl⟩)
  · exact Or.inr (Or.inl ⟨by decide, rfl⟩)
  · exact Or.inr (Or.inl ⟨by decide, rfl⟩)
  · exact Or.inr (Or.inl ⟨by decide, rfl⟩)
  · exact Or.inr (Or.inr (Or.inr ⟨rfl, by decide, by decide, by decide⟩))
  · exact Or.inr (Or.inr (Or.inr ⟨rfl, by decide, by decide, by decide⟩))
  · exact Or.inr (Or.inr (Or.inr ⟨rfl, by decide, by decide, by decide⟩))
  · exact Or.inl ⟨by decide, rfl⟩
  · exact Or.inr (Or.inl ⟨by decide, rfl⟩)
  · exact Or.inr (Or.inl ⟨by decide, rfl⟩)
  · exact Or.inr (Or.inl ⟨by decide, rfl⟩)
  · exact Or.inl ⟨by decide, rfl⟩
  · exact Or.inl ⟨by decide, rfl⟩
  · exact Or.inr (Or.inl ⟨by decide, rfl⟩)
  · exact Or.inr (Or.inl ⟨by decide, rfl⟩)
  · exact Or.inr (Or.inr (Or.inl ⟨rfl, rfl⟩))
  · exact Or.inl ⟨by decide, rfl⟩
  · exact Or.inl ⟨by decide, rfl⟩
  · exact Or.inl ⟨by decide, rfl⟩
theorem aL_k {tk : List Nat} {k L : Nat} {ws : List Int32} (hk : k < 23) (h1 : k ≠ 1) (h19 : k ≠ 19) (h : aL tk k ws L) (ht : tk.length ≤ 40) : L = (el_T[k]?).getD 0 := by
  have key := el_k k hk h1 h19
  rcases key with ⟨m, e⟩ | ⟨m, e⟩ | ⟨m, e⟩ | ⟨e, m1, m2, m3⟩
  · rw [e]; exact aL_inj ht h (Or.inl ⟨m, rfl⟩)
  · rw [e]; exact aL_inj ht h (Or.inr (Or.inl ⟨m, rfl⟩))
  · rw [e]; exact aL_inj ht h (Or.inr (Or.inr (Or.inl ⟨m, rfl⟩)))
  · rcases h with ⟨m, _⟩ | ⟨m, _⟩ | ⟨m, _⟩ | ⟨m, _⟩ | ⟨m, _⟩
    · exact absurd m m1
    · exact absurd m m2
    · exact absurd m m3
    · exact absurd m h1
    · exact absurd m h19
theorem el_aL {tk : List Nat} {k : Nat} {ws : List Int32} (hk : k < 23) (h1 : k ≠ 1) (h19 : k ≠ 19) (h : (el_T[k]?).getD 0 ≠ 0) : aL tk k ws ((el_T[k]?).getD 0) := by
  have key := el_k k hk h1 h19
  rcases key with ⟨m, e⟩ | ⟨m, e⟩ | ⟨m, e⟩ | ⟨e, m1, m2, m3⟩
  · exact Or.inl ⟨m, e⟩
  · exact Or.inr (Or.inl ⟨m, e⟩)
  · exact Or.inr (Or.inr (Or.inl ⟨m, e⟩))
  · exact absurd e h
section TOP
variable {sa : Nat → Nat} {B : Nat} {ρ : hp_L} {P : hp_P} {n : Nat} {T : Nat → Int32 × Int32 × Int32} {ws : List Int32}
theorem saI.rd (h : saI P ws) {j : Nat} (hj : j < ws.length) : hp_rd P 807 (nI j) = some (ws[j]) := by
  obtain ⟨h1, h2, h3, h4, h5⟩ := h
  rw [hp_rd_nI (by omega) (by omega), h5 j (ws[j]) (List.getElem?_eq_some_iff.mpr ⟨hj, rfl⟩)]
theorem saI.lt (h : saI P ws) : ws.length ≤ 40000 := by have := h.2.1; have := h.2.2.2.1; omega
/-- an entry's length that there is, or 0 -/
def tL (tk : List Nat) (ws : List Int32) (L : Nat) : Prop := (0 < L ∧ ∃ k, ws[0]? = some (nI k) ∧ k < 23 ∧ aL tk k ws L ∧ L ≤ ws.length) ∨ (L = 0 ∧ ∀ k L', ws[0]? = some (nI k) → k < 23 → aL tk k ws L' → ¬ L' ≤ ws.length)
theorem tL_of {tk : List Nat} {k L a : Nat} (ht : tk.length ≤ 40) (hk : k < 23) (h0 : (ws.drop a)[0]? = some (nI k)) (h : ∀ L', aL tk k (ws.drop a) L' ↔ L' = L ∧ L ≠ 0) (ha : a ≤ ws.length) : tL tk (ws.drop a) (if L ≤ ws.length - a then L else 0) := by
  have hl : (ws.drop a).length = ws.length - a := List.length_drop
  have kk : ∀ k', (ws.drop a)[0]? = some (nI k') → k' < 23 → k' = k := fun k' z1 z2 => by
    rw [h0] at z1
    exact ((nI_eq (by omega) (by omega)).mp (Option.some.inj z1)).symm
  by_cases e : L ≤ ws.length - a
  · rw [if_pos e]
    by_cases z : L = 0
    · exact Or.inr ⟨z, fun k' L' z1 z2 z3 => by
        rw [kk k' z1 z2] at z3
        exact absurd z ((h L').mp z3).2⟩
    · exact Or.inl ⟨by omega, k, h0, hk, (h L).mpr ⟨rfl, z⟩, by omega⟩
  · rw [if_neg e]
    exact Or.inr ⟨rfl, fun k' L' z1 z2 z3 => by
      rw [kk k' z1 z2] at z3
      rw [((h L').mp z3).1, hl]
      exact e⟩
theorem tL_no {tk : List Nat} (h : ∀ k, ws[0]? = some (nI k) → ¬ k < 23) : tL tk ws 0 := Or.inr ⟨rfl, fun k L z1 z2 => absurd z2 (h k z1)⟩
theorem t_gt {L a b : Nat} (hL : L < 2 ^ 31) (hab : a ≤ b) (hb : b < 2 ^ 31) {α : Type} {x y : α} : (if am_cond .gt (nI L) (nI b - nI a) = true then x else y) = if L ≤ b - a then y else x := by
  rw [pk_sub hab]
  by_cases e : L ≤ b - a
  · rw [if_pos e, if_neg]
    intro z
    rw [am_c_gt] at z
    exact nI_nlt e (by omega) z
  · rw [if_neg e, if_pos]
    rw [am_c_gt]
    exact nI_lt (by omega) hL
set_option maxHeartbeats 2000000 in
/-- entryLength -/
theorem t_len {f d a : Nat} {tk : List Nat} {ow : List qT} (w : hp_w B ρ) (hg : sgI P n T tk ow) (hst : stI sa ρ P) (hs : saI P ws) (ha : a < ws.length) (hf : 10 ≤ f) :
    ∃ L, am_call B sa am_dfl am_tb f (d + 2) 116 [.ref (ρ.1 8), .int (nI a)] (hp_S sa ρ P) = some (some (.int (nI L)), hp_S sa ρ P) ∧ tL tk (ws.drop a) L := by
  have h4 := hs.lt
  have ht : tk.length ≤ 40 := hg.1.2.2.1
  obtain ⟨f, rfl⟩ : ∃ g, f = g + 2 := ⟨f - 2, by omega⟩
  have dr : ∀ i, (ws.drop a)[i]? = ws[a + i]? := fun i => List.getElem?_drop
  rw [am_c_116, am_s116_0]
  simp only [hr_807 w, Option.bind_some, hl_807 w, hs.rd ha, am_c_lt, am_c_ne]
  have d0 : (ws.drop a)[0]? = some ws[a] := by rw [dr]; exact List.getElem?_eq_some_iff.mpr ⟨ha, rfl⟩
  by_cases e0 : ws[a] < 0
  · rw [if_pos e0]
    refine ⟨0, rfl, tL_no fun k z => ?_⟩
    rw [d0] at z
    have z := Option.some.inj z
    intro hk
    rw [z] at e0
    exact nI_pos (by omega) e0
  · rw [if_neg e0]
    obtain ⟨k, hk31, hk⟩ := nI_of e0
    simp only [hp_jk_len hst.2.1, Option.bind_some]
    rw [hk] at d0 ⊢
    by_cases e1 : k < 23
    · rw [if_pos (nI_lt e1 (by omega))]
      simp only [hp_jk_ld hst.2.1 e1 hk31, Option.bind_some]
      have hk1 : (nI k ≠ 1) = (k ≠ 1) := propext (not_congr (nI_eq (b := 1) hk31 (by omega)))
      have hk19 : (nI k ≠ 19) = (k ≠ 19) := propext (not_congr (nI_eq (b := 19) hk31 (by omega)))
      simp only [hk1]
      -- the end, but for kind 19
      have fin : ∀ L, L ≤ 1000 → k ≠ 19 → (∀ L', aL tk k (ws.drop a) L' ↔ L' = L ∧ L ≠ 0) → ∃ L', am_go B sa am_dfl (am_call B sa am_dfl am_tb (f + 2) (d + 1)) am_r116 (f + 1) 79 [(0, .ref (ρ.1 8)), (1, .int (nI a)), (2, .int (nI k)), (3, .int (nI L))] [] (hp_S sa ρ P) = some (some (.int (nI L')), hp_S sa ρ P) ∧ tL tk (ws.drop a) L' := by
        intro L hL h19 hh
        refine ⟨_, ?_, tL_of ht e1 d0 hh (by omega)⟩
        rw [am_s116_79]
        simp only [am_c_ne, hk19]
        rw [if_pos h19]
        simp only [hg_808 w, hs.1, Option.bind_some]
        rw [t_gt (by omega) (by omega) (by omega)]
        split <;> rfl
      by_cases e2 : k = 1
      · subst e2
        rw [if_neg (fun z => z rfl)]
        simp only [hg_808 w, hs.1, Option.bind_some, am_c_ge]
        rw [show (1 : Int32) = nI 1 from rfl, nI_add]
        by_cases e3 : a + 1 < ws.length
        · rw [if_neg (nI_ge e3 (by omega))]
          simp only [ho_801 w, hr_807 w, hl_807 w, hs.rd e3, Option.bind_some, hx_5 w, sg_has w hg, am_i_some, am_c_eq]
          have d1 : (ws.drop a)[1]? = some ws[a + 1] := by rw [dr]; exact List.getElem?_eq_some_iff.mpr ⟨e3, rfl⟩
          by_cases e4 : inR ws[a + 1] tk.length
          · rw [if_neg (bP_y e4)]
            obtain ⟨c, c1, c2⟩ := e4
            obtain ⟨x, hx⟩ : ∃ x, tk[c]? = some x := ⟨tk[c], List.getElem?_eq_some_iff.mpr ⟨c1, rfl⟩⟩
            obtain ⟨x1, x2⟩ := hg.1.2.2.2.2 c x hx
            have r5 : hp_rd P 500 (nI c) = some (nI x) := by rw [hp_rd_nI (by have := hg.1.2.2.2.1; omega) (by omega), x1]
            simp only [c2, hr_500 w, hl_500 w, r5, Option.bind_some]
            rw [show (2 : Int32) = nI 2 from rfl, nI_add]
            refine fin (2 + x) (by omega) (by decide) fun L' => ⟨fun z => ?_, fun z => ?_⟩
            · exact ⟨aL_inj ht z (Or.inr (Or.inr (Or.inr (Or.inl ⟨rfl, c, x, by rw [d1, c2], hx, rfl⟩)))), by omega⟩
            · rw [z.1]; exact Or.inr (Or.inr (Or.inr (Or.inl ⟨rfl, c, x, by rw [d1, c2], hx, rfl⟩)))
          · rw [if_pos (bP_n e4)]
            refine fin 0 (by omega) (by decide) fun L' => ⟨fun z => ?_, fun z => absurd rfl z.2⟩
            rcases z with ⟨m, _⟩ | ⟨m, _⟩ | ⟨m, _⟩ | ⟨_, c, x, z1, z2, _⟩ | ⟨m, _⟩
            · exact absurd m (by decide)
            · exact absurd m (by decide)
            · exact absurd m (by decide)
            · rw [d1] at z1
              exact absurd ⟨c, (List.getElem?_eq_some_iff.mp z2).1, Option.some.inj z1⟩ e4
            · exact absurd m (by decide)
        · rw [if_pos (nI_le (by omega) (by omega))]
          refine fin 0 (by omega) (by decide) fun L' => ⟨fun z => ?_, fun z => absurd rfl z.2⟩
          rcases z with ⟨m, _⟩ | ⟨m, _⟩ | ⟨m, _⟩ | ⟨_, c, x, z1, z2, _⟩ | ⟨m, _⟩
          · exact absurd m (by decide)
          · exact absurd m (by decide)
          · exact absurd m (by decide)
          · rw [dr, List.getElem?_eq_none (by omega)] at z1; cases z1
          · exact absurd m (by decide)
      · rw [if_pos e2]
        by_cases e3 : k = 19
        · subst e3
          rw [am_s116_79]
          simp only [am_c_ne]
          rw [if_neg (fun z => z rfl)]
          simp only [hg_808 w, hs.1, Option.bind_some, am_c_ge, am_c_lt]
          rw [show (2 : Int32) = nI 2 from rfl, nI_add]
          have z0 : ((el_T[19]?).getD 0) = 0 := rfl
          simp only [z0]
          have no : (∀ c, c ≤ 250 → (ws.drop a)[2]? ≠ some (nI c)) → ∃ L', (if am_cond .gt (nI 0) (nI ws.length - nI a) = true then some (some (Value.int 0), hp_S sa ρ P) else some (some (Value.int (nI 0)), hp_S sa ρ P)) = some (some (Value.int (nI L')), hp_S sa ρ P) ∧ tL tk (ws.drop a) L' := fun hno => by
            refine ⟨0, ?_, Or.inr ⟨rfl, fun k' L' z1 z2 z3 => ?_⟩⟩
            · split <;> rfl
            · rw [d0] at z1
              have := (nI_eq (by omega) (by omega)).mp (Option.some.inj z1)
              subst this
              rcases z3 with ⟨m, _⟩ | ⟨m, _⟩ | ⟨m, _⟩ | ⟨m, _⟩ | ⟨_, c, c1, c2, _⟩
              · exact absurd m (by decide)
              · exact absurd m (by decide)
              · exact absurd m (by decide)
              · exact absurd m (by decide)
              · exact absurd c2 (hno c c1)
          by_cases e4 : a + 2 < ws.length
          · rw [if_neg (nI_ge e4 (by omega))]
            have d2 : (ws.drop a)[2]? = some ws[a + 2] := by rw [dr]; exact List.getElem?_eq_some_iff.mpr ⟨e4, rfl⟩
            simp only [hr_807 w, hl_807 w, hs.rd e4, Option.bind_some, hg_808 w, hs.1]
            by_cases e5 : ws[a + 2] < 0
            · rw [if_pos e5]
              refine no fun c c1 c2 => ?_
              rw [d2] at c2
              rw [Option.some.inj c2] at e5
              exact nI_pos (by omega) e5
            · rw [if_neg e5]
              obtain ⟨c, c31, hc⟩ := nI_of e5
              rw [hc]
              by_cases e6 : c ≤ 250
              · rw [if_neg (by rw [am_c_gt]; exact nI_nlt (b := c) (a := 250) e6 (by omega))]
                rw [show (3 : Int32) + nI 2 * nI c = nI (3 + 2 * c) by rw [show (3 : Int32) = nI 3 from rfl, pk_mul, nI_add], t_gt (by omega) (by omega) (by omega)]
                have hh : ∀ L', aL tk 19 (ws.drop a) L' ↔ L' = 3 + 2 * c ∧ 3 + 2 * c ≠ 0 := fun L' => ⟨fun z => ⟨aL_inj ht z (Or.inr (Or.inr (Or.inr (Or.inr ⟨rfl, c, e6, by rw [d2, hc], rfl⟩)))), by omega⟩, fun z => by rw [z.1]; exact Or.inr (Or.inr (Or.inr (Or.inr ⟨rfl, c, e6, by rw [d2, hc], rfl⟩)))⟩
                refine ⟨_, ?_, tL_of ht e1 d0 hh (by omega)⟩
                split <;> rfl
              · rw [if_pos (by rw [am_c_gt]; exact nI_lt (a := 250) (by omega) c31)]
                refine no fun c' c1 c2 => ?_
                rw [d2, hc] at c2
                have := (nI_eq (by omega) (by omega)).mp (Option.some.inj c2)
                omega
          · rw [if_pos (nI_le (by omega) (by omega))]
            refine no fun c c1 c2 => ?_
            rw [dr, List.getElem?_eq_none (by omega)] at c2
            cases c2
        · refine fin _ ?_ e3 fun L' => ⟨fun z => ?_, fun z => ?_⟩
          · have := el_k k e1 e2 e3
            rcases this with ⟨_, e⟩ | ⟨_, e⟩ | ⟨_, e⟩ | ⟨e, _⟩ <;> omega
          · have hh := aL_k e1 e2 e3 z ht
            exact ⟨hh, by have := aL_ge z; omega⟩
          · rw [z.1]; exact el_aL e1 e2 e3 z.2
    · rw [if_neg (nI_nlt (by omega) hk31)]
      refine ⟨0, rfl, tL_no fun k' z hk' => ?_⟩
      rw [d0] at z
      have := (nI_eq (by omega) (by omega)).mp (Option.some.inj z)
      omega
end TOP
