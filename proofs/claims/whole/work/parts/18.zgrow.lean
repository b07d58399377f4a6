/-! arrays that are made anew, and take another's place -/
/-- one more cell: an array -/
def hp_pu (ρ : hp_L) (x : Nat × (Nat → Int32)) : hp_L := (ρ.1, ρ.2.1, fun a => if a = ρ.2.2.2.1 then some (.inl x) else ρ.2.2.1 a, ρ.2.2.2.1 + 1, ρ.2.2.2.2 + x.1)
/-- the newest cell takes the place of the array of a role -/
def hp_ad (ρ : hp_L) (r : Nat) (old : Nat × (Nat → Int32)) (m : Nat) : hp_L := (ρ.1, fun y => if y = r then ρ.2.2.2.1 else ρ.2.1 y, fun a => if a = ρ.2.1 r then some (.inl old) else ρ.2.2.1 a, ρ.2.2.2.1 + 1, ρ.2.2.2.2 + m)
def hp_sR (P : hp_P) (r : Nat) (x : Nat × (Nat → Int32)) : hp_P := (P.1, fun y => if y = r then x else P.2 y)
theorem hR_I {P : hp_P} {r : Nat} {x : Nat × (Nat → Int32)} : (hp_sR P r x).1 = P.1 := rfl
theorem hR_eq {P : hp_P} {r : Nat} {x : Nat × (Nat → Int32)} : (hp_sR P r x).2 r = x := by simp [hp_sR]
theorem hR_ne {P : hp_P} {r y : Nat} {x : Nat × (Nat → Int32)} (h : y ≠ r) : (hp_sR P r x).2 y = P.2 y := by simp [hp_sR, h]
/-- what copyOf makes of an array -/
def hp_ext (x : Nat × (Nat → Int32)) : Nat → Int32 := va_cpy x.2 (fun _ => 0) 0 0 x.1
theorem hp_ext_lt {x : Nat × (Nat → Int32)} {j : Nat} (h : j < x.1) : hp_ext x j = x.2 j := by
  unfold hp_ext
  rw [pk_cpy_in (Nat.zero_le _) (by omega)]
  simp
section HG
variable {sa : Nat → Nat} {B : Nat} {ρ : hp_L} {P : hp_P}
theorem hp_ap_o (w : hp_w B ρ) : ∀ c ∈ hp_cs, ρ.1 c ≠ ρ.2.2.2.1 := fun c hc => Nat.ne_of_lt (w.2.2.2.1 c hc).2
theorem hp_ap_a (w : hp_w B ρ) : ∀ r ∈ hp_rs, ρ.2.1 r ≠ ρ.2.2.2.1 := fun r hr => Nat.ne_of_lt (w.2.2.2.2.1 r hr).2
theorem hp_h_pu {x : Nat × (Nat → Int32)} {a : Nat} (w : hp_w B ρ) : hp_h sa (hp_pu ρ x) P a = if a = ρ.2.2.2.1 then some (.inl x) else hp_h sa ρ P a := by
  by_cases h : a = ρ.2.2.2.1
  · rw [if_pos h, h, hp_h_j (ρ := hp_pu ρ x) (a := ρ.2.2.2.1) (fun c hc => hp_ap_o w c hc) (fun r hr => hp_ap_a w r hr)]
    simp [hp_pu]
  · rw [if_neg h]
    unfold hp_h
    show (match hp_cs.find? (fun c => decide (ρ.1 c = a)) with
      | some c => some (Sum.inr (c, hp_f sa (hp_pu ρ x) P c))
      | none => match hp_rs.find? (fun r => decide (ρ.2.1 r = a)) with
        | some r => some (Sum.inl (P.2 r))
        | none => (hp_pu ρ x).2.2.1 a) = _
    cases hcf : hp_cs.find? (fun c => decide (ρ.1 c = a)) with
    | some c => rfl
    | none =>
      dsimp only
      cases hrf : hp_rs.find? (fun r => decide (ρ.2.1 r = a)) with
      | some r => rfl
      | none => simp [hp_pu, h]
theorem hp_nwa {m : Nat} (w : hp_w B ρ) : am_nwa (hp_S sa ρ P) m = hp_S sa (hp_pu ρ (m, fun _ => 0)) P := by
  refine Prod.ext rfl (Prod.ext ?_ rfl)
  funext a
  show am_upd (hp_h sa ρ P) ρ.2.2.2.1 (.inl (m, fun _ => 0)) a = hp_h sa (hp_pu ρ (m, fun _ => 0)) P a
  rw [hp_h_pu w]
  rfl
theorem hp_arr_pu {x : Nat × (Nat → Int32)} {r : Nat} (w : hp_w B ρ) (hr : r ∈ hp_rs) : am_arr (hp_S sa (hp_pu ρ x) P) (ρ.2.1 r) = some (P.2 r) := by
  unfold am_arr
  rw [show (hp_S sa (hp_pu ρ x) P).2.1 (ρ.2.1 r) = hp_h sa (hp_pu ρ x) P (ρ.2.1 r) from rfl, hp_h_pu w, if_neg (hp_ap_a w r hr), hp_h_a w hr]
theorem hp_arr_new {x : Nat × (Nat → Int32)} (w : hp_w B ρ) : am_arr (hp_S sa (hp_pu ρ x) P) ρ.2.2.2.1 = some x := by
  unfold am_arr
  rw [show (hp_S sa (hp_pu ρ x) P).2.1 ρ.2.2.2.1 = hp_h sa (hp_pu ρ x) P ρ.2.2.2.1 from rfl, hp_h_pu w, if_pos rfl]
theorem hp_B (w : hp_w B ρ) : B ≤ ρ.2.2.2.1 := Nat.le_of_lt (Nat.lt_of_le_of_lt (w.2.2.2.1 7 (by decide)).1 (w.2.2.2.1 7 (by decide)).2)
theorem hp_cpy_new {r m : Nat} {g0 : Nat → Int32} {k : Int32} (w : hp_w B ρ) (hr : r ∈ hp_rs) (hk : ¬ k < 0) (h1 : k.toNatClampNeg ≤ (P.2 r).1) (h2 : k.toNatClampNeg ≤ m) :
    am_cpy B (hp_S sa (hp_pu ρ (m, g0)) P) (ρ.2.1 r) 0 ρ.2.2.2.1 0 k = some (hp_S sa (hp_pu ρ (m, va_cpy (P.2 r).2 g0 0 0 k.toNatClampNeg)) P) := by
  unfold am_cpy
  rw [hp_arr_pu w hr]
  simp only [Option.bind_some]
  rw [hp_arr_new w]
  simp only [Option.bind_some]
  have z0 : (0 : Int32).toNatClampNeg = 0 := sb_cl0
  have n0 : ¬ (0 : Int32) < 0 := by decide
  have hB := hp_B w
  have hBr := (w.2.2.2.2.1 r hr).1
  rw [if_neg (by rw [z0]; intro h; rcases h with h | h | h | h | h | h | h <;> first | exact n0 h | exact hk h | omega)]
  rw [z0]
  refine congrArg some (Prod.ext rfl (Prod.ext ?_ rfl))
  funext a
  show am_upd (hp_h sa (hp_pu ρ (m, g0)) P) ρ.2.2.2.1 _ a = hp_h sa (hp_pu ρ _) P a
  rw [hp_h_pu w]
  unfold am_upd
  rw [hp_h_pu w]
  split <;> rfl
theorem hp_w_pu {x : Nat × (Nat → Int32)} (w : hp_w B ρ) : hp_w B (hp_pu ρ x) := ⟨w.1, w.2.1, w.2.2.1, fun c hc => ⟨(w.2.2.2.1 c hc).1, Nat.lt_succ_of_lt (w.2.2.2.1 c hc).2⟩, fun r hr => ⟨(w.2.2.2.2.1 r hr).1, Nat.lt_succ_of_lt (w.2.2.2.2.1 r hr).2⟩, fun a ha => by
  have h1 : ρ.2.2.2.1 + 1 ≤ a := ha
  show (if a = ρ.2.2.2.1 then some (Sum.inl x) else ρ.2.2.1 a) = none
  rw [if_neg (by omega)]
  exact w.2.2.2.2.2 a (by omega)⟩
/-- Arrays.copyOf to the double length -/
theorem hp_copyOf {r len f d : Nat} (w : hp_w B ρ) (hr : r ∈ hp_rs) (hl : (P.2 r).1 = len) (h0 : 0 < len) (h5 : len ≤ 50000) :
    am_call B sa am_dfl am_tb (f + 1) (d + 1) 1 [.ref (ρ.2.1 r), .int (nI (2 * len))] (hp_S sa ρ P) = some (some (.ref ρ.2.2.2.1), hp_S sa (hp_pu ρ (2 * len, hp_ext (P.2 r))) P) := by
  rw [am_c_1, am_s1_0]
  have h1 : am_alen (hp_S sa ρ P) (ρ.2.1 r) = some (nI len) := by rw [hp_alen w hr, hl]; rfl
  have hne : nI (2 * len) ≠ nI len := fun e => by
    have := (nI_eq (by omega) (by omega)).mp e
    omega
  have h2 : ¬ (nI (2 * len) < 0 ∨ (100000 : Int32) < nI (2 * len)) := by
    intro h
    rcases h with h | h
    · exact nI_pos (by omega) h
    · rw [show (100000 : Int32) = nI 100000 from rfl] at h
      have := (nI_ltI (by omega) (by omega)).mp h
      omega
  have h3 : am_alen (hp_S sa (hp_pu ρ (2 * len, fun _ => 0)) P) (ρ.2.1 r) = some (nI len) := by
    unfold am_alen
    rw [hp_arr_pu w hr, ← hl]
    rfl
  have h4 : ¬ nI (2 * len) < nI len := nI_nlt (by omega) (by omega)
  simp only [h1, Option.bind_some, am_c_ne, ne_eq, hne, not_false_eq_true, if_true, h2, if_false, nI_clamp (show 2 * len < 2 ^ 31 by omega), hp_nwa w, h3, h4]
  rw [show (hp_S sa ρ P).1 = ρ.2.2.2.1 from rfl, hp_cpy_new w hr (nI_pos (by omega)) (by rw [nI_clamp (by omega), hl]; exact Nat.le_refl _) (by rw [nI_clamp (by omega)]; omega)]
  simp only [Option.bind_some, nI_clamp (show len < 2 ^ 31 by omega)]
  unfold hp_ext
  rw [hl]
/-- TraceJudge.longer -/
theorem hp_longer {r len f d : Nat} (w : hp_w B ρ) (hr : r ∈ hp_rs) (hl : (P.2 r).1 = len) (h0 : 0 < len) (h5 : len ≤ 50000) :
    am_call B sa am_dfl am_tb (f + 1) (d + 2) 118 [.ref (ρ.2.1 r)] (hp_S sa ρ P) = some (some (.ref ρ.2.2.2.1), hp_S sa (hp_pu ρ (2 * len, hp_ext (P.2 r))) P) := by
  rw [am_c_118, am_s118_0]
  have h1 : am_alen (hp_S sa ρ P) (ρ.2.1 r) = some (nI len) := by rw [hp_alen w hr, hl]; rfl
  have h2 : (2 : Int32) * nI len = nI (2 * len) := by rw [show (2 : Int32) = nI 2 from rfl, pk_mul]
  simp only [h1, Option.bind_some, h2, hp_copyOf w hr hl h0 h5, am_p_some]
theorem hp_adopt {c k r : Nat} {x : Nat × (Nat → Int32)} (w : hp_w B ρ) (hc : c ∈ hp_cs) (hr : r ∈ hp_rs) (hk : k < (hp_f sa ρ P c).length)
    (h1 : (hp_f sa ρ P c).set k (.ref ρ.2.2.2.1) = hp_f sa (hp_ad ρ r (P.2 r) x.1) (hp_sR P r x) c) (h2 : ∀ c' ∈ hp_cs, c' ≠ c → hp_f sa (hp_ad ρ r (P.2 r) x.1) (hp_sR P r x) c' = hp_f sa ρ P c') :
    am_put B (hp_S sa (hp_pu ρ x) P) (ρ.1 c) c k (.ref ρ.2.2.2.1) = some (hp_S sa (hp_ad ρ r (P.2 r) x.1) (hp_sR P r x)) := by
  unfold am_put
  rw [show am_obj (hp_S sa (hp_pu ρ x) P) (ρ.1 c) c = some (hp_f sa ρ P c) from hp_obj (ρ := hp_pu ρ x) (hp_w_pu w) hc]
  simp only [Option.bind_some]
  have hB : ¬ ρ.1 c < B := Nat.not_lt.mpr (w.2.2.2.1 c hc).1
  rw [if_neg (fun z => z.elim hB (fun z => by omega))]
  refine congrArg some (Prod.ext rfl (Prod.ext ?_ rfl))
  funext a
  show am_upd (hp_h sa (hp_pu ρ x) P) (ρ.1 c) _ a = hp_h sa (hp_ad ρ r (P.2 r) x.1) (hp_sR P r x) a
  unfold am_upd
  split
  · rename_i e
    rw [e, h1]
    unfold hp_h
    rw [show hp_cs.find? (fun c' => decide ((hp_ad ρ r (P.2 r) x.1).1 c' = ρ.1 c)) = some c from hp_find w.1 hc rfl]
  · rename_i e
    rw [hp_h_pu w]
    unfold hp_h
    show _ = (match hp_cs.find? (fun c' => decide (ρ.1 c' = a)) with
      | some c' => some (Sum.inr (c', hp_f sa (hp_ad ρ r (P.2 r) x.1) (hp_sR P r x) c'))
      | none => match hp_rs.find? (fun r' => decide ((hp_ad ρ r (P.2 r) x.1).2.1 r' = a)) with
        | some r' => some (Sum.inl ((hp_sR P r x).2 r'))
        | none => (hp_ad ρ r (P.2 r) x.1).2.2.1 a)
    by_cases hn : a = ρ.2.2.2.1
    · rw [if_pos hn, hn, hp_nofind (hp_ap_o w)]
      have hf : hp_rs.find? (fun r' => decide ((hp_ad ρ r (P.2 r) x.1).2.1 r' = ρ.2.2.2.1)) = some r := by
        refine hp_find (f := (hp_ad ρ r (P.2 r) x.1).2.1) ?_ hr (by simp [hp_ad])
        intro p hp q hq hpq
        simp only [hp_ad] at hpq
        split at hpq <;> split at hpq
        · rename_i e1 e2; rw [e1, e2]
        · exact absurd hpq.symm (hp_ap_a w q hq)
        · exact absurd hpq (hp_ap_a w p hp)
        · exact w.2.1 p hp q hq hpq
      rw [hf]
      simp only [hR_eq]
    · rw [if_neg hn]
      cases hcf : hp_cs.find? (fun c' => decide (ρ.1 c' = a)) with
      | some c' =>
        have h0 := List.find?_some hcf
        have h3 := of_decide_eq_true h0
        show some (Sum.inr (c', hp_f sa ρ P c')) = some (Sum.inr (c', hp_f sa (hp_ad ρ r (P.2 r) x.1) (hp_sR P r x) c'))
        rw [h2 c' (List.mem_of_find?_eq_some hcf) (fun z => e (by rw [← h3, z]))]
      | none =>
        dsimp only
        by_cases ho : a = ρ.2.1 r
        · have f1 : hp_rs.find? (fun r' => decide (ρ.2.1 r' = a)) = some r := hp_find w.2.1 hr ho.symm
          have f2 : hp_rs.find? (fun r' => decide ((hp_ad ρ r (P.2 r) x.1).2.1 r' = a)) = none := hp_nofind (f := (hp_ad ρ r (P.2 r) x.1).2.1) (fun r' hr' h9 => by
            simp only [hp_ad] at h9
            split at h9
            · exact hn h9.symm
            · rename_i e1; exact e1 (w.2.1 r' hr' r hr (h9.trans ho)))
          rw [f1, f2]
          simp [hp_ad, ho]
        · have hfe : hp_rs.find? (fun r' => decide ((hp_ad ρ r (P.2 r) x.1).2.1 r' = a)) = hp_rs.find? (fun r' => decide (ρ.2.1 r' = a)) := by
            congr 1
            funext r'
            simp only [hp_ad]
            split
            · rename_i e1
              rw [e1]
              have a1 : ¬ ρ.2.2.2.1 = a := fun z => hn z.symm
              have a2 : ¬ ρ.2.1 r = a := fun z => ho z.symm
              simp [a1, a2]
            · rfl
          rw [hfe]
          cases hrf : hp_rs.find? (fun r' => decide (ρ.2.1 r' = a)) with
          | some r' =>
            have h0 := List.find?_some hrf
            have h3 := of_decide_eq_true h0
            show some (Sum.inl (P.2 r')) = some (Sum.inl ((hp_sR P r x).2 r'))
            rw [hR_ne (fun z => ho (by rw [← h3, z]))]
          | none =>
            simp [hp_ad, ho]
theorem hp_w_ad {r m : Nat} {old : Nat × (Nat → Int32)} (w : hp_w B ρ) (hr : r ∈ hp_rs) : hp_w B (hp_ad ρ r old m) := by
  have hB := hp_B w
  refine ⟨w.1, fun p hp q hq hpq => ?_, fun c hc p hp => ?_, fun c hc => ⟨(w.2.2.2.1 c hc).1, Nat.lt_succ_of_lt (w.2.2.2.1 c hc).2⟩, fun p hp => ?_, fun a ha => ?_⟩
  · simp only [hp_ad] at hpq
    split at hpq <;> split at hpq
    · rename_i e1 e2; rw [e1, e2]
    · exact absurd hpq.symm (hp_ap_a w q hq)
    · exact absurd hpq (hp_ap_a w p hp)
    · exact w.2.1 p hp q hq hpq
  · simp only [hp_ad]
    split
    · exact hp_ap_o w c hc
    · exact w.2.2.1 c hc p hp
  · simp only [hp_ad]
    split
    · exact ⟨hB, Nat.lt_succ_self _⟩
    · exact ⟨(w.2.2.2.2.1 p hp).1, Nat.lt_succ_of_lt (w.2.2.2.2.1 p hp).2⟩
  · have h1 : ρ.2.2.2.1 + 1 ≤ a := ha
    show (if a = ρ.2.1 r then some (Sum.inl old) else ρ.2.2.1 a) = none
    have := (w.2.2.2.2.1 r hr).2
    rw [if_neg (by omega)]
    exact w.2.2.2.2.2 a (by omega)
end HG
theorem hd_102 {sa : Nat → Nat} {B : Nat} {ρ : hp_L} {P : hp_P} {x : Nat × (Nat → Int32)} (w : hp_w B ρ) : am_put B (hp_S sa (hp_pu ρ x) P) (ρ.1 1) 1 2 (.ref ρ.2.2.2.1) = some (hp_S sa (hp_ad ρ 102 (P.2 102) x.1) (hp_sR P 102 x)) := hp_adopt w (by decide) (by decide) (Nat.le_of_ble_eq_true rfl) rfl fun c hc hne => by
  simp only [hp_cs, List.mem_cons, List.not_mem_nil, or_false] at hc
  rcases hc with rfl | rfl | rfl | rfl | rfl | rfl | rfl | rfl | rfl <;> first | rfl | exact absurd rfl hne
theorem hd_104 {sa : Nat → Nat} {B : Nat} {ρ : hp_L} {P : hp_P} {x : Nat × (Nat → Int32)} (w : hp_w B ρ) : am_put B (hp_S sa (hp_pu ρ x) P) (ρ.1 1) 1 4 (.ref ρ.2.2.2.1) = some (hp_S sa (hp_ad ρ 104 (P.2 104) x.1) (hp_sR P 104 x)) := hp_adopt w (by decide) (by decide) (Nat.le_of_ble_eq_true rfl) rfl fun c hc hne => by
  simp only [hp_cs, List.mem_cons, List.not_mem_nil, or_false] at hc
  rcases hc with rfl | rfl | rfl | rfl | rfl | rfl | rfl | rfl | rfl <;> first | rfl | exact absurd rfl hne
theorem hd_105 {sa : Nat → Nat} {B : Nat} {ρ : hp_L} {P : hp_P} {x : Nat × (Nat → Int32)} (w : hp_w B ρ) : am_put B (hp_S sa (hp_pu ρ x) P) (ρ.1 1) 1 5 (.ref ρ.2.2.2.1) = some (hp_S sa (hp_ad ρ 105 (P.2 105) x.1) (hp_sR P 105 x)) := hp_adopt w (by decide) (by decide) (Nat.le_of_ble_eq_true rfl) rfl fun c hc hne => by
  simp only [hp_cs, List.mem_cons, List.not_mem_nil, or_false] at hc
  rcases hc with rfl | rfl | rfl | rfl | rfl | rfl | rfl | rfl | rfl <;> first | rfl | exact absurd rfl hne
theorem hd_106 {sa : Nat → Nat} {B : Nat} {ρ : hp_L} {P : hp_P} {x : Nat × (Nat → Int32)} (w : hp_w B ρ) : am_put B (hp_S sa (hp_pu ρ x) P) (ρ.1 1) 1 6 (.ref ρ.2.2.2.1) = some (hp_S sa (hp_ad ρ 106 (P.2 106) x.1) (hp_sR P 106 x)) := hp_adopt w (by decide) (by decide) (Nat.le_of_ble_eq_true rfl) rfl fun c hc hne => by
  simp only [hp_cs, List.mem_cons, List.not_mem_nil, or_false] at hc
  rcases hc with rfl | rfl | rfl | rfl | rfl | rfl | rfl | rfl | rfl <;> first | rfl | exact absurd rfl hne
theorem hd_107 {sa : Nat → Nat} {B : Nat} {ρ : hp_L} {P : hp_P} {x : Nat × (Nat → Int32)} (w : hp_w B ρ) : am_put B (hp_S sa (hp_pu ρ x) P) (ρ.1 1) 1 7 (.ref ρ.2.2.2.1) = some (hp_S sa (hp_ad ρ 107 (P.2 107) x.1) (hp_sR P 107 x)) := hp_adopt w (by decide) (by decide) (Nat.le_of_ble_eq_true rfl) rfl fun c hc hne => by
  simp only [hp_cs, List.mem_cons, List.not_mem_nil, or_false] at hc
  rcases hc with rfl | rfl | rfl | rfl | rfl | rfl | rfl | rfl | rfl <;> first | rfl | exact absurd rfl hne
theorem hd_108 {sa : Nat → Nat} {B : Nat} {ρ : hp_L} {P : hp_P} {x : Nat × (Nat → Int32)} (w : hp_w B ρ) : am_put B (hp_S sa (hp_pu ρ x) P) (ρ.1 1) 1 8 (.ref ρ.2.2.2.1) = some (hp_S sa (hp_ad ρ 108 (P.2 108) x.1) (hp_sR P 108 x)) := hp_adopt w (by decide) (by decide) (Nat.le_of_ble_eq_true rfl) rfl fun c hc hne => by
  simp only [hp_cs, List.mem_cons, List.not_mem_nil, or_false] at hc
  rcases hc with rfl | rfl | rfl | rfl | rfl | rfl | rfl | rfl | rfl <;> first | rfl | exact absurd rfl hne
theorem hd_109 {sa : Nat → Nat} {B : Nat} {ρ : hp_L} {P : hp_P} {x : Nat × (Nat → Int32)} (w : hp_w B ρ) : am_put B (hp_S sa (hp_pu ρ x) P) (ρ.1 1) 1 9 (.ref ρ.2.2.2.1) = some (hp_S sa (hp_ad ρ 109 (P.2 109) x.1) (hp_sR P 109 x)) := hp_adopt w (by decide) (by decide) (Nat.le_of_ble_eq_true rfl) rfl fun c hc hne => by
  simp only [hp_cs, List.mem_cons, List.not_mem_nil, or_false] at hc
  rcases hc with rfl | rfl | rfl | rfl | rfl | rfl | rfl | rfl | rfl <;> first | rfl | exact absurd rfl hne
theorem hd_110 {sa : Nat → Nat} {B : Nat} {ρ : hp_L} {P : hp_P} {x : Nat × (Nat → Int32)} (w : hp_w B ρ) : am_put B (hp_S sa (hp_pu ρ x) P) (ρ.1 1) 1 10 (.ref ρ.2.2.2.1) = some (hp_S sa (hp_ad ρ 110 (P.2 110) x.1) (hp_sR P 110 x)) := hp_adopt w (by decide) (by decide) (Nat.le_of_ble_eq_true rfl) rfl fun c hc hne => by
  simp only [hp_cs, List.mem_cons, List.not_mem_nil, or_false] at hc
  rcases hc with rfl | rfl | rfl | rfl | rfl | rfl | rfl | rfl | rfl <;> first | rfl | exact absurd rfl hne
theorem hd_301 {sa : Nat → Nat} {B : Nat} {ρ : hp_L} {P : hp_P} {x : Nat × (Nat → Int32)} (w : hp_w B ρ) : am_put B (hp_S sa (hp_pu ρ x) P) (ρ.1 3) 3 1 (.ref ρ.2.2.2.1) = some (hp_S sa (hp_ad ρ 301 (P.2 301) x.1) (hp_sR P 301 x)) := hp_adopt w (by decide) (by decide) (Nat.le_of_ble_eq_true rfl) rfl fun c hc hne => by
  simp only [hp_cs, List.mem_cons, List.not_mem_nil, or_false] at hc
  rcases hc with rfl | rfl | rfl | rfl | rfl | rfl | rfl | rfl | rfl <;> first | rfl | exact absurd rfl hne
theorem hd_302 {sa : Nat → Nat} {B : Nat} {ρ : hp_L} {P : hp_P} {x : Nat × (Nat → Int32)} (w : hp_w B ρ) : am_put B (hp_S sa (hp_pu ρ x) P) (ρ.1 3) 3 2 (.ref ρ.2.2.2.1) = some (hp_S sa (hp_ad ρ 302 (P.2 302) x.1) (hp_sR P 302 x)) := hp_adopt w (by decide) (by decide) (Nat.le_of_ble_eq_true rfl) rfl fun c hc hne => by
  simp only [hp_cs, List.mem_cons, List.not_mem_nil, or_false] at hc
  rcases hc with rfl | rfl | rfl | rfl | rfl | rfl | rfl | rfl | rfl <;> first | rfl | exact absurd rfl hne
theorem hd_304 {sa : Nat → Nat} {B : Nat} {ρ : hp_L} {P : hp_P} {x : Nat × (Nat → Int32)} (w : hp_w B ρ) : am_put B (hp_S sa (hp_pu ρ x) P) (ρ.1 3) 3 4 (.ref ρ.2.2.2.1) = some (hp_S sa (hp_ad ρ 304 (P.2 304) x.1) (hp_sR P 304 x)) := hp_adopt w (by decide) (by decide) (Nat.le_of_ble_eq_true rfl) rfl fun c hc hne => by
  simp only [hp_cs, List.mem_cons, List.not_mem_nil, or_false] at hc
  rcases hc with rfl | rfl | rfl | rfl | rfl | rfl | rfl | rfl | rfl <;> first | rfl | exact absurd rfl hne
theorem hd_405 {sa : Nat → Nat} {B : Nat} {ρ : hp_L} {P : hp_P} {x : Nat × (Nat → Int32)} (w : hp_w B ρ) : am_put B (hp_S sa (hp_pu ρ x) P) (ρ.1 4) 4 5 (.ref ρ.2.2.2.1) = some (hp_S sa (hp_ad ρ 405 (P.2 405) x.1) (hp_sR P 405 x)) := hp_adopt w (by decide) (by decide) (Nat.le_of_ble_eq_true rfl) rfl fun c hc hne => by
  simp only [hp_cs, List.mem_cons, List.not_mem_nil, or_false] at hc
  rcases hc with rfl | rfl | rfl | rfl | rfl | rfl | rfl | rfl | rfl <;> first | rfl | exact absurd rfl hne
theorem hd_406 {sa : Nat → Nat} {B : Nat} {ρ : hp_L} {P : hp_P} {x : Nat × (Nat → Int32)} (w : hp_w B ρ) : am_put B (hp_S sa (hp_pu ρ x) P) (ρ.1 4) 4 6 (.ref ρ.2.2.2.1) = some (hp_S sa (hp_ad ρ 406 (P.2 406) x.1) (hp_sR P 406 x)) := hp_adopt w (by decide) (by decide) (Nat.le_of_ble_eq_true rfl) rfl fun c hc hne => by
  simp only [hp_cs, List.mem_cons, List.not_mem_nil, or_false] at hc
  rcases hc with rfl | rfl | rfl | rfl | rfl | rfl | rfl | rfl | rfl <;> first | rfl | exact absurd rfl hne
theorem hd_407 {sa : Nat → Nat} {B : Nat} {ρ : hp_L} {P : hp_P} {x : Nat × (Nat → Int32)} (w : hp_w B ρ) : am_put B (hp_S sa (hp_pu ρ x) P) (ρ.1 4) 4 7 (.ref ρ.2.2.2.1) = some (hp_S sa (hp_ad ρ 407 (P.2 407) x.1) (hp_sR P 407 x)) := hp_adopt w (by decide) (by decide) (Nat.le_of_ble_eq_true rfl) rfl fun c hc hne => by
  simp only [hp_cs, List.mem_cons, List.not_mem_nil, or_false] at hc
  rcases hc with rfl | rfl | rfl | rfl | rfl | rfl | rfl | rfl | rfl <;> first | rfl | exact absurd rfl hne
theorem hd_408 {sa : Nat → Nat} {B : Nat} {ρ : hp_L} {P : hp_P} {x : Nat × (Nat → Int32)} (w : hp_w B ρ) : am_put B (hp_S sa (hp_pu ρ x) P) (ρ.1 4) 4 8 (.ref ρ.2.2.2.1) = some (hp_S sa (hp_ad ρ 408 (P.2 408) x.1) (hp_sR P 408 x)) := hp_adopt w (by decide) (by decide) (Nat.le_of_ble_eq_true rfl) rfl fun c hc hne => by
  simp only [hp_cs, List.mem_cons, List.not_mem_nil, or_false] at hc
  rcases hc with rfl | rfl | rfl | rfl | rfl | rfl | rfl | rfl | rfl <;> first | rfl | exact absurd rfl hne
theorem hd_700 {sa : Nat → Nat} {B : Nat} {ρ : hp_L} {P : hp_P} {x : Nat × (Nat → Int32)} (w : hp_w B ρ) : am_put B (hp_S sa (hp_pu ρ x) P) (ρ.1 7) 7 0 (.ref ρ.2.2.2.1) = some (hp_S sa (hp_ad ρ 700 (P.2 700) x.1) (hp_sR P 700 x)) := hp_adopt w (by decide) (by decide) (Nat.le_of_ble_eq_true rfl) rfl fun c hc hne => by
  simp only [hp_cs, List.mem_cons, List.not_mem_nil, or_false] at hc
  rcases hc with rfl | rfl | rfl | rfl | rfl | rfl | rfl | rfl | rfl <;> first | rfl | exact absurd rfl hne
theorem hd_701 {sa : Nat → Nat} {B : Nat} {ρ : hp_L} {P : hp_P} {x : Nat × (Nat → Int32)} (w : hp_w B ρ) : am_put B (hp_S sa (hp_pu ρ x) P) (ρ.1 7) 7 1 (.ref ρ.2.2.2.1) = some (hp_S sa (hp_ad ρ 701 (P.2 701) x.1) (hp_sR P 701 x)) := hp_adopt w (by decide) (by decide) (Nat.le_of_ble_eq_true rfl) rfl fun c hc hne => by
  simp only [hp_cs, List.mem_cons, List.not_mem_nil, or_false] at hc
  rcases hc with rfl | rfl | rfl | rfl | rfl | rfl | rfl | rfl | rfl <;> first | rfl | exact absurd rfl hne
theorem hd_702 {sa : Nat → Nat} {B : Nat} {ρ : hp_L} {P : hp_P} {x : Nat × (Nat → Int32)} (w : hp_w B ρ) : am_put B (hp_S sa (hp_pu ρ x) P) (ρ.1 7) 7 2 (.ref ρ.2.2.2.1) = some (hp_S sa (hp_ad ρ 702 (P.2 702) x.1) (hp_sR P 702 x)) := hp_adopt w (by decide) (by decide) (Nat.le_of_ble_eq_true rfl) rfl fun c hc hne => by
  simp only [hp_cs, List.mem_cons, List.not_mem_nil, or_false] at hc
  rcases hc with rfl | rfl | rfl | rfl | rfl | rfl | rfl | rfl | rfl <;> first | rfl | exact absurd rfl hne
theorem hd_703 {sa : Nat → Nat} {B : Nat} {ρ : hp_L} {P : hp_P} {x : Nat × (Nat → Int32)} (w : hp_w B ρ) : am_put B (hp_S sa (hp_pu ρ x) P) (ρ.1 7) 7 3 (.ref ρ.2.2.2.1) = some (hp_S sa (hp_ad ρ 703 (P.2 703) x.1) (hp_sR P 703 x)) := hp_adopt w (by decide) (by decide) (Nat.le_of_ble_eq_true rfl) rfl fun c hc hne => by
  simp only [hp_cs, List.mem_cons, List.not_mem_nil, or_false] at hc
  rcases hc with rfl | rfl | rfl | rfl | rfl | rfl | rfl | rfl | rfl <;> first | rfl | exact absurd rfl hne
theorem hd_704 {sa : Nat → Nat} {B : Nat} {ρ : hp_L} {P : hp_P} {x : Nat × (Nat → Int32)} (w : hp_w B ρ) : am_put B (hp_S sa (hp_pu ρ x) P) (ρ.1 7) 7 4 (.ref ρ.2.2.2.1) = some (hp_S sa (hp_ad ρ 704 (P.2 704) x.1) (hp_sR P 704 x)) := hp_adopt w (by decide) (by decide) (Nat.le_of_ble_eq_true rfl) rfl fun c hc hne => by
  simp only [hp_cs, List.mem_cons, List.not_mem_nil, or_false] at hc
  rcases hc with rfl | rfl | rfl | rfl | rfl | rfl | rfl | rfl | rfl <;> first | rfl | exact absurd rfl hne
theorem hd_705 {sa : Nat → Nat} {B : Nat} {ρ : hp_L} {P : hp_P} {x : Nat × (Nat → Int32)} (w : hp_w B ρ) : am_put B (hp_S sa (hp_pu ρ x) P) (ρ.1 7) 7 5 (.ref ρ.2.2.2.1) = some (hp_S sa (hp_ad ρ 705 (P.2 705) x.1) (hp_sR P 705 x)) := hp_adopt w (by decide) (by decide) (Nat.le_of_ble_eq_true rfl) rfl fun c hc hne => by
  simp only [hp_cs, List.mem_cons, List.not_mem_nil, or_false] at hc
  rcases hc with rfl | rfl | rfl | rfl | rfl | rfl | rfl | rfl | rfl <;> first | rfl | exact absurd rfl hne
theorem hd_706 {sa : Nat → Nat} {B : Nat} {ρ : hp_L} {P : hp_P} {x : Nat × (Nat → Int32)} (w : hp_w B ρ) : am_put B (hp_S sa (hp_pu ρ x) P) (ρ.1 7) 7 6 (.ref ρ.2.2.2.1) = some (hp_S sa (hp_ad ρ 706 (P.2 706) x.1) (hp_sR P 706 x)) := hp_adopt w (by decide) (by decide) (Nat.le_of_ble_eq_true rfl) rfl fun c hc hne => by
  simp only [hp_cs, List.mem_cons, List.not_mem_nil, or_false] at hc
  rcases hc with rfl | rfl | rfl | rfl | rfl | rfl | rfl | rfl | rfl <;> first | rfl | exact absurd rfl hne
theorem hd_807 {sa : Nat → Nat} {B : Nat} {ρ : hp_L} {P : hp_P} {x : Nat × (Nat → Int32)} (w : hp_w B ρ) : am_put B (hp_S sa (hp_pu ρ x) P) (ρ.1 8) 8 7 (.ref ρ.2.2.2.1) = some (hp_S sa (hp_ad ρ 807 (P.2 807) x.1) (hp_sR P 807 x)) := hp_adopt w (by decide) (by decide) (Nat.le_of_ble_eq_true rfl) rfl fun c hc hne => by
  simp only [hp_cs, List.mem_cons, List.not_mem_nil, or_false] at hc
  rcases hc with rfl | rfl | rfl | rfl | rfl | rfl | rfl | rfl | rfl <;> first | rfl | exact absurd rfl hne
