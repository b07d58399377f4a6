/-! CONSTRUCTORS, 6: the first heap, a layout and a pure state -/
def ixo : Nat → Nat := fun c => (([(0, 35), (1, 13), (3, 24), (4, 29), (5, 10), (6, 34), (7, 1), (8, 0), (9, 39)] : List (Nat × Nat)).find? (fun q => q.1 == c)).elim 0 Prod.snd
def ixa : Nat → Nat := fun r => (([(3, 36), (4, 37), (102, 14), (104, 15), (105, 16), (106, 17), (107, 18), (108, 19), (109, 20), (110, 21), (112, 22), (113, 23), (301, 25), (302, 26), (304, 27), (307, 28), (405, 30), (406, 31), (407, 32), (408, 33), (500, 11), (501, 12), (700, 2), (701, 3), (702, 4), (703, 5), (704, 6), (705, 7), (706, 8), (707, 9), (807, 38), (902, 40), (905, 41), (906, 42), (907, 43), (908, 44), (909, 45), (910, 46), (911, 47), (912, 48), (914, 49), (916, 50), (918, 51), (919, 52), (920, 53), (921, 54), (922, 55), (923, 56), (924, 57), (925, 58), (926, 59), (927, 60), (930, 61), (931, 62), (935, 63), (936, 64), (937, 65), (938, 66), (939, 67), (940, 68), (941, 69), (942, 70), (943, 71), (947, 72), (948, 73), (950, 74), (952, 75)] : List (Nat × Nat)).find? (fun q => q.1 == r)).elim 0 Prod.snd
def ia0 : Nat → Nat × (Nat → Int32) := fun r => (([(3, 5, fun _ => 0), (4, 5, fun _ => 0), (102, 64, fun _ => 0), (104, 64, fun _ => 0), (105, 64, fun _ => 0), (106, 64, fun _ => 0), (107, 64, fun _ => 0), (108, 64, fun _ => 0), (109, 64, fun _ => 0), (110, 64, fun _ => 0), (112, 122, fun _ => 0), (113, 122, fun _ => 0), (301, 64, fun _ => 0), (302, 64, fun _ => 0), (304, 64, fun _ => 0), (307, 121, fun _ => 0), (405, 64, fun _ => 0), (406, 64, upd (fun _ => 0) 0 (nI 5)), (407, 64, fun _ => 0), (408, 64, fun _ => 0), (500, 40, sg0), (501, 200, sg1), (700, 64, aT5 0), (701, 64, aT5 1), (702, 64, aT5 2), (703, 64, aT5 3), (704, 64, aT5 4), (705, 64, aT5 5), (706, 64, aT5 6), (707, 1024, aT5 7), (807, 64, fun _ => 0), (902, 20000, fun _ => 0), (905, 9000, fun _ => 0), (906, 9000, fun _ => 0), (907, 9000, fun _ => 0), (908, 9000, fun _ => 0), (909, 9000, fun _ => 0), (910, 9000, fun _ => 0), (911, 4096, fun _ => 0), (912, 9000, fun _ => 0), (914, 42, fun _ => 0), (916, 202, fun _ => 0), (918, 60000, fun _ => 0), (919, 60000, fun _ => 0), (920, 60000, fun _ => 0), (921, 60000, fun _ => 0), (922, 60000, fun _ => 0), (923, 60000, fun _ => 0), (924, 60000, fun _ => 0), (925, 60000, fun _ => 0), (926, 4096, fun _ => 0), (927, 60000, fun _ => 0), (930, 8000, fun _ => 0), (931, 16000, fun _ => 0), (935, 1002, fun _ => 0), (936, 1002, fun _ => 0), (937, 1002, fun _ => 0), (938, 1002, fun _ => 0), (939, 1002, fun _ => 0), (940, 1002, fun _ => 0), (941, 1002, fun _ => 0), (942, 1002, fun _ => 0), (943, 62000, fun _ => 0), (947, 256, fun _ => 0), (948, 256, fun _ => 0), (950, 256, fun _ => 0), (952, 256, fun _ => 0)] : List (Nat × Nat × (Nat → Int32))).find? (fun q => q.1 == r)).elim (0, fun _ => 0) Prod.snd
def ii0 : Nat → Int32 := fun r => if r = 502 ∨ r = 504 ∨ r = 913 then 3 else if r = 503 ∨ r = 505 then 2 else if r = 708 then 5 else if r = 809 ∨ r = 903 then -1 else 0
def ip0 : hp_P := (ii0, ia0)
def rho0 (n0 : Nat) (h0 : Nat → Option am_C) (k : Nat) : hp_L := (fun c => n0 + ixo c, fun r => n0 + ixa r, fun a => if a < n0 then h0 a else none, n0 + 76, k)
section CTH
variable {n0 k B : Nat} {sa : Nat → Nat} {h0 : Nat → Option am_C}
theorem ixo_inj : ∀ c ∈ hp_cs, ∀ c' ∈ hp_cs, ixo c = ixo c' → c = c' := by decide +kernel
theorem ixa_inj : ∀ r ∈ hp_rs, ∀ r' ∈ hp_rs, ixa r = ixa r' → r = r' := by decide +kernel
theorem ix_ap : ∀ c ∈ hp_cs, ∀ r ∈ hp_rs, ixo c ≠ ixa r := by decide +kernel
theorem ixo_lt : ∀ c ∈ hp_cs, ixo c < 76 := by decide +kernel
theorem ixa_lt : ∀ r ∈ hp_rs, ixa r < 76 := by decide +kernel
theorem ix_all : ∀ i, i < 76 → (hp_cs.any (fun c => ixo c == i) || hp_rs.any (fun r => ixa r == i)) = true := by decide +kernel
theorem rho0_w (hB : B ≤ n0) : hp_w B (rho0 n0 h0 k) := by
  refine ⟨fun c hc c' hc' e => ixo_inj c hc c' hc' ?_, fun r hr r' hr' e => ixa_inj r hr r' hr' ?_, fun c hc r hr e => ix_ap c hc r hr ?_, fun c hc => ⟨?_, ?_⟩, fun r hr => ⟨?_, ?_⟩, fun a ha => ?_⟩
  · have : n0 + ixo c = n0 + ixo c' := e
    omega
  · have : n0 + ixa r = n0 + ixa r' := e
    omega
  · have : n0 + ixo c = n0 + ixa r := e
    omega
  · show B ≤ n0 + ixo c
    omega
  · show n0 + ixo c < n0 + 76
    have := ixo_lt c hc
    omega
  · show B ≤ n0 + ixa r
    omega
  · show n0 + ixa r < n0 + 76
    have := ixa_lt r hr
    omega
  · have ha : n0 + 76 ≤ a := ha
    exact if_neg (by omega)
theorem wS_hp {ρ : hp_L} {P : hp_P} {cs : List am_C} (w : hp_w B ρ) (hz : ρ.2.2.2.1 = n0 + cs.length) (hk : ρ.2.2.2.2 = k) (hj : ∀ a, ρ.2.2.1 a = if a < n0 then h0 a else none) (ho : ∀ c ∈ hp_cs, n0 ≤ ρ.1 c ∧ cs[ρ.1 c - n0]? = some (.inr (c, hp_f sa ρ P c))) (ha : ∀ r ∈ hp_rs, n0 ≤ ρ.2.1 r ∧ cs[ρ.2.1 r - n0]? = some (.inl (P.2 r))) (hall : ∀ i, i < cs.length → (∃ c ∈ hp_cs, ρ.1 c = n0 + i) ∨ ∃ r ∈ hp_rs, ρ.2.1 r = n0 + i) : wS n0 h0 cs k = hp_S sa ρ P := by
  refine Prod.ext hz.symm (Prod.ext (funext fun a => ?_) hk.symm)
  show (if a < n0 then h0 a else cs[a - n0]?) = hp_h sa ρ P a
  by_cases h : a < n0
  · rw [if_pos h, hp_h_j (fun c hc e => by have := (ho c hc).1; omega) (fun r hr e => by have := (ha r hr).1; omega), hj, if_pos h]
  · rw [if_neg h]
    by_cases hl : a - n0 < cs.length
    · rcases hall _ hl with ⟨c, hc, e⟩ | ⟨r, hr, e⟩
      · have e2 : ρ.1 c = a := by omega
        rw [← e2, hp_h_o w hc]
        exact (ho c hc).2
      · have e2 : ρ.2.1 r = a := by omega
        rw [← e2, hp_h_a w hr]
        exact (ha r hr).2
    · rw [List.getElem?_eq_none (by omega), hp_h_j (fun c hc e => by have := (w.2.2.2.1 c hc).2; omega) (fun r hr e => by have := (w.2.2.2.2.1 r hr).2; omega), hj, if_neg h]
theorem rho0_o {c : Nat} {x : am_C} {cs : List am_C} (h : cs[ixo c]? = some x) : n0 ≤ (rho0 n0 h0 k).1 c ∧ cs[(rho0 n0 h0 k).1 c - n0]? = some x := ⟨Nat.le_add_right _ _, by show cs[n0 + ixo c - n0]? = _; rw [Nat.add_sub_cancel_left]; exact h⟩
theorem rho0_a {r : Nat} {x : am_C} {cs : List am_C} (h : cs[ixa r]? = some x) : n0 ≤ (rho0 n0 h0 k).2.1 r ∧ cs[(rho0 n0 h0 k).2.1 r - n0]? = some x := ⟨Nat.le_add_right _ _, by show cs[n0 + ixa r - n0]? = _; rw [Nat.add_sub_cancel_left]; exact h⟩
set_option maxRecDepth 100000 in
set_option maxHeartbeats 8000000 in
theorem wS_0 (hB : B ≤ n0) : wS n0 h0 (clsL n0 (sa 0) ++ .inr (9, moF n0) :: moA) k = hp_S sa (rho0 n0 h0 k) ip0 := by
  refine wS_hp (rho0_w hB) rfl rfl (fun _ => rfl) ?_ ?_ fun i hi => ?_
  · intro c hc
    simp only [hp_cs, List.mem_cons, List.not_mem_nil, or_false] at hc
    rcases hc with rfl | rfl | rfl | rfl | rfl | rfl | rfl | rfl | rfl <;> exact rho0_o rfl
  · intro r hr
    simp only [hp_rs, List.mem_cons, List.not_mem_nil, or_false] at hr
    rcases hr with rfl | rfl | rfl | rfl | rfl | rfl | rfl | rfl | rfl | rfl | rfl | rfl | rfl | rfl | rfl | rfl | rfl | rfl | rfl | rfl | rfl | rfl | rfl | rfl | rfl | rfl | rfl | rfl | rfl | rfl | rfl | rfl | rfl | rfl | rfl | rfl | rfl | rfl | rfl | rfl | rfl | rfl | rfl | rfl | rfl | rfl | rfl | rfl | rfl | rfl | rfl | rfl | rfl | rfl | rfl | rfl | rfl | rfl | rfl | rfl | rfl | rfl | rfl | rfl | rfl | rfl | rfl <;> exact rho0_a rfl
  · have := ix_all i hi
    rcases Bool.or_eq_true_iff.mp this with h | h
    · obtain ⟨c, hc, e⟩ := List.any_eq_true.mp h
      exact Or.inl ⟨c, hc, by show n0 + ixo c = n0 + i; rw [eq_of_beq e]⟩
    · obtain ⟨r, hr, e⟩ := List.any_eq_true.mp h
      exact Or.inr ⟨r, hr, by show n0 + ixa r = n0 + i; rw [eq_of_beq e]⟩
end CTH
