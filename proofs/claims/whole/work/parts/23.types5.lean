/-! TYPES of the class, 5: append and make -/
section TY5
theorem ty_P_ne {P : hp_P} {n r i : Nat} {q : Int32 × Int32 × Int32} {s t : Int32} (hn : n < 2 ^ 31) (h1 : 700 ≤ r) (h2 : r ≤ 706) (hi : i ≠ n ∨ r = 706) : ((ty_P P n q s t).2 r).2 i = (P.2 r).2 i := by
  obtain ⟨p0, p1, p2, p3, p4, p5, p7, p6⟩ := ty_P_at (P := P) (q := q) (s := s) (t := t) hn
  rcases (show r = 700 ∨ r = 701 ∨ r = 702 ∨ r = 703 ∨ r = 704 ∨ r = 705 ∨ r = 706 by omega) with rfl | rfl | rfl | rfl | rfl | rfl | rfl
  · rw [p0, pk_un (hi.resolve_right (by decide))]
  · rw [p1, pk_un (hi.resolve_right (by decide))]
  · rw [p2, pk_un (hi.resolve_right (by decide))]
  · rw [p3, pk_un (hi.resolve_right (by decide))]
  · rw [p4, pk_un (hi.resolve_right (by decide))]
  · rw [p5, pk_un (hi.resolve_right (by decide))]
  · rw [p6]
variable {sa : Nat → Nat} {B : Nat} {ρ : hp_L} {P : hp_P} {n : Nat} {T : Nat → Int32 × Int32 × Int32}
theorem ty_sz_le (h : ty_okk P n T) {i : Int32} (hi : ty_in n i) : ty_sz T n i ≤ 200 := by
  rcases hi with rfl | ⟨a, ha, rfl⟩
  · rw [ty_sz_m1]; omega
  · exact (h.2.2 a ha).2.2.1
theorem ty_ht_le (h : ty_okk P n T) {i : Int32} (hi : ty_in n i) : ty_ht T n i ≤ 24 := by
  rcases hi with rfl | ⟨a, ha, rfl⟩
  · rw [ty_ht_m1]; omega
  · exact (h.2.2 a ha).2.2.2
theorem ty_part_sz {f d : Nat} (w : hp_w B ρ) (h : ty_okk P n T) {i : Int32} (hi : ty_in n i) : am_call B sa am_dfl am_tb (f + 1) (d + 1) 119 [.ref (ρ.2.1 703), .int i] (hp_S sa ρ P) = some (some (.int (nI (ty_sz T n i))), hp_S sa ρ P) := by
  obtain ⟨len, hl1, hl2, l0, l1, l2, l3, l4, l5, l6⟩ := h.1.2.1
  have h8 := h.1.1.2
  rw [ty_part (v := fun _ => 0) w (show 703 ∈ hp_rs by decide) hi (by omega) (by omega)]
  rcases hi with rfl | ⟨a, ha, rfl⟩
  · rw [if_pos rfl, ty_sz_m1, nI_0]
  · rw [if_neg (nI_ne_m1 (by omega)), nI_clamp (by omega), (h.2.2 a ha).1]
theorem ty_part_ht {f d : Nat} (w : hp_w B ρ) (h : ty_okk P n T) {i : Int32} (hi : ty_in n i) : am_call B sa am_dfl am_tb (f + 1) (d + 1) 119 [.ref (ρ.2.1 704), .int i] (hp_S sa ρ P) = some (some (.int (nI (ty_ht T n i))), hp_S sa ρ P) := by
  obtain ⟨len, hl1, hl2, l0, l1, l2, l3, l4, l5, l6⟩ := h.1.2.1
  have h8 := h.1.1.2
  rw [ty_part (v := fun _ => 0) w (show 704 ∈ hp_rs by decide) hi (by omega) (by omega)]
  rcases hi with rfl | ⟨a, ha, rfl⟩
  · rw [if_pos rfl, ty_ht_m1, nI_0]
  · rw [if_neg (nI_ne_m1 (by omega)), nI_clamp (by omega), (h.2.2 a ha).2.1]
theorem nI_max {a b : Nat} (ha : a < 2 ^ 31) (hb : b < 2 ^ 31) : (if nI a < nI b then nI b else nI a) = nI (max a b) := by
  by_cases h : a < b
  · rw [if_pos (nI_lt h hb), Nat.max_eq_right (by omega)]
  · rw [if_neg (nI_nlt (by omega) ha), Nat.max_eq_left (by omega)]
/-- Types.append where a limit forbids it -/
theorem ty_append_no {f d : Nat} (w : hp_w B ρ) (h : ty_okk P n T) {q : Int32 × Int32 × Int32} (h1 : ty_in n q.2.1) (h2 : ty_in n q.2.2) {b : Int32}
    (hbad : 200 < 1 + ty_sz T n q.2.1 + ty_sz T n q.2.2 ∨ 24 < 1 + max (ty_ht T n q.2.1) (ty_ht T n q.2.2) ∨ 8000 ≤ n) :
    am_call B sa am_dfl am_tb (f + 1) (d + 2) 5 [.ref (ρ.1 7), .int b, .int q.1, .int q.2.1, .int q.2.2] (hp_S sa ρ P) = some (some (.int (-2)), hp_S sa ρ P) := by
  have s1 := ty_sz_le h h1
  have s2 := ty_sz_le h h2
  have t1 := ty_ht_le h h1
  have t2 := ty_ht_le h h2
  have h8 := h.1.1.2
  have hs : (1 : Int32) + nI (ty_sz T n q.2.1) + nI (ty_sz T n q.2.2) = nI (1 + ty_sz T n q.2.1 + ty_sz T n q.2.2) := by rw [show (1 : Int32) = nI 1 from rfl, nI_add, nI_add]
  have ht : (1 : Int32) + nI (max (ty_ht T n q.2.1) (ty_ht T n q.2.2)) = nI (1 + max (ty_ht T n q.2.1) (ty_ht T n q.2.2)) := by rw [show (1 : Int32) = nI 1 from rfl, nI_add]
  have c1 : ((200 : Int32) < nI (1 + ty_sz T n q.2.1 + ty_sz T n q.2.2)) = (200 < 1 + ty_sz T n q.2.1 + ty_sz T n q.2.2) := by rw [show (200 : Int32) = nI 200 from rfl]; exact propext (nI_ltI (by omega) (by omega))
  have c2 : ((24 : Int32) < nI (1 + max (ty_ht T n q.2.1) (ty_ht T n q.2.2))) = (24 < 1 + max (ty_ht T n q.2.1) (ty_ht T n q.2.2)) := by rw [show (24 : Int32) = nI 24 from rfl]; exact propext (nI_ltI (by omega) (by omega))
  have c3 : (nI n < (8000 : Int32)) = (n < 8000) := by rw [show (8000 : Int32) = nI 8000 from rfl]; exact propext (nI_ltI (by omega) (by omega))
  rw [am_c_5, am_s5_0]
  simp only [hr_703 w, hr_704 w, Option.bind_some, ty_part_sz w h h1, ty_part_sz w h h2, ty_part_ht w h h1, ty_part_ht w h h2, am_i_some, nI_max (show ty_ht T n q.2.1 < 2 ^ 31 by omega) (show ty_ht T n q.2.2 < 2 ^ 31 by omega), hs, ht, am_c_gt, am_c_lt, c1, c2, c3, hg_708 w, h.1.1.1]
  by_cases e1 : 200 < 1 + ty_sz T n q.2.1 + ty_sz T n q.2.2
  · rw [if_pos e1]
  · rw [if_neg e1]
    by_cases e2 : 24 < 1 + max (ty_ht T n q.2.1) (ty_ht T n q.2.2)
    · rw [if_pos e2]
    · rw [if_neg e2, if_neg (by omega)]
set_option maxRecDepth 8000 in
/-- Types.append where no limit forbids it -/
theorem ty_append_yes {f d : Nat} (w : hp_w B ρ) (h : ty_okk P n T) (h64 : 64 ≤ (P.2 700).1) {q : Int32 × Int32 × Int32} (h1 : ty_in n q.2.1) (h2 : ty_in n q.2.2)
    (hs9 : 1 + ty_sz T n q.2.1 + ty_sz T n q.2.2 ≤ 200) (ht9 : 1 + max (ty_ht T n q.2.1) (ty_ht T n q.2.2) ≤ 24) (hn9 : n < 8000) :
    ∃ (ρ' : hp_L) (P' : hp_P), am_call B sa am_dfl am_tb (f + 2) (d + 2) 5 [.ref (ρ.1 7), .int (ty_bk q), .int q.1, .int q.2.1, .int q.2.2] (hp_S sa ρ P) = some (some (.int (nI n)), hp_S sa ρ' P') ∧ hp_w B ρ' ∧ ty_okk P' (n + 1) (ty_add T n q) ∧ hp_fr ty_S 0 ρ P ρ' P' ∧ (∀ j, j < n → (P'.2 706).2 j = (P.2 706).2 j) ∧ ∀ r i, 700 ≤ r → r ≤ 706 → i < (P.2 700).1 → i ≠ n ∨ r = 706 → (P'.2 r).2 i = (P.2 r).2 i := by
  have s1 := ty_sz_le h h1
  have s2 := ty_sz_le h h2
  have t1 := ty_ht_le h h1
  have t2 := ty_ht_le h h2
  obtain ⟨len, hl1, hl2, l0, l1, l2, l3, l4, l5, l6⟩ := h.1.2.1
  have hs : (1 : Int32) + nI (ty_sz T n q.2.1) + nI (ty_sz T n q.2.2) = nI (1 + ty_sz T n q.2.1 + ty_sz T n q.2.2) := by rw [show (1 : Int32) = nI 1 from rfl, nI_add, nI_add]
  have ht : (1 : Int32) + nI (max (ty_ht T n q.2.1) (ty_ht T n q.2.2)) = nI (1 + max (ty_ht T n q.2.1) (ty_ht T n q.2.2)) := by rw [show (1 : Int32) = nI 1 from rfl, nI_add]
  have c1 : ((200 : Int32) < nI (1 + ty_sz T n q.2.1 + ty_sz T n q.2.2)) = False := by rw [show (200 : Int32) = nI 200 from rfl]; exact eq_false fun z => by have := (nI_ltI (by omega) (by omega)).mp z; omega
  have c2 : ((24 : Int32) < nI (1 + max (ty_ht T n q.2.1) (ty_ht T n q.2.2))) = False := by rw [show (24 : Int32) = nI 24 from rfl]; exact eq_false fun z => by have := (nI_ltI (by omega) (by omega)).mp z; omega
  have c3 : (nI n < (8000 : Int32)) = True := by rw [show (8000 : Int32) = nI 8000 from rfl]; exact eq_true (nI_lt (by omega) (by omega))
  have hal : am_alen (hp_S sa ρ P) (ρ.2.1 700) = some (nI len) := by rw [hp_alen w (by decide), l0]; rfl
  rw [am_c_5, am_s5_0]
  simp only [hr_703 w, hr_704 w, Option.bind_some, ty_part_sz w h h1, ty_part_sz w h h2, ty_part_ht w h h1, ty_part_ht w h h2, am_i_some, nI_max (show ty_ht T n q.2.1 < 2 ^ 31 by omega) (show ty_ht T n q.2.2 < 2 ^ 31 by omega), hs, ht, am_c_gt, am_c_lt, am_c_ne, c1, c2, c3, if_false, if_true, hg_708 w, h.1.1.1, hr_700 w, hal]
  by_cases hg : n = len
  · have e0 : ¬ (nI n ≠ nI len) := fun z => z (by rw [hg])
    have e2 : (2 : Int32) * nI n = nI (2 * n) := by rw [show (2 : Int32) = nI 2 from rfl, pk_mul]
    rw [if_neg e0, e2]
    subst hg
    have w0 := ty_g1_w (len := n) (r := 700) (x := (ρ, P)) w (by decide)
    have w1 := ty_g1_w (len := n) (r := 701) w0 (by decide)
    have w2 := ty_g1_w (len := n) (r := 702) w1 (by decide)
    have w3 := ty_g1_w (len := n) (r := 703) w2 (by decide)
    have w4 := ty_g1_w (len := n) (r := 704) w3 (by decide)
    have w5 := ty_g1_w (len := n) (r := 705) w4 (by decide)
    have w6 := ty_g_w (len := n) (x := (ρ, P)) w
    have z0 : 0 < n := by omega
    have z5 : n ≤ 50000 := by omega
    obtain ⟨ok7, len7⟩ := ty_g_ok (ρ := ρ) h l0 (by omega)
    refine ⟨(ty_g n (ρ, P)).1, ty_P (ty_g n (ρ, P)).2 n q (nI (1 + ty_sz T n q.2.1 + ty_sz T n q.2.2)) (nI (1 + max (ty_ht T n q.2.1) (ty_ht T n q.2.2))), ?_, w6, ty_P_ok ok7 len7 (by omega) hn9 h1 h2 hs9 ht9, hp_fr.tr0 (ty_g_fr w (fun r a b => ?_) z0) ty_P_fr, fun j hj => ?_, fun r i a b hi hne => ?_⟩
    · rw [hp_copyOf w (show 700 ∈ hp_rs by decide) l0 z0 z5, am_p_some, hd_700 w, Option.bind_some]
      refine (ty_gr1 (ρ := (ty_g1 n 700 (ρ, P)).1) (P := (ty_g1 n 700 (ρ, P)).2) (f := f + 1) (d := d) (len := n) w0 rfl l1 z0 z5).trans ?_
      refine (ty_gr2 (ρ := (ty_g1 n 701 (ty_g1 n 700 (ρ, P))).1) (P := (ty_g1 n 701 (ty_g1 n 700 (ρ, P))).2) (f := f + 1) (d := d) (len := n) w1 rfl l2 z0 z5).trans ?_
      refine (ty_gr3 (ρ := (ty_g1 n 702 (ty_g1 n 701 (ty_g1 n 700 (ρ, P)))).1) (P := (ty_g1 n 702 (ty_g1 n 701 (ty_g1 n 700 (ρ, P)))).2) (f := f + 1) (d := d) (len := n) w2 rfl l3 z0 z5).trans ?_
      refine (ty_gr4 (ρ := (ty_g1 n 703 (ty_g1 n 702 (ty_g1 n 701 (ty_g1 n 700 (ρ, P))))).1) (P := (ty_g1 n 703 (ty_g1 n 702 (ty_g1 n 701 (ty_g1 n 700 (ρ, P))))).2) (f := f + 1) (d := d) (len := n) w3 rfl l4 z0 z5).trans ?_
      refine (ty_gr5 (ρ := (ty_g1 n 704 (ty_g1 n 703 (ty_g1 n 702 (ty_g1 n 701 (ty_g1 n 700 (ρ, P)))))).1) (P := (ty_g1 n 704 (ty_g1 n 703 (ty_g1 n 702 (ty_g1 n 701 (ty_g1 n 700 (ρ, P)))))).2) (f := f + 1) (d := d) (len := n) w4 rfl l5 z0 z5).trans ?_
      refine (ty_gr6 (ρ := (ty_g1 n 705 (ty_g1 n 704 (ty_g1 n 703 (ty_g1 n 702 (ty_g1 n 701 (ty_g1 n 700 (ρ, P))))))).1) (P := (ty_g1 n 705 (ty_g1 n 704 (ty_g1 n 703 (ty_g1 n 702 (ty_g1 n 701 (ty_g1 n 700 (ρ, P))))))).2) (f := f + 1) (d := d) (len := n) w5 rfl l6 z0 z5).trans ?_
      exact ty_app_tail w6 ok7.1 len7 (by omega) q _ _
    · rcases (show r = 700 ∨ r = 701 ∨ r = 702 ∨ r = 703 ∨ r = 704 ∨ r = 705 ∨ r = 706 by omega) with rfl | rfl | rfl | rfl | rfl | rfl | rfl
      · exact l0
      · exact l1
      · exact l2
      · exact l3
      · exact l4
      · exact l5
      · exact l6
    · rw [(ty_P_at (by omega)).2.2.2.2.2.2.2, ty_g_P, if_pos (by decide)]
      exact hp_ext_lt (by rw [l6]; exact hj)
    · rw [ty_P_ne (by omega) a b hne, ty_g_P, if_pos ⟨a, b⟩]
      have hlr : (P.2 r).1 = n := by
        rcases (show r = 700 ∨ r = 701 ∨ r = 702 ∨ r = 703 ∨ r = 704 ∨ r = 705 ∨ r = 706 by omega) with rfl | rfl | rfl | rfl | rfl | rfl | rfl
        · exact l0
        · exact l1
        · exact l2
        · exact l3
        · exact l4
        · exact l5
        · exact l6
      exact hp_ext_lt (by rw [hlr]; omega)
  · have e0 : nI n ≠ nI len := fun z => hg ((nI_eq (by omega) (by omega)).mp z)
    rw [if_pos e0]
    exact ⟨ρ, _, ty_app_tail w h.1 l0 (by omega) q _ _, w, ty_P_ok h l0 (by omega) hn9 h1 h2 hs9 ht9, ty_P_fr, fun j hj => by rw [(ty_P_at (by omega)).2.2.2.2.2.2.2], fun r i a b _ hne => ty_P_ne (by omega) a b hne⟩
end TY5
