/-! TYPES of the class, 3: append -/
theorem ty_add_lt {T : Nat → Int32 × Int32 × Int32} {n j : Nat} {q : Int32 × Int32 × Int32} (h : j < n) : ty_add T n q j = T j := by simp [ty_add, Nat.ne_of_lt h]
theorem ty_add_eq {T : Nat → Int32 × Int32 × Int32} {n : Nat} {q : Int32 × Int32 × Int32} : ty_add T n q n = q := by simp [ty_add]
theorem ty_wf_add {T : Nat → Int32 × Int32 × Int32} {n : Nat} {q : Int32 × Int32 × Int32} (h : ty_wf T n) (h1 : ty_in n q.2.1) (h2 : ty_in n q.2.2) : ty_wf (ty_add T n q) (n + 1) := by
  intro j hj
  by_cases e : j = n
  · rw [e, ty_add_eq]
    exact ⟨h1, h2⟩
  · rw [ty_add_lt (by omega)]
    exact h j (by omega)
theorem ty_fold_old {α : Type} {z : α} {g : Int32 → α → α → α} {T : Nat → Int32 × Int32 × Int32} {n : Nat} {q : Int32 × Int32 × Int32} {i : Int32} (hw : ty_wf T n) (hn : n < 2 ^ 31) (hi : ty_in n i) : ty_fold z g (ty_add T n q) (n + 1) i = ty_fold z g T n i :=
  (ty_fold_eq hw (fun j hj => ty_add_lt hj) hn n n (n + 1) i (Nat.le_refl _) hi (Nat.le_refl _) (by omega)).symm
theorem ty_fold_new {α : Type} {z : α} {g : Int32 → α → α → α} {T : Nat → Int32 × Int32 × Int32} {n : Nat} {q : Int32 × Int32 × Int32} (hw : ty_wf T n) (hn : n < 2 ^ 31) (h1 : ty_in n q.2.1) (h2 : ty_in n q.2.2) : ty_fold z g (ty_add T n q) (n + 1) (nI n) = g q.1 (ty_fold z g T n q.2.1) (ty_fold z g T n q.2.2) := by
  simp only [ty_fold, if_neg (nI_ne_m1 hn), nI_clamp hn, ty_add_eq]
  rw [← ty_fold_eq hw (fun j hj => ty_add_lt (q := q) hj) hn n n n q.2.1 (Nat.le_refl _) h1 (Nat.le_refl _) (Nat.le_refl _), ← ty_fold_eq hw (fun j hj => ty_add_lt (q := q) hj) hn n n n q.2.2 (Nat.le_refl _) h2 (Nat.le_refl _) (Nat.le_refl _)]
theorem ty_last_congr {T T' : Nat → Int32 × Int32 × Int32} {b : Int32} : ∀ {n : Nat}, (∀ j, j < n → T' j = T j) → ty_last T' b n = ty_last T b n
  | 0, _ => rfl
  | n + 1, h => by
    simp only [ty_last, h n (Nat.lt_succ_self n)]
    rw [ty_last_congr (n := n) (fun j hj => h j (by omega))]
section TY3
variable {sa : Nat → Nat} {B : Nat} {ρ : hp_L} {P : hp_P} {n : Nat} {T : Nat → Int32 × Int32 × Int32}
/-- TraceJudge.partOf -/
theorem ty_part {r f d : Nat} {i : Int32} {v : Nat → Int32} {m : Nat} (w : hp_w B ρ) (hr : r ∈ hp_rs) (hi : ty_in m i) (hm : m ≤ (P.2 r).1) (hm2 : m < 2 ^ 31) :
    am_call B sa am_dfl am_tb (f + 1) (d + 1) 119 [.ref (ρ.2.1 r), .int i] (hp_S sa ρ P) = some (some (.int (if i = -1 then 0 else (P.2 r).2 i.toNatClampNeg)), hp_S sa ρ P) := by
  rw [am_c_119, am_s119_0]
  rcases hi with rfl | ⟨a, ha, rfl⟩
  · simp only [am_c_ne, ne_eq, not_true_eq_false, if_false, if_true]
  · have hne := nI_ne_m1 (show a < 2 ^ 31 by omega)
    simp only [am_c_ne, ne_eq, hne, not_false_eq_true, if_true, if_false, hp_iald w hr, hp_rd_nI (show a < (P.2 r).1 by omega) (show a < 2 ^ 31 by omega), Option.bind_some, nI_clamp (show a < 2 ^ 31 by omega)]
/-- the roles of the table of types -/
def ty_S : Nat → Bool := fun r => decide (700 ≤ r ∧ r ≤ 708)
/-- the state behind the stores of append -/
def ty_P (P : hp_P) (n : Nat) (q : Int32 × Int32 × Int32) (s t : Int32) : hp_P :=
  hp_sI (hp_sA (hp_sA (hp_sA (hp_sA (hp_sA (hp_sA (hp_sA P 700 (nI n) q.1) 701 (nI n) q.2.1) 702 (nI n) q.2.2) 703 (nI n) s) 704 (nI n) t) 705 (nI n) ((P.2 707).2 (ty_bk q).toNatClampNeg)) 707 (ty_bk q) (nI n)) 708 (nI (n + 1))
set_option maxRecDepth 8000 in
theorem ty_app_tail {cl : am_F} {f len : Nat} (w : hp_w B ρ) (h : ty_ok P n T) (hlen : (P.2 700).1 = len) (hnl : n < len) (q : Int32 × Int32 × Int32) (s t : Int32) :
    am_go B sa am_dfl cl am_r5 (f + 1) 185 [(0, .ref (ρ.1 7)), (1, .int (ty_bk q)), (2, .int q.1), (3, .int q.2.1), (4, .int q.2.2), (5, .int s), (6, .int t)] [] (hp_S sa ρ P) = some (some (.int (nI n)), hp_S sa ρ (ty_P P n q s t)) := by
  obtain ⟨⟨hn, hn8⟩, ⟨len', hl1, hl2, l0, l1, l2, l3, l4, l5, l6⟩, l7, hrow, hhd⟩ := h
  obtain rfl : len' = len := l0.symm.trans hlen
  obtain ⟨b, hb, hbe⟩ := ty_bk_in q
  have hn31 : n < 2 ^ 31 := by omega
  have hb31 : b < 2 ^ 31 := by omega
  rw [am_s5_185]
  have c : ∀ {P' : hp_P} {r : Nat}, n < (P'.2 r).1 → hp_ck P' r (nI n) = some () := fun hh => hp_ck_nI hh hn31
  have hsub : nI (n + 1) - 1 = nI n := nI_pred n
  have hadd : nI n + 1 = nI (n + 1) := nI_1 n
  rw [hbe]
  have c0 : hp_ck P 700 (nI n) = some () := c (by omega)
  have c1 : hp_ck (hp_sA P 700 (nI n) q.1) 701 (nI n) = some () := c (by simp only [hA_len]; omega)
  have c2 : hp_ck (hp_sA (hp_sA P 700 (nI n) q.1) 701 (nI n) q.2.1) 702 (nI n) = some () := c (by simp only [hA_len]; omega)
  have c3 : hp_ck (hp_sA (hp_sA (hp_sA P 700 (nI n) q.1) 701 (nI n) q.2.1) 702 (nI n) q.2.2) 703 (nI n) = some () := c (by simp only [hA_len]; omega)
  have c4 : hp_ck (hp_sA (hp_sA (hp_sA (hp_sA P 700 (nI n) q.1) 701 (nI n) q.2.1) 702 (nI n) q.2.2) 703 (nI n) s) 704 (nI n) = some () := c (by simp only [hA_len]; omega)
  have c5 : ∀ x, hp_ck (hp_sA (hp_sA (hp_sA (hp_sA (hp_sA P 700 (nI n) q.1) 701 (nI n) q.2.1) 702 (nI n) q.2.2) 703 (nI n) s) 704 (nI n) x) 705 (nI n) = some () := fun x => c (by simp only [hA_len]; omega)
  have r7 : hp_rd (hp_sA (hp_sA (hp_sA (hp_sA (hp_sA P 700 (nI n) q.1) 701 (nI n) q.2.1) 702 (nI n) q.2.2) 703 (nI n) s) 704 (nI n) t) 707 (nI b) = some ((P.2 707).2 b) := by
    rw [hp_rd_nI (by simp only [hA_len]; omega) hb31]
    simp only [hA_ne (show (707 : Nat) ≠ 704 by decide), hA_ne (show (707 : Nat) ≠ 703 by decide), hA_ne (show (707 : Nat) ≠ 702 by decide), hA_ne (show (707 : Nat) ≠ 701 by decide), hA_ne (show (707 : Nat) ≠ 700 by decide)]
  have c7 : ∀ x, hp_ck (hp_sA (hp_sA (hp_sA (hp_sA (hp_sA (hp_sA P 700 (nI n) q.1) 701 (nI n) q.2.1) 702 (nI n) q.2.2) 703 (nI n) s) 704 (nI n) t) 705 (nI n) x) 707 (nI b) = some () := fun x => hp_ck_nI (by simp only [hA_len]; omega) hb31
  simp only [hg_708 w, hr_700 w, hr_701 w, hr_702 w, hr_703 w, hr_704 w, hr_705 w, hr_707 w, ht_700 w, ht_701 w, ht_702 w, ht_703 w, ht_704 w, ht_705 w, ht_707 w, hl_707 w, hs_708 w, Option.bind_some, hA_I, hI_eq, hn, c0, c1, c2, c3, c4, c5, r7, c7, hadd, hsub]
  unfold ty_P
  rw [hbe, nI_clamp hb31]
theorem ty_S_t {r : Nat} (h : 700 ≤ r ∧ r ≤ 708) : ty_S r = true := decide_eq_true h
theorem ty_P_fr {q : Int32 × Int32 × Int32} {s t : Int32} : hp_fr ty_S 0 ρ P ρ (ty_P P n q s t) := by
  unfold ty_P
  refine hp_fr.tr0 ?_ (hp_fr.sI (ty_S_t (by decide)))
  refine hp_fr.tr0 ?_ (hp_fr.sA (ty_S_t (by decide)))
  refine hp_fr.tr0 ?_ (hp_fr.sA (ty_S_t (by decide)))
  refine hp_fr.tr0 ?_ (hp_fr.sA (ty_S_t (by decide)))
  refine hp_fr.tr0 ?_ (hp_fr.sA (ty_S_t (by decide)))
  refine hp_fr.tr0 ?_ (hp_fr.sA (ty_S_t (by decide)))
  refine hp_fr.tr0 ?_ (hp_fr.sA (ty_S_t (by decide)))
  exact hp_fr.sA (ty_S_t (by decide))
theorem ty_P_len {q : Int32 × Int32 × Int32} {s t : Int32} {r : Nat} : ((ty_P P n q s t).2 r).1 = (P.2 r).1 := by
  unfold ty_P
  simp only [hI_A, hA_len]
theorem ty_P_at {q : Int32 × Int32 × Int32} {s t : Int32} (hn : n < 2 ^ 31) : ((ty_P P n q s t).2 700).2 = upd (P.2 700).2 n q.1 ∧ ((ty_P P n q s t).2 701).2 = upd (P.2 701).2 n q.2.1 ∧ ((ty_P P n q s t).2 702).2 = upd (P.2 702).2 n q.2.2 ∧ ((ty_P P n q s t).2 703).2 = upd (P.2 703).2 n s ∧ ((ty_P P n q s t).2 704).2 = upd (P.2 704).2 n t ∧ ((ty_P P n q s t).2 705).2 = upd (P.2 705).2 n ((P.2 707).2 (ty_bk q).toNatClampNeg) ∧ ((ty_P P n q s t).2 707).2 = upd (P.2 707).2 (ty_bk q).toNatClampNeg (nI n) ∧ (ty_P P n q s t).2 706 = P.2 706 := by
  unfold ty_P
  simp only [hI_A]
  refine ⟨?_, ?_, ?_, ?_, ?_, ?_, ?_, ?_⟩
  · rw [hA_ne (by decide), hA_ne (by decide), hA_ne (by decide), hA_ne (by decide), hA_ne (by decide), hA_ne (by decide), hA_eq, nI_clamp hn]
  · rw [hA_ne (by decide), hA_ne (by decide), hA_ne (by decide), hA_ne (by decide), hA_ne (by decide), hA_eq, nI_clamp hn, hA_ne (by decide)]
  · rw [hA_ne (by decide), hA_ne (by decide), hA_ne (by decide), hA_ne (by decide), hA_eq, nI_clamp hn, hA_ne (by decide), hA_ne (by decide)]
  · rw [hA_ne (by decide), hA_ne (by decide), hA_ne (by decide), hA_eq, nI_clamp hn, hA_ne (by decide), hA_ne (by decide), hA_ne (by decide)]
  · rw [hA_ne (by decide), hA_ne (by decide), hA_eq, nI_clamp hn, hA_ne (by decide), hA_ne (by decide), hA_ne (by decide), hA_ne (by decide)]
  · rw [hA_ne (by decide), hA_eq, nI_clamp hn, hA_ne (by decide), hA_ne (by decide), hA_ne (by decide), hA_ne (by decide), hA_ne (by decide)]
  · rw [hA_eq, hA_ne (by decide), hA_ne (by decide), hA_ne (by decide), hA_ne (by decide), hA_ne (by decide), hA_ne (by decide)]
  · rw [hA_ne (by decide), hA_ne (by decide), hA_ne (by decide), hA_ne (by decide), hA_ne (by decide), hA_ne (by decide), hA_ne (by decide)]
/-- behind the stores the table has one type more -/
theorem ty_P_ok {q : Int32 × Int32 × Int32} {len : Nat} (h : ty_okk P n T) (hlen : (P.2 700).1 = len) (hnl : n < len) (hn8 : n < 8000) (h1 : ty_in n q.2.1) (h2 : ty_in n q.2.2) (hs : 1 + ty_sz T n q.2.1 + ty_sz T n q.2.2 ≤ 200) (ht : 1 + max (ty_ht T n q.2.1) (ty_ht T n q.2.2) ≤ 24) :
    ty_okk (ty_P P n q (nI (1 + ty_sz T n q.2.1 + ty_sz T n q.2.2)) (nI (1 + max (ty_ht T n q.2.1) (ty_ht T n q.2.2)))) (n + 1) (ty_add T n q) := by
  obtain ⟨⟨⟨hn, -⟩, ⟨len', hl1, hl2, l0, l1, l2, l3, l4, l5, l6⟩, l7, hrow, hhd⟩, hwf, hsz⟩ := h
  obtain rfl : len' = len := l0.symm.trans hlen
  have hn31 : n < 2 ^ 31 := by omega
  obtain ⟨b, hb, hbe⟩ := ty_bk_in q
  have hbc : (ty_bk q).toNatClampNeg = b := by rw [hbe, nI_clamp (by omega)]
  obtain ⟨p0, p1, p2, p3, p4, p5, p7, p6⟩ := ty_P_at (P := P) (q := q) (s := nI (1 + ty_sz T n q.2.1 + ty_sz T n q.2.2)) (t := nI (1 + max (ty_ht T n q.2.1) (ty_ht T n q.2.2))) hn31
  refine ⟨⟨⟨?_, by omega⟩, ⟨len', by omega, hl2, ?_, ?_, ?_, ?_, ?_, ?_, ?_⟩, ?_, fun j hj => ?_, fun b' hb' => ?_⟩, ty_wf_add hwf h1 h2, fun j hj => ?_⟩
  · unfold ty_P
    rw [hI_eq]
  · rw [ty_P_len]; exact l0
  · rw [ty_P_len]; exact l1
  · rw [ty_P_len]; exact l2
  · rw [ty_P_len]; exact l3
  · rw [ty_P_len]; exact l4
  · rw [ty_P_len]; exact l5
  · rw [ty_P_len]; exact l6
  · rw [ty_P_len]; exact l7
  · rw [p0, p1, p2, p5]
    by_cases e : j = n
    · rw [e, pk_us, pk_us, pk_us, pk_us, ty_add_eq, hbc, hhd b hb, ← hbe]
      exact ⟨rfl, rfl, rfl, (ty_last_congr fun j hj => ty_add_lt hj).symm⟩
    · obtain ⟨e0, e1, e2, e5⟩ := hrow j (by omega)
      rw [pk_un e, pk_un e, pk_un e, pk_un e, ty_add_lt (by omega)]
      exact ⟨e0, e1, e2, by rw [e5]; exact (ty_last_congr fun i hi => ty_add_lt (by omega)).symm⟩
  · rw [p7, hbc]
    simp only [ty_last, ty_add_eq]
    by_cases e : b' = b
    · rw [e, pk_us, if_pos hbe]
    · have hne : ¬ ty_bk q = nI b' := fun z => e ((nI_eq (by omega) (by omega)).mp (z.symm.trans hbe))
      rw [pk_un e, if_neg hne, hhd b' hb']
      exact (ty_last_congr fun j hj => ty_add_lt hj).symm
  · rw [p3, p4]
    unfold ty_sz ty_ht
    by_cases e : j = n
    · rw [e, pk_us, pk_us, ty_fold_new hwf hn31 h1 h2, ty_fold_new hwf hn31 h1 h2]
      exact ⟨rfl, rfl, hs, ht⟩
    · have hj' : j < n := by omega
      rw [pk_un e, pk_un e, ty_fold_old hwf hn31 (Or.inr ⟨j, hj', rfl⟩), ty_fold_old hwf hn31 (Or.inr ⟨j, hj', rfl⟩)]
      exact hsz j hj'
end TY3
