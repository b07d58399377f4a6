/-! TYPES of the class, 7: shorten, isFunction, answerOf, unmark, mark, imageOf -/
theorem i_m1 : Int32.ofInt (-1) = -1 := rfl
theorem i_addm1 (x : Int32) : x + Int32.ofInt (-1) = x - 1 := by
  rw [i_m1]
  apply Int32.toBitVec_inj.mp
  rw [Int32.toBitVec_add, Int32.toBitVec_sub]
  show x.toBitVec + (-1#32) = x.toBitVec - 1#32
  rw [BitVec.sub_eq_add_neg]
theorem nI_m1_lt {k m : Nat} (hk : k < 2 ^ 31) (hm : m < 2 ^ 31) : (nI k - 1 < nI m) = (k ≤ m) := by
  cases k with
  | zero =>
    rw [nI_0]
    refine propext ⟨fun _ => Nat.zero_le _, fun _ => ?_⟩
    have h0 : (0 : Int32) - 1 < 0 := by decide
    exact Int32.lt_of_lt_of_le h0 (nI_pos' hm)
  | succ k =>
    rw [nI_pred]
    exact propext ((nI_ltI (by omega) hm).trans (by omega))
section TY7
variable {sa : Nat → Nat} {B : Nat} {ρ : hp_L} {P : hp_P} {n : Nat} {T : Nat → Int32 × Int32 × Int32}
/-- a table of n with the heads of a table of k -/
def ty_mid (P : hp_P) (n k : Nat) (T : Nat → Int32 × Int32 × Int32) : Prop :=
  (P.1 708 = nI n ∧ n ≤ 8000) ∧ (∃ len, n ≤ len ∧ len ≤ 16384 ∧ (P.2 700).1 = len ∧ (P.2 701).1 = len ∧ (P.2 702).1 = len ∧ (P.2 703).1 = len ∧ (P.2 704).1 = len ∧ (P.2 705).1 = len ∧ (P.2 706).1 = len) ∧ (P.2 707).1 = 1024 ∧
  (∀ j, j < n → (P.2 700).2 j = (T j).1 ∧ (P.2 701).2 j = (T j).2.1 ∧ (P.2 702).2 j = (T j).2.2 ∧ (P.2 705).2 j = ty_last T (ty_bk (T j)) j) ∧ ∀ b, b < 1024 → (P.2 707).2 b = ty_last T (nI b) k
/-- the loop of shorten -/
theorem ty_shorten_loop {f0 d m : Nat} (w : hp_w B ρ) (hmn : m ≤ n) (hn8 : n ≤ 8000) : ∀ (j f : Nat) (P : hp_P), ty_mid P n (m + j) T → m + j ≤ n → j + 1 ≤ f →
    ∃ P', am_go B sa am_dfl (am_call B sa am_dfl am_tb (f0 + 1) (d + 1)) am_r7 f 7 [(0, .ref (ρ.1 7)), (1, .int (nI m)), (2, .int (nI (m + j) - 1))] [] (hp_S sa ρ P) = some (none, hp_S sa ρ (hp_sI P' 708 (nI m))) ∧ ty_mid P' n m T ∧ P'.1 = P.1 ∧ (∀ r, r ≠ 707 → P'.2 r = P.2 r) ∧ hp_fr ty_S 0 ρ P ρ P' := by
  intro j
  induction j with
  | zero =>
    intro f P h _ hf
    obtain ⟨f, rfl⟩ : ∃ g, f = g + 1 := ⟨f - 1, by omega⟩
    refine ⟨P, ?_, h, rfl, fun _ _ => rfl, hp_fr.rf⟩
    have hmin : (if nI m < nI n then nI m else nI n) = nI m := by
      by_cases e : m < n
      · rw [if_pos (nI_lt e (by omega))]
      · rw [if_neg (nI_nlt (by omega) (by omega)), show n = m by omega]
    rw [am_s7_7]
    simp only [am_c_lt, Nat.add_zero, nI_m1_lt (show m < 2 ^ 31 by omega) (show m < 2 ^ 31 by omega), Nat.le_refl, if_true, hg_708 w, Option.bind_some, h.1.1, hmin, hs_708 w]
  | succ j ih =>
    intro f P h hj hf
    obtain ⟨f, rfl⟩ : ∃ g, f = g + 1 := ⟨f - 1, by omega⟩
    obtain ⟨⟨hn, -⟩, ⟨len, hl1, hl2, l0, l1, l2, l3, l4, l5, l6⟩, l7, hrow, hhd⟩ := h
    obtain ⟨e0, e1, e2, e5⟩ := hrow (m + j) (by omega)
    obtain ⟨b, hb, hbe⟩ := ty_bk_in (T (m + j))
    have k31 : m + j < 2 ^ 31 := by omega
    have r0 : hp_rd P 700 (nI (m + j)) = some (T (m + j)).1 := by rw [hp_rd_nI (by omega) k31, e0]
    have r1 : hp_rd P 701 (nI (m + j)) = some (T (m + j)).2.1 := by rw [hp_rd_nI (by omega) k31, e1]
    have r2 : hp_rd P 702 (nI (m + j)) = some (T (m + j)).2.2 := by rw [hp_rd_nI (by omega) k31, e2]
    have r5 : hp_rd P 705 (nI (m + j)) = some (ty_last T (ty_bk (T (m + j))) (m + j)) := by rw [hp_rd_nI (by omega) k31, e5]
    have c7 : hp_ck P 707 (ty_bk (T (m + j))) = some () := by rw [hbe]; exact hp_ck_nI (by omega) (by omega)
    have hle : ¬ (m + (j + 1) ≤ m) := by omega
    have hnext : ty_mid (hp_sA P 707 (ty_bk (T (m + j))) (ty_last T (ty_bk (T (m + j))) (m + j))) n (m + j) T := by
      have o : ∀ r, r ≠ 707 → (hp_sA P 707 (ty_bk (T (m + j))) (ty_last T (ty_bk (T (m + j))) (m + j))).2 r = P.2 r := fun r hr => hA_ne hr
      refine ⟨⟨hn, hn8⟩, ⟨len, hl1, hl2, ?_, ?_, ?_, ?_, ?_, ?_, ?_⟩, by rw [hA_len]; exact l7, fun i hi => ?_, fun b' hb' => ?_⟩
      · rw [hA_len]; exact l0
      · rw [hA_len]; exact l1
      · rw [hA_len]; exact l2
      · rw [hA_len]; exact l3
      · rw [hA_len]; exact l4
      · rw [hA_len]; exact l5
      · rw [hA_len]; exact l6
      · rw [o 700 (by decide), o 701 (by decide), o 702 (by decide), o 705 (by decide)]
        exact hrow i hi
      · rw [hA_eq]
        show upd (P.2 707).2 (ty_bk (T (m + j))).toNatClampNeg _ b' = _
        rw [hbe, nI_clamp (by omega)]
        by_cases e : b' = b
        · rw [e, pk_us]
        · rw [pk_un e, hhd b' hb']
          have hne : ¬ ty_bk (T (m + j)) = nI b' := fun z => e ((nI_eq (by omega) (by omega)).mp (z.symm.trans hbe))
          exact if_neg hne
    obtain ⟨P', i1, i2, i3, i4, i5⟩ := ih f _ hnext (by omega) (by omega)
    refine ⟨P', ?_, i2, i3, fun r hr => (i4 r hr).trans (hA_ne hr), hp_fr.tr0 (hp_fr.sA (ty_S_t (by decide))) i5⟩
    rw [am_s7_7]
    rw [show m + (j + 1) = m + j + 1 from rfl, nI_pred]
    have hlt : (nI (m + j) < nI m) = False := eq_false (nI_nlt (by omega) (by omega))
    simp only [am_c_lt, hlt, if_false, hr_700 w, hr_701 w, hr_702 w, hr_705 w, hr_707 w, hl_700 w, hl_701 w, hl_702 w, hl_705 w, ht_707 w, Option.bind_some, r0, r1, r2, r5, ty_bucket (f := f0) (d := d), am_i_some, c7, i_addm1]
    exact i1
/-- Types.shorten -/
theorem ty_shorten {f d m : Nat} (w : hp_w B ρ) (h : ty_okk P n T) (hm : m ≤ n) (hf : 10000 ≤ f) :
    ∃ P', am_call B sa am_dfl am_tb f (d + 2) 7 [.ref (ρ.1 7), .int (nI m)] (hp_S sa ρ P) = some (none, hp_S sa ρ P') ∧ ty_okk P' m T ∧ hp_fr ty_S 0 ρ P ρ P' ∧ ∀ r, r ≠ 707 → P'.2 r = P.2 r := by
  obtain ⟨f, rfl⟩ : ∃ g, f = g + 1 := ⟨f - 1, by omega⟩
  obtain ⟨⟨⟨hn, hn8⟩, hlen, l7, hrow, hhd⟩, hwf, hsz⟩ := h
  obtain ⟨P', i1, i2, i3, i4, i5⟩ := ty_shorten_loop (sa := sa) (f0 := f) (d := d) (m := m) (n := n) (T := T) w hm hn8 (n - m) f P (by rw [show m + (n - m) = n by omega]; exact ⟨⟨hn, hn8⟩, hlen, l7, hrow, hhd⟩) (by omega) (by omega)
  rw [show m + (n - m) = n by omega] at i1
  refine ⟨hp_sI P' 708 (nI m), ?_, ⟨⟨⟨hI_eq, by omega⟩, ?_, i2.2.2.1, fun j hj => i2.2.2.2.1 j (by omega), i2.2.2.2.2⟩, fun j hj => hwf j (by omega), fun j hj => ?_⟩, hp_fr.tr0 i5 (hp_fr.sI (ty_S_t (by decide))), i4⟩
  · rw [am_c_7, am_s7_0]
    simp only [hg_708 w, Option.bind_some, hn]
    exact i1
  · obtain ⟨len, a1, a2, a3⟩ := i2.2.1
    exact ⟨len, by omega, a2, a3⟩
  · have e1 : ty_sz T m (nI j) = ty_sz T n (nI j) := (ty_fold_eq (fun j hj => hwf j (by omega)) (fun _ _ => rfl) (by omega) m m n (nI j) (Nat.le_refl _) (Or.inr ⟨j, hj, rfl⟩) (Nat.le_refl _) hm)
    have e2 : ty_ht T m (nI j) = ty_ht T n (nI j) := (ty_fold_eq (fun j hj => hwf j (by omega)) (fun _ _ => rfl) (by omega) m m n (nI j) (Nat.le_refl _) (Or.inr ⟨j, hj, rfl⟩) (Nat.le_refl _) hm)
    rw [e1, e2]
    show (P'.2 703).2 j = _ ∧ (P'.2 704).2 j = _ ∧ _
    rw [i4 703 (by decide), i4 704 (by decide)]
    exact hsz j (by omega)
end TY7
