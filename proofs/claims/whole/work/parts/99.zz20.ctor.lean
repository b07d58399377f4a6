/-! CONSTRUCTORS, 9: the class, made, is what stands at first -/
def io_T : Nat → Int32 × Int32 × Int32 := fun j => (aT5 0 j, aT5 1 j, aT5 2 j)
theorem io_T0 : io_T 0 = (-1, -1, -1) := by decide +kernel
theorem io_T1 : io_T 1 = (0, -1, -1) := by decide +kernel
theorem io_T2 : io_T 2 = (2, nI 0, nI 1) := by decide +kernel
theorem io_T3 : io_T 3 = (2, nI 0, nI 2) := by decide +kernel
theorem io_T4 : io_T 4 = (2, nI 2, nI 0) := by decide +kernel
theorem io_5 {j : Nat} (h : j < 5) : j = 0 ∨ j = 1 ∨ j = 2 ∨ j = 3 ∨ j = 4 := by omega
theorem io_wf : ty_wf io_T 5 := fun j hj => by
  rcases io_5 hj with rfl | rfl | rfl | rfl | rfl
  · rw [io_T0]; exact ⟨Or.inl rfl, Or.inl rfl⟩
  · rw [io_T1]; exact ⟨Or.inl rfl, Or.inl rfl⟩
  · rw [io_T2]; exact ⟨Or.inr ⟨0, by decide, rfl⟩, Or.inr ⟨1, by decide, rfl⟩⟩
  · rw [io_T3]; exact ⟨Or.inr ⟨0, by decide, rfl⟩, Or.inr ⟨2, by decide, rfl⟩⟩
  · rw [io_T4]; exact ⟨Or.inr ⟨2, by decide, rfl⟩, Or.inr ⟨0, by decide, rfl⟩⟩
theorem io_di0 : ∀ i, i < 5 → ∀ j, j < 5 → i < j → io_T i ≠ io_T j := by decide +kernel
theorem io_di : ty_di io_T 5 := fun i j h1 h2 => io_di0 i (by omega) j h2 h1
theorem io_rows : ∀ j, j < 5 → (ia0 700).2 j = (io_T j).1 ∧ (ia0 701).2 j = (io_T j).2.1 ∧ (ia0 702).2 j = (io_T j).2.2 ∧ (ia0 705).2 j = ty_last io_T (ty_bk (io_T j)) j := by decide +kernel
theorem io_szs : ∀ j, j < 5 → (ia0 703).2 j = nI (ty_sz io_T 5 (nI j)) ∧ (ia0 704).2 j = nI (ty_ht io_T 5 (nI j)) ∧ ty_sz io_T 5 (nI j) ≤ 200 ∧ ty_ht io_T 5 (nI j) ≤ 24 := by decide +kernel
theorem io_bk0 : ty_bk (io_T 0) = nI 641 := by decide +kernel
theorem io_bk1 : ty_bk (io_T 1) = nI 964 := by decide +kernel
theorem io_bk2 : ty_bk (io_T 2) = nI 217 := by decide +kernel
theorem io_bk3 : ty_bk (io_T 3) = nI 350 := by decide +kernel
theorem io_bk4 : ty_bk (io_T 4) = nI 665 := by decide +kernel
theorem io_heads : ∀ b, b < 1024 → aT5 7 b = ty_last io_T (nI b) 5 := fun b hb => by
  have e : aT5 7 b = if b = 665 then nI 4 else if b = 350 then nI 3 else if b = 217 then nI 2 else if b = 964 then nI 1 else if b = 641 then nI 0 else if b < 1024 then -1 else 0 := rfl
  have q : ∀ x : Nat, x < 1024 → (b = x ↔ nI x = nI b) := fun x hx => ((nI_eq (by omega) (by omega)).trans eq_comm).symm
  rw [e, if_pos hb]
  show _ = if ty_bk (io_T 4) = nI b then nI 4 else if ty_bk (io_T 3) = nI b then nI 3 else if ty_bk (io_T 2) = nI b then nI 2 else if ty_bk (io_T 1) = nI b then nI 1 else if ty_bk (io_T 0) = nI b then nI 0 else -1
  rw [io_bk0, io_bk1, io_bk2, io_bk3, io_bk4]
  exact ite_congr (propext (q 665 (by decide))) (fun _ => rfl) (fun _ => ite_congr (propext (q 350 (by decide))) (fun _ => rfl) (fun _ => ite_congr (propext (q 217 (by decide))) (fun _ => rfl) (fun _ => ite_congr (propext (q 964 (by decide))) (fun _ => rfl) (fun _ => ite_congr (propext (q 641 (by decide))) (fun _ => rfl) (fun _ => rfl)))))
theorem io_tyJ : tyJ ip0 5 io_T := by
  refine ⟨⟨⟨⟨⟨rfl, by decide⟩, ⟨64, by decide, by decide, rfl, rfl, rfl, rfl, rfl, rfl, rfl⟩, rfl, io_rows, io_heads⟩, io_wf, io_szs⟩, io_di, by decide⟩, by decide, io_T0, io_T1⟩
theorem io_c0 : ct io_T 5 (nI 0) = qA := by
  rw [ct_at io_wf (by decide) (by decide), io_T0]
  show qN (-1) (ct io_T 5 (-1)) (ct io_T 5 (-1)) = _
  rw [ct_m1]; rfl
theorem io_c1 : ct io_T 5 (nI 1) = qB := by
  rw [ct_at io_wf (by decide) (by decide), io_T1]
  show qN 0 (ct io_T 5 (-1)) (ct io_T 5 (-1)) = _
  rw [ct_m1]; rfl
theorem io_c2 : ct io_T 5 (nI 2) = io_2 := by
  rw [ct_at io_wf (by decide) (by decide), io_T2]
  show qN 2 (ct io_T 5 (nI 0)) (ct io_T 5 (nI 1)) = _
  rw [io_c0, io_c1]; rfl
theorem io_c3 : ct io_T 5 (nI 3) = io_3 := by
  rw [ct_at io_wf (by decide) (by decide), io_T3]
  show qN 2 (ct io_T 5 (nI 0)) (ct io_T 5 (nI 2)) = _
  rw [io_c0, io_c2]; rfl
theorem io_c4 : ct io_T 5 (nI 4) = io_4 := by
  rw [ct_at io_wf (by decide) (by decide), io_T4]
  show qN 2 (ct io_T 5 (nI 2)) (ct io_T 5 (nI 0)) = _
  rw [io_c2, io_c0]; rfl
theorem io_ct : ct_S io_T 5 = io_S := by
  funext t
  refine propext ⟨fun ⟨i, hi, e⟩ => ?_, fun ht => ?_⟩
  · rw [← e]
    rcases io_5 hi with rfl | rfl | rfl | rfl | rfl
    · exact Or.inl io_c0
    · exact Or.inr (Or.inl io_c1)
    · exact Or.inr (Or.inr (Or.inl io_c2))
    · exact Or.inr (Or.inr (Or.inr (Or.inl io_c3)))
    · exact Or.inr (Or.inr (Or.inr (Or.inr io_c4)))
  · rcases ht with rfl | rfl | rfl | rfl | rfl
    · exact ⟨0, by decide, io_c0⟩
    · exact ⟨1, by decide, io_c1⟩
    · exact ⟨2, by decide, io_c2⟩
    · exact ⟨3, by decide, io_c3⟩
    · exact ⟨4, by decide, io_c4⟩
/-- the static rows -/
def st_c : Nat → Option am_C := fun j => match j with
  | 0 => some (.inl (ax_F0.length, fun i => nI ((ax_F0[i]?).getD 0)))
  | 1 => some (.inl (23, fun i => nI ((el_T[i]?).getD 0)))
  | 2 => some (.inl (ax_F1.length, fun i => nI ((ax_F1[i]?).getD 0)))
  | 3 => some (.inl (ax_F2.length, fun i => nI ((ax_F2[i]?).getD 0)))
  | 4 => some (.inl (5, fun i => nI ((([1, 1, 5, 1, 6] : List Nat)[i]?).getD 0)))
  | _ => none
def io_C : sC := ([], [], 0, fun _ => (5, 0, 0), [0, 0, 2], [io_3, io_4], [], [])
section IOC
variable {n0 k B : Nat} {sa : Nat → Nat} {h0 : Nat → Option am_C}
theorem io_cI (hB : B ≤ n0) : cI B io_C (rho0 n0 h0 k) ip0 5 io_T := by
  refine ⟨rho0_w hB, ⟨⟨rfl, by decide, by decide, by decide, fun j t hj => (by cases hj)⟩, ⟨rfl, ⟨64, by decide, by decide, by decide, fun r a b => ?_⟩, fun j M hj => (by cases hj)⟩, rfl, rfl⟩, ⟨⟨rfl, by decide, by decide, rfl, fun c x hc => ?_⟩, rfl, by decide, by decide, rfl, fun c t hc => ?_⟩, ⟨rfl, rfl, by decide, by decide, ⟨64, by decide, by decide, by decide, fun r a b => ?_⟩, fun j hj => ?_⟩, ⟨rfl, fun M hM => (by cases hM)⟩, io_tyJ, ⟨rfl, ⟨64, by decide, by decide, rfl, rfl, by decide⟩, fun j s hs => (by cases hs), ⟨rfl, by decide, by decide, by decide, fun j hj => ?_⟩, ⟨rfl, rfl⟩, by decide, by decide, fun r hr => (by cases hr)⟩, fun s hs => (by cases hs)⟩
  · have e : r = 104 ∨ r = 105 ∨ r = 106 ∨ r = 107 ∨ r = 108 ∨ r = 109 ∨ r = 110 := by omega
    rcases e with rfl | rfl | rfl | rfl | rfl | rfl | rfl <;> rfl
  · match c, hc with
    | 0, hc => cases hc; exact ⟨rfl, by decide⟩
    | 1, hc => cases hc; exact ⟨rfl, by decide⟩
    | 2, hc => cases hc; exact ⟨rfl, by decide⟩
    | c + 3, hc => cases hc
  · match c, hc with
    | 0, hc => cases hc; exact ⟨3, by decide, rfl, io_c3⟩
    | 1, hc => cases hc; exact ⟨4, by decide, rfl, io_c4⟩
    | c + 2, hc => cases hc
  · have e : r = 405 ∨ r = 406 ∨ r = 407 ∨ r = 408 := by omega
    rcases e with rfl | rfl | rfl | rfl <;> rfl
  · have e : j = 0 := Nat.le_zero.mp hj
    subst e
    exact ⟨rfl, rfl, rfl, rfl⟩
  · have e : j = 0 := Nat.le_zero.mp hj
    subst e
    rfl
theorem io_jk (hz : ∀ j c, st_c j = some c → sa j < n0 ∧ h0 (sa j) = some c) {j : Nat} {c : am_C} (h : st_c j = some c) : hp_jk (rho0 n0 h0 k) (sa j) c := by
  obtain ⟨h1, h2⟩ := hz j c h
  refine ⟨fun x _ e => ?_, fun r _ e => ?_, ?_⟩
  · have : n0 + ixo x = sa j := e
    omega
  · have : n0 + ixa r = sa j := e
    omega
  · show (if sa j < n0 then h0 (sa j) else none) = _
    rw [if_pos h1, h2]
theorem io_tI (hB : B ≤ n0) (hz : ∀ j c, st_c j = some c → sa j < n0 ∧ h0 (sa j) = some c) : tI B sa io_S io_A [] (-1) (rho0 n0 h0 k) ip0 := by
  refine ⟨io_C, 5, io_T, io_cI hB, rfl, ⟨io_ct.symm, fun j _ hj => ⟨⟨Nat.le_of_ble_eq_true rfl, Nat.le_of_ble_eq_true rfl⟩, ?_⟩⟩, ⟨⟨io_jk hz rfl, io_jk hz rfl, io_jk hz rfl, io_jk hz rfl⟩, io_jk hz rfl, rfl, rfl⟩, ⟨rfl, by decide, by decide, by decide, fun j x hj => (by cases hj)⟩, rfl⟩
  show (io_S, 0, 0) = (ct_S io_T 5, 0, 0)
  rw [io_ct]
end IOC
