/-! TYPES of the class, 11: makeImages -/
def ty_imv (I : Nat → Int32) (i : Int32) : Int32 := if i = -1 then -1 else I i.toNatClampNeg
def ty_updI (I : Nat → Int32) (k : Nat) (v : Int32) : Nat → Int32 := fun i => if i = k then v else I i
/-- what makeImages makes of a table, from place k on, j places: whether all went, the table, the images -/
noncomputable def ty_mi (T0 : Nat → Int32 × Int32 × Int32) : Nat → Nat → Nat → (Nat → Int32 × Int32 × Int32) → (Nat → Int32) → Bool × Nat × (Nat → Int32 × Int32 × Int32) × (Nat → Int32)
  | 0, _, n, T, I => (true, n, T, I)
  | j + 1, k, n, T, I => if I k = -1 ∨ (T0 k).2.1 = -1 then ty_mi T0 j (k + 1) n T I
    else if (ty_mk T n ((T0 k).1, ty_imv I (T0 k).2.1, ty_imv I (T0 k).2.2)).1 = -2 then (false, (ty_mk T n ((T0 k).1, ty_imv I (T0 k).2.1, ty_imv I (T0 k).2.2)).2.1, (ty_mk T n ((T0 k).1, ty_imv I (T0 k).2.1, ty_imv I (T0 k).2.2)).2.2, I)
    else ty_mi T0 j (k + 1) (ty_mk T n ((T0 k).1, ty_imv I (T0 k).2.1, ty_imv I (T0 k).2.2)).2.1 (ty_mk T n ((T0 k).1, ty_imv I (T0 k).2.1, ty_imv I (T0 k).2.2)).2.2 (ty_updI I k (ty_mk T n ((T0 k).1, ty_imv I (T0 k).2.1, ty_imv I (T0 k).2.2)).1)
theorem ty_mk_ext {T : Nat → Int32 × Int32 × Int32} {n : Nat} {q : Int32 × Int32 × Int32} : n ≤ (ty_mk T n q).2.1 ∧ ∀ i, i < n → (ty_mk T n q).2.2 i = T i := by
  unfold ty_mk
  split
  · exact ⟨Nat.le_refl _, fun _ _ => rfl⟩
  · split
    · exact ⟨Nat.le_refl _, fun _ _ => rfl⟩
    · split
      · exact ⟨Nat.le_succ _, fun i hi => ty_add_lt hi⟩
      · exact ⟨Nat.le_refl _, fun _ _ => rfl⟩
theorem ty_mk_in {T : Nat → Int32 × Int32 × Int32} {n : Nat} {q : Int32 × Int32 × Int32} (h : (ty_mk T n q).1 ≠ -2) : ∃ a, a < (ty_mk T n q).2.1 ∧ (ty_mk T n q).1 = nI a := by
  unfold ty_mk at h ⊢
  split
  · rename_i c
    rw [if_pos c] at h
    exact absurd rfl h
  · rename_i c
    rw [if_neg c] at h
    split
    · rename_i c2
      exact (ty_fnd_in n).resolve_left c2
    · rename_i c2
      rw [if_neg c2] at h
      split
      · exact ⟨n, Nat.lt_succ_self n, rfl⟩
      · rename_i c3
        rw [if_neg c3] at h
        exact absurd rfl h
section TYB
variable {sa : Nat → Nat} {B : Nat}
/-- marked images are places; what a marked type takes is marked -/
def ty_gI (T0 : Nat → Int32 × Int32 × Int32) (n0 n : Nat) (I : Nat → Int32) : Prop := ∀ i, i < n0 → I i ≠ -1 → (∃ a, a < n ∧ I i = nI a) ∧ (∀ l, l < n0 → (T0 i).2.1 = nI l → I l ≠ -1) ∧ ∀ l, l < n0 → (T0 i).2.2 = nI l → I l ≠ -1
theorem ty_imageOf2 {ρ : hp_L} {P : hp_P} {n m : Nat} {T : Nat → Int32 × Int32 × Int32} {f d : Nat} {I : Nat → Int32} {i : Int32} (w : hp_w B ρ) (h : ty_okk P n T) (hm : m ≤ n) (hI : ty_ii P m I) (hi : ty_in m i) :
    am_call B sa am_dfl am_tb (f + 1) (d + 1) 19 [.ref (ρ.1 7), .int i] (hp_S sa ρ P) = some (some (.int (ty_imv I i)), hp_S sa ρ P) := by
  obtain ⟨len, a1, a2, l0, l1, l2, l3, l4, l5, l6⟩ := h.1.2.1
  have h8 := h.1.1.2
  rw [am_c_19, am_s19_0]
  unfold ty_imv
  rcases hi with rfl | ⟨a, ha, rfl⟩
  · simp only [am_c_ne, ne_eq, not_true_eq_false, if_false, if_true]
  · have hne := nI_ne_m1 (show a < 2 ^ 31 by omega)
    have r6 : hp_rd P 706 (nI a) = some (I a) := by rw [hp_rd_nI (by omega) (by omega), hI a ha]
    simp only [am_c_ne, ne_eq, hne, not_false_eq_true, if_true, if_false, hr_706 w, hl_706 w, Option.bind_some, r6, nI_clamp (show a < 2 ^ 31 by omega)]
theorem ty_imv_in {T0 : Nat → Int32 × Int32 × Int32} {n0 n k : Nat} {I : Nat → Int32} {i : Int32} (hg : ty_gI T0 n0 n I) (hi : ty_in k i) (hk : k ≤ n0) (h31 : n0 < 2 ^ 31) (hm : ∀ l, l < n0 → i = nI l → I l ≠ -1) : ty_in n (ty_imv I i) := by
  rcases hi with rfl | ⟨a, ha, rfl⟩
  · exact Or.inl (by simp [ty_imv])
  · have : ty_imv I (nI a) = I a := by simp only [ty_imv, if_neg (nI_ne_m1 (show a < 2 ^ 31 by omega)), nI_clamp (show a < 2 ^ 31 by omega)]
    rw [this]
    exact Or.inr (hg a (by omega) (hm a (by omega) rfl)).1
set_option maxHeartbeats 2000000 in
theorem ty_mi_loop {f0 d n0 o : Nat} {T0 : Nat → Int32 × Int32 × Int32} (hw0 : ty_wf T0 n0) (hf0 : 10000 ≤ f0) : ∀ (j k f : Nat) (ρ : hp_L) (P : hp_P) (n : Nat) (T : Nat → Int32 × Int32 × Int32) (I : Nat → Int32), hp_w B ρ → ρ.1 7 = o → ty_okk P n T → 64 ≤ (P.2 700).1 → k + j = n0 → n0 ≤ n → (∀ i, i < n0 → T i = T0 i) → ty_ii P n0 I → ty_gI T0 n0 n I → j + 1 ≤ f →
    ∃ ρ' P', am_go B sa am_dfl (am_call B sa am_dfl am_tb f0 (d + 3)) am_r17 f 7 [(0, .ref o), (1, .int (nI n0)), (2, .int (nI k))] [] (hp_S sa ρ P) = some (some (.int (if (ty_mi T0 j k n T I).1 = true then 1 else 0)), hp_S sa ρ' P') ∧ hp_w B ρ' ∧ ty_okk P' (ty_mi T0 j k n T I).2.1 (ty_mi T0 j k n T I).2.2.1 ∧ hp_fr ty_S 0 ρ P ρ' P' ∧ n0 ≤ (ty_mi T0 j k n T I).2.1 ∧ (∀ i, i < n0 → (ty_mi T0 j k n T I).2.2.1 i = T0 i) ∧ ((ty_mi T0 j k n T I).1 = true → ty_ii P' n0 (ty_mi T0 j k n T I).2.2.2) := by
  obtain ⟨f0, rfl⟩ : ∃ g, f0 = g + 1 := ⟨f0 - 1, by omega⟩
  intro j
  induction j with
  | zero =>
    intro k f ρ P n T I w ho h h64 hk hn hT hI hg hf
    obtain ⟨f, rfl⟩ : ∃ g, f = g + 1 := ⟨f - 1, by omega⟩
    obtain rfl : k = n0 := by omega
    refine ⟨ρ, P, ?_, w, h, hp_fr.rf, hn, hT, fun _ => hI⟩
    rw [am_s17_7]
    simp only [am_c_ge, Int32.le_refl, if_true, ty_mi, am_rz_1]
  | succ j ih =>
    intro k f ρ P n T I w ho h h64 hk hn hT hI hg hf
    obtain ⟨f, rfl⟩ : ∃ g, f = g + 1 := ⟨f - 1, by omega⟩
    subst ho
    obtain ⟨len, a1, a2, l0, l1, l2, l3, l4, l5, l6⟩ := h.1.2.1
    have h8 := h.1.1.2
    have k31 : k < 2 ^ 31 := by omega
    have hge : (nI n0 ≤ nI k) = False := eq_false (nI_ge (by omega) (by omega))
    have r6 : hp_rd P 706 (nI k) = some (I k) := by rw [hp_rd_nI (by omega) k31, hI k (by omega)]
    obtain ⟨q0, q1, q2, -⟩ := h.1.2.2.2.1 k (by omega)
    rw [hT k (by omega)] at q0 q1 q2
    have r0 : hp_rd P 700 (nI k) = some (T0 k).1 := by rw [hp_rd_nI (by omega) k31, q0]
    have r1 : hp_rd P 701 (nI k) = some (T0 k).2.1 := by rw [hp_rd_nI (by omega) k31, q1]
    have r2 : hp_rd P 702 (nI k) = some (T0 k).2.2 := by rw [hp_rd_nI (by omega) k31, q2]
    rw [am_s17_7]
    by_cases c1 : I k = -1
    · have hm : ty_mi T0 (j + 1) k n T I = ty_mi T0 j (k + 1) n T I := by
        show (if _ then _ else _) = _
        rw [if_pos (Or.inl c1)]
      rw [hm]
      obtain ⟨ρ', P', i1, i2⟩ := ih (k + 1) f ρ P n T I w rfl h h64 (by omega) hn hT hI hg (by omega)
      refine ⟨ρ', P', ?_, i2⟩
      simp only [am_c_ge, am_c_eq, hge, if_false, hr_706 w, hl_706 w, Option.bind_some, r6, c1, if_true, nI_1]
      exact i1
    by_cases c2 : (T0 k).2.1 = -1
    · have hm : ty_mi T0 (j + 1) k n T I = ty_mi T0 j (k + 1) n T I := by
        show (if _ then _ else _) = _
        rw [if_pos (Or.inr c2)]
      rw [hm]
      obtain ⟨ρ', P', i1, i2⟩ := ih (k + 1) f ρ P n T I w rfl h h64 (by omega) hn hT hI hg (by omega)
      refine ⟨ρ', P', ?_, i2⟩
      simp only [am_c_ge, am_c_eq, hge, if_false, hr_706 w, hl_706 w, hr_701 w, hl_701 w, Option.bind_some, r6, r1, c1, c2, if_true, nI_1]
      exact i1
    obtain ⟨w1, w2⟩ := hw0 k (by omega)
    obtain ⟨-, g2, g3⟩ := hg k (by omega) c1
    have in1 := ty_imv_in hg w1 (by omega) (by omega) (fun l hl e => g2 l hl e)
    have in2 := ty_imv_in hg w2 (by omega) (by omega) (fun l hl e => g3 l hl e)
    have im1 := ty_imageOf2 (sa := sa) (f := f0) (d := d + 2) w h hn hI (w1.mono (show k ≤ n0 by omega))
    have im2 := ty_imageOf2 (sa := sa) (f := f0) (d := d + 2) w h hn hI (w2.mono (show k ≤ n0 by omega))
    obtain ⟨ρ', P', m1, m2, m3, m4, m5⟩ := ty_make (sa := sa) (f := f0 + 1) (d := d) w h h64 hf0 (q := ((T0 k).1, ty_imv I (T0 k).2.1, ty_imv I (T0 k).2.2)) (Or.inl in1) (Or.inl in2)
    dsimp only at m1
    have hmono := ty_mk_ext (T := T) (n := n) (q := ((T0 k).1, ty_imv I (T0 k).2.1, ty_imv I (T0 k).2.2))
    have hin9 := ty_mk_in (T := T) (n := n) (q := ((T0 k).1, ty_imv I (T0 k).2.1, ty_imv I (T0 k).2.2))
    have hm : ty_mi T0 (j + 1) k n T I = if (ty_mk T n ((T0 k).1, ty_imv I (T0 k).2.1, ty_imv I (T0 k).2.2)).1 = -2 then (false, (ty_mk T n ((T0 k).1, ty_imv I (T0 k).2.1, ty_imv I (T0 k).2.2)).2.1, (ty_mk T n ((T0 k).1, ty_imv I (T0 k).2.1, ty_imv I (T0 k).2.2)).2.2, I)
      else ty_mi T0 j (k + 1) (ty_mk T n ((T0 k).1, ty_imv I (T0 k).2.1, ty_imv I (T0 k).2.2)).2.1 (ty_mk T n ((T0 k).1, ty_imv I (T0 k).2.1, ty_imv I (T0 k).2.2)).2.2 (ty_updI I k (ty_mk T n ((T0 k).1, ty_imv I (T0 k).2.1, ty_imv I (T0 k).2.2)).1) := by
      show (if _ then _ else _) = _
      rw [if_neg (fun z => z.elim c1 c2)]
    rw [hm]
    generalize ty_mk T n ((T0 k).1, ty_imv I (T0 k).2.1, ty_imv I (T0 k).2.2) = R at m1 m3 hmono hin9 ⊢
    obtain ⟨v, n', T'⟩ := R
    dsimp only at m1 m3 hmono hin9 ⊢
    have ho' : ρ'.1 7 = ρ.1 7 := by rw [m4.1]
    by_cases c3 : v = -2
    · rw [if_pos c3]
      refine ⟨ρ', P', ?_, m2, m3, m4, (show n0 ≤ n' by omega), fun i hi => (hmono.2 i (by omega)).trans (hT i hi), fun z => by cases z⟩
      simp only [am_c_ge, am_c_eq, am_c_ne, hge, if_false, hr_706 w, hl_706 w, hr_701 w, hl_701 w, hr_700 w, hl_700 w, hr_702 w, hl_702 w, Option.bind_some, r6, r0, r1, r2, c1, c2, hx_7 w, im1, im2, am_i_some, m1, c3, ne_eq, not_true_eq_false, am_rz_0]
      rfl
    · rw [if_neg c3]
      obtain ⟨a, ha, hae⟩ := hin9 c3
      obtain ⟨len', b1, b2, e0, e1, e2, e3, e4, e5, e6⟩ := m3.1.2.1
      have c6 : hp_ck P' 706 (nI k) = some () := hp_ck_nI (by omega) k31
      obtain ⟨ρ'', P'', i1, i2, i3, i4, i5, i6, i7⟩ := ih (k + 1) f ρ' (hp_sA P' 706 (nI k) v) n' T' (ty_updI I k v) m2 ho' (ty_imo.sA.okk m3) (by rw [hA_len]; exact Nat.le_trans h64 (m4.2.2.2.2.2 700)) (by omega) (by omega) (fun i hi => (hmono.2 i (by omega)).trans (hT i hi)) (fun i hi => by
        rw [hA_eq, nI_clamp k31]
        show upd _ k v i = ty_updI I k v i
        unfold ty_updI
        by_cases e : i = k
        · rw [e, pk_us, if_pos rfl]
        · rw [pk_un e, if_neg e, m5.1 i (by omega), hI i hi]) (fun i hi hne => by
        have mk : ∀ l, I l ≠ -1 → ty_updI I k v l ≠ -1 := fun l hl => by
          unfold ty_updI
          split
          · rw [hae]; exact nI_ne_m1 (by omega)
          · exact hl
        unfold ty_updI at hne ⊢
        by_cases e : i = k
        · refine ⟨⟨a, ha, by rw [if_pos e]; exact hae⟩, fun l hl el => mk l (g2 l hl (by rw [← e]; exact el)), fun l hl el => mk l (g3 l hl (by rw [← e]; exact el))⟩
        · rw [if_neg e] at hne
          obtain ⟨⟨a', ha', hae'⟩, p2, p3⟩ := hg i hi hne
          exact ⟨⟨a', by omega, by rw [if_neg e]; exact hae'⟩, fun l hl el => mk l (p2 l hl el), fun l hl el => mk l (p3 l hl el)⟩) (by omega)
      refine ⟨ρ'', P'', ?_, i2, i3, hp_fr.tr0 (hp_fr.tr0 m4 (hp_fr.sA (ty_S_t (by decide)))) i4, i5, i6, i7⟩
      have x6 : am_getr (hp_S sa ρ' P') (ρ.1 7) 7 6 = some (ρ'.2.1 706) := by rw [← ho']; exact hr_706 m2
      simp only [am_c_ge, am_c_eq, am_c_ne, hge, if_false, hr_706 w, hl_706 w, hr_701 w, hl_701 w, hr_700 w, hl_700 w, hr_702 w, hl_702 w, Option.bind_some, r6, r0, r1, r2, c1, c2, hx_7 w, im1, im2, am_i_some, m1, c3, ne_eq, not_false_eq_true, if_true, x6, ht_706 m2, c6, nI_1]
      exact i1
/-- Types.makeImages -/
theorem ty_makeImages {ρ : hp_L} {P : hp_P} {n : Nat} {T : Nat → Int32 × Int32 × Int32} {f d : Nat} {I : Nat → Int32} (w : hp_w B ρ) (h : ty_okk P n T) (h64 : 64 ≤ (P.2 700).1) (hI : ty_ii P n I) (hg : ty_gI T n n I) (hf : 10001 ≤ f) :
    ∃ ρ' P', am_call B sa am_dfl am_tb f (d + 4) 17 [.ref (ρ.1 7)] (hp_S sa ρ P) = some (some (.int (if (ty_mi T n 0 n T I).1 = true then 1 else 0)), hp_S sa ρ' P') ∧ hp_w B ρ' ∧ ty_okk P' (ty_mi T n 0 n T I).2.1 (ty_mi T n 0 n T I).2.2.1 ∧ hp_fr ty_S 0 ρ P ρ' P' ∧ n ≤ (ty_mi T n 0 n T I).2.1 ∧ (∀ i, i < n → (ty_mi T n 0 n T I).2.2.1 i = T i) ∧ ((ty_mi T n 0 n T I).1 = true → ty_ii P' n (ty_mi T n 0 n T I).2.2.2) := by
  obtain ⟨f, rfl⟩ : ∃ g, f = g + 1 := ⟨f - 1, by omega⟩
  have h8 := h.1.1.2
  obtain ⟨ρ', P', i1, i2⟩ := ty_mi_loop (sa := sa) (f0 := f + 1) (d := d) (o := ρ.1 7) h.2.1 (by omega) n 0 f ρ P n T I w rfl h h64 (by omega) (Nat.le_refl _) (fun _ _ => rfl) hI hg (by omega)
  refine ⟨ρ', P', ?_, i2⟩
  rw [am_c_17, am_s17_0]
  simp only [hg_708 w, Option.bind_some, h.1.1.1]
  rw [nI_0] at i1
  exact i1
end TYB
