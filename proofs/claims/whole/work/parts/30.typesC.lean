/-! TYPES of the class, 12: shortenToMarked -/
/-- what shortenToMarked makes anew of a table, from place k on, j places -/
noncomputable def ty_sm (T0 : Nat → Int32 × Int32 × Int32) : Nat → Nat → Nat → (Nat → Int32 × Int32 × Int32) → (Nat → Int32) → Nat × (Nat → Int32 × Int32 × Int32) × (Nat → Int32)
  | 0, _, n, T, I => (n, T, I)
  | j + 1, k, n, T, I => if I k = -1 then ty_sm T0 j (k + 1) n T I
    else ty_sm T0 j (k + 1) (ty_mk T n ((T0 k).1, ty_imv I (T0 k).2.1, ty_imv I (T0 k).2.2)).2.1 (ty_mk T n ((T0 k).1, ty_imv I (T0 k).2.1, ty_imv I (T0 k).2.2)).2.2 (ty_updI I k (ty_mk T n ((T0 k).1, ty_imv I (T0 k).2.1, ty_imv I (T0 k).2.2)).1)
theorem ty_mk_le {T : Nat → Int32 × Int32 × Int32} {n : Nat} {q : Int32 × Int32 × Int32} : (ty_mk T n q).2.1 ≤ n + 1 := by
  unfold ty_mk
  split
  · exact Nat.le_succ _
  · split
    · exact Nat.le_succ _
    · split
      · exact Nat.le_refl _
      · exact Nat.le_succ _
section TYC
variable {sa : Nat → Nat} {B : Nat}
/-- of the marked ones below k the images are places, or refused; what a marked type takes is marked -/
def ty_gk (T0 : Nat → Int32 × Int32 × Int32) (n0 n k : Nat) (I : Nat → Int32) : Prop := (∀ i, i < k → I i ≠ -1 → I i = -2 ∨ ∃ a, a < n ∧ I i = nI a) ∧ ∀ i, i < n0 → I i ≠ -1 → (∀ l, l < n0 → (T0 i).2.1 = nI l → I l ≠ -1) ∧ ∀ l, l < n0 → (T0 i).2.2 = nI l → I l ≠ -1
theorem ty_imv_in2 {T0 : Nat → Int32 × Int32 × Int32} {n0 n k : Nat} {I : Nat → Int32} {i : Int32} (hg : ty_gk T0 n0 n k I) (hi : ty_in k i) (hk : k ≤ n0) (h31 : n0 < 2 ^ 31) (hm : ∀ l, l < n0 → i = nI l → I l ≠ -1) : ty_in n (ty_imv I i) ∨ ty_imv I i = -2 := by
  rcases hi with rfl | ⟨a, ha, rfl⟩
  · exact Or.inl (Or.inl (by simp [ty_imv]))
  · have : ty_imv I (nI a) = I a := by simp only [ty_imv, if_neg (nI_ne_m1 (show a < 2 ^ 31 by omega)), nI_clamp (show a < 2 ^ 31 by omega)]
    rw [this]
    rcases hg.1 a ha (hm a (by omega) rfl) with e | e
    · exact Or.inr e
    · exact Or.inl (Or.inr e)
theorem ty_rowI {ρ : hp_L} {P : hp_P} {n m : Nat} {f d : Nat} {I : Nat → Int32} {i : Int32} (w : hp_w B ρ) (hm : m ≤ (P.2 706).1) (h31 : m < 2 ^ 31) (hI : ty_ii P m I) (hi : ty_in m i) :
    am_call B sa am_dfl am_tb (f + 1) (d + 1) 19 [.ref (ρ.1 7), .int i] (hp_S sa ρ P) = some (some (.int (ty_imv I i)), hp_S sa ρ P) := by
  rw [am_c_19, am_s19_0]
  unfold ty_imv
  rcases hi with rfl | ⟨a, ha, rfl⟩
  · simp only [am_c_ne, ne_eq, not_true_eq_false, if_false, if_true]
  · have hne := nI_ne_m1 (show a < 2 ^ 31 by omega)
    have r6 : hp_rd P 706 (nI a) = some (I a) := by rw [hp_rd_nI (by omega) (by omega), hI a ha]
    simp only [am_c_ne, ne_eq, hne, not_false_eq_true, if_true, if_false, hr_706 w, hl_706 w, Option.bind_some, r6, nI_clamp (show a < 2 ^ 31 by omega)]
set_option maxHeartbeats 2000000 in
theorem ty_sm_loop {f0 d n0 o : Nat} {T0 : Nat → Int32 × Int32 × Int32} (hw0 : ty_wf T0 n0) (hn0 : n0 ≤ 8000) (hf0 : 10000 ≤ f0) : ∀ (j k f : Nat) (ρ : hp_L) (P : hp_P) (n : Nat) (T : Nat → Int32 × Int32 × Int32) (I : Nat → Int32), hp_w B ρ → ρ.1 7 = o → ty_okk P n T → 64 ≤ (P.2 700).1 → n0 ≤ (P.2 700).1 → k + j = n0 → n ≤ k → ty_ii P n0 I → ty_gk T0 n0 n k I → (∀ i, k ≤ i → i < n0 → (P.2 700).2 i = (T0 i).1 ∧ (P.2 701).2 i = (T0 i).2.1 ∧ (P.2 702).2 i = (T0 i).2.2) → j + 1 ≤ f →
    ∃ ρ' P', am_go B sa am_dfl (am_call B sa am_dfl am_tb f0 (d + 3)) am_r18 f 12 [(0, .ref o), (2, .int (nI n0)), (3, .int (nI k))] [] (hp_S sa ρ P) = some (none, hp_S sa ρ' P') ∧ hp_w B ρ' ∧ ty_okk P' (ty_sm T0 j k n T I).1 (ty_sm T0 j k n T I).2.1 ∧ hp_fr ty_S 0 ρ P ρ' P' ∧ ty_ii P' n0 (ty_sm T0 j k n T I).2.2 := by
  obtain ⟨f0, rfl⟩ : ∃ g, f0 = g + 1 := ⟨f0 - 1, by omega⟩
  intro j
  induction j with
  | zero =>
    intro k f ρ P n T I w ho h h64 hl hk hn hI hg hrow hf
    obtain ⟨f, rfl⟩ : ∃ g, f = g + 1 := ⟨f - 1, by omega⟩
    obtain rfl : k = n0 := by omega
    refine ⟨ρ, P, ?_, w, h, hp_fr.rf, hI⟩
    rw [am_s18_12]
    simp only [am_c_ge, Int32.le_refl, if_true]
  | succ j ih =>
    intro k f ρ P n T I w ho h h64 hl hk hn hI hg hrow hf
    obtain ⟨f, rfl⟩ : ∃ g, f = g + 1 := ⟨f - 1, by omega⟩
    subst ho
    obtain ⟨len, a1, a2, l0, l1, l2, l3, l4, l5, l6⟩ := h.1.2.1
    have h8 := h.1.1.2
    have k31 : k < 2 ^ 31 := by omega
    have hge : (nI n0 ≤ nI k) = False := eq_false (nI_ge (by omega) (by omega))
    have r6 : hp_rd P 706 (nI k) = some (I k) := by rw [hp_rd_nI (by omega) k31, hI k (by omega)]
    obtain ⟨q0, q1, q2⟩ := hrow k (Nat.le_refl _) (by omega)
    have r0 : hp_rd P 700 (nI k) = some (T0 k).1 := by rw [hp_rd_nI (by omega) k31, q0]
    have r1 : hp_rd P 701 (nI k) = some (T0 k).2.1 := by rw [hp_rd_nI (by omega) k31, q1]
    have r2 : hp_rd P 702 (nI k) = some (T0 k).2.2 := by rw [hp_rd_nI (by omega) k31, q2]
    rw [am_s18_12]
    by_cases c1 : I k = -1
    · have hm : ty_sm T0 (j + 1) k n T I = ty_sm T0 j (k + 1) n T I := by
        show (if _ then _ else _) = _
        rw [if_pos c1]
      rw [hm]
      obtain ⟨ρ', P', i1, i2⟩ := ih (k + 1) f ρ P n T I w rfl h h64 hl (by omega) (by omega) hI ⟨fun i hi hne => hg.1 i (by
        rcases Nat.lt_succ_iff_lt_or_eq.mp hi with z | z
        · exact z
        · rw [z] at hne; exact absurd c1 hne) hne, hg.2⟩ (fun i hi => hrow i (by omega)) (by omega)
      refine ⟨ρ', P', ?_, i2⟩
      simp only [am_c_ge, am_c_eq, hge, if_false, hr_706 w, hl_706 w, Option.bind_some, r6, c1, if_true, nI_1]
      exact i1
    obtain ⟨w1, w2⟩ := hw0 k (by omega)
    obtain ⟨g2, g3⟩ := hg.2 k (by omega) c1
    have in1 := ty_imv_in2 hg w1 (by omega) (by omega) (fun l hl e => g2 l hl e)
    have in2 := ty_imv_in2 hg w2 (by omega) (by omega) (fun l hl e => g3 l hl e)
    have im1 := ty_rowI (sa := sa) (n := n) (f := f0) (d := d + 2) w (by omega) (by omega) hI (w1.mono (show k ≤ n0 by omega))
    have im2 := ty_rowI (sa := sa) (n := n) (f := f0) (d := d + 2) w (by omega) (by omega) hI (w2.mono (show k ≤ n0 by omega))
    obtain ⟨ρ', P', m1, m2, m3, m4, m5, m6⟩ := ty_make (sa := sa) (f := f0 + 1) (d := d) w h h64 hf0 (q := ((T0 k).1, ty_imv I (T0 k).2.1, ty_imv I (T0 k).2.2)) in1 in2
    dsimp only at m1
    have hmono := ty_mk_ext (T := T) (n := n) (q := ((T0 k).1, ty_imv I (T0 k).2.1, ty_imv I (T0 k).2.2))
    have hle := ty_mk_le (T := T) (n := n) (q := ((T0 k).1, ty_imv I (T0 k).2.1, ty_imv I (T0 k).2.2))
    have hin9 := ty_mk_in (T := T) (n := n) (q := ((T0 k).1, ty_imv I (T0 k).2.1, ty_imv I (T0 k).2.2))
    have hm : ty_sm T0 (j + 1) k n T I = ty_sm T0 j (k + 1) (ty_mk T n ((T0 k).1, ty_imv I (T0 k).2.1, ty_imv I (T0 k).2.2)).2.1 (ty_mk T n ((T0 k).1, ty_imv I (T0 k).2.1, ty_imv I (T0 k).2.2)).2.2 (ty_updI I k (ty_mk T n ((T0 k).1, ty_imv I (T0 k).2.1, ty_imv I (T0 k).2.2)).1) := by
      show (if _ then _ else _) = _
      rw [if_neg c1]
    rw [hm]
    generalize ty_mk T n ((T0 k).1, ty_imv I (T0 k).2.1, ty_imv I (T0 k).2.2) = R at m1 m3 hmono hle hin9 ⊢
    obtain ⟨v, n', T'⟩ := R
    dsimp only at m1 m3 hmono hle hin9 ⊢
    have ho' : ρ'.1 7 = ρ.1 7 := by rw [m4.1]
    obtain ⟨len', b1, b2, e0, e1, e2, e3, e4, e5, e6⟩ := m3.1.2.1
    have hgl : (P.2 700).1 ≤ (P'.2 700).1 := m4.2.2.2.2.2 700
    have c6 : hp_ck P' 706 (nI k) = some () := hp_ck_nI (by omega) k31
    have hvne : v ≠ -1 := fun z => by
      by_cases c3 : v = -2
      · rw [c3] at z; exact absurd z (by decide)
      · obtain ⟨a, ha, hae⟩ := hin9 c3
        rw [hae] at z
        exact nI_ne_m1 (by have := m3.1.1.2; omega) z
    have mk : ∀ l, I l ≠ -1 → ty_updI I k v l ≠ -1 := fun l hl => by
      unfold ty_updI
      split
      · exact hvne
      · exact hl
    have back : ∀ l, ty_updI I k v l ≠ -1 → I l ≠ -1 := fun l hl => by
      unfold ty_updI at hl
      split at hl
      · rename_i e; rw [e]; exact c1
      · exact hl
    obtain ⟨ρ'', P'', i1, i2, i3, i4, i5⟩ := ih (k + 1) f ρ' (hp_sA P' 706 (nI k) v) n' T' (ty_updI I k v) m2 ho' (ty_imo.sA.okk m3) (by rw [hA_len]; omega) (by rw [hA_len]; omega) (by omega) (by omega) (fun i hi => by
      rw [hA_eq, nI_clamp k31]
      show upd _ k v i = ty_updI I k v i
      unfold ty_updI
      by_cases e : i = k
      · rw [e, pk_us, if_pos rfl]
      · rw [pk_un e, if_neg e]
        rw [m6 706 i (by decide) (by decide) (by omega) (Or.inr rfl), hI i hi]) ⟨fun i hi hne => by
        by_cases e : i = k
        · by_cases c3 : v = -2
          · left; unfold ty_updI; rw [if_pos e]; exact c3
          · obtain ⟨a, ha, hae⟩ := hin9 c3
            right; exact ⟨a, ha, by unfold ty_updI; rw [if_pos e]; exact hae⟩
        · have hi' : i < k := by omega
          rcases hg.1 i hi' (back i hne) with z | ⟨a, ha, z⟩
          · left; unfold ty_updI; rw [if_neg e]; exact z
          · right; exact ⟨a, by omega, by unfold ty_updI; rw [if_neg e]; exact z⟩, fun i hi hne => ⟨fun l hl el => mk l ((hg.2 i hi (back i hne)).1 l hl el), fun l hl el => mk l ((hg.2 i hi (back i hne)).2 l hl el)⟩⟩ (fun i hi hi2 => by
        rw [hA_ne (by decide), hA_ne (by decide), hA_ne (by decide), m6 700 i (by decide) (by decide) (by omega) (Or.inl (by omega)), m6 701 i (by decide) (by decide) (by omega) (Or.inl (by omega)), m6 702 i (by decide) (by decide) (by omega) (Or.inl (by omega))]
        exact hrow i (by omega) hi2) (by omega)
    refine ⟨ρ'', P'', ?_, i2, i3, hp_fr.tr0 (hp_fr.tr0 m4 (hp_fr.sA (ty_S_t (by decide)))) i4, i5⟩
    have x6 : am_getr (hp_S sa ρ' P') (ρ.1 7) 7 6 = some (ρ'.2.1 706) := by rw [← ho']; exact hr_706 m2
    simp only [am_c_ge, am_c_eq, hge, if_false, hr_706 w, hl_706 w, hr_701 w, hl_701 w, hr_700 w, hl_700 w, hr_702 w, hl_702 w, Option.bind_some, r6, r0, r1, r2, c1, hx_7 w, im1, im2, am_i_some, m1, x6, ht_706 m2, c6, nI_1]
    exact i1
/-- Types.shortenToMarked -/
theorem ty_shortenToMarked {ρ : hp_L} {P : hp_P} {n m : Nat} {T : Nat → Int32 × Int32 × Int32} {f d : Nat} {I : Nat → Int32} (w : hp_w B ρ) (h : ty_okk P n T) (h64 : 64 ≤ (P.2 700).1) (hm : m ≤ n) (hI : ty_ii P n I) (hg : ty_gk T n m m I) (hf : 10001 ≤ f) :
    ∃ ρ' P', am_call B sa am_dfl am_tb f (d + 4) 18 [.ref (ρ.1 7), .int (nI m)] (hp_S sa ρ P) = some (none, hp_S sa ρ' P') ∧ hp_w B ρ' ∧ ty_okk P' (ty_sm T (n - m) m m T I).1 (ty_sm T (n - m) m m T I).2.1 ∧ hp_fr ty_S 0 ρ P ρ' P' ∧ ty_ii P' n (ty_sm T (n - m) m m T I).2.2 := by
  obtain ⟨f, rfl⟩ : ∃ g, f = g + 1 := ⟨f - 1, by omega⟩
  have h8 := h.1.1.2
  obtain ⟨P1, s1, s2, s3, s4⟩ := ty_shorten (sa := sa) (f := f + 1) (d := d + 1) w h hm (by omega)
  obtain ⟨len, a1, a2, l0, l1, l2, l3, l4, l5, l6⟩ := h.1.2.1
  have l0' : (P1.2 700).1 = len := by rw [s4 700 (by decide)]; exact l0
  obtain ⟨ρ', P', i1, i2, i3, i4, i5⟩ := ty_sm_loop (sa := sa) (f0 := f + 1) (d := d) (o := ρ.1 7) h.2.1 h8 (by omega) (n - m) m f ρ P1 m T I w rfl s2 (by omega) (by omega) (by omega) (Nat.le_refl _) (fun i hi => by rw [s4 706 (by decide)]; exact hI i hi) hg (fun i hi hi2 => by
    rw [s4 700 (by decide), s4 701 (by decide), s4 702 (by decide)]
    obtain ⟨e0, e1, e2, -⟩ := h.1.2.2.2.1 i hi2
    exact ⟨e0, e1, e2⟩) (by omega)
  refine ⟨ρ', P', ?_, i2, i3, hp_fr.tr0 s3 i4, i5⟩
  rw [am_c_18, am_s18_0]
  simp only [hg_708 w, Option.bind_some, h.1.1.1, hx_7 w, s1, am_v_some]
  exact i1
end TYC
