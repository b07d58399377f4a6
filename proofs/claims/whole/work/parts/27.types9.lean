/-! TYPES of the class, 9: spreadMarks, markedVariables, imageOf -/
/-- the images are marks -/
def ty_im (P : hp_P) (n : Nat) (M : Nat → Bool) : Prop := ∀ i, i < n → (P.2 706).2 i = if M i = true then nI i else -1
def ty_addm (i : Int32) (M : Nat → Bool) : Nat → Bool := if i = -1 then M else fun j => j == i.toNatClampNeg || M j
/-- marks spread downwards from the k lowest -/
def ty_sp (T : Nat → Int32 × Int32 × Int32) : Nat → (Nat → Bool) → Nat → Bool
  | 0, M => M
  | k + 1, M => ty_sp T k (if M k = true then ty_addm (T k).2.2 (ty_addm (T k).2.1 M) else M)
section TY9
variable {sa : Nat → Nat} {B : Nat} {ρ : hp_L} {P : hp_P} {n : Nat} {T : Nat → Int32 × Int32 × Int32}
theorem ty_addm_k {i : Int32} {M : Nat → Bool} {k : Nat} (hi : ty_in k i) (hk : k < 2 ^ 31) : ty_addm i M k = M k := by
  rcases hi with rfl | ⟨a, ha, rfl⟩
  · simp [ty_addm]
  · simp only [ty_addm, if_neg (nI_ne_m1 (show a < 2 ^ 31 by omega)), nI_clamp (show a < 2 ^ 31 by omega)]
    have : (k == a) = false := by simp; omega
    rw [this, Bool.false_or]
/-- a mark more -/
theorem ty_im_mark {M : Nat → Bool} {l : Nat} (h : ty_im P n M) (hl : l < n) (hn : n < 2 ^ 31) : ty_im (hp_sA P 706 (nI l) (nI l)) n (ty_addm (nI l) M) := by
  intro i hi
  rw [hA_eq, nI_clamp (by omega)]
  show upd _ l (nI l) i = _
  simp only [ty_addm, if_neg (nI_ne_m1 (show l < 2 ^ 31 by omega)), nI_clamp (show l < 2 ^ 31 by omega)]
  by_cases e : i = l
  · rw [e, pk_us]; simp
  · rw [pk_un e, h i hi]
    have : (i == l) = false := by simp [e]
    rw [this, Bool.false_or]
theorem ty_im_rd {M : Nat → Bool} {k : Nat} (h : ty_im P n M) (hk : k < n) (hl : n ≤ (P.2 706).1) (hn : n < 2 ^ 31) : hp_rd P 706 (nI k) = some (if M k = true then nI k else -1) := by rw [hp_rd_nI (by omega) (by omega), h k hk]
set_option maxHeartbeats 2000000 in
theorem ty_spread_loop {f0 d : Nat} (w : hp_w B ρ) : ∀ (k f : Nat) (P : hp_P) (M : Nat → Bool), ty_okk P n T → ty_im P n M → k ≤ n → k + 1 ≤ f →
    ∃ P', am_go B sa am_dfl (am_call B sa am_dfl am_tb (f0 + 1) (d + 1)) am_r13 f 7 [(0, .ref (ρ.1 7)), (1, .int (nI k - 1))] [] (hp_S sa ρ P) = some (none, hp_S sa ρ P') ∧ ty_imo P P' ∧ ty_im P' n (ty_sp T k M) := by
  intro k
  induction k with
  | zero =>
    intro f P M h hM hk hf
    obtain ⟨f, rfl⟩ : ∃ g, f = g + 1 := ⟨f - 1, by omega⟩
    refine ⟨P, ?_, ty_imo.rf, hM⟩
    rw [am_s13_7]
    have : (nI 0 - 1 < 0) = True := eq_true (by decide)
    simp only [am_c_lt, this, if_true]
  | succ k ih =>
    intro f P M h hM hk hf
    obtain ⟨f, rfl⟩ : ∃ g, f = g + 1 := ⟨f - 1, by omega⟩
    obtain ⟨len, a1, a2, l0, l1, l2, l3, l4, l5, l6⟩ := h.1.2.1
    have h8 := h.1.1.2
    have k31 : k < 2 ^ 31 := by omega
    have hlt : (nI k < 0) = False := eq_false (nI_pos k31)
    have hk1 : (nI k = -1) = False := eq_false (nI_ne_m1 k31)
    obtain ⟨w1, w2⟩ := h.2.1 k (by omega)
    have r1 : ∀ {P' : hp_P}, ty_imo P P' → hp_rd P' 701 (nI k) = some (T k).2.1 := fun hi => by rw [hp_rd_nI (by rw [hi.len]; omega) k31, hi.2.1 701 (by decide), (h.1.2.2.2.1 k (by omega)).2.1]
    have r2 : ∀ {P' : hp_P}, ty_imo P P' → hp_rd P' 702 (nI k) = some (T k).2.2 := fun hi => by rw [hp_rd_nI (by rw [hi.len]; omega) k31, hi.2.1 702 (by decide), (h.1.2.2.2.1 k (by omega)).2.2.1]
    have r6 : hp_rd P 706 (nI k) = some (if M k = true then nI k else -1) := ty_im_rd hM (by omega) (by omega) (by omega)
    rw [am_s13_7, nI_pred]
    by_cases m : M k = true
    · have hsp : ty_sp T (k + 1) M = ty_sp T k (ty_addm (T k).2.2 (ty_addm (T k).2.1 M)) := by simp only [ty_sp, m, if_true]
      rw [if_pos m] at r6
      rw [hsp]
      rcases w1 with e1 | ⟨a, ha, e1⟩
      · have hM1 : ty_addm (T k).2.1 M = M := by rw [e1]; simp [ty_addm]
        rw [hM1]
        rcases w2 with e2 | ⟨b, hb, e2⟩
        · have hM2 : ty_addm (T k).2.2 M = M := by rw [e2]; simp [ty_addm]
          obtain ⟨P', i1, i2, i3⟩ := ih f P M h hM (by omega) (by omega)
          refine ⟨P', ?_, i2, by rw [hM2]; exact i3⟩
          simp only [am_c_lt, am_c_eq, hlt, if_false, hr_701 w, hr_702 w, hr_706 w, hl_701 w, hl_702 w, hl_706 w, Option.bind_some, r1 ty_imo.rf, r2 ty_imo.rf, r6, hk1, e1, e2, if_true, i_addm1]
          exact i1
        · have hb1 : (nI b = -1) = False := eq_false (nI_ne_m1 (by omega))
          have hmk := ty_mark (sa := sa) (f := f0) (d := d) w h (show b < n by omega)
          obtain ⟨P', i1, i2, i3⟩ := ih f (hp_sA P 706 (nI b) (nI b)) (ty_addm (T k).2.2 M) (ty_imo.sA.okk h) (by rw [e2]; exact ty_im_mark hM (by omega) (by omega)) (by omega) (by omega)
          refine ⟨P', ?_, ty_imo.sA.tr i2, i3⟩
          simp only [am_c_lt, am_c_eq, hlt, if_false, hr_701 w, hr_702 w, hr_706 w, hl_701 w, hl_702 w, hl_706 w, Option.bind_some, r1 ty_imo.rf, r2 ty_imo.rf, r6, hk1, e1, e2, hb1, if_true, hx_7 w, hmk, am_v_some, i_addm1]
          exact i1
      · have ha1 : (nI a = -1) = False := eq_false (nI_ne_m1 (by omega))
        have hmk := ty_mark (sa := sa) (f := f0) (d := d) w h (show a < n by omega)
        have hM1 : ty_im (hp_sA P 706 (nI a) (nI a)) n (ty_addm (T k).2.1 M) := by rw [e1]; exact ty_im_mark hM (by omega) (by omega)
        have ok1 : ty_okk (hp_sA P 706 (nI a) (nI a)) n T := ty_imo.sA.okk h
        have r6' : hp_rd (hp_sA P 706 (nI a) (nI a)) 706 (nI k) = some (nI k) := by
          rw [ty_im_rd hM1 (by omega) (by rw [hA_len]; omega) (by omega), ty_addm_k (by rw [e1]; exact Or.inr ⟨a, ha, rfl⟩) k31, if_pos m]
        rcases w2 with e2 | ⟨b, hb, e2⟩
        · have hM2 : ty_addm (T k).2.2 (ty_addm (T k).2.1 M) = ty_addm (T k).2.1 M := by rw [e2]; simp [ty_addm]
          obtain ⟨P', i1, i2, i3⟩ := ih f (hp_sA P 706 (nI a) (nI a)) (ty_addm (T k).2.1 M) ok1 hM1 (by omega) (by omega)
          refine ⟨P', ?_, ty_imo.sA.tr i2, by rw [hM2]; exact i3⟩
          simp only [am_c_lt, am_c_eq, hlt, if_false, hr_701 w, hr_702 w, hr_706 w, hl_701 w, hl_702 w, hl_706 w, Option.bind_some, r1 ty_imo.rf, r2 (ty_imo.sA (P := P) (i := nI a) (v := nI a)), r6, r6', hk1, e1, e2, ha1, if_true, hx_7 w, hmk, am_v_some, i_addm1]
          exact i1
        · have hb1 : (nI b = -1) = False := eq_false (nI_ne_m1 (by omega))
          have hmk2 := ty_mark (sa := sa) (f := f0) (d := d) w ok1 (show b < n by omega)
          obtain ⟨P', i1, i2, i3⟩ := ih f (hp_sA (hp_sA P 706 (nI a) (nI a)) 706 (nI b) (nI b)) (ty_addm (T k).2.2 (ty_addm (T k).2.1 M)) (ty_imo.sA.okk ok1) (by rw [e2]; exact ty_im_mark hM1 (by omega) (by omega)) (by omega) (by omega)
          refine ⟨P', ?_, (ty_imo.sA.tr ty_imo.sA).tr i2, i3⟩
          simp only [am_c_lt, am_c_eq, hlt, if_false, hr_701 w, hr_702 w, hr_706 w, hl_701 w, hl_702 w, hl_706 w, Option.bind_some, r1 ty_imo.rf, r2 (ty_imo.sA (P := P) (i := nI a) (v := nI a)), r6, r6', hk1, e1, e2, ha1, hb1, if_true, hx_7 w, hmk, hmk2, am_v_some, i_addm1]
          exact i1
    · have hsp : ty_sp T (k + 1) M = ty_sp T k M := by simp only [ty_sp, m, if_false]; rfl
      rw [if_neg m] at r6
      rw [hsp]
      obtain ⟨P', i1, i2, i3⟩ := ih f P M h hM (by omega) (by omega)
      refine ⟨P', ?_, i2, i3⟩
      simp only [am_c_lt, am_c_eq, hlt, if_false, hr_706 w, hl_706 w, Option.bind_some, r6, if_true, i_addm1]
      exact i1
/-- Types.spreadMarks -/
theorem ty_spread {f d : Nat} {M : Nat → Bool} (w : hp_w B ρ) (h : ty_okk P n T) (hM : ty_im P n M) (hf : 10000 ≤ f) :
    ∃ P', am_call B sa am_dfl am_tb f (d + 2) 13 [.ref (ρ.1 7)] (hp_S sa ρ P) = some (none, hp_S sa ρ P') ∧ ty_imo P P' ∧ ty_im P' n (ty_sp T n M) := by
  obtain ⟨f, rfl⟩ : ∃ g, f = g + 1 := ⟨f - 1, by omega⟩
  have h8 := h.1.1.2
  obtain ⟨P', i1, i2, i3⟩ := ty_spread_loop (sa := sa) (f0 := f) (d := d) w n f P M h hM (Nat.le_refl _) (by omega)
  refine ⟨P', ?_, i2, i3⟩
  rw [am_c_13, am_s13_0]
  simp only [hg_708 w, Option.bind_some, h.1.1.1]
  exact i1
/-- how many of the k lowest are marked variables -/
def ty_mv (T : Nat → Int32 × Int32 × Int32) (M : Nat → Bool) : Nat → Nat
  | 0 => 0
  | k + 1 => ty_mv T M k + (if M k = true ∧ (T k).1 < 0 then 1 else 0)
theorem ty_mv_le (M : Nat → Bool) : ∀ k, ty_mv T M k ≤ k
  | 0 => Nat.le_refl _
  | k + 1 => by
    have := ty_mv_le M k
    simp only [ty_mv]
    split <;> omega
theorem ty_mvars_loop {cl : am_F} {M : Nat → Bool} (w : hp_w B ρ) (h : ty_okk P n T) (hM : ty_im P n M) : ∀ (j k f : Nat), k + j = n → j + 1 ≤ f →
    am_go B sa am_dfl cl am_r14 f 4 [(0, .ref (ρ.1 7)), (1, .int (nI (ty_mv T M k))), (2, .int (nI k))] [] (hp_S sa ρ P) = some (some (.int (nI (ty_mv T M n))), hp_S sa ρ P) := by
  obtain ⟨len, a1, a2, l0, l1, l2, l3, l4, l5, l6⟩ := h.1.2.1
  have h8 := h.1.1.2
  intro j
  induction j with
  | zero =>
    intro k f hk hf
    obtain ⟨f, rfl⟩ : ∃ g, f = g + 1 := ⟨f - 1, by omega⟩
    obtain rfl : k = n := by omega
    rw [am_s14_4]
    simp only [hg_708 w, Option.bind_some, h.1.1.1, am_c_ge, Int32.le_refl, if_true]
  | succ j ih =>
    intro k f hk hf
    obtain ⟨f, rfl⟩ : ∃ g, f = g + 1 := ⟨f - 1, by omega⟩
    have k31 : k < 2 ^ 31 := by omega
    have hge : (nI n ≤ nI k) = False := eq_false (nI_ge (by omega) (by omega))
    have hk1 : (nI k = -1) = False := eq_false (nI_ne_m1 k31)
    have r6 : hp_rd P 706 (nI k) = some (if M k = true then nI k else -1) := ty_im_rd hM (by omega) (by omega) (by omega)
    have r0 : hp_rd P 700 (nI k) = some (T k).1 := by rw [hp_rd_nI (by omega) k31, (h.1.2.2.2.1 k (by omega)).1]
    have i1 := ih (k + 1) f (by omega) (by omega)
    rw [am_s14_4]
    simp only [hg_708 w, Option.bind_some, h.1.1.1, am_c_ge, am_c_eq, hge, if_false, hr_706 w, hl_706 w, hr_700 w, hl_700 w, r6, r0, nI_1]
    by_cases m : M k = true
    · rw [if_pos m]
      by_cases c : (0 : Int32) ≤ (T k).1
      · have : ty_mv T M (k + 1) = ty_mv T M k := by simp only [ty_mv]; rw [if_neg (fun z => absurd z.2 (Int32.not_lt.mpr c))]; rfl
        rw [this] at i1
        simp only [hk1, if_false, c, if_true]
        exact i1
      · have : ty_mv T M (k + 1) = ty_mv T M k + 1 := by simp only [ty_mv]; rw [if_pos ⟨m, Int32.not_le.mp c⟩]
        rw [this] at i1
        simp only [hk1, if_false, c]
        exact i1
    · have : ty_mv T M (k + 1) = ty_mv T M k := by simp only [ty_mv]; rw [if_neg (fun z => m z.1)]; rfl
      rw [this] at i1
      simp only [m, if_false, if_true]
      exact i1
/-- Types.markedVariables -/
theorem ty_mvars {f d : Nat} {M : Nat → Bool} (w : hp_w B ρ) (h : ty_okk P n T) (hM : ty_im P n M) (hf : 10000 ≤ f) :
    am_call B sa am_dfl am_tb f (d + 1) 14 [.ref (ρ.1 7)] (hp_S sa ρ P) = some (some (.int (nI (ty_mv T M n))), hp_S sa ρ P) := by
  obtain ⟨f, rfl⟩ : ∃ g, f = g + 1 := ⟨f - 1, by omega⟩
  have h8 := h.1.1.2
  have := ty_mvars_loop (sa := sa) (cl := am_call B sa am_dfl am_tb (f + 1) d) w h hM n 0 f (by omega) (by omega)
  rw [am_c_14, am_s14_0]
  rw [show ty_mv T M 0 = 0 from rfl, nI_0] at this
  exact this
end TY9
