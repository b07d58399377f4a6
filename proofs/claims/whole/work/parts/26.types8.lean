/-! TYPES of the class, 8: the row of images -/
/-- only the images' contents have changed -/
def ty_imo (P P' : hp_P) : Prop := P'.1 = P.1 ∧ (∀ r, r ≠ 706 → P'.2 r = P.2 r) ∧ (P'.2 706).1 = (P.2 706).1
theorem ty_imo.rf {P : hp_P} : ty_imo P P := ⟨rfl, fun _ _ => rfl, rfl⟩
theorem ty_imo.tr {P P' P'' : hp_P} (h : ty_imo P P') (k : ty_imo P' P'') : ty_imo P P'' := ⟨k.1.trans h.1, fun r hr => (k.2.1 r hr).trans (h.2.1 r hr), k.2.2.trans h.2.2⟩
theorem ty_imo.sA {P : hp_P} {i v : Int32} : ty_imo P (hp_sA P 706 i v) := ⟨rfl, fun _ hr => hA_ne hr, hA_len⟩
theorem ty_imo.len {P P' : hp_P} (h : ty_imo P P') (r : Nat) : (P'.2 r).1 = (P.2 r).1 := by
  by_cases e : r = 706
  · rw [e]; exact h.2.2
  · rw [h.2.1 r e]
theorem ty_imo.okk {P P' : hp_P} {n : Nat} {T : Nat → Int32 × Int32 × Int32} (h : ty_imo P P') (k : ty_okk P n T) : ty_okk P' n T := by
  obtain ⟨⟨⟨hn, hn8⟩, ⟨len, a1, a2, l0, l1, l2, l3, l4, l5, l6⟩, l7, hrow, hhd⟩, hwf, hsz⟩ := k
  obtain ⟨h1, h2, h3⟩ := h
  refine ⟨⟨⟨by rw [h1]; exact hn, hn8⟩, ⟨len, a1, a2, ?_, ?_, ?_, ?_, ?_, ?_, ?_⟩, ?_, fun j hj => ?_, fun b hb => ?_⟩, hwf, fun j hj => ?_⟩
  · rw [h2 700 (by decide)]; exact l0
  · rw [h2 701 (by decide)]; exact l1
  · rw [h2 702 (by decide)]; exact l2
  · rw [h2 703 (by decide)]; exact l3
  · rw [h2 704 (by decide)]; exact l4
  · rw [h2 705 (by decide)]; exact l5
  · rw [h3]; exact l6
  · rw [h2 707 (by decide)]; exact l7
  · rw [h2 700 (by decide), h2 701 (by decide), h2 702 (by decide), h2 705 (by decide)]
    exact hrow j hj
  · rw [h2 707 (by decide)]
    exact hhd b hb
  · rw [h2 703 (by decide), h2 704 (by decide)]
    exact hsz j hj
theorem ty_imo.hlen {P P' : hp_P} (h : ty_imo P P') : hp_len P' = hp_len P := by
  unfold hp_len
  congr 1
  exact List.map_congr_left fun x _ => h.len x
theorem ty_imo.fr {ρ : hp_L} {P P' : hp_P} (h : ty_imo P P') : hp_fr ty_S 0 ρ P ρ P' := by
  refine ⟨rfl, fun r hr => ⟨by rw [h.1], h.2.1 r (fun e => ?_), rfl⟩, fun _ _ h => h, by rw [h.hlen]; omega, by rw [h.hlen]; omega, fun r => by rw [h.len]; exact Nat.le_refl _⟩
  rw [e] at hr
  exact absurd hr (by decide)
section TY8
variable {sa : Nat → Nat} {B : Nat} {ρ : hp_L} {P : hp_P} {n : Nat} {T : Nat → Int32 × Int32 × Int32}
/-- Types.isFunction -/
theorem ty_isFun {f d : Nat} (w : hp_w B ρ) (h : ty_okk P n T) {a : Nat} (ha : a < n) : am_call B sa am_dfl am_tb (f + 1) (d + 1) 8 [.ref (ρ.1 7), .int (nI a)] (hp_S sa ρ P) = some (some (.int (if (T a).1 = 2 then 1 else 0)), hp_S sa ρ P) := by
  obtain ⟨len, a1, a2, l0, -⟩ := h.1.2.1
  have h8 := h.1.1.2
  have r0 : hp_rd P 700 (nI a) = some (T a).1 := by rw [hp_rd_nI (by omega) (by omega), (h.1.2.2.2.1 a ha).1]
  have hlt : (nI a < 0) = False := eq_false (nI_pos (by omega))
  rw [am_c_8, am_s8_0]
  simp only [am_c_lt, hlt, if_false, hr_700 w, hl_700 w, Option.bind_some, r0, am_c_ne, ne_eq]
  by_cases e : (T a).1 = 2
  · simp only [e, not_true_eq_false, if_false, if_true, am_rz_1]
  · simp only [e, not_false_eq_true, if_false, if_true, am_rz_0]
/-- Types.isFunction of no type -/
theorem ty_isFun_no {f d : Nat} {i : Int32} (hi : i < 0) {σ : am_S} {o : Nat} : am_call B sa am_dfl am_tb (f + 1) (d + 1) 8 [.ref o, .int i] σ = some (some (.int 0), σ) := by
  rw [am_c_8, am_s8_0]
  simp only [am_c_lt, hi, if_true, am_rz_0]
/-- Types.answerOf -/
theorem ty_answer {f d : Nat} (w : hp_w B ρ) (h : ty_okk P n T) {a : Nat} (ha : a < n) : am_call B sa am_dfl am_tb (f + 1) (d + 2) 9 [.ref (ρ.1 7), .int (nI a)] (hp_S sa ρ P) = some (some (.int (if (T a).1 = 2 then (T a).2.2 else -2)), hp_S sa ρ P) := by
  obtain ⟨len, a1, a2, l0, l1, l2, -⟩ := h.1.2.1
  have h8 := h.1.1.2
  have r2 : hp_rd P 702 (nI a) = some (T a).2.2 := by rw [hp_rd_nI (by omega) (by omega), (h.1.2.2.2.1 a ha).2.2.1]
  rw [am_c_9, am_s9_0]
  simp only [hx_7 w, Option.bind_some, ty_isFun (f := f) (d := d) w h ha, am_i_some, hr_702 w, hl_702 w, r2, am_c_eq]
  by_cases e : (T a).1 = 2
  · simp only [e, if_true]
    rw [if_neg (by decide)]
  · simp only [e, if_false, if_true]
theorem ty_answer_no {f d : Nat} (w : hp_w B ρ) {i : Int32} (hi : i < 0) : am_call B sa am_dfl am_tb (f + 1) (d + 2) 9 [.ref (ρ.1 7), .int i] (hp_S sa ρ P) = some (some (.int (-2)), hp_S sa ρ P) := by
  rw [am_c_9, am_s9_0]
  simp only [hx_7 w, Option.bind_some, ty_isFun_no (f := f) (d := d) hi, am_i_some, am_c_eq, if_true]
/-- Types.mark -/
theorem ty_mark {f d : Nat} (w : hp_w B ρ) (h : ty_okk P n T) {a : Nat} (ha : a < n) : am_call B sa am_dfl am_tb (f + 1) (d + 1) 12 [.ref (ρ.1 7), .int (nI a)] (hp_S sa ρ P) = some (none, hp_S sa ρ (hp_sA P 706 (nI a) (nI a))) := by
  obtain ⟨len, a1, a2, l0, l1, l2, l3, l4, l5, l6⟩ := h.1.2.1
  have h8 := h.1.1.2
  have c6 : hp_ck P 706 (nI a) = some () := hp_ck_nI (by omega) (by omega)
  rw [am_c_12, am_s12_0]
  simp only [hr_706 w, ht_706 w, Option.bind_some, c6]
theorem ty_unmark_loop {cl : am_F} (w : hp_w B ρ) : ∀ (j k f : Nat) (P : hp_P), ty_okk P n T → k + j = n → j + 1 ≤ f → (∀ i, i < k → (P.2 706).2 i = -1) →
    ∃ P', am_go B sa am_dfl cl am_r11 f 2 [(0, .ref (ρ.1 7)), (1, .int (nI k))] [] (hp_S sa ρ P) = some (none, hp_S sa ρ P') ∧ ty_imo P P' ∧ ∀ i, i < n → (P'.2 706).2 i = -1 := by
  intro j
  induction j with
  | zero =>
    intro k f P h hk hf hm
    obtain ⟨f, rfl⟩ : ∃ g, f = g + 1 := ⟨f - 1, by omega⟩
    obtain rfl : k = n := by omega
    refine ⟨P, ?_, ty_imo.rf, hm⟩
    rw [am_s11_2]
    simp only [hg_708 w, Option.bind_some, h.1.1.1, am_c_ge, Int32.le_refl, if_true]
  | succ j ih =>
    intro k f P h hk hf hm
    obtain ⟨f, rfl⟩ : ∃ g, f = g + 1 := ⟨f - 1, by omega⟩
    obtain ⟨len, a1, a2, l0, l1, l2, l3, l4, l5, l6⟩ := h.1.2.1
    have h8 := h.1.1.2
    have c6 : hp_ck P 706 (nI k) = some () := hp_ck_nI (by omega) (by omega)
    have hge : (nI n ≤ nI k) = False := eq_false (nI_ge (by omega) (by omega))
    obtain ⟨P', i1, i2, i3⟩ := ih (k + 1) f (hp_sA P 706 (nI k) (-1)) (ty_imo.sA.okk h) (by omega) (by omega) (fun i hi => by
      rw [hA_eq, nI_clamp (by omega)]
      show upd _ k (-1) i = -1
      by_cases e : i = k
      · rw [e, pk_us]
      · rw [pk_un e]; exact hm i (by omega))
    refine ⟨P', ?_, ty_imo.sA.tr i2, i3⟩
    rw [am_s11_2]
    simp only [hg_708 w, Option.bind_some, h.1.1.1, am_c_ge, hge, if_false, hr_706 w, ht_706 w, c6, nI_1]
    exact i1
/-- Types.unmark -/
theorem ty_unmark {f d : Nat} (w : hp_w B ρ) (h : ty_okk P n T) (hf : 10000 ≤ f) :
    ∃ P', am_call B sa am_dfl am_tb f (d + 1) 11 [.ref (ρ.1 7)] (hp_S sa ρ P) = some (none, hp_S sa ρ P') ∧ ty_imo P P' ∧ ∀ i, i < n → (P'.2 706).2 i = -1 := by
  obtain ⟨f, rfl⟩ : ∃ g, f = g + 1 := ⟨f - 1, by omega⟩
  have h8 := h.1.1.2
  obtain ⟨P', i1, i2, i3⟩ := ty_unmark_loop (sa := sa) (cl := am_call B sa am_dfl am_tb (f + 1) d) w n 0 f P h (by omega) (by omega) (fun i hi => by omega)
  refine ⟨P', ?_, i2, i3⟩
  rw [am_c_11, am_s11_0]
  rw [nI_0] at i1
  exact i1
end TY8
