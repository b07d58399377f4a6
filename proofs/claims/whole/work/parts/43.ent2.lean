/-! ENTRIES of the class, 2: addType, addTerm -/
section EN2
variable {sa : Nat → Nat} {B : Nat} {ρ : hp_L} {P : hp_P} {n : Nat} {T : Nat → Int32 × Int32 × Int32} {et : List qT} {em : List qM}
/-- the stores of addType -/
def et_P (P : hp_P) (k : Nat) (v : Int32) : hp_P := hp_sI (hp_sA P 102 (nI k) v) 103 (nI (k + 1))
theorem et_P_I {v : Int32} {t : qT} (h : enI P n T et em) (hl : et.length < (P.2 102).1) (hv : pl n T v t) : enI (et_P P et.length v) n T (et ++ [t]) em := by
  obtain ⟨⟨a1, a2, a3, a4, a5⟩, ⟨b1, b2, b3⟩, c1, c2⟩ := h
  unfold et_P
  refine ⟨⟨?_, ?_, ?_, ?_, fun j t' hj => ?_⟩, ⟨b1, ?_, ?_⟩, ?_, ?_⟩
  · rw [hI_eq, List.length_append]; rfl
  · rw [hI_A, hA_len, List.length_append]; exact hl
  · rw [hI_A, hA_len]; exact a3
  · rw [hI_A, hA_len]; exact a4
  · rw [hI_A, hA_eq, nI_clamp (by omega)]
    show pl n T (upd _ _ _ j) t'
    rcases rw_push_g hj with z | ⟨z1, z2⟩
    · have : j < et.length := (List.getElem?_eq_some_iff.mp z).1
      rw [pk_un (by omega)]
      exact a5 j t' z
    · rw [z1, z2, pk_us]
      exact hv
  · obtain ⟨len, l1, l2, l3, l4⟩ := b2
    exact ⟨len, l1, l2, l3, fun r z1 z2 => by rw [hI_A, hA_len]; exact l4 r z1 z2⟩
  · intro j M hj
    have := b3 j M hj
    unfold en_row at this ⊢
    rw [hI_A, hA_ne (show (104 : Nat) ≠ 102 by decide), hA_ne (show (105 : Nat) ≠ 102 by decide), hA_ne (show (106 : Nat) ≠ 102 by decide), hA_ne (show (107 : Nat) ≠ 102 by decide), hA_ne (show (108 : Nat) ≠ 102 by decide), hA_ne (show (109 : Nat) ≠ 102 by decide), hA_ne (show (110 : Nat) ≠ 102 by decide)]
    exact this
  · rw [hI_A, hA_len]; exact c1
  · rw [hI_A, hA_len]; exact c2
theorem et_P_fr {k : Nat} {v : Int32} : hp_fr en_S 0 ρ P ρ (et_P P k v) := hp_fr.tr0 (hp_fr.sA (en_S_t (by decide))) (hp_fr.sI (en_S_t (by decide)))
theorem et_grow_I (h : enI P n T et em) (h8 : et.length = (P.2 102).1) (h80 : (P.2 102).1 ≤ 8000) : enI (ty_g1 (P.2 102).1 102 (ρ, P)).2 n T et em := by
  obtain ⟨⟨a1, a2, a3, a4, a5⟩, ⟨b1, b2, b3⟩, c1, c2⟩ := h
  refine ⟨⟨a1, ?_, ?_, ?_, fun j t' hj => ?_⟩, ⟨b1, ?_, b3⟩, c1, c2⟩
  · show et.length ≤ 2 * (P.2 102).1; omega
  · show 64 ≤ 2 * (P.2 102).1; omega
  · show 2 * (P.2 102).1 ≤ 16000; omega
  · have : j < et.length := (List.getElem?_eq_some_iff.mp hj).1
    show pl n T (hp_ext (P.2 102) j) t'
    rw [hp_ext_lt (by omega)]
    exact a5 j t' hj
  · obtain ⟨len, l1, l2, l3, l4⟩ := b2
    exact ⟨len, l1, l2, l3, fun r z1 z2 => by
      rw [ty_g1_P, if_neg (by omega)]
      exact l4 r z1 z2⟩
/-- addType -/
theorem en_addType {f d : Nat} {v : Int32} {t : qT} (w : hp_w B ρ) (h : enI P n T et em) (h8 : et.length < 8000) (hv : pl n T v t ∨ v = -2) (hn : n < 2 ^ 31) :
    ∃ ρ' P', am_call B sa am_dfl am_tb (f + 1) (d + 3) 42 [.ref (ρ.1 1), .int v] (hp_S sa ρ P) = some (some (.int (bP (pl n T v t))), hp_S sa ρ' P') ∧ hp_w B ρ' ∧ (pl n T v t → enI P' n T (et ++ [t]) em) ∧ (¬ pl n T v t → enI P' n T et em) ∧ hp_fr en_S 0 ρ P ρ' P' := by
  rw [am_c_42, am_s42_0]
  have hlt : (nI et.length < (8000 : Int32)) = True := by rw [show (8000 : Int32) = nI 8000 from rfl]; exact eq_true (nI_lt h8 (by omega))
  by_cases e : pl n T v t
  · rw [bP_t e]
    obtain ⟨a, ha, rfl, hct⟩ := e
    have e : pl n T (nI a) t := ⟨a, ha, rfl, hct⟩
    have hal : am_alen (hp_S sa ρ P) (ρ.2.1 102) = some (nI (P.2 102).1) := by rw [hp_alen w (by decide)]; rfl
    have a4 := h.1.2.2.2.1
    have a2 := h.1.2.1
    have a3 := h.1.2.2.1
    simp only [am_c_lt, nI_pos (show a < 2 ^ 31 by omega), if_false, hg_103 w, h.1.1, Option.bind_some, hlt, if_true, hr_102 w, hal, am_c_ne]
    by_cases eq : et.length = (P.2 102).1
    · rw [if_neg (fun z => z (by rw [eq]))]
      have g1 := et_grow_I (ρ := ρ) h eq (by omega)
      have w1 : hp_w B (ty_g1 (P.2 102).1 102 (ρ, P)).1 := ty_g1_w w (by decide)
      refine ⟨_, _, ?_, w1, fun _ => et_P_I g1 (by show et.length < 2 * (P.2 102).1; omega) e, fun z => absurd e z, hp_fr.tr0 (hp_fr.grow w (en_S_t (by decide)) (by decide) rfl (by omega)) et_P_fr⟩
      rw [hp_longer w (show 102 ∈ hp_rs by decide) rfl (by omega) (by omega), am_p_some, hd_102 w, Option.bind_some]
      have ob : ρ.1 1 = (ty_g1 (P.2 102).1 102 (ρ, P)).1.1 1 := rfl
      have ck : hp_ck (ty_g1 (P.2 102).1 102 (ρ, P)).2 102 (nI et.length) = some () := hp_ck_nI (by show et.length < 2 * (P.2 102).1; omega) (by omega)
      have i3 : (ty_g1 (P.2 102).1 102 (ρ, P)).2.1 103 = nI et.length := g1.1.1
      show ((am_getr (hp_S sa (ty_g1 (P.2 102).1 102 (ρ, P)).1 (ty_g1 (P.2 102).1 102 (ρ, P)).2) ((ty_g1 (P.2 102).1 102 (ρ, P)).1.1 1) 1 2).bind fun p13 => (am_geti (hp_S sa (ty_g1 (P.2 102).1 102 (ρ, P)).1 (ty_g1 (P.2 102).1 102 (ρ, P)).2) ((ty_g1 (P.2 102).1 102 (ρ, P)).1.1 1) 1 3).bind fun v14 => (am_iast B (hp_S sa (ty_g1 (P.2 102).1 102 (ρ, P)).1 (ty_g1 (P.2 102).1 102 (ρ, P)).2) p13 v14 (nI a)).bind fun g15 => (am_geti g15 ((ty_g1 (P.2 102).1 102 (ρ, P)).1.1 1) 1 3).bind fun v16 => (am_put B g15 ((ty_g1 (P.2 102).1 102 (ρ, P)).1.1 1) 1 3 (.int (v16 + 1))).bind fun g17 => am_rz 1 g17) = _
      simp only [hr_102 w1, hg_103 w1, Option.bind_some, i3, ht_102 w1, ck, hA_I, hs_103 w1, nI_1, am_rz_1]
      rfl
    · rw [if_pos (fun z => eq ((nI_eq (by omega) (by omega)).mp z))]
      have ck : hp_ck P 102 (nI et.length) = some () := hp_ck_nI (by omega) (by omega)
      refine ⟨ρ, _, ?_, w, fun _ => et_P_I h (by omega) e, fun z => absurd e z, et_P_fr⟩
      simp only [ht_102 w, ck, Option.bind_some, hg_103 w, hA_I, h.1.1, hs_103 w, nI_1, am_rz_1]
      rfl
  · rw [bP_f e]
    obtain rfl := hv.resolve_left e
    refine ⟨ρ, P, ?_, w, fun z => absurd z e, fun _ => h, hp_fr.rf⟩
    simp only [am_c_lt]
    rw [if_pos (by decide), am_rz_0]
/-- the stores of addTerm -/
def em_P (P : hp_P) (k : Nat) (c v l r : Int32) (s h o : Nat) : hp_P := hp_sI (hp_sA (hp_sA (hp_sA (hp_sA (hp_sA (hp_sA (hp_sA P 104 (nI k) c) 105 (nI k) v) 106 (nI k) l) 107 (nI k) r) 108 (nI k) (nI s)) 109 (nI k) (nI h)) 110 (nI k) (nI o)) 111 (nI (k + 1))
theorem em_P_rd {k : Nat} {c v l r : Int32} {s h o : Nat} (hk : k < 2 ^ 31) : (em_P P k c v l r s h o).2 104 = ((P.2 104).1, upd (P.2 104).2 k c) ∧ (em_P P k c v l r s h o).2 105 = ((P.2 105).1, upd (P.2 105).2 k v) ∧ (em_P P k c v l r s h o).2 106 = ((P.2 106).1, upd (P.2 106).2 k l) ∧ (em_P P k c v l r s h o).2 107 = ((P.2 107).1, upd (P.2 107).2 k r) ∧ (em_P P k c v l r s h o).2 108 = ((P.2 108).1, upd (P.2 108).2 k (nI s)) ∧ (em_P P k c v l r s h o).2 109 = ((P.2 109).1, upd (P.2 109).2 k (nI h)) ∧ (em_P P k c v l r s h o).2 110 = ((P.2 110).1, upd (P.2 110).2 k (nI o)) ∧ ∀ x, ¬ (104 ≤ x ∧ x ≤ 110) → (em_P P k c v l r s h o).2 x = P.2 x := by
  unfold em_P
  simp only [hI_A, hp_sA, nI_clamp hk, if_true]
  refine ⟨rfl, rfl, rfl, rfl, rfl, rfl, rfl, fun x hx => ?_⟩
  rw [if_neg (by omega), if_neg (by omega), if_neg (by omega), if_neg (by omega), if_neg (by omega), if_neg (by omega), if_neg (by omega)]
theorem em_P_len {k x : Nat} {c v l r : Int32} {s h o : Nat} : ((em_P P k c v l r s h o).2 x).1 = (P.2 x).1 := by
  unfold em_P
  rw [hI_A, hA_len, hA_len, hA_len, hA_len, hA_len, hA_len, hA_len]
theorem em_P_I {c v l r : Int32} {M : qM} (h : enI P n T et em) (hl : em.length < (P.2 104).1) (hM : m_wf M) (hc : c = m_c M) (hv : pl n T v (m_ty M)) (h1 : en_ch em em.length l (m_l M)) (h2 : en_ch em em.length r (m_r M)) (hs : (m_fl M).length ≤ 4000) (hh : m_ht M ≤ 120) : enI (em_P P em.length c v l r (m_fl M).length (m_ht M) (m_lo M)) n T et (em ++ [M]) := by
  obtain ⟨⟨a1, a2, a3, a4, a5⟩, ⟨b1, ⟨len, l1, l2, l3, l4⟩, b3⟩, c1, c2⟩ := h
  have hll := l4 104 (by decide) (by decide)
  obtain ⟨q1, q2, q3, q4, q5, q6, q7, q8⟩ := em_P_rd (P := P) (c := c) (v := v) (l := l) (r := r) (s := (m_fl M).length) (h := m_ht M) (o := m_lo M) (show em.length < 2 ^ 31 by omega)
  refine ⟨⟨?_, ?_, ?_, ?_, ?_⟩, ⟨?_, ⟨len, l1, l2, ?_, fun x z1 z2 => by rw [em_P_len]; exact l4 x z1 z2⟩, fun j N hj => ?_⟩, ?_, ?_⟩
  · show (hp_sI _ 111 _).1 103 = _
    rw [hI_ne (by decide)]; exact a1
  · rw [em_P_len]; exact a2
  · rw [em_P_len]; exact a3
  · rw [em_P_len]; exact a4
  · rw [q8 102 (by omega)]; exact a5
  · show (hp_sI _ 111 _).1 111 = _
    rw [hI_eq, List.length_append]; rfl
  · rw [List.length_append]; show em.length + 1 ≤ len; omega
  · unfold en_row
    rw [q1, q2, q3, q4, q5, q6, q7]
    dsimp only
    rcases rw_push_g hj with z | ⟨z1, z2⟩
    · have hj' : j < em.length := (List.getElem?_eq_some_iff.mp z).1
      have hne : j ≠ em.length := by omega
      rw [pk_un hne, pk_un hne, pk_un hne, pk_un hne, pk_un hne, pk_un hne, pk_un hne]
      obtain ⟨r0, r1, r2, r3, r4, r5⟩ := b3 j N z
      exact ⟨r0, r1, r2, r3.ap, r4.ap, r5⟩
    · rw [z1, z2, pk_us, pk_us, pk_us, pk_us, pk_us, pk_us, pk_us]
      exact ⟨hM, hc, hv, h1.ap, h2.ap, rfl, rfl, rfl, hs, hh⟩
  · rw [em_P_len]; exact c1
  · rw [em_P_len]; exact c2
theorem em_P_fr {k : Nat} {c v l r : Int32} {s h o : Nat} : hp_fr en_S 0 ρ P ρ (em_P P k c v l r s h o) := by
  unfold em_P
  refine hp_fr.tr0 ?_ (hp_fr.sI (en_S_t (by decide)))
  refine hp_fr.tr0 ?_ (hp_fr.sA (en_S_t (by decide)))
  refine hp_fr.tr0 ?_ (hp_fr.sA (en_S_t (by decide)))
  refine hp_fr.tr0 ?_ (hp_fr.sA (en_S_t (by decide)))
  refine hp_fr.tr0 ?_ (hp_fr.sA (en_S_t (by decide)))
  refine hp_fr.tr0 ?_ (hp_fr.sA (en_S_t (by decide)))
  refine hp_fr.tr0 ?_ (hp_fr.sA (en_S_t (by decide)))
  exact hp_fr.sA (en_S_t (by decide))
/-- all rows of terms have grown -/
def em_g (len : Nat) (x : hp_L × hp_P) : hp_L × hp_P := ty_g1 len 110 (ty_g1 len 109 (ty_g1 len 108 (ty_g1 len 107 (ty_g1 len 106 (ty_g1 len 105 (ty_g1 len 104 x))))))
theorem em_g_P {len y : Nat} {x : hp_L × hp_P} : (em_g len x).2.2 y = if 104 ≤ y ∧ y ≤ 110 then (2 * len, hp_ext (x.2.2 y)) else x.2.2 y := by
  unfold em_g
  simp only [ty_g1_P]
  by_cases h : 104 ≤ y ∧ y ≤ 110
  · rw [if_pos h]
    have : y = 104 ∨ y = 105 ∨ y = 106 ∨ y = 107 ∨ y = 108 ∨ y = 109 ∨ y = 110 := by omega
    rcases this with rfl | rfl | rfl | rfl | rfl | rfl | rfl <;> rfl
  · rw [if_neg h]
    rw [if_neg (by omega), if_neg (by omega), if_neg (by omega), if_neg (by omega), if_neg (by omega), if_neg (by omega), if_neg (by omega)]
theorem em_g_w {len : Nat} {x : hp_L × hp_P} (w : hp_w B x.1) : hp_w B (em_g len x).1 := ty_g1_w (ty_g1_w (ty_g1_w (ty_g1_w (ty_g1_w (ty_g1_w (ty_g1_w w (by decide)) (by decide)) (by decide)) (by decide)) (by decide)) (by decide)) (by decide)
theorem em_g_fr {len : Nat} (w : hp_w B ρ) (hl : ∀ r, 104 ≤ r → r ≤ 110 → (P.2 r).1 = len) (h0 : 0 < len) : hp_fr en_S 0 ρ P (em_g len (ρ, P)).1 (em_g len (ρ, P)).2 := by
  have w0 := ty_g1_w (len := len) (r := 104) (x := (ρ, P)) w (by decide)
  have w1 := ty_g1_w (len := len) (r := 105) w0 (by decide)
  have w2 := ty_g1_w (len := len) (r := 106) w1 (by decide)
  have w3 := ty_g1_w (len := len) (r := 107) w2 (by decide)
  have w4 := ty_g1_w (len := len) (r := 108) w3 (by decide)
  have w5 := ty_g1_w (len := len) (r := 109) w4 (by decide)
  have f0 : hp_fr en_S 0 ρ P (ty_g1 len 104 (ρ, P)).1 (ty_g1 len 104 (ρ, P)).2 := hp_fr.grow w (en_S_t (by decide)) (by decide) (hl 104 (by decide) (by decide)) h0
  have f1 := hp_fr.grow (S := en_S) (r := 105) (len := len) (P := (ty_g1 len 104 (ρ, P)).2) (g := hp_ext ((ty_g1 len 104 (ρ, P)).2.2 105)) w0 (en_S_t (by decide)) (by decide) (hl 105 (by decide) (by decide)) h0
  have f2 := hp_fr.grow (S := en_S) (r := 106) (len := len) (P := (ty_g1 len 105 (ty_g1 len 104 (ρ, P))).2) (g := hp_ext ((ty_g1 len 105 (ty_g1 len 104 (ρ, P))).2.2 106)) w1 (en_S_t (by decide)) (by decide) (hl 106 (by decide) (by decide)) h0
  have f3 := hp_fr.grow (S := en_S) (r := 107) (len := len) (P := (ty_g1 len 106 (ty_g1 len 105 (ty_g1 len 104 (ρ, P)))).2) (g := hp_ext ((ty_g1 len 106 (ty_g1 len 105 (ty_g1 len 104 (ρ, P)))).2.2 107)) w2 (en_S_t (by decide)) (by decide) (hl 107 (by decide) (by decide)) h0
  have f4 := hp_fr.grow (S := en_S) (r := 108) (len := len) (P := (ty_g1 len 107 (ty_g1 len 106 (ty_g1 len 105 (ty_g1 len 104 (ρ, P))))).2) (g := hp_ext ((ty_g1 len 107 (ty_g1 len 106 (ty_g1 len 105 (ty_g1 len 104 (ρ, P))))).2.2 108)) w3 (en_S_t (by decide)) (by decide) (hl 108 (by decide) (by decide)) h0
  have f5 := hp_fr.grow (S := en_S) (r := 109) (len := len) (P := (ty_g1 len 108 (ty_g1 len 107 (ty_g1 len 106 (ty_g1 len 105 (ty_g1 len 104 (ρ, P)))))).2) (g := hp_ext ((ty_g1 len 108 (ty_g1 len 107 (ty_g1 len 106 (ty_g1 len 105 (ty_g1 len 104 (ρ, P)))))).2.2 109)) w4 (en_S_t (by decide)) (by decide) (hl 109 (by decide) (by decide)) h0
  have f6 := hp_fr.grow (S := en_S) (r := 110) (len := len) (P := (ty_g1 len 109 (ty_g1 len 108 (ty_g1 len 107 (ty_g1 len 106 (ty_g1 len 105 (ty_g1 len 104 (ρ, P))))))).2) (g := hp_ext ((ty_g1 len 109 (ty_g1 len 108 (ty_g1 len 107 (ty_g1 len 106 (ty_g1 len 105 (ty_g1 len 104 (ρ, P))))))).2.2 110)) w5 (en_S_t (by decide)) (by decide) (hl 110 (by decide) (by decide)) h0
  exact hp_fr.tr0 f0 (hp_fr.tr0 f1 (hp_fr.tr0 f2 (hp_fr.tr0 f3 (hp_fr.tr0 f4 (hp_fr.tr0 f5 f6)))))
theorem em_grow_I {len : Nat} (h : enI P n T et em) (hl : ∀ r, 104 ≤ r → r ≤ 110 → (P.2 r).1 = len) (h16 : len ≤ 16000) (h64 : 64 ≤ len) (he : em.length ≤ len) : enI (em_g len (ρ, P)).2 n T et em := by
  obtain ⟨⟨a1, a2, a3, a4, a5⟩, ⟨b1, b2, b3⟩, c1, c2⟩ := h
  have hP : ∀ y, ¬ (104 ≤ y ∧ y ≤ 110) → (em_g len (ρ, P)).2.2 y = P.2 y := fun y hy => by rw [em_g_P, if_neg hy]
  refine ⟨⟨a1, ?_, ?_, ?_, ?_⟩, ⟨b1, ⟨2 * len, by omega, by omega, by omega, fun r z1 z2 => by rw [em_g_P, if_pos ⟨z1, z2⟩]⟩, fun j M hj => ?_⟩, ?_, ?_⟩
  · rw [hP 102 (by omega)]; exact a2
  · rw [hP 102 (by omega)]; exact a3
  · rw [hP 102 (by omega)]; exact a4
  · rw [hP 102 (by omega)]; exact a5
  · have hj' : j < em.length := (List.getElem?_eq_some_iff.mp hj).1
    have e := b3 j M hj
    have rd : ∀ r, 104 ≤ r → r ≤ 110 → ((em_g len (ρ, P)).2.2 r).2 j = (P.2 r).2 j := fun r z1 z2 => by
      rw [em_g_P, if_pos ⟨z1, z2⟩]
      exact hp_ext_lt (by rw [hl r z1 z2]; omega)
    unfold en_row at e ⊢
    rw [rd 104 (by decide) (by decide), rd 105 (by decide) (by decide), rd 106 (by decide) (by decide), rd 107 (by decide) (by decide), rd 108 (by decide) (by decide), rd 109 (by decide) (by decide), rd 110 (by decide) (by decide)]
    exact e
  · rw [hP 112 (by omega)]; exact c1
  · rw [hP 113 (by omega)]; exact c2
/-- growTerms -/
theorem em_grow {f d len : Nat} (w : hp_w B ρ) (hl : ∀ r, 104 ≤ r → r ≤ 110 → (P.2 r).1 = len) (h0 : 0 < len) (h5 : len ≤ 50000) : am_call B sa am_dfl am_tb (f + 1) (d + 3) 44 [.ref (ρ.1 1)] (hp_S sa ρ P) = some (none, hp_S sa (em_g len (ρ, P)).1 (em_g len (ρ, P)).2) := by
  have w0 := ty_g1_w (len := len) (r := 104) (x := (ρ, P)) w (by decide)
  have w1 := ty_g1_w (len := len) (r := 105) w0 (by decide)
  have w2 := ty_g1_w (len := len) (r := 106) w1 (by decide)
  have w3 := ty_g1_w (len := len) (r := 107) w2 (by decide)
  have w4 := ty_g1_w (len := len) (r := 108) w3 (by decide)
  have w5 := ty_g1_w (len := len) (r := 109) w4 (by decide)
  rw [am_c_44, am_s44_0]
  refine (lg_104 (f := f) (d := d) w rfl (hl 104 (by decide) (by decide)) h0 h5).trans ?_
  refine (lg_105 (ρ := (ty_g1 len 104 (ρ, P)).1) (P := (ty_g1 len 104 (ρ, P)).2) (f := f) (d := d) w0 rfl (hl 105 (by decide) (by decide)) h0 h5).trans ?_
  refine (lg_106 (ρ := (ty_g1 len 105 (ty_g1 len 104 (ρ, P))).1) (P := (ty_g1 len 105 (ty_g1 len 104 (ρ, P))).2) (f := f) (d := d) w1 rfl (hl 106 (by decide) (by decide)) h0 h5).trans ?_
  refine (lg_107 (ρ := (ty_g1 len 106 (ty_g1 len 105 (ty_g1 len 104 (ρ, P)))).1) (P := (ty_g1 len 106 (ty_g1 len 105 (ty_g1 len 104 (ρ, P)))).2) (f := f) (d := d) w2 rfl (hl 107 (by decide) (by decide)) h0 h5).trans ?_
  refine (lg_108 (ρ := (ty_g1 len 107 (ty_g1 len 106 (ty_g1 len 105 (ty_g1 len 104 (ρ, P))))).1) (P := (ty_g1 len 107 (ty_g1 len 106 (ty_g1 len 105 (ty_g1 len 104 (ρ, P))))).2) (f := f) (d := d) w3 rfl (hl 108 (by decide) (by decide)) h0 h5).trans ?_
  refine (lg_109 (ρ := (ty_g1 len 108 (ty_g1 len 107 (ty_g1 len 106 (ty_g1 len 105 (ty_g1 len 104 (ρ, P)))))).1) (P := (ty_g1 len 108 (ty_g1 len 107 (ty_g1 len 106 (ty_g1 len 105 (ty_g1 len 104 (ρ, P)))))).2) (f := f) (d := d) w4 rfl (hl 109 (by decide) (by decide)) h0 h5).trans ?_
  exact lg_110 (ρ := (ty_g1 len 109 (ty_g1 len 108 (ty_g1 len 107 (ty_g1 len 106 (ty_g1 len 105 (ty_g1 len 104 (ρ, P))))))).1) (P := (ty_g1 len 109 (ty_g1 len 108 (ty_g1 len 107 (ty_g1 len 106 (ty_g1 len 105 (ty_g1 len 104 (ρ, P))))))).2) (f := f) (d := d) w5 rfl (hl 110 (by decide) (by decide)) h0 h5
/-- looseOf, where the row of it stands as before -/
theorem em_looseOf {f d : Nat} {M : qM} {l r : Int32} {P0 : hp_P} (w : hp_w B ρ) (h : enI P0 n T et em) (hP : P.2 110 = P0.2 110) (hM : m_wf M) (h1 : en_ch em em.length l (m_l M)) (h2 : en_ch em em.length r (m_r M)) : am_call B sa am_dfl am_tb (f + 1) (d + 1) 45 [.ref (ρ.1 1), .int (m_c M), .int l, .int r] (hp_S sa ρ P) = some (some (.int (nI (m_lo M))), hp_S sa ρ P) := by
  have rd : ∀ {v : Int32} {N : qM}, en_ch em em.length v N → m_wf N → hp_rd P 110 v = some (nI (m_lo N)) := fun {v N} hc hN => by
    rcases hc with ⟨-, e⟩ | ⟨k, k1, k2, k3⟩
    · rw [e] at hN; exact hN.elim
    · have := (en_rd h ⟨k, k2, by have := h.lt.2; omega, k3⟩).2.2.2.2.2.2.2.1
      unfold hp_rd at this ⊢
      rw [hP]; exact this
  revert h1 h2
  refine m_wf_cases (C := fun M => en_ch em em.length l (m_l M) → en_ch em em.length r (m_r M) → am_call B sa am_dfl am_tb (f + 1) (d + 1) 45 [.ref (ρ.1 1), .int (m_c M), .int l, .int r] (hp_S sa ρ P) = some (some (.int (nI (m_lo M))), hp_S sa ρ P)) ?_ ?_ ?_ M hM
  · intro t a b wa wb _ _ _ h1 h2
    rw [m_l_N] at h1
    rw [m_r_N] at h2
    rw [am_c_45, am_s45_0, m_c_N, m_lo_N, if_pos rfl]
    simp only [am_c_ne, hr_110 w, hl_110 w, rd h1 wa, rd h2 wb, Option.bind_some]
    have e1 := m_lo_le wa
    have e2 := m_lo_le wb
    rw [if_neg (fun z => z rfl), nI_max (by omega) (by omega)]
  · intro t a wa _ h1 h2
    rw [m_l_N] at h1
    rw [m_lo_N, if_neg (by decide), if_pos rfl, am_c_45, am_s45_0, m_c_N]
    simp only [am_c_ne, hr_110 w, hl_110 w, rd h1 wa, Option.bind_some]
    have e1 := m_lo_le wa
    rw [if_pos (show (-2 : Int32) ≠ -1 by decide), if_neg (fun z => z rfl)]
    congr 3
    refine congrArg Value.int ?_
    show (if 0 < nI (m_lo a) - 1 then nI (m_lo a) - 1 else 0) = _
    cases hm : m_lo a with
    | zero => decide
    | succ k =>
      rw [nI_pred]
      cases k with
      | zero => decide
      | succ k =>
        rw [if_pos (show (0 : Int32) < nI (k + 1) from nI_lt (a := 0) (by omega) (by omega))]
        rfl
  · intro c t hc _ _
    obtain ⟨k, k1, rfl⟩ := nI_of (Int32.not_lt.mpr hc.1)
    rw [am_c_45, am_s45_0, m_c_N, m_lo_N, if_neg (m_lf_ne hc).1, if_neg (m_lf_ne hc).2]
    simp only [am_c_ne]
    rw [if_pos (m_lf_ne hc).1, if_pos (m_lf_ne hc).2, if_neg (show ¬ (4 : Int32) = 0 by decide), if_neg (show ¬ (4 : Int32) = 0 by decide)]
    have e1 : (nI k).toBitVec.toNat = k := pk_tn (by omega)
    rw [e1, show (4 : Int32) = nI 4 from rfl, pk_rem k1 (by decide) (by decide), pk_div k1 (by decide) (by decide), nI_1]
    by_cases e : k % 4 = 0
    · rw [if_pos e, if_neg (fun z => z (by rw [e]; rfl))]
    · rw [if_neg e, if_pos (nI_ne0 (by omega) (by omega))]
      rfl
set_option maxRecDepth 4000 in
/-- the stores of addTerm, as they are made -/
theorem em_put {f0 f d : Nat} {M : qM} {v l r : Int32} (w : hp_w B ρ) (h : enI P n T et em) (hl : em.length < (P.2 104).1) (hM : m_wf M) (h1 : en_ch em em.length l (m_l M)) (h2 : en_ch em em.length r (m_r M)) {o : Nat} (ho : ρ.1 1 = o) :
    am_go B sa am_dfl (am_call B sa am_dfl am_tb (f0 + 1) (d + 1)) am_r43 (f + 1) 93 [(0, .ref o), (1, .int (m_c M)), (2, .int v), (3, .int l), (4, .int r), (5, .int (nI (m_fl M).length)), (6, .int (nI (m_ht M)))] [] (hp_S sa ρ P) = some (some (.int 1), hp_S sa ρ (em_P P em.length (m_c M) v l r (m_fl M).length (m_ht M) (m_lo M))) := by
  subst ho
  obtain ⟨len, l1, l2, l3, l4⟩ := h.2.1.2.1
  have hll := l4 104 (by decide) (by decide)
  have i11 := h.2.1.1
  have hk : em.length < 2 ^ 31 := by omega
  have lo := fun (P' : hp_P) (hP : P'.2 110 = P.2 110) => em_looseOf (sa := sa) (f := f0) (d := d) (P := P') w h hP hM h1 h2
  have cks : ∀ (P' : hp_P) (x : Nat), (P'.2 x).1 = len → hp_ck P' x (nI em.length) = some () := fun P' x e => hp_ck_nI (by omega) hk
  have e4 := l4 104 (by decide) (by decide)
  have e5 := l4 105 (by decide) (by decide)
  have e6 := l4 106 (by decide) (by decide)
  have e7 := l4 107 (by decide) (by decide)
  have e8 := l4 108 (by decide) (by decide)
  have e9 := l4 109 (by decide) (by decide)
  have e0 := l4 110 (by decide) (by decide)
  rw [am_s43_93]
  simp only [hr_104 w, hr_105 w, hr_106 w, hr_107 w, hr_108 w, hr_109 w, hr_110 w, hg_111 w, i11, Option.bind_some, ht_104 w, ht_105 w, ht_106 w, ht_107 w, ht_108 w, ht_109 w, hA_I, cks, hA_len, e4, e5, e6, e7, e8, e9, hx_1 w]
  rw [lo _ (by rw [hA_ne (by decide), hA_ne (by decide), hA_ne (by decide), hA_ne (by decide), hA_ne (by decide), hA_ne (by decide)])]
  simp only [am_i_some, ht_110 w, cks, hA_len, e0, Option.bind_some, hg_111 w, hA_I, i11, hs_111 w, nI_1, am_rz_1]
  rfl
/-- addTerm -/
theorem en_addTerm {f d : Nat} {M : qM} {v l r : Int32} (w : hp_w B ρ) (h : enI P n T et em) (h16 : em.length < 16000) (hv : pl n T v (m_ty M) ∨ v = -2) (hn : n < 2 ^ 31) (hM : m_wf M) (h1 : en_ch em em.length l (m_l M)) (h2 : en_ch em em.length r (m_r M)) :
    ∃ ρ' P', am_call B sa am_dfl am_tb (f + 2) (d + 4) 43 [.ref (ρ.1 1), .int (m_c M), .int v, .int l, .int r] (hp_S sa ρ P) = some (some (.int (bP (pl n T v (m_ty M) ∧ (m_fl M).length ≤ 4000 ∧ m_ht M ≤ 120))), hp_S sa ρ' P') ∧ hp_w B ρ' ∧ (pl n T v (m_ty M) ∧ (m_fl M).length ≤ 4000 ∧ m_ht M ≤ 120 → enI P' n T et (em ++ [M])) ∧ (¬ (pl n T v (m_ty M) ∧ (m_fl M).length ≤ 4000 ∧ m_ht M ≤ 120) → enI P' n T et em) ∧ hp_fr en_S 0 ρ P ρ' P' := by
  obtain ⟨len, l1, l2, l3, l4⟩ := h.2.1.2.1
  have hin : ∀ {x : Int32} {N : qM}, en_ch em em.length x N → ty_in em.length x := fun hc => hc.imp (fun z => z.1) fun ⟨k, k1, k2, _⟩ => ⟨k, k1, k2⟩
  have val : ∀ {x : Int32} {N : qM}, en_ch em em.length x N → (if x = -1 then (0 : Int32) else (P.2 108).2 x.toNatClampNeg) = nI (m_fl N).length ∧ (if x = -1 then (0 : Int32) else (P.2 109).2 x.toNatClampNeg) = nI (m_ht N) ∧ (m_fl N).length ≤ 4000 ∧ m_ht N ≤ 120 := fun {x N} hc => by
    rcases hc with ⟨e1, e2⟩ | ⟨k, k1, k2, k3⟩
    · rw [e2, if_pos e1, if_pos e1]; exact ⟨rfl, rfl, Nat.zero_le _, Nat.zero_le _⟩
    · obtain ⟨-, -, -, -, -, r5, r6, -, r8, r9⟩ := h.2.1.2.2 k N k3
      rw [k2, if_neg (nI_ne_m1 (by omega)), if_neg (nI_ne_m1 (by omega)), nI_clamp (by omega)]
      exact ⟨r5, r6, r8, r9⟩
  have hm4 : em.length ≤ (P.2 108).1 := by rw [l4 108 (by decide) (by decide)]; exact l3
  have hm5 : em.length ≤ (P.2 109).1 := by rw [l4 109 (by decide) (by decide)]; exact l3
  obtain ⟨vl1, vl2, vl3, vl4⟩ := val h1
  obtain ⟨vr1, vr2, vr3, vr4⟩ := val h2
  have hfl : (m_fl M).length = 1 + (m_fl (m_l M)).length + (m_fl (m_r M)).length := by
    conv => lhs; rw [m_eta hM]
    rw [m_fl_N, List.length_cons, List.length_append]; omega
  have hht : m_ht M = 1 + max (m_ht (m_l M)) (m_ht (m_r M)) := by
    conv => lhs; rw [m_eta hM]
    rw [m_ht_N]
  have p1 := ty_part (sa := sa) (f := f + 1) (d := d + 2) (v := fun _ => 0) w (show 108 ∈ hp_rs by decide) (hin h1) hm4 (by omega)
  have p2 := ty_part (sa := sa) (f := f + 1) (d := d + 2) (v := fun _ => 0) w (show 108 ∈ hp_rs by decide) (hin h2) hm4 (by omega)
  have p3 := ty_part (sa := sa) (f := f + 1) (d := d + 2) (v := fun _ => 0) w (show 109 ∈ hp_rs by decide) (hin h1) hm5 (by omega)
  have p4 := ty_part (sa := sa) (f := f + 1) (d := d + 2) (v := fun _ => 0) w (show 109 ∈ hp_rs by decide) (hin h2) hm5 (by omega)
  rw [vl1] at p1
  rw [vr1] at p2
  rw [vl2] at p3
  rw [vr2] at p4
  have e1 : (1 : Int32) + nI (m_fl (m_l M)).length + nI (m_fl (m_r M)).length = nI (m_fl M).length := by rw [show (1 : Int32) = nI 1 from rfl, nI_add, nI_add, hfl]
  have e2 : (1 : Int32) + nI (max (m_ht (m_l M)) (m_ht (m_r M))) = nI (m_ht M) := by rw [show (1 : Int32) = nI 1 from rfl, nI_add, hht]
  have c16 : ((16000 : Int32) ≤ nI em.length) = False := by rw [show (16000 : Int32) = nI 16000 from rfl]; exact eq_false (nI_ge h16 (by omega))
  have cgt : ((4000 : Int32) < nI (m_fl M).length) = (4000 < (m_fl M).length) := by rw [show (4000 : Int32) = nI 4000 from rfl]; exact propext (nI_ltI (by omega) (by omega))
  have cle : (nI (m_ht M) ≤ (120 : Int32)) = (m_ht M ≤ 120) := by rw [show (120 : Int32) = nI 120 from rfl]; exact propext (nI_leI (by omega) (by omega))
  rw [am_c_43, am_s43_0]
  simp only [hr_108 w, hr_109 w, p1, p2, p3, p4, am_i_some, Option.bind_some, hg_111 w, h.2.1.1, nI_max (show m_ht (m_l M) < 2 ^ 31 by omega) (show m_ht (m_r M) < 2 ^ 31 by omega), e1, e2, am_c_lt, am_c_ge, am_c_gt, am_c_le, c16, if_false, cgt, cle]
  by_cases k1 : pl n T v (m_ty M)
  · have hvn : ¬ v < 0 := by
      obtain ⟨a, z1, z2, -⟩ := k1
      rw [z2]; exact nI_pos (by omega)
    rw [if_neg hvn]
    by_cases k2 : 4000 < (m_fl M).length
    · rw [if_pos k2, bP_f (fun z => by omega), am_rz_0]
      exact ⟨ρ, P, rfl, w, fun z => by omega, fun _ => h, hp_fr.rf⟩
    · rw [if_neg k2]
      by_cases k3 : m_ht M ≤ 120
      · rw [if_pos k3, bP_t ⟨k1, by omega, k3⟩]
        have hal : am_alen (hp_S sa ρ P) (ρ.2.1 104) = some (nI len) := by rw [hp_alen w (by decide), l4 104 (by decide) (by decide)]; rfl
        simp only [hr_104 w, hal, Option.bind_some, am_c_ne]
        by_cases k4 : em.length = len
        · rw [if_neg (fun z => z (by rw [k4]))]
          have g1 := em_grow_I (ρ := ρ) h l4 (by omega) l1 (by omega)
          have w1 : hp_w B (em_g len (ρ, P)).1 := em_g_w w
          have hl4 : em.length < ((em_g len (ρ, P)).2.2 104).1 := by rw [em_g_P, if_pos (by decide)]; show em.length < 2 * len; omega
          simp only [hx_1 w, Option.bind_some, em_grow (f := f + 1) (d := d) w l4 (show 0 < len by omega) (show len ≤ 50000 by omega), am_v_some]
          refine ⟨_, _, em_put (f0 := f + 1) (f := f) (d := d + 2) w1 g1 hl4 hM h1 h2 rfl, w1, fun _ => em_P_I g1 hl4 hM rfl k1 h1 h2 (by omega) k3, fun z => absurd ⟨k1, by omega, k3⟩ z, hp_fr.tr0 (em_g_fr w l4 (by omega)) em_P_fr⟩
        · rw [if_pos (fun z => k4 ((nI_eq (by omega) (by omega)).mp z))]
          have hl4 : em.length < (P.2 104).1 := by rw [l4 104 (by decide) (by decide)]; omega
          exact ⟨ρ, _, em_put (f0 := f + 1) (f := f) (d := d + 2) w h hl4 hM h1 h2 rfl, w, fun _ => em_P_I h hl4 hM rfl k1 h1 h2 (by omega) k3, fun z => absurd ⟨k1, by omega, k3⟩ z, em_P_fr⟩
      · rw [if_neg k3, bP_f (fun z => k3 z.2.2), am_rz_0]
        exact ⟨ρ, P, rfl, w, fun z => absurd z.2.2 k3, fun _ => h, hp_fr.rf⟩
  · rw [if_pos (by rw [hv.resolve_left k1]; decide), bP_f (fun z => k1 z.1), am_rz_0]
    exact ⟨ρ, P, rfl, w, fun z => absurd z.1 k1, fun _ => h, hp_fr.rf⟩
end EN2
