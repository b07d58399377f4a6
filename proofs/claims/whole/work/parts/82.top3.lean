/-! TRACEJUDGE, the class: accepts -/
section ACC
variable {sa : Nat → Nat} {B : Nat} {ρ : hp_L} {P : hp_P} {n : Nat} {T : Nat → Int32 × Int32 × Int32} {C : sC} {S : qT → Prop} {th : Nat → (qT → Prop) × Nat × Nat} {ws : List Int32}
theorem wd_drop {a i : Nat} (h : a + i < ws.length) : wd (ws.drop a) i = ws[a + i] := by
  unfold wd
  rw [List.getElem?_drop, List.getElem?_eq_getElem h]
  rfl
theorem wd_none {a i : Nat} (h : ws.length ≤ a + i) : wd (ws.drop a) i = -1 := by
  unfold wd
  rw [List.getElem?_drop, List.getElem?_eq_none h]
  rfl
/-- accepts, to its switch -/
theorem t_acc0 {f d a : Nat} (w : hp_w B ρ) (hs : saI P ws) (ha : a + 1 < ws.length) : am_call B sa am_dfl am_tb (f + 1) (d + 1) 117 [.ref (ρ.1 8), .int (nI a)] (hp_S sa ρ P) = am_go B sa am_dfl (am_call B sa am_dfl am_tb (f + 1) d) am_r117 f 54 [(0, .ref (ρ.1 8)), (1, .int (nI a)), (2, .int (wd (ws.drop a) 1)), (3, .int (wd (ws.drop a) 2))] [.int (wd (ws.drop a) 3)] (hp_S sa ρ P) := by
  have h4 := hs.lt
  rw [am_c_117, am_s117_0]
  rw [show nI a + 1 = nI (a + 1) from nI_add a 1, show nI a + 2 = nI (a + 2) from nI_add a 2, show nI a + 3 = nI (a + 3) from nI_add a 3]
  simp only [hr_807 w, hl_807 w, hs.rd ha, hg_808 w, hs.1, Option.bind_some, am_c_ge]
  rw [wd_drop ha]
  by_cases e2 : a + 2 < ws.length
  · rw [if_neg (nI_ge e2 (by omega)), wd_drop e2]
    simp only [hs.rd e2, Option.bind_some]
    by_cases e3 : a + 3 < ws.length
    · rw [if_neg (nI_ge e3 (by omega)), wd_drop e3]
      simp only [hs.rd e3, Option.bind_some]
    · rw [if_pos (nI_le (by omega) (by omega)), wd_none (by omega)]
  · rw [if_pos (nI_le (by omega) (by omega)), wd_none (by omega), if_pos (nI_le (by omega) (by omega)), wd_none (by omega)]
theorem eOM.z {R : qM → Prop} {et : List qT} {em : List qM} {x : Option (Option Value × am_S)} (h : eOM B sa R et em ρ P n T x) : eOM B sa R et em ρ P n T (am_i x fun v g => am_rz v g) := by
  rcases h with ⟨t, ρ', P', n', T', a1, a2, a3, a4⟩ | ⟨a1, ρ', P', n', T', a3, a4⟩
  · exact Or.inl ⟨t, ρ', P', n', T', a1, a2, by rw [a3, am_i_some]; exact am_rz_1, a4⟩
  · exact Or.inr ⟨a1, ρ', P', n', T', by rw [a3, am_i_some]; exact am_rz_0, a4⟩
theorem cO.z {R : qQ → Prop} {x : Option (Option Value × am_S)} (h : cO B sa R C ρ P n T x) : cO B sa R C ρ P n T (am_i x fun v g => am_rz v g) := by
  rcases h with ⟨N, ρ', P', n', T', Rn, a1, a2, a3, a4⟩ | ⟨a1, ρ', P', n', T', a3, a4⟩
  · exact Or.inl ⟨N, ρ', P', n', T', Rn, a1, a2, by rw [a3, am_i_some]; exact am_rz_1, a4⟩
  · exact Or.inr ⟨a1, ρ', P', n', T', by rw [a3, am_i_some]; exact am_rz_0, a4⟩
theorem cO20.z {R : qQ → Prop} {x : Option (Option Value × am_S)} (h : cO20 B sa R C ρ P n T x) : cO20 B sa R C ρ P n T (am_i x fun v g => am_rz v g) := by
  rcases h with ⟨N, ρ', P', n', T', Rn, a1, a2, a3, a4⟩ | ⟨a1, ρ', P', n', T', a3, a4⟩
  · exact Or.inl ⟨N, ρ', P', n', T', Rn, a1, a2, by rw [a3, am_i_some]; exact am_rz_1, a4⟩
  · exact Or.inr ⟨a1, ρ', P', n', T', by rw [a3, am_i_some]; exact am_rz_0, a4⟩
theorem cO21.z {R : qT → qT → qM → Nat → Prop} {x : Option (Option Value × am_S)} (h : cO21 B sa R C ρ P n T x) : cO21 B sa R C ρ P n T (am_i x fun v g => am_rz v g) := by
  rcases h with ⟨o, m, p, k, ρ', P', n1, n', T', R1, R2, a1, a2, a3, a4⟩ | ⟨a1, ρ', P', n', T', a3, a4⟩
  · exact Or.inl ⟨o, m, p, k, ρ', P', n1, n', T', R1, R2, a1, a2, by rw [a3, am_i_some]; exact am_rz_1, a4⟩
  · exact Or.inr ⟨a1, ρ', P', n', T', by rw [a3, am_i_some]; exact am_rz_0, a4⟩
theorem t_wds {a c : Nat} (hs : saI P ws) (h : a + 3 + 2 * c ≤ ws.length) : wd_I P (a + 3) (w_pr (ws.drop a) c) := by
  intro i p hp
  have hi : i < c := by
    have := (List.getElem?_eq_some_iff.mp hp).1
    unfold w_pr at this
    rw [List.length_map, List.length_range] at this
    exact this
  have e : p = (wd (ws.drop a) (3 + 2 * i), wd (ws.drop a) (4 + 2 * i)) := by
    unfold w_pr at hp
    rw [List.getElem?_map, List.getElem?_range hi] at hp
    exact (Option.some.inj hp).symm
  rw [e]
  refine ⟨?_, ?_⟩
  · show _ = some (wd (ws.drop a) (3 + 2 * i))
    rw [show a + 3 + 2 * i = a + (3 + 2 * i) by omega, hs.rd (by omega), wd_drop (by omega)]
  · show _ = some (wd (ws.drop a) (4 + 2 * i))
    rw [show a + 3 + 2 * i + 1 = a + (4 + 2 * i) by omega, hs.rd (by omega), wd_drop (by omega)]
theorem t_har (h : cI B C ρ P n T) (hR : cR S th C n T) (hI : aI S (cV C th)) : (∀ t, ct_S T n t → q_ar (q_tk C.2.2.2.2.1) t) ∧ ty_ar (q_tk C.2.2.2.2.1) T n := by
  have h1 : ∀ t, ct_S T n t → q_ar (q_tk C.2.2.2.2.1) t := fun t ht => (hI.2.1 t (by rw [hR.1]; exact ht)).2.1
  exact ⟨h1, fun a ha => h1 _ ⟨a, ha, rfl⟩⟩
theorem t_k {k j : Nat} (hk : k < 23) : Int32.toInt (nI k) = (k : Int) := nI_toInt (by omega)
theorem t_a0 {f d a : Nat} (h : cI B C ρ P n T) (hR : cR S th C n T) (hst : stI sa ρ P) (hs : saI P ws) (hI : aI S (cV C th)) (hw : aWf (cV C th)) (hc : C.2.1.length < 999) (he : C.2.2.2.2.2.2.1.length < 8000) (hm : C.2.2.2.2.2.2.2.length < 16000) (hf : 200000 ≤ f) (ha : a + 1 < ws.length) (h0 : ws[a] = nI 0) : tO B sa S (cV C th) 0 (ws.drop a) C ρ P n T (am_call B sa am_dfl am_tb f (d + 311) 117 [.ref (ρ.1 8), .int (nI a)] (hp_S sa ρ P)) := by
  have w := h.w
  obtain ⟨hark, har⟩ := t_har h hR hI
  obtain ⟨f, rfl⟩ : ∃ g, f = g + 2 := ⟨f - 2, by omega⟩
  rw [t_acc0 w hs ha, am_s117_54]
  simp only [hr_807 w, hl_807 w, hs.rd (show a < ws.length by omega), h0, Option.bind_some, show Int32.toInt (nI 0) = 0 from nI_toInt (by omega), Int.reduceEq, reduceIte, ho_802 w, hx_1 w]
  exact tO.Ty h hR hst (by decide) (fun N => ⟨fun z => by
      rcases z with ⟨e, z⟩ | ⟨e, z⟩
      · exact z
      · exact absurd e (by decide)
      , fun z => Or.inl ⟨rfl, z⟩⟩) (eOT.z (en_0 (sa := sa) (d := d + 306) w h.y h.2.1 he (by omega)))
theorem t_a2 {f d a : Nat} (h : cI B C ρ P n T) (hR : cR S th C n T) (hst : stI sa ρ P) (hs : saI P ws) (hI : aI S (cV C th)) (hw : aWf (cV C th)) (hc : C.2.1.length < 999) (he : C.2.2.2.2.2.2.1.length < 8000) (hm : C.2.2.2.2.2.2.2.length < 16000) (hf : 200000 ≤ f) (ha : a + 1 < ws.length) (h0 : ws[a] = nI 2) : tO B sa S (cV C th) 2 (ws.drop a) C ρ P n T (am_call B sa am_dfl am_tb f (d + 311) 117 [.ref (ρ.1 8), .int (nI a)] (hp_S sa ρ P)) := by
  have w := h.w
  obtain ⟨hark, har⟩ := t_har h hR hI
  obtain ⟨f, rfl⟩ : ∃ g, f = g + 2 := ⟨f - 2, by omega⟩
  rw [t_acc0 w hs ha, am_s117_54]
  simp only [hr_807 w, hl_807 w, hs.rd (show a < ws.length by omega), h0, Option.bind_some, show Int32.toInt (nI 2) = 2 from nI_toInt (by omega), Int.reduceEq, reduceIte, ho_802 w, hx_1 w]
  exact tO.Te h hR hst ⟨by decide, by decide⟩ (fun N => ⟨fun z => by
      rcases z with ⟨e, z⟩ | ⟨e, z⟩ | ⟨e, z⟩ | ⟨e, z⟩ | ⟨e, z⟩
      · exact z
      · exact absurd e (by decide)
      · exact absurd e (by decide)
      · exact absurd e (by decide)
      · exact absurd e (by decide)
      , fun z => Or.inl ⟨rfl, z⟩⟩) (eOM.z (en_2 (sa := sa) (d := d + 305) w h.y h.2.1 hm))
theorem t_a3 {f d a : Nat} (h : cI B C ρ P n T) (hR : cR S th C n T) (hst : stI sa ρ P) (hs : saI P ws) (hI : aI S (cV C th)) (hw : aWf (cV C th)) (hc : C.2.1.length < 999) (he : C.2.2.2.2.2.2.1.length < 8000) (hm : C.2.2.2.2.2.2.2.length < 16000) (hf : 200000 ≤ f) (ha : a + 1 < ws.length) (h0 : ws[a] = nI 3) : tO B sa S (cV C th) 3 (ws.drop a) C ρ P n T (am_call B sa am_dfl am_tb f (d + 311) 117 [.ref (ρ.1 8), .int (nI a)] (hp_S sa ρ P)) := by
  have w := h.w
  obtain ⟨hark, har⟩ := t_har h hR hI
  obtain ⟨f, rfl⟩ : ∃ g, f = g + 2 := ⟨f - 2, by omega⟩
  rw [t_acc0 w hs ha, am_s117_54]
  simp only [hr_807 w, hl_807 w, hs.rd (show a < ws.length by omega), h0, Option.bind_some, show Int32.toInt (nI 3) = 3 from nI_toInt (by omega), Int.reduceEq, reduceIte, ho_802 w, hx_1 w]
  exact tO.Te h hR hst ⟨by decide, by decide⟩ (fun N => ⟨fun z => by
      rcases z with ⟨e, z⟩ | ⟨e, z⟩ | ⟨e, z⟩ | ⟨e, z⟩ | ⟨e, z⟩
      · exact absurd e (by decide)
      · exact z
      · exact absurd e (by decide)
      · exact absurd e (by decide)
      · exact absurd e (by decide)
      , fun z => Or.inr (Or.inl ⟨rfl, z⟩)⟩) (eOM.z (en_3 (sa := sa) (d := d + 280) w h.y h.2.1 h.2.2.1 har hI.2.2.2.1.k0 hI.2.2.2.1.k2 hI.2.2.2.2.1.1 hm (by omega)))
theorem t_a4 {f d a : Nat} (h : cI B C ρ P n T) (hR : cR S th C n T) (hst : stI sa ρ P) (hs : saI P ws) (hI : aI S (cV C th)) (hw : aWf (cV C th)) (hc : C.2.1.length < 999) (he : C.2.2.2.2.2.2.1.length < 8000) (hm : C.2.2.2.2.2.2.2.length < 16000) (hf : 200000 ≤ f) (ha : a + 1 < ws.length) (h0 : ws[a] = nI 4) : tO B sa S (cV C th) 4 (ws.drop a) C ρ P n T (am_call B sa am_dfl am_tb f (d + 311) 117 [.ref (ρ.1 8), .int (nI a)] (hp_S sa ρ P)) := by
  have w := h.w
  obtain ⟨hark, har⟩ := t_har h hR hI
  obtain ⟨f, rfl⟩ : ∃ g, f = g + 2 := ⟨f - 2, by omega⟩
  rw [t_acc0 w hs ha, am_s117_54]
  simp only [hr_807 w, hl_807 w, hs.rd (show a < ws.length by omega), h0, Option.bind_some, show Int32.toInt (nI 4) = 4 from nI_toInt (by omega), Int.reduceEq, reduceIte, ho_802 w, hx_1 w]
  exact tO.Te h hR hst ⟨by decide, by decide⟩ (fun N => ⟨fun z => by
      rcases z with ⟨e, z⟩ | ⟨e, z⟩ | ⟨e, z⟩ | ⟨e, z⟩ | ⟨e, z⟩
      · exact absurd e (by decide)
      · exact absurd e (by decide)
      · exact z
      · exact absurd e (by decide)
      · exact absurd e (by decide)
      , fun z => Or.inr (Or.inr (Or.inl ⟨rfl, z⟩))⟩) (eOM.z (en_4 (sa := sa) (d := d + 305) w h.y h.2.1 har hI.2.2.2.1.k2 hm))
theorem t_a5 {f d a : Nat} (h : cI B C ρ P n T) (hR : cR S th C n T) (hst : stI sa ρ P) (hs : saI P ws) (hI : aI S (cV C th)) (hw : aWf (cV C th)) (hc : C.2.1.length < 999) (he : C.2.2.2.2.2.2.1.length < 8000) (hm : C.2.2.2.2.2.2.2.length < 16000) (hf : 200000 ≤ f) (ha : a + 1 < ws.length) (h0 : ws[a] = nI 5) : tO B sa S (cV C th) 5 (ws.drop a) C ρ P n T (am_call B sa am_dfl am_tb f (d + 311) 117 [.ref (ρ.1 8), .int (nI a)] (hp_S sa ρ P)) := by
  have w := h.w
  obtain ⟨hark, har⟩ := t_har h hR hI
  obtain ⟨f, rfl⟩ : ∃ g, f = g + 2 := ⟨f - 2, by omega⟩
  rw [t_acc0 w hs ha, am_s117_54]
  simp only [hr_807 w, hl_807 w, hs.rd (show a < ws.length by omega), h0, Option.bind_some, show Int32.toInt (nI 5) = 5 from nI_toInt (by omega), Int.reduceEq, reduceIte, ho_802 w, hx_1 w]
  exact tO.Te h hR hst ⟨by decide, by decide⟩ (fun N => ⟨fun z => by
      rcases z with ⟨e, z⟩ | ⟨e, z⟩ | ⟨e, z⟩ | ⟨e, z⟩ | ⟨e, z⟩
      · exact absurd e (by decide)
      · exact absurd e (by decide)
      · exact absurd e (by decide)
      · exact z
      · exact absurd e (by decide)
      , fun z => Or.inr (Or.inr (Or.inr (Or.inl ⟨rfl, z⟩)))⟩) (eOM.z (en_5 (sa := sa) (d := d + 305) w h.y h.2.1 hm (by omega)))
theorem t_a6 {f d a : Nat} (h : cI B C ρ P n T) (hR : cR S th C n T) (hst : stI sa ρ P) (hs : saI P ws) (hI : aI S (cV C th)) (hw : aWf (cV C th)) (hc : C.2.1.length < 999) (he : C.2.2.2.2.2.2.1.length < 8000) (hm : C.2.2.2.2.2.2.2.length < 16000) (hf : 200000 ≤ f) (ha : a + 1 < ws.length) (h0 : ws[a] = nI 6) : tO B sa S (cV C th) 6 (ws.drop a) C ρ P n T (am_call B sa am_dfl am_tb f (d + 311) 117 [.ref (ρ.1 8), .int (nI a)] (hp_S sa ρ P)) := by
  have w := h.w
  obtain ⟨hark, har⟩ := t_har h hR hI
  obtain ⟨f, rfl⟩ : ∃ g, f = g + 2 := ⟨f - 2, by omega⟩
  rw [t_acc0 w hs ha, am_s117_54]
  simp only [hr_807 w, hl_807 w, hs.rd (show a < ws.length by omega), h0, Option.bind_some, show Int32.toInt (nI 6) = 6 from nI_toInt (by omega), Int.reduceEq, reduceIte, ho_802 w, hx_1 w]
  exact tO.Te h hR hst ⟨by decide, by decide⟩ (fun N => ⟨fun z => by
      rcases z with ⟨e, z⟩ | ⟨e, z⟩ | ⟨e, z⟩ | ⟨e, z⟩ | ⟨e, z⟩
      · exact absurd e (by decide)
      · exact absurd e (by decide)
      · exact absurd e (by decide)
      · exact absurd e (by decide)
      · exact z
      , fun z => Or.inr (Or.inr (Or.inr (Or.inr (⟨rfl, z⟩))))⟩) (eOM.z (en_6 (sa := sa) (d := d + 305) w h.y h.2.1 hm))
theorem t_a10 {f d a : Nat} (h : cI B C ρ P n T) (hR : cR S th C n T) (hst : stI sa ρ P) (hs : saI P ws) (hI : aI S (cV C th)) (hw : aWf (cV C th)) (hc : C.2.1.length < 999) (he : C.2.2.2.2.2.2.1.length < 8000) (hm : C.2.2.2.2.2.2.2.length < 16000) (hf : 200000 ≤ f) (ha : a + 1 < ws.length) (h0 : ws[a] = nI 10) : tO B sa S (cV C th) 10 (ws.drop a) C ρ P n T (am_call B sa am_dfl am_tb f (d + 311) 117 [.ref (ρ.1 8), .int (nI a)] (hp_S sa ρ P)) := by
  have w := h.w
  obtain ⟨hark, har⟩ := t_har h hR hI
  obtain ⟨f, rfl⟩ : ∃ g, f = g + 2 := ⟨f - 2, by omega⟩
  rw [t_acc0 w hs ha, am_s117_54]
  simp only [hr_807 w, hl_807 w, hs.rd (show a < ws.length by omega), h0, Option.bind_some, show Int32.toInt (nI 10) = 10 from nI_toInt (by omega), Int.reduceEq, reduceIte, ho_805 w, hx_6 w]
  exact tO.Q h hR hst ⟨by decide, by decide, by decide⟩ (fun N => ⟨fun z => by
      rcases z with ⟨e, z⟩ | ⟨e, z⟩ | ⟨e, z⟩ | ⟨e, z⟩ | ⟨e, z⟩ | ⟨e, z⟩ | ⟨e, z⟩ | ⟨e, z⟩ | ⟨e, z⟩ | ⟨e, z⟩ | ⟨e, z⟩
      · exact z
      · exact absurd e (by decide)
      · exact absurd e (by decide)
      · exact absurd e (by decide)
      · exact absurd e (by decide)
      · exact absurd e (by decide)
      · exact absurd e (by decide)
      · exact absurd e (by decide)
      · exact absurd e (by decide)
      · exact absurd e (by decide)
      · exact absurd e (by decide)
      , fun z => Or.inl ⟨rfl, z⟩⟩) (cO.z (st_79 (sa := sa) (d := d + 290) h (by omega) (by omega)))
theorem t_a11 {f d a : Nat} (h : cI B C ρ P n T) (hR : cR S th C n T) (hst : stI sa ρ P) (hs : saI P ws) (hI : aI S (cV C th)) (hw : aWf (cV C th)) (hc : C.2.1.length < 999) (he : C.2.2.2.2.2.2.1.length < 8000) (hm : C.2.2.2.2.2.2.2.length < 16000) (hf : 200000 ≤ f) (ha : a + 1 < ws.length) (h0 : ws[a] = nI 11) : tO B sa S (cV C th) 11 (ws.drop a) C ρ P n T (am_call B sa am_dfl am_tb f (d + 311) 117 [.ref (ρ.1 8), .int (nI a)] (hp_S sa ρ P)) := by
  have w := h.w
  obtain ⟨hark, har⟩ := t_har h hR hI
  obtain ⟨f, rfl⟩ : ∃ g, f = g + 2 := ⟨f - 2, by omega⟩
  rw [t_acc0 w hs ha, am_s117_54]
  simp only [hr_807 w, hl_807 w, hs.rd (show a < ws.length by omega), h0, Option.bind_some, show Int32.toInt (nI 11) = 11 from nI_toInt (by omega), Int.reduceEq, reduceIte, ho_805 w, hx_6 w]
  exact tO.Q h hR hst ⟨by decide, by decide, by decide⟩ (fun N => ⟨fun z => by
      rcases z with ⟨e, z⟩ | ⟨e, z⟩ | ⟨e, z⟩ | ⟨e, z⟩ | ⟨e, z⟩ | ⟨e, z⟩ | ⟨e, z⟩ | ⟨e, z⟩ | ⟨e, z⟩ | ⟨e, z⟩ | ⟨e, z⟩
      · exact absurd e (by decide)
      · exact z
      · exact absurd e (by decide)
      · exact absurd e (by decide)
      · exact absurd e (by decide)
      · exact absurd e (by decide)
      · exact absurd e (by decide)
      · exact absurd e (by decide)
      · exact absurd e (by decide)
      · exact absurd e (by decide)
      · exact absurd e (by decide)
      , fun z => Or.inr (Or.inl ⟨rfl, z⟩)⟩) (cO.z (st_80 (sa := sa) (d := d + 290) h (by omega) (by omega)))
theorem t_a12 {f d a : Nat} (h : cI B C ρ P n T) (hR : cR S th C n T) (hst : stI sa ρ P) (hs : saI P ws) (hI : aI S (cV C th)) (hw : aWf (cV C th)) (hc : C.2.1.length < 999) (he : C.2.2.2.2.2.2.1.length < 8000) (hm : C.2.2.2.2.2.2.2.length < 16000) (hf : 200000 ≤ f) (ha : a + 1 < ws.length) (h0 : ws[a] = nI 12) : tO B sa S (cV C th) 12 (ws.drop a) C ρ P n T (am_call B sa am_dfl am_tb f (d + 311) 117 [.ref (ρ.1 8), .int (nI a)] (hp_S sa ρ P)) := by
  have w := h.w
  obtain ⟨hark, har⟩ := t_har h hR hI
  obtain ⟨f, rfl⟩ : ∃ g, f = g + 2 := ⟨f - 2, by omega⟩
  rw [t_acc0 w hs ha, am_s117_54]
  simp only [hr_807 w, hl_807 w, hs.rd (show a < ws.length by omega), h0, Option.bind_some, show Int32.toInt (nI 12) = 12 from nI_toInt (by omega), Int.reduceEq, reduceIte, ho_805 w, hx_6 w]
  exact tO.Q h hR hst ⟨by decide, by decide, by decide⟩ (fun N => ⟨fun z => by
      rcases z with ⟨e, z⟩ | ⟨e, z⟩ | ⟨e, z⟩ | ⟨e, z⟩ | ⟨e, z⟩ | ⟨e, z⟩ | ⟨e, z⟩ | ⟨e, z⟩ | ⟨e, z⟩ | ⟨e, z⟩ | ⟨e, z⟩
      · exact absurd e (by decide)
      · exact absurd e (by decide)
      · exact z
      · exact absurd e (by decide)
      · exact absurd e (by decide)
      · exact absurd e (by decide)
      · exact absurd e (by decide)
      · exact absurd e (by decide)
      · exact absurd e (by decide)
      · exact absurd e (by decide)
      · exact absurd e (by decide)
      , fun z => Or.inr (Or.inr (Or.inl ⟨rfl, z⟩))⟩) (cO.z (st_81 (sa := sa) (d := d + 290) h (by omega) (by omega) har hI.2.2.2.1.k2))
theorem t_a13 {f d a : Nat} (h : cI B C ρ P n T) (hR : cR S th C n T) (hst : stI sa ρ P) (hs : saI P ws) (hI : aI S (cV C th)) (hw : aWf (cV C th)) (hc : C.2.1.length < 999) (he : C.2.2.2.2.2.2.1.length < 8000) (hm : C.2.2.2.2.2.2.2.length < 16000) (hf : 200000 ≤ f) (ha : a + 1 < ws.length) (h0 : ws[a] = nI 13) : tO B sa S (cV C th) 13 (ws.drop a) C ρ P n T (am_call B sa am_dfl am_tb f (d + 311) 117 [.ref (ρ.1 8), .int (nI a)] (hp_S sa ρ P)) := by
  have w := h.w
  obtain ⟨hark, har⟩ := t_har h hR hI
  obtain ⟨f, rfl⟩ : ∃ g, f = g + 2 := ⟨f - 2, by omega⟩
  rw [t_acc0 w hs ha, am_s117_54]
  simp only [hr_807 w, hl_807 w, hs.rd (show a < ws.length by omega), h0, Option.bind_some, show Int32.toInt (nI 13) = 13 from nI_toInt (by omega), Int.reduceEq, reduceIte, ho_805 w, hx_6 w]
  exact tO.Q h hR hst ⟨by decide, by decide, by decide⟩ (fun N => ⟨fun z => by
      rcases z with ⟨e, z⟩ | ⟨e, z⟩ | ⟨e, z⟩ | ⟨e, z⟩ | ⟨e, z⟩ | ⟨e, z⟩ | ⟨e, z⟩ | ⟨e, z⟩ | ⟨e, z⟩ | ⟨e, z⟩ | ⟨e, z⟩
      · exact absurd e (by decide)
      · exact absurd e (by decide)
      · exact absurd e (by decide)
      · exact z
      · exact absurd e (by decide)
      · exact absurd e (by decide)
      · exact absurd e (by decide)
      · exact absurd e (by decide)
      · exact absurd e (by decide)
      · exact absurd e (by decide)
      · exact absurd e (by decide)
      , fun z => Or.inr (Or.inr (Or.inr (Or.inl ⟨rfl, z⟩)))⟩) (cO.z (st_82 (sa := sa) (d := d + 290) h (by omega) (by omega)))
theorem t_a14 {f d a : Nat} (h : cI B C ρ P n T) (hR : cR S th C n T) (hst : stI sa ρ P) (hs : saI P ws) (hI : aI S (cV C th)) (hw : aWf (cV C th)) (hc : C.2.1.length < 999) (he : C.2.2.2.2.2.2.1.length < 8000) (hm : C.2.2.2.2.2.2.2.length < 16000) (hf : 200000 ≤ f) (ha : a + 1 < ws.length) (h0 : ws[a] = nI 14) : tO B sa S (cV C th) 14 (ws.drop a) C ρ P n T (am_call B sa am_dfl am_tb f (d + 311) 117 [.ref (ρ.1 8), .int (nI a)] (hp_S sa ρ P)) := by
  have w := h.w
  obtain ⟨hark, har⟩ := t_har h hR hI
  obtain ⟨f, rfl⟩ : ∃ g, f = g + 2 := ⟨f - 2, by omega⟩
  rw [t_acc0 w hs ha, am_s117_54]
  simp only [hr_807 w, hl_807 w, hs.rd (show a < ws.length by omega), h0, Option.bind_some, show Int32.toInt (nI 14) = 14 from nI_toInt (by omega), Int.reduceEq, reduceIte, ho_805 w, hx_6 w]
  exact tO.Q h hR hst ⟨by decide, by decide, by decide⟩ (fun N => ⟨fun z => by
      rcases z with ⟨e, z⟩ | ⟨e, z⟩ | ⟨e, z⟩ | ⟨e, z⟩ | ⟨e, z⟩ | ⟨e, z⟩ | ⟨e, z⟩ | ⟨e, z⟩ | ⟨e, z⟩ | ⟨e, z⟩ | ⟨e, z⟩
      · exact absurd e (by decide)
      · exact absurd e (by decide)
      · exact absurd e (by decide)
      · exact absurd e (by decide)
      · exact z
      · exact absurd e (by decide)
      · exact absurd e (by decide)
      · exact absurd e (by decide)
      · exact absurd e (by decide)
      · exact absurd e (by decide)
      · exact absurd e (by decide)
      , fun z => Or.inr (Or.inr (Or.inr (Or.inr (Or.inl ⟨rfl, z⟩))))⟩) (cO.z (st_83 (sa := sa) (d := d + 290) h (by omega) (by omega) (fun M hM => (hI.2.2.2.2.2.2.1 M hM).1)))
theorem t_a15 {f d a : Nat} (h : cI B C ρ P n T) (hR : cR S th C n T) (hst : stI sa ρ P) (hs : saI P ws) (hI : aI S (cV C th)) (hw : aWf (cV C th)) (hc : C.2.1.length < 999) (he : C.2.2.2.2.2.2.1.length < 8000) (hm : C.2.2.2.2.2.2.2.length < 16000) (hf : 200000 ≤ f) (ha : a + 1 < ws.length) (h0 : ws[a] = nI 15) : tO B sa S (cV C th) 15 (ws.drop a) C ρ P n T (am_call B sa am_dfl am_tb f (d + 311) 117 [.ref (ρ.1 8), .int (nI a)] (hp_S sa ρ P)) := by
  have w := h.w
  obtain ⟨hark, har⟩ := t_har h hR hI
  obtain ⟨f, rfl⟩ : ∃ g, f = g + 2 := ⟨f - 2, by omega⟩
  rw [t_acc0 w hs ha, am_s117_54]
  simp only [hr_807 w, hl_807 w, hs.rd (show a < ws.length by omega), h0, Option.bind_some, show Int32.toInt (nI 15) = 15 from nI_toInt (by omega), Int.reduceEq, reduceIte, ho_805 w, hx_6 w]
  exact tO.Q h hR hst ⟨by decide, by decide, by decide⟩ (fun N => ⟨fun z => by
      rcases z with ⟨e, z⟩ | ⟨e, z⟩ | ⟨e, z⟩ | ⟨e, z⟩ | ⟨e, z⟩ | ⟨e, z⟩ | ⟨e, z⟩ | ⟨e, z⟩ | ⟨e, z⟩ | ⟨e, z⟩ | ⟨e, z⟩
      · exact absurd e (by decide)
      · exact absurd e (by decide)
      · exact absurd e (by decide)
      · exact absurd e (by decide)
      · exact absurd e (by decide)
      · exact z
      · exact absurd e (by decide)
      · exact absurd e (by decide)
      · exact absurd e (by decide)
      · exact absurd e (by decide)
      · exact absurd e (by decide)
      , fun z => Or.inr (Or.inr (Or.inr (Or.inr (Or.inr (Or.inl ⟨rfl, z⟩)))))⟩) (cO.z (st_84 (sa := sa) (d := d + 290) h (by omega) (by omega)))
theorem t_a16 {f d a : Nat} (h : cI B C ρ P n T) (hR : cR S th C n T) (hst : stI sa ρ P) (hs : saI P ws) (hI : aI S (cV C th)) (hw : aWf (cV C th)) (hc : C.2.1.length < 999) (he : C.2.2.2.2.2.2.1.length < 8000) (hm : C.2.2.2.2.2.2.2.length < 16000) (hf : 200000 ≤ f) (ha : a + 1 < ws.length) (h0 : ws[a] = nI 16) : tO B sa S (cV C th) 16 (ws.drop a) C ρ P n T (am_call B sa am_dfl am_tb f (d + 311) 117 [.ref (ρ.1 8), .int (nI a)] (hp_S sa ρ P)) := by
  have w := h.w
  obtain ⟨hark, har⟩ := t_har h hR hI
  obtain ⟨f, rfl⟩ : ∃ g, f = g + 2 := ⟨f - 2, by omega⟩
  rw [t_acc0 w hs ha, am_s117_54]
  simp only [hr_807 w, hl_807 w, hs.rd (show a < ws.length by omega), h0, Option.bind_some, show Int32.toInt (nI 16) = 16 from nI_toInt (by omega), Int.reduceEq, reduceIte, ho_805 w, hx_6 w]
  exact tO.Q h hR hst ⟨by decide, by decide, by decide⟩ (fun N => ⟨fun z => by
      rcases z with ⟨e, z⟩ | ⟨e, z⟩ | ⟨e, z⟩ | ⟨e, z⟩ | ⟨e, z⟩ | ⟨e, z⟩ | ⟨e, z⟩ | ⟨e, z⟩ | ⟨e, z⟩ | ⟨e, z⟩ | ⟨e, z⟩
      · exact absurd e (by decide)
      · exact absurd e (by decide)
      · exact absurd e (by decide)
      · exact absurd e (by decide)
      · exact absurd e (by decide)
      · exact absurd e (by decide)
      · exact z
      · exact absurd e (by decide)
      · exact absurd e (by decide)
      · exact absurd e (by decide)
      · exact absurd e (by decide)
      , fun z => Or.inr (Or.inr (Or.inr (Or.inr (Or.inr (Or.inr (Or.inl ⟨rfl, z⟩))))))⟩) (cO.z (st_85 (sa := sa) (d := d + 290) h (by omega) (by omega)))
theorem t_a17 {f d a : Nat} (h : cI B C ρ P n T) (hR : cR S th C n T) (hst : stI sa ρ P) (hs : saI P ws) (hI : aI S (cV C th)) (hw : aWf (cV C th)) (hc : C.2.1.length < 999) (he : C.2.2.2.2.2.2.1.length < 8000) (hm : C.2.2.2.2.2.2.2.length < 16000) (hf : 200000 ≤ f) (ha : a + 1 < ws.length) (h0 : ws[a] = nI 17) : tO B sa S (cV C th) 17 (ws.drop a) C ρ P n T (am_call B sa am_dfl am_tb f (d + 311) 117 [.ref (ρ.1 8), .int (nI a)] (hp_S sa ρ P)) := by
  have w := h.w
  obtain ⟨hark, har⟩ := t_har h hR hI
  obtain ⟨f, rfl⟩ : ∃ g, f = g + 2 := ⟨f - 2, by omega⟩
  rw [t_acc0 w hs ha, am_s117_54]
  simp only [hr_807 w, hl_807 w, hs.rd (show a < ws.length by omega), h0, Option.bind_some, show Int32.toInt (nI 17) = 17 from nI_toInt (by omega), Int.reduceEq, reduceIte, ho_805 w, hx_6 w]
  exact tO.Q h hR hst ⟨by decide, by decide, by decide⟩ (fun N => ⟨fun z => by
      rcases z with ⟨e, z⟩ | ⟨e, z⟩ | ⟨e, z⟩ | ⟨e, z⟩ | ⟨e, z⟩ | ⟨e, z⟩ | ⟨e, z⟩ | ⟨e, z⟩ | ⟨e, z⟩ | ⟨e, z⟩ | ⟨e, z⟩
      · exact absurd e (by decide)
      · exact absurd e (by decide)
      · exact absurd e (by decide)
      · exact absurd e (by decide)
      · exact absurd e (by decide)
      · exact absurd e (by decide)
      · exact absurd e (by decide)
      · exact z
      · exact absurd e (by decide)
      · exact absurd e (by decide)
      · exact absurd e (by decide)
      , fun z => Or.inr (Or.inr (Or.inr (Or.inr (Or.inr (Or.inr (Or.inr (Or.inl ⟨rfl, z⟩)))))))⟩) (cO.z (st_86 (sa := sa) (d := d + 290) h (by omega) (by omega) hI.2.2.2.2.2.1))
theorem t_a18 {f d a : Nat} (h : cI B C ρ P n T) (hR : cR S th C n T) (hst : stI sa ρ P) (hs : saI P ws) (hI : aI S (cV C th)) (hw : aWf (cV C th)) (hc : C.2.1.length < 999) (he : C.2.2.2.2.2.2.1.length < 8000) (hm : C.2.2.2.2.2.2.2.length < 16000) (hf : 200000 ≤ f) (ha : a + 1 < ws.length) (h0 : ws[a] = nI 18) : tO B sa S (cV C th) 18 (ws.drop a) C ρ P n T (am_call B sa am_dfl am_tb f (d + 311) 117 [.ref (ρ.1 8), .int (nI a)] (hp_S sa ρ P)) := by
  have w := h.w
  obtain ⟨hark, har⟩ := t_har h hR hI
  obtain ⟨f, rfl⟩ : ∃ g, f = g + 2 := ⟨f - 2, by omega⟩
  rw [t_acc0 w hs ha, am_s117_54]
  simp only [hr_807 w, hl_807 w, hs.rd (show a < ws.length by omega), h0, Option.bind_some, show Int32.toInt (nI 18) = 18 from nI_toInt (by omega), Int.reduceEq, reduceIte, ho_805 w, hx_6 w]
  exact tO.Q h hR hst ⟨by decide, by decide, by decide⟩ (fun N => ⟨fun z => by
      rcases z with ⟨e, z⟩ | ⟨e, z⟩ | ⟨e, z⟩ | ⟨e, z⟩ | ⟨e, z⟩ | ⟨e, z⟩ | ⟨e, z⟩ | ⟨e, z⟩ | ⟨e, z⟩ | ⟨e, z⟩ | ⟨e, z⟩
      · exact absurd e (by decide)
      · exact absurd e (by decide)
      · exact absurd e (by decide)
      · exact absurd e (by decide)
      · exact absurd e (by decide)
      · exact absurd e (by decide)
      · exact absurd e (by decide)
      · exact absurd e (by decide)
      · exact z
      · exact absurd e (by decide)
      · exact absurd e (by decide)
      , fun z => Or.inr (Or.inr (Or.inr (Or.inr (Or.inr (Or.inr (Or.inr (Or.inr (Or.inl ⟨rfl, z⟩))))))))⟩) (cO.z (st_87 (sa := sa) (d := d + 290) h (by omega) (by omega)))
theorem t_a20 {f d a : Nat} (h : cI B C ρ P n T) (hR : cR S th C n T) (hst : stI sa ρ P) (hs : saI P ws) (hI : aI S (cV C th)) (hw : aWf (cV C th)) (hc : C.2.1.length < 999) (he : C.2.2.2.2.2.2.1.length < 8000) (hm : C.2.2.2.2.2.2.2.length < 16000) (hf : 200000 ≤ f) (ha : a + 1 < ws.length) (h0 : ws[a] = nI 20) : tO B sa S (cV C th) 20 (ws.drop a) C ρ P n T (am_call B sa am_dfl am_tb f (d + 311) 117 [.ref (ρ.1 8), .int (nI a)] (hp_S sa ρ P)) := by
  have w := h.w
  obtain ⟨hark, har⟩ := t_har h hR hI
  obtain ⟨f, rfl⟩ : ∃ g, f = g + 2 := ⟨f - 2, by omega⟩
  rw [t_acc0 w hs ha, am_s117_54]
  simp only [hr_807 w, hl_807 w, hs.rd (show a < ws.length by omega), h0, Option.bind_some, show Int32.toInt (nI 20) = 20 from nI_toInt (by omega), Int.reduceEq, reduceIte, ho_805 w, hx_6 w]
  exact tO.Q20 h hR hst (cO20.z (st_91 (kk := q_tk C.2.2.2.2.1) (sa := sa) (d := d + 290) h (by omega) (by omega) (fun c hc => q_tk_neg c hc) hark (fun M hM s hs => ((hI.2.2.2.2.2.2.1 M hM).2 s hs).2.1) hI.2.2.2.1.k2 (q_ok.B hI.2.2.2.1).2.1))
theorem t_a21 {f d a : Nat} (h : cI B C ρ P n T) (hR : cR S th C n T) (hst : stI sa ρ P) (hs : saI P ws) (hI : aI S (cV C th)) (hw : aWf (cV C th)) (hc : C.2.1.length < 999) (he : C.2.2.2.2.2.2.1.length < 8000) (hm : C.2.2.2.2.2.2.2.length < 16000) (hf : 200000 ≤ f) (ha : a + 1 < ws.length) (h0 : ws[a] = nI 21) : tO B sa S (cV C th) 21 (ws.drop a) C ρ P n T (am_call B sa am_dfl am_tb f (d + 311) 117 [.ref (ρ.1 8), .int (nI a)] (hp_S sa ρ P)) := by
  have w := h.w
  obtain ⟨hark, har⟩ := t_har h hR hI
  obtain ⟨f, rfl⟩ : ∃ g, f = g + 2 := ⟨f - 2, by omega⟩
  rw [t_acc0 w hs ha, am_s117_54]
  simp only [hr_807 w, hl_807 w, hs.rd (show a < ws.length by omega), h0, Option.bind_some, show Int32.toInt (nI 21) = 21 from nI_toInt (by omega), Int.reduceEq, reduceIte, ho_805 w, hx_6 w]
  exact tO.Q21 h hR hst (cO21.z (st_93 (kk := q_tk C.2.2.2.2.1) (sa := sa) (d := d + 290) h (by omega) hc (fun c hc => q_tk_neg c hc) har hI.2.2.2.2.2.1))
theorem t_a1 {f d a c x : Nat} (h : cI B C ρ P n T) (hR : cR S th C n T) (hst : stI sa ρ P) (hs : saI P ws) (hI : aI S (cV C th)) (hw : aWf (cV C th)) (hc : C.2.1.length < 999) (he : C.2.2.2.2.2.2.1.length < 8000) (hm : C.2.2.2.2.2.2.2.length < 16000) (hf : 200000 ≤ f) (ha : a + 1 < ws.length) (h0 : ws[a] = nI 1) (h1 : wd (ws.drop a) 1 = nI c) (h2 : C.2.2.2.2.1[c]? = some x) : tO B sa S (cV C th) 1 (ws.drop a) C ρ P n T (am_call B sa am_dfl am_tb f (d + 311) 117 [.ref (ρ.1 8), .int (nI a)] (hp_S sa ρ P)) := by
  have w := h.w
  obtain ⟨f, rfl⟩ : ∃ g, f = g + 2 := ⟨f - 2, by omega⟩
  rw [t_acc0 w hs ha, am_s117_54]
  simp only [hr_807 w, hl_807 w, hs.rd (show a < ws.length by omega), h0, Option.bind_some, show Int32.toInt (nI 1) = 1 from nI_toInt (by omega), Int.reduceEq, reduceIte, ho_802 w, hx_1 w]
  exact tO.Ty h hR hst (by decide) (R := sp_1 C.2.2.2.2.1 C.2.2.2.2.2.2.1 (wd (ws.drop a) 1) (wd (ws.drop a) 2) (wd (ws.drop a) 3)) (fun N => ⟨fun z => by
      rcases z with ⟨e, z⟩ | ⟨e, z⟩
      · exact absurd e (by decide)
      · exact z
      , fun z => Or.inr ⟨rfl, z⟩⟩) (by
    rw [h1]
    have := en_1 (sa := sa) (a := wd (ws.drop a) 2) (b := wd (ws.drop a) 3) (f := f + 2) (d := d + 306) w h.y h.2.1 h.2.2.1 he (by omega) h2
    exact this.z)
theorem t_a19 {f d a c : Nat} (h : cI B C ρ P n T) (hR : cR S th C n T) (hst : stI sa ρ P) (hs : saI P ws) (hI : aI S (cV C th)) (hw : aWf (cV C th)) (hc : C.2.1.length < 999) (he : C.2.2.2.2.2.2.1.length < 8000) (hm : C.2.2.2.2.2.2.2.length < 16000) (hf : 200000 ≤ f) (ha : a + 1 < ws.length) (h0 : ws[a] = nI 19) (h1 : wd (ws.drop a) 2 = nI c) (h2 : c ≤ 250) (h3 : a + 3 + 2 * c ≤ ws.length) : tO B sa S (cV C th) 19 (ws.drop a) C ρ P n T (am_call B sa am_dfl am_tb f (d + 311) 117 [.ref (ρ.1 8), .int (nI a)] (hp_S sa ρ P)) := by
  have w := h.w
  obtain ⟨hark, har⟩ := t_har h hR hI
  obtain ⟨f, rfl⟩ : ∃ g, f = g + 2 := ⟨f - 2, by omega⟩
  rw [t_acc0 w hs ha, am_s117_54]
  simp only [hr_807 w, hl_807 w, hs.rd (show a < ws.length by omega), h0, Option.bind_some, show Int32.toInt (nI 19) = 19 from nI_toInt (by omega), Int.reduceEq, reduceIte, ho_805 w, hx_6 w]
  have hl : (w_pr (ws.drop a) c).length = c := by unfold w_pr; rw [List.length_map, List.length_range]
  exact tO.Q h hR hst ⟨by decide, by decide, by decide⟩ (R := sp_19 C.2.2.2.2.2.2.1 C.2.1 (wd (ws.drop a) 1) (w_pr (ws.drop a) c)) (fun N => ⟨fun z => by
      rcases z with ⟨e, z⟩ | ⟨e, z⟩ | ⟨e, z⟩ | ⟨e, z⟩ | ⟨e, z⟩ | ⟨e, z⟩ | ⟨e, z⟩ | ⟨e, z⟩ | ⟨e, z⟩ | ⟨e, z⟩ | ⟨e, z⟩
      · exact absurd e (by decide)
      · exact absurd e (by decide)
      · exact absurd e (by decide)
      · exact absurd e (by decide)
      · exact absurd e (by decide)
      · exact absurd e (by decide)
      · exact absurd e (by decide)
      · exact absurd e (by decide)
      · exact absurd e (by decide)
      · obtain ⟨c', c1, c2, z⟩ := z; rw [h1] at c2; rw [(nI_eq (by omega) (by omega)).mp c2]; exact z
      · exact absurd e (by decide)
      , fun z => Or.inr (Or.inr (Or.inr (Or.inr (Or.inr (Or.inr (Or.inr (Or.inr (Or.inr (Or.inl ⟨rfl, c, h2, h1, z⟩)))))))))⟩) (by
    have := st_89 (sa := sa) (f := f + 2) (d := d + 290) (fr0 := a + 3) (x := wd (ws.drop a) 1) (kk := q_tk C.2.2.2.2.1) h (by omega) (by omega) (fun c hc => q_tk_neg c hc) har (by rw [hl]; omega) (t_wds hs h3)
    rw [hl, ← h1] at this
    rw [show nI a + 3 = nI (a + 3) from nI_add a 3]
    exact this.z)
theorem t_a22 {f d a : Nat} (h : cI B C ρ P n T) (hR : cR S th C n T) (hst : stI sa ρ P) (hs : saI P ws) (hI : aI S (cV C th)) (hw : aWf (cV C th)) (hc : C.2.1.length < 999) (he : C.2.2.2.2.2.2.1.length < 8000) (hm : C.2.2.2.2.2.2.2.length < 16000) (hf : 200000 ≤ f) (ha : a + 1 < ws.length) (h0 : ws[a] = nI 22) : tO B sa S (cV C th) 22 (ws.drop a) C ρ P n T (am_call B sa am_dfl am_tb f (d + 311) 117 [.ref (ρ.1 8), .int (nI a)] (hp_S sa ρ P)) := by
  have w := h.w
  obtain ⟨f, rfl⟩ : ∃ g, f = g + 2 := ⟨f - 2, by omega⟩
  rw [t_acc0 w hs ha, am_s117_54]
  simp only [hr_807 w, hl_807 w, hs.rd (show a < ws.length by omega), h0, Option.bind_some, show Int32.toInt (nI 22) = 22 from nI_toInt (by omega), Int.reduceEq, reduceIte, ho_806 w, hx_0 w]
  exact tO.Q22 h hR hst ⟨by decide, by decide, by decide⟩ (fun N => ⟨fun z => by
      rcases z with ⟨e, z⟩ | ⟨e, z⟩ | ⟨e, z⟩ | ⟨e, z⟩ | ⟨e, z⟩ | ⟨e, z⟩ | ⟨e, z⟩ | ⟨e, z⟩ | ⟨e, z⟩ | ⟨e, z⟩ | ⟨e, z⟩
      · exact absurd e (by decide)
      · exact absurd e (by decide)
      · exact absurd e (by decide)
      · exact absurd e (by decide)
      · exact absurd e (by decide)
      · exact absurd e (by decide)
      · exact absurd e (by decide)
      · exact absurd e (by decide)
      · exact absurd e (by decide)
      · exact absurd e (by decide)
      · exact z
      , fun z => Or.inr (Or.inr (Or.inr (Or.inr (Or.inr (Or.inr (Or.inr (Or.inr (Or.inr (Or.inr (⟨rfl, z⟩))))))))))⟩) (st_22 (d := d) h hst.1 hst.2.2.1 hst.2.2.2 (by omega) (by omega))
/-- accepts -/
theorem t_acc {f d a k L : Nat} (h : cI B C ρ P n T) (hR : cR S th C n T) (hst : stI sa ρ P) (hs : saI P ws) (hI : aI S (cV C th)) (hw : aWf (cV C th)) (hc : C.2.1.length < 999) (he : C.2.2.2.2.2.2.1.length < 8000) (hm : C.2.2.2.2.2.2.2.length < 16000) (hf : 200000 ≤ f) (h0 : (ws.drop a)[0]? = some (nI k)) (hk : k < 23) (hL : aL C.2.2.2.2.1 k (ws.drop a) L) (hl : L ≤ (ws.drop a).length) : tO B sa S (cV C th) k (ws.drop a) C ρ P n T (am_call B sa am_dfl am_tb f (d + 311) 117 [.ref (ρ.1 8), .int (nI a)] (hp_S sa ρ P)) := by
  have h2 := aL_ge hL
  have hl' := hl
  rw [List.length_drop] at hl'
  have ha : a + 1 < ws.length := by omega
  have h00 : ws[a] = nI k := by
    rw [List.getElem?_drop, Nat.add_zero, List.getElem?_eq_getElem (by omega)] at h0
    exact Option.some.inj h0
  rcases hL with ⟨m, e⟩ | ⟨m, e⟩ | ⟨m, e⟩ | ⟨m, c, x, e1, e2, e⟩ | ⟨m, c, e1, e2, e⟩
  · have : k = 0 ∨ k = 10 ∨ k = 14 ∨ k = 15 ∨ k = 20 ∨ k = 21 ∨ k = 22 := by simpa using m
    rcases this with rfl | rfl | rfl | rfl | rfl | rfl | rfl
    · exact t_a0 h hR hst hs hI hw hc he hm hf ha h00
    · exact t_a10 h hR hst hs hI hw hc he hm hf ha h00
    · exact t_a14 h hR hst hs hI hw hc he hm hf ha h00
    · exact t_a15 h hR hst hs hI hw hc he hm hf ha h00
    · exact t_a20 h hR hst hs hI hw hc he hm hf ha h00
    · exact t_a21 h hR hst hs hI hw hc he hm hf ha h00
    · exact t_a22 h hR hst hs hI hw hc he hm hf ha h00
  · have : k = 2 ∨ k = 3 ∨ k = 4 ∨ k = 5 ∨ k = 6 ∨ k = 11 ∨ k = 12 ∨ k = 13 ∨ k = 16 ∨ k = 17 := by simpa using m
    rcases this with rfl | rfl | rfl | rfl | rfl | rfl | rfl | rfl | rfl | rfl
    · exact t_a2 h hR hst hs hI hw hc he hm hf ha h00
    · exact t_a3 h hR hst hs hI hw hc he hm hf ha h00
    · exact t_a4 h hR hst hs hI hw hc he hm hf ha h00
    · exact t_a5 h hR hst hs hI hw hc he hm hf ha h00
    · exact t_a6 h hR hst hs hI hw hc he hm hf ha h00
    · exact t_a11 h hR hst hs hI hw hc he hm hf ha h00
    · exact t_a12 h hR hst hs hI hw hc he hm hf ha h00
    · exact t_a13 h hR hst hs hI hw hc he hm hf ha h00
    · exact t_a16 h hR hst hs hI hw hc he hm hf ha h00
    · exact t_a17 h hR hst hs hI hw hc he hm hf ha h00
  · subst m
    exact t_a18 h hR hst hs hI hw hc he hm hf ha h00
  · subst m
    exact t_a1 h hR hst hs hI hw hc he hm hf ha h00 (by unfold wd; rw [e1]; rfl) e2
  · subst m
    exact t_a19 h hR hst hs hI hw hc he hm hf ha h00 (by unfold wd; rw [e2]; rfl) e1 (by omega)
end ACC
