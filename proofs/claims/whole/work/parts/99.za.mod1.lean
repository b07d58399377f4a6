/-! THE REFERENCE, 13: a sequent's draft -/
theorem hys_len {sq : List qQ} (h : ∀ s ∈ sq, s.1.length ≤ 60) : (hys sq).length ≤ 60 * sq.length := by
  induction sq with
  | nil => exact Nat.zero_le _
  | cons s sq ih =>
    have h1 := h s List.mem_cons_self
    have h2 := ih fun x hx => h x (List.mem_cons_of_mem _ hx)
    show (s.1 ++ hys sq).length ≤ _
    rw [List.length_append, List.length_cons]
    omega
theorem hys_at {sq : List qQ} {j : Nat} {s : qQ} (h : sq[j]? = some s) : (hys (sq.take j)).length + s.1.length ≤ (hys sq).length := by
  have hl := (List.getElem?_eq_some_iff.mp h).1
  have e : sq = sq.take j ++ (s :: sq.drop (j + 1)) := by
    have := (List.getElem?_eq_some_iff.mp h).2
    rw [← this, ← List.drop_eq_getElem_cons hl, List.take_append_drop]
  conv => rhs; rw [e]
  rw [hys_ap, List.length_append]
  show _ ≤ _ + (s.1 ++ hys (sq.drop (j + 1))).length
  rw [List.length_append]
  omega
theorem hys_take {sq : List qQ} {j : Nat} : (hys (sq.take j)).length ≤ (hys sq).length := by
  conv => rhs; rw [← List.take_append_drop j sq, hys_ap]
  rw [List.length_append]
  exact Nat.le_add_right _ _
section DR
variable {Z : Prop} {G : qT → Prop} {L : List qM} {sa : Nat → Nat} {B : Nat} {ρ : hp_L} {K K' K0 K1 : kS} {A : sV} {H : List qM}
/-- rI where rows are changed behind what stands -/
theorem rI.ar {P' : hp_P} (h : rI A K) (h0 : ∀ r, rr_S r = true → P'.1 r = K.1.1 r) (h1 : ∀ r, rr_S r = true → r < 935 → P'.2 r = K.1.2 r) (h2 : ∀ r, 935 ≤ r → r ≤ 942 → ∀ j, j < A.1.length → (P'.2 r).2 j = (K.1.2 r).2 j) (h3 : ∀ i, i < (hys A.1).length → (P'.2 943).2 i = (K.1.2 943).2 i) (hl : ∀ r, (P'.2 r).1 = (K.1.2 r).1) : rI A (P', K.2) := by
  obtain ⟨g1, g2, g3, g4, g5⟩ := h
  refine ⟨?_, ?_, ⟨?_, ?_, ?_, ?_, ?_, fun j s hj => ?_⟩, ⟨⟨g4.1.1, fun j a b => ?_, fun a => ?_⟩, fun j a b => ?_, fun i j a b c e => ?_⟩, g5.go (K' := (P', K.2)) hl⟩
  · unfold r_sg
    rw [h0 913 rfl, h0 915 rfl, h1 914 rfl (by decide), h1 916 rfl (by decide)]
    exact g1
  · unfold r_en
    rw [h0 928 rfl, h0 929 rfl, h1 930 rfl (by decide), h1 931 rfl (by decide)]
    exact g2
  · exact ⟨(h0 932 rfl).trans g3.1.1, g3.1.2⟩
  · exact (h0 933 rfl).trans g3.2.1
  · exact ⟨(h0 934 rfl).trans g3.2.2.1.1, g3.2.2.1.2⟩
  · exact fun r a b => (hl r).trans (g3.2.2.2.1 r a b)
  · exact (hl 943).trans g3.2.2.2.2.1
  · have hjl := (List.getElem?_eq_some_iff.mp hj).1
    obtain ⟨q1, q2, q3, q4, q5⟩ := g3.2.2.2.2.2 j s hj
    have hh := hys_at hj
    refine ⟨?_, ?_, ?_, q4, fun i X hi => ?_⟩
    · rw [h2 935 (by decide) (by decide) j hjl]; exact q1
    · rw [h2 936 (by decide) (by decide) j hjl]; exact q2
    · rw [h2 937 (by decide) (by decide) j hjl]; exact q3
    · have := (List.getElem?_eq_some_iff.mp hi).1
      rw [h3 _ (by omega)]; exact q5 i X hi
  · rw [h2 938 (by decide) (by decide) j b]; exact g4.1.2.1 j a b
  · have := g4.1.1
    rw [h2 938 (by decide) (by decide) _ (by omega)]; exact g4.1.2.2 a
  · obtain ⟨nk, nt, z1, z2⟩ := g4.2.1 j a b
    refine ⟨nk, nt, ⟨fun e => ?_, fun e => ?_⟩, z2⟩
    · rw [h0 944 rfl]; exact z1.1 e
    · rw [h2 939 (by decide) (by decide) _ (by omega), h2 940 (by decide) (by decide) _ (by omega), h2 941 (by decide) (by decide) _ (by omega), h2 942 (by decide) (by decide) _ (by omega)]
      exact z1.2 e
  · show ∃ x y, x ≤ y ∧ y ≤ 60000 ∧ (P'.2 939).2 (i - 1) = nI x ∧ (P'.2 939).2 (j - 1) = nI y
    rw [h2 939 (by decide) (by decide) _ (by omega), h2 939 (by decide) (by decide) _ (by omega)]
    exact g4.2.2 i j a b c e
/-- the draft -/
def dr (sq : List qQ) (K : kS) (H : List qM) : Prop := (K.1.2 936).2 sq.length = nI (hys sq).length ∧ (K.1.2 937).2 sq.length = nI H.length ∧ H.length ≤ 60 ∧ ∀ i X, H[i]? = some X → nq K ((K.1.2 943).2 ((hys sq).length + i)) X
def dI (Z : Prop) (G : qT → Prop) (L : List qM) (A : sV) (H : List qM) (K : kS) : Prop := kI Z G L K ∧ rI A K ∧ (K.2.2.2.2 = false → dr A.1 K H)
def kDF (F : Nat → Bool) (K K' : kS) : Prop := mfr F K.1 K'.1 ∧ ty_xt K.2.1 K.2.2.1 K'.2.1 K'.2.2.1 ∧ (∃ q, K'.2.2.2.1 = K.2.2.2.1 ++ q) ∧ (K'.2.2.2.2 = false → K.2.2.2.2 = false) ∧ ∀ r, (946 ≤ r ∨ r = 914) → K'.1.1 r = K.1.1 r ∧ K'.1.2 r = K.1.2 r
abbrev kD (K K' : kS) : Prop := kDF dx_S K K'
theorem kD.rf : kD K K := ⟨mfr.rf, ty_xt.rf, ⟨[], (List.append_nil _).symm⟩, id, fun _ _ => ⟨rfl, rfl⟩⟩
theorem kDF.tr {F : Nat → Bool} (h : kDF F K K') (k : kDF F K' K1) : kDF F K K1 := by
  obtain ⟨q, e⟩ := h.2.2.1
  obtain ⟨q', e'⟩ := k.2.2.1
  exact ⟨h.1.tr k.1, h.2.1.tr k.2.1, ⟨q ++ q', by rw [e', e, List.append_assoc]⟩, fun z => h.2.2.2.1 (k.2.2.2.1 z), fun r hr => ⟨(k.2.2.2.2 r hr).1.trans (h.2.2.2.2 r hr).1, (k.2.2.2.2 r hr).2.trans (h.2.2.2.2 r hr).2⟩⟩
theorem kx_46 {r : Nat} (h : 946 ≤ r ∨ r = 914) : kx_S r = false := by
  unfold kx_S tn_S nn_S
  rw [decide_eq_false (by omega), decide_eq_false (by omega), decide_eq_false (by omega)]; rfl
theorem kDF.W (h : kD K K') : kDF dW_S K K' := ⟨h.1.W, h.2⟩
theorem kR.D (r : kR Z G L K K') : kD K K' := ⟨r.dx, r.2.2.1, r.2.2.2.1, r.2.2.2.2, fun x hx => r.2.1.1 x (kx_46 hx)⟩
theorem nq.gD {F : Nat → Bool} {v : Int32} {M : qM} (h : nq K v M) (r : kDF F K K') : nq K' v M := by
  obtain ⟨i, a, c, e⟩ := h
  obtain ⟨q, eq⟩ := r.2.2.1
  exact ⟨i, a, c, by rw [eq, List.getElem?_append_left (List.getElem?_eq_some_iff.mp e).1]; exact e⟩
theorem nv.gD {F : Nat → Bool} {v : Int32} {M : qM} (h : nv K v M) (r : kDF F K K') : nv K' v M := by
  obtain ⟨i, a, c, e⟩ := h
  refine ⟨i, a, c, fun z => ?_⟩
  have e := e (r.2.2.2.1 z)
  obtain ⟨q, eq⟩ := r.2.2.1
  rw [eq, List.getElem?_append_left (List.getElem?_eq_some_iff.mp e).1]
  exact e
theorem dI.go (h : dI Z G L A H K) (r : kR Z G L K K') : dI Z G L A H K' := by
  refine ⟨r.1, h.2.1.go h.1 r, fun z => ?_⟩
  obtain ⟨d1, d2, d3, d4⟩ := h.2.2 (r.2.2.2.2 z)
  have f := fun x hx => (r.2.1.1 x (kx_rr hx)).2
  unfold dr
  rw [f 936 rfl, f 937 rfl, f 943 rfl]
  exact ⟨d1, d2, d3, fun i X hi => (d4 i X hi).go r⟩
theorem rI.u60 (h : rI A K) : (hys A.1).length ≤ 60 * A.1.length := hys_len fun s hs => by
  obtain ⟨j, hj, e⟩ := List.mem_iff_getElem.mp hs
  exact (h.2.2.1.2.2.2.2.2 j s (List.getElem?_eq_some_iff.mpr ⟨hj, e⟩)).2.2.2.1
theorem rI.r37 (h : rI A K) {r j : Nat} (h1 : 935 ≤ r) (h2 : r ≤ 942) (hj : j ≤ 1001) : hp_rd K.1 r (nI j) = some ((K.1.2 r).2 j) := hp_rd_nI (by rw [h.2.2.1.2.2.2.1 r h1 h2]; omega) (by omega)
theorem rI.r43 (h : rI A K) {i : Nat} (hi : i < 62000) : hp_rd K.1 943 (nI i) = some ((K.1.2 943).2 i) := hp_rd_nI (by rw [h.2.2.1.2.2.2.2.1]; exact hi) (by omega)
/-- open -/
theorem d_open2 {f d : Nat} (w : hp_w B ρ) (h : kI Z G L K) (hr : rI A K) (hs : A.1.length < 1000) : ∃ K', am_call B sa am_dfl am_tb (f + 1) (d + 2) 158 [.ref (ρ.1 9)] (hp_S sa ρ K.1) = some (none, hp_S sa ρ K'.1) ∧ dI Z G L A [] K' ∧ kD K K' ∧ K'.2 = K.2 ∧ ∀ r, r ≠ 936 → r ≠ 937 → K'.1.2 r = K.1.2 r := by
  obtain ⟨⟨s1, s2⟩, s3, -, s5, s6, -⟩ := hr.2.2.1
  rw [am_c_158, am_s158_0]
  have ck6 : hp_ck K.1 936 (nI A.1.length) = some () := hp_ck_nI (by rw [s5 936 (by decide) (by decide)]; omega) (by omega)
  have ck7 : ∀ v, hp_ck (hp_sA K.1 936 (nI A.1.length) v) 937 (nI A.1.length) = some () := fun v => hp_ck_nI (by rw [hA_len, s5 937 (by decide) (by decide)]; omega) (by omega)
  simp only [hr_936 w, hg_932 w, s1, hg_933 w, s3, ht_936 w, ck6, hA_I, hr_937 w, ht_937 w, ck7, Option.bind_some, am_c_ge]
  rw [if_neg (show ¬ (1000 : Int32) ≤ nI A.1.length from nI_ge (b := 1000) hs (by decide))]
  simp only [hx_9 w, Option.bind_some]
  let P' : hp_P := hp_sA (hp_sA K.1 936 (nI A.1.length) (nI (hys A.1).length)) 937 (nI A.1.length) 0
  have h45 : P'.1 945 = bI K.2.2.2.2 := h.2.2.1
  rw [m_need1 w h45 (by decide), am_i_some]
  have ne : ∀ {r : Nat}, r ≠ 936 → r ≠ 937 → P'.2 r = K.1.2 r := fun {r} a b => by rw [hA_ne b, hA_ne a]
  have e6 : (P'.2 936).2 = upd (K.1.2 936).2 A.1.length (nI (hys A.1).length) := by rw [hA_ne (by decide), hA_eq, nI_clamp (by omega)]
  have e7 : (P'.2 937).2 = upd (K.1.2 937).2 A.1.length 0 := by rw [hA_eq, nI_clamp (by omega), hA_ne (by decide)]
  refine ⟨(P', K.2), rfl, ⟨h.cg fun r hr' => ⟨rfl, ne (ks_ne hr' rfl) (ks_ne hr' rfl)⟩, hr.ar (fun _ _ => rfl) (fun r _ b => ne (by omega) (by omega)) (fun r a b j hj => ?_) (fun i hi => by rw [ne (by decide) (by decide)]) (fun r => by rw [hA_len, hA_len]), fun _ => ⟨?_, ?_, by decide, fun i X hi => by cases hi⟩⟩, ⟨(mfr.sA rfl).tr (mfr.sA rfl), ty_xt.rf, ⟨[], (List.append_nil _).symm⟩, id, fun r hr => ⟨rfl, ne (by omega) (by omega)⟩⟩, rfl, fun r x y => ne x y⟩
  · by_cases z : r = 936
    · rw [z, e6, pk_un (by omega)]
    · by_cases z' : r = 937
      · rw [z', e7, pk_un (by omega)]
      · rw [ne z z']
  · show (P'.2 936).2 A.1.length = _
    rw [e6, pk_us]
  · show (P'.2 937).2 A.1.length = _
    rw [e7, pk_us]; rfl
theorem d_open {f d : Nat} (w : hp_w B ρ) (h : kI Z G L K) (hr : rI A K) (hs : A.1.length < 1000) : ∃ K', am_call B sa am_dfl am_tb (f + 1) (d + 2) 158 [.ref (ρ.1 9)] (hp_S sa ρ K.1) = some (none, hp_S sa ρ K'.1) ∧ dI Z G L A [] K' ∧ kD K K' ∧ K'.2 = K.2 := by
  obtain ⟨K', e1, e2, e3, e4, -⟩ := d_open2 (sa := sa) (f := f) (d := d) w h hr hs
  exact ⟨K', e1, e2, e3, e4⟩
theorem d_add_loop {f0 d : Nat} {x : Int32} {M : qM} (w : hp_w B ρ) (h : dI Z G L A H K) (hb : K.2.2.2.2 = false) (hx : nq K x M) (hz : 60 < (hy_add H M).length → Z) (hs : A.1.length < 1000) : ∀ (j k f : Nat), H.length - k = j → k ≤ H.length → (∀ i, i < k → H[i]? ≠ some M) → j + 1 ≤ f →
    ∃ K', am_go B sa am_dfl (am_call B sa am_dfl am_tb (f0 + 1) (d + 1)) am_r156 f 10 [(0, .ref (ρ.1 9)), (1, .int x), (2, .int (nI k))] [] (hp_S sa ρ K.1) = some (none, hp_S sa ρ K'.1) ∧ dI Z G L A (hy_add H M) K' ∧ kD K K' := by
  obtain ⟨hk, hr, hd⟩ := h
  obtain ⟨d1, d2, d3, d4⟩ := hd hb
  obtain ⟨⟨s1, s2⟩, s3, -, s5, s6, -⟩ := hr.2.2.1
  have u60 := hr.u60
  have r37 := hr.r37 (r := 937) (j := A.1.length) (by decide) (by decide) (by omega)
  rw [d2] at r37
  have h45 := hk.2.2.1
  rw [hb] at h45
  intro j
  induction j with
  | zero =>
    intro k f hj hkl hne hf
    obtain ⟨f, rfl⟩ : ∃ g, f = g + 1 := ⟨f - 1, by omega⟩
    have ek : k = H.length := by omega
    have hn : M ∉ H := fun z => by
      obtain ⟨i, hi, e⟩ := List.mem_iff_getElem.mp z
      exact hne i (by omega) (List.getElem?_eq_some_iff.mpr ⟨hi, e⟩)
    rw [hy_add_n hn, List.length_append, show [M].length = 1 from rfl] at hz
    rw [hy_add_n hn, am_s156_10]
    simp only [hr_937 w, hg_932 w, s1, hl_937 w, r37, Option.bind_some, am_c_ge, am_c_ne, hx_9 w]
    rw [ek, if_pos (Int32.le_refl _)]
    by_cases e60 : H.length < 60
    · rw [if_neg (show ¬ (60 : Int32) ≤ nI H.length from nI_ge (b := 60) e60 (by decide)), m_need1 w h45 (by decide), am_i_some, if_pos (by decide)]
      have ck3 : hp_ck K.1 943 (nI (hys A.1).length + nI H.length) = some () := by rw [nI_add]; exact hp_ck_nI (by rw [s6]; omega) (by omega)
      have ck7 : ∀ v i, hp_ck (hp_sA K.1 943 i v) 937 (nI A.1.length) = some () := fun v i => hp_ck_nI (by rw [hA_len, s5 937 (by decide) (by decide)]; omega) (by omega)
      have r37' : ∀ v i, hp_rd (hp_sA K.1 943 i v) 937 (nI A.1.length) = some (nI H.length) := fun v i => by
        rw [hp_rd_nI (by rw [hA_len, s5 937 (by decide) (by decide)]; omega) (by omega), hA_ne (by decide), d2]
      simp only [hr_943 w, hg_933 w, s3, hr_937 w, hg_932 w, s1, hl_937 w, r37, ht_943 w, ck3, hA_I, r37', ht_937 w, ck7, Option.bind_some, nI_1]
      rw [nI_add]
      let P' : hp_P := hp_sA (hp_sA K.1 943 (nI ((hys A.1).length + H.length)) x) 937 (nI A.1.length) (nI (H.length + 1))
      have ne : ∀ {r : Nat}, r ≠ 943 → r ≠ 937 → P'.2 r = K.1.2 r := fun {r} a b => by rw [hA_ne b, hA_ne a]
      have e3 : (P'.2 943).2 = upd (K.1.2 943).2 ((hys A.1).length + H.length) x := by rw [hA_ne (by decide), hA_eq, nI_clamp (by omega)]
      have e7 : (P'.2 937).2 = upd (K.1.2 937).2 A.1.length (nI (H.length + 1)) := by rw [hA_eq, nI_clamp (by omega), hA_ne (by decide)]
      refine ⟨(P', K.2), rfl, ⟨hk.cg fun r hr' => ⟨rfl, ne (ks_ne hr' rfl) (ks_ne hr' rfl)⟩, hr.ar (fun _ _ => rfl) (fun r _ b => ne (by omega) (by omega)) (fun r a b j hj => ?_) (fun i hi => ?_) (fun r => by rw [hA_len, hA_len]), fun _ => ⟨?_, ?_, ?_, fun i X hi => ?_⟩⟩, ⟨(mfr.sA rfl).tr (mfr.sA rfl), ty_xt.rf, ⟨[], (List.append_nil _).symm⟩, id, fun r hr => ⟨rfl, ne (by omega) (by omega)⟩⟩⟩
      · by_cases z' : r = 937
        · rw [z', e7, pk_un (by omega)]
        · rw [ne (by omega) z']
      · rw [e3, pk_un (by omega)]
      · show (P'.2 936).2 A.1.length = _
        rw [ne (by decide) (by decide)]; exact d1
      · show (P'.2 937).2 A.1.length = _
        rw [e7, pk_us, List.length_append]; rfl
      · rw [List.length_append]; show H.length + 1 ≤ 60; omega
      · show nq (P', K.2) ((P'.2 943).2 ((hys A.1).length + i)) X
        rw [e3]
        rcases rw_push_g hi with z | ⟨z1, z2⟩
        · rw [pk_un (by have := (List.getElem?_eq_some_iff.mp z).1; omega)]; exact d4 i X z
        · rw [z1, z2, pk_us]; exact hx
    · rw [if_pos (show (60 : Int32) ≤ nI H.length from nI_le (a := 60) (by omega) (by omega)), m_need0 w h45, am_i_some, if_neg (fun z => z rfl)]
      exact ⟨kB K true, rfl, ⟨kB.I hk fun _ => hz (by omega), kB.r hr hk, fun z => Bool.noConfusion z⟩, kB.dx, ty_xt.rf, ⟨[], (List.append_nil _).symm⟩, fun z => Bool.noConfusion z, fun r hr => ⟨hI_ne (by omega), rfl⟩⟩
  | succ j ih =>
    intro k f hj hkl hne hf
    obtain ⟨f, rfl⟩ : ∃ g, f = g + 1 := ⟨f - 1, by omega⟩
    have kH : k < H.length := by omega
    have hHk := List.getElem?_eq_getElem kH
    have hq := d4 k _ hHk
    rw [am_s156_10]
    have r43 := hr.r43 (i := (hys A.1).length + k) (by omega)
    rw [← nI_add] at r43
    simp only [hr_937 w, hg_932 w, s1, hl_937 w, r37, Option.bind_some, am_c_ge, am_c_ne, hr_943 w, hg_933 w, s3, hl_943 w, r43]
    rw [if_neg (nI_ge kH (by omega))]
    by_cases e : (K.1.2 943).2 ((hys A.1).length + k) = x
    · rw [if_neg (fun z => z e)]
      rw [e] at hq
      have : M ∈ H := by rw [hx.inj hq]; exact List.getElem_mem kH
      rw [hy_add_y this]
      exact ⟨K, rfl, ⟨hk, hr, hd⟩, kD.rf⟩
    · rw [if_pos e, nI_1]
      refine ih (k + 1) f (by omega) (by omega) (fun i hi => ?_) (by omega)
      by_cases z : i = k
      · rw [z, hHk]
        intro y
        rw [Option.some.inj y] at hq
        exact e (hq.uq hx hk)
      · exact hne i (by omega)
/-- add -/
theorem d_add {f d : Nat} {x : Int32} {M : qM} (w : hp_w B ρ) (h : dI Z G L A H K) (hx : nv K x M) (hz : 60 < (hy_add H M).length → Z) (hs : A.1.length < 1000) (hf : 100 ≤ f) : ∃ K', am_call B sa am_dfl am_tb f (d + 2) 156 [.ref (ρ.1 9), .int x] (hp_S sa ρ K.1) = some (none, hp_S sa ρ K'.1) ∧ dI Z G L A (hy_add H M) K' ∧ kD K K' := by
  obtain ⟨f, rfl⟩ : ∃ g, f = g + 1 := ⟨f - 1, by omega⟩
  rw [am_c_156, am_s156_0]
  simp only [h.1.bad w, Option.bind_some, am_c_eq]
  rcases bI_cases K.2.2.2.2 with ⟨eb, e⟩ | ⟨eb, e⟩
  · rw [e, if_pos rfl]
    exact d_add_loop w h eb (hx.q eb) hz hs H.length 0 f (by omega) (by omega) (fun i hi => absurd hi (Nat.not_lt_zero i)) (by have := (h.2.2 eb).2.2.1; omega)
  · rw [e, if_neg (by decide)]
    exact ⟨K, rfl, ⟨h.1, h.2.1, fun z => by rw [eb] at z; cases z⟩, kD.rf⟩
theorem hy_join_le {e : Option qM} {H L : List qM} : H.length ≤ (hy_join e H L).length := by
  obtain ⟨X, hX⟩ := hy_join_pre (e := e) (L := L) (H := H)
  rw [hX, List.length_append]
  omega
/-- addAll -/
theorem d_all_loop {f0 d j : Nat} {v : Int32} {e : Option qM} {s : qQ} (w : hp_w B ρ) (hj : A.1[j]? = some s) (hs : A.1.length < 1000) (hf0 : 100 ≤ f0) : ∀ (m k f : Nat) (H : List qM) (K : kS), dI Z G L A H K → ((e = none ∧ v = -1) ∨ ∃ E, e = some E ∧ nq K v E) → (60 < (hy_join e H (s.1.drop k)).length → Z) → s.1.length - k = m → k ≤ s.1.length → m + 1 ≤ f →
    ∃ K', am_go B sa am_dfl (am_call B sa am_dfl am_tb f0 (d + 2)) am_r157 f 2 [(0, .ref (ρ.1 9)), (1, .int (nI j)), (2, .int v), (3, .int (nI k))] [] (hp_S sa ρ K.1) = some (none, hp_S sa ρ K'.1) ∧ dI Z G L A (hy_join e H (s.1.drop k)) K' ∧ kD K K' := by
  have hjl := (List.getElem?_eq_some_iff.mp hj).1
  intro m
  induction m with
  | zero =>
    intro k f H K h hv hz hm hk hf
    obtain ⟨f, rfl⟩ : ∃ g, f = g + 1 := ⟨f - 1, by omega⟩
    obtain ⟨q1, q2, q3, q4, q5⟩ := h.2.1.2.2.1.2.2.2.2.2 j s hj
    have r37 := h.2.1.r37 (r := 937) (j := j) (by decide) (by decide) (by omega)
    rw [q3] at r37
    rw [am_s157_2]
    simp only [hr_937 w, hl_937 w, r37, Option.bind_some, am_c_ge]
    rw [if_pos (nI_le (by omega) (by omega)), List.drop_eq_nil_of_le (by omega)]
    exact ⟨K, rfl, h, kD.rf⟩
  | succ m ih =>
    intro k f H K h hv hz hm hk hf
    obtain ⟨f, rfl⟩ : ∃ g, f = g + 1 := ⟨f - 1, by omega⟩
    have kl : k < s.1.length := by omega
    obtain ⟨q1, q2, q3, q4, q5⟩ := h.2.1.2.2.1.2.2.2.2.2 j s hj
    have u60 := h.2.1.u60
    have hh := hys_at hj
    have r37 := h.2.1.r37 (r := 937) (j := j) (by decide) (by decide) (by omega)
    rw [q3] at r37
    have r36 := h.2.1.r37 (r := 936) (j := j) (by decide) (by decide) (by omega)
    rw [q2] at r36
    have r43 := h.2.1.r43 (i := (hys (A.1.take j)).length + k) (by omega)
    rw [← nI_add] at r43
    have hX := List.getElem?_eq_getElem kl
    have hq := q5 k _ hX
    have ed : s.1.drop k = s.1[k] :: s.1.drop (k + 1) := List.drop_eq_getElem_cons kl
    rw [ed, hy_join_c] at hz
    rw [ed, hy_join_c, am_s157_2]
    simp only [hr_937 w, hl_937 w, r37, hr_943 w, hr_936 w, hl_936 w, r36, hl_943 w, r43, Option.bind_some, am_c_ge, am_c_eq, hx_9 w]
    rw [if_neg (nI_ge kl (by omega))]
    have key : (K.1.2 943).2 ((hys (A.1.take j)).length + k) = v ↔ e = some s.1[k] := by
      rcases hv with ⟨z1, z2⟩ | ⟨E, z1, z2⟩
      · rw [z1, z2]
        refine ⟨fun z => ?_, fun z => by cases z⟩
        obtain ⟨i, i1, i2, -⟩ := hq
        rw [i2] at z
        exact absurd z (nI_ne_m1 (by omega))
      · rw [z1]
        refine ⟨fun z => ?_, fun z => ?_⟩
        · rw [z] at hq; rw [z2.inj hq]
        · rw [Option.some.inj z] at z2; exact hq.uq z2 h.1
    by_cases c : e = some s.1[k]
    · rw [if_pos (key.mpr c), if_pos c, nI_1]
      rw [if_pos c] at hz
      exact ih (k + 1) f H K h hv hz (by omega) (by omega) (by omega)
    · rw [if_neg (fun z => c (key.mp z)), if_neg c]
      rw [if_neg c] at hz
      obtain ⟨K1, a1, a2, a3⟩ := d_add (sa := sa) (f := f0) (d := d) w h hq.v (fun z => hz (Nat.lt_of_lt_of_le z hy_join_le)) hs hf0
      rw [a1, am_v_some, nI_1]
      obtain ⟨K2, b1, b2, b3⟩ := ih (k + 1) f _ K1 a2 (hv.imp id fun ⟨E, z1, z2⟩ => ⟨E, z1, z2.gD a3⟩) hz (by omega) (by omega) (by omega)
      exact ⟨K2, b1, b2, a3.tr b3⟩
theorem d_all {f d j : Nat} {v : Int32} {e : Option qM} {s : qQ} (w : hp_w B ρ) (h : dI Z G L A H K) (hj : A.1[j]? = some s) (hv : (e = none ∧ v = -1) ∨ ∃ E, e = some E ∧ nq K v E) (hz : 60 < (hy_join e H s.1).length → Z) (hs : A.1.length < 1000) (hf : 100 ≤ f) :
    ∃ K', am_call B sa am_dfl am_tb f (d + 3) 157 [.ref (ρ.1 9), .int (nI j), .int v] (hp_S sa ρ K.1) = some (none, hp_S sa ρ K'.1) ∧ dI Z G L A (hy_join e H s.1) K' ∧ kD K K' := by
  obtain ⟨f, rfl⟩ : ∃ g, f = g + 1 + 1 := ⟨f - 2, by omega⟩
  rw [am_c_157, am_s157_0]
  have h60 := (h.2.1.2.2.1.2.2.2.2.2 j s hj).2.2.2.1
  obtain ⟨K1, a1, a2, a3⟩ := d_all_loop (sa := sa) (f0 := f + 1 + 1) (d := d) w hj hs (by omega) s.1.length 0 (f + 1) H K h hv hz (by omega) (by omega) (by omega)
  exact ⟨K1, a1, a2, a3⟩
end DR
