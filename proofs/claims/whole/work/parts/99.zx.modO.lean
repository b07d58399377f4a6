/-! THE REFERENCE, 36: led back; judge -/
section UN
variable {Z : Prop} {G : qT → Prop} {L : List qM} {sa : Nat → Nat} {B : Nat} {ρ : hp_L} {K K' K0 K1 : kS} {A : sV} {S : qT → Prop} {k fr : Nat} {ws wr : List Int32} {P : hp_P}
/-- rI over a cut: types of S', nodes of xs -/
theorem rI.cutTo {P' : hp_P} {m : Nat} {xs q : List qM} {b : Bool} (h : rI A K) (hw : ty_wf K.2.2.1 K.2.1) (hd : ty_di K.2.2.1 K.2.1) (hn : K.2.1 < 2 ^ 31) (nd : K.2.2.2.1.Nodup) (hm : m ≤ K.2.1) (eq : K.2.2.2.1 = xs ++ q) (hP : ∀ r, rr_S r = true → P'.1 r = K.1.1 r ∧ P'.2 r = K.1.2 r) (hl : ∀ r, (P'.2 r).1 = (K.1.2 r).1)
    (tow : ∀ t ∈ A.2.2.2.2.1, ct_S K.2.2.1 m t) (tet : ∀ t ∈ A.2.2.2.2.2.1, ct_S K.2.2.1 m t) (tem : ∀ M ∈ A.2.2.2.2.2.2, M ∈ xs) (tsq : ∀ M ∈ sq_rows A.1, M ∈ xs)
    (hth : ∀ j nk nt, A.2.1 ≤ j → j ≤ A.1.length → r_tq K.1 j nk nt (A.2.2.1 j).2.1 (A.2.2.1 j).2.2 → r_cut K.2.1 K.2.2.1 K.2.2.2.1 nk nt (A.2.2.1 j).1 (A.1.take j) (A.2.2.2.2.2.2.take (A.2.2.1 j).2.2) → nk ≤ xs.length ∧ nt ≤ m) : rI A (P', m, K.2.2.1, xs, b) := by
  have hp : ∀ {v t}, ct_S K.2.2.1 m t → pl K.2.1 K.2.2.1 v t → pl m K.2.2.1 v t := fun {v t} ht z => pl_cut z hm hw hd hn ht
  have hq : ∀ {v M}, M ∈ xs → nq K v M → nq (P', m, K.2.2.1, xs, b) v M := fun {v M} hM ⟨i, a, c, e⟩ => by
    obtain ⟨j, hj, ej⟩ := List.mem_iff_getElem.mp hM
    have hj' : K.2.2.2.1[j]? = some M := by rw [eq, List.getElem?_append_left hj]; exact List.getElem?_eq_some_iff.mpr ⟨hj, ej⟩
    have : i = j := nd_nodup nd e hj'
    refine ⟨i, a, c, ?_⟩
    rw [this]
    exact List.getElem?_eq_some_iff.mpr ⟨hj, ej⟩
  obtain ⟨h1, h2, h3, h4, h5⟩ := h
  refine ⟨?_, ?_, ?_, ⟨?_, fun j a b' => ?_, ?_⟩, h5.go (K' := (P', m, K.2.2.1, xs, b)) hl⟩
  · unfold r_sg
    rw [show (P', m, K.2.2.1, xs, b).1 = P' from rfl, (hP 913 rfl).1, (hP 914 rfl).2, (hP 915 rfl).1, (hP 916 rfl).2]
    exact ⟨h1.1, h1.2.1, h1.2.2.1, h1.2.2.2.1, h1.2.2.2.2.1, fun c t hc => hp (tow t (List.mem_of_getElem? hc)) (h1.2.2.2.2.2 c t hc)⟩
  · unfold r_en
    rw [show (P', m, K.2.2.1, xs, b).1 = P' from rfl, (hP 928 rfl).1, (hP 929 rfl).1, (hP 930 rfl).2, (hP 931 rfl).2]
    exact ⟨h2.1, h2.2.1, fun j t hj => hp (tet t (List.mem_of_getElem? hj)) (h2.2.2.1 j t hj), h2.2.2.2.1, h2.2.2.2.2.1, fun j M hj => hq (tem M (List.mem_of_getElem? hj)) (h2.2.2.2.2.2 j M hj)⟩
  · refine ⟨⟨(hP 932 rfl).1.trans h3.1.1, h3.1.2⟩, (hP 933 rfl).1.trans h3.2.1, ⟨(hP 934 rfl).1.trans h3.2.2.1.1, h3.2.2.1.2⟩, fun r a b' => (hl r).trans (h3.2.2.2.1 r a b'), (hl 943).trans h3.2.2.2.2.1, fun j s hj => ?_⟩
    obtain ⟨q1, q2, q3, q4, q5⟩ := h3.2.2.2.2.2 j s hj
    unfold r_row
    rw [show (P', m, K.2.2.1, xs, b).1 = P' from rfl, (hP 935 rfl).2, (hP 936 rfl).2, (hP 937 rfl).2, (hP 943 rfl).2]
    have ms := List.mem_of_getElem? hj
    exact ⟨hq (tsq _ (sq_mc ms)) q1, q2, q3, q4, fun i X hi => hq (tsq _ (sq_mh ms (List.mem_of_getElem? hi))) (q5 i X hi)⟩
  · rw [show (P', m, K.2.2.1, xs, b).1 = P' from rfl, (hP 938 rfl).2]; exact h4.1
  · obtain ⟨nk, nt, z1, z2⟩ := h4.2.1 j a b'
    obtain ⟨l1, l2⟩ := hth j nk nt a b' z1 z2
    refine ⟨nk, nt, z1.go hP, ?_⟩
    obtain ⟨⟨y1, y2, y3⟩, y4, y5, y6, y7, y8⟩ := z2
    have et : K.2.2.2.1.take nk = xs.take nk := by rw [eq]; exact List.take_append_of_le_length l1
    rw [et] at y5 y6 y7
    exact ⟨⟨l2, y2, l1⟩, y4, y5, y6, y7, y8⟩
  · unfold r_mo; rw [show (P', m, K.2.2.1, xs, b).1 = P' from rfl, (hP 939 rfl).2]; exact h4.2.2
theorem aH_t (hI : aI S A) {j : Nat} (h1 : A.2.1 ≤ j) (h2 : j ≤ A.1.length) : ∀ t, (A.2.2.1 j).1 t → S t := (hI.2.2.2.2.2.2.2.2.2.1 j h1 h2).2.2.2
/-- an entry that will not do is undone -/
theorem k_undo {f d : Nat} {v : Int32} (w : hp_w B ρ) (J : kJ S A K0) (hI : aI S A) (U : kU A K0 K') (dx : mfr dx_S K0.1 K'.1) (eb : K'.2.2.2.2 = true) (hf : 100000 ≤ f) : ∃ P2 P3, am_call B sa am_dfl am_tb f (d + 2) 187 [.ref (ρ.1 9), .int (nI K0.2.2.2.1.length)] (hp_S sa ρ (hp_sI K'.1 903 v)) = some (none, hp_S sa ρ P2) ∧ am_call B sa am_dfl am_tb f (d + 2) 186 [.ref (ρ.1 9), .int (nI K0.2.1)] (hp_S sa ρ P2) = some (none, hp_S sa ρ P3) ∧ kJ S A (kB (P3, K0.2.1, K'.2.2.1, K0.2.2.2.1, true) false) ∧ P3.1 945 = bI true ∧ mfr (fun r => cN_S r || cT_S r) (hp_sI K'.1 903 v) P3 := by
  obtain ⟨f, rfl⟩ : ∃ g, f = g + 1 := ⟨f - 1, by omega⟩
  obtain ⟨ku, ru, xt, q, eq⟩ := U
  have l6 := ku.2.1.1.2
  have n8 := ku.1.1.2
  have nd1 : ndN (hp_sI K'.1 903 v) K'.2.1 K'.2.2.1 (K0.2.2.2.1 ++ q) := by
    have := ku.2.1.cg (P' := hp_sI K'.1 903 v) (hI_ne (by decide)) (fun _ _ _ => rfl)
    rw [eq] at this
    exact this
  rw [eq, List.length_append] at l6
  obtain ⟨P2, a1, a2, a3⟩ := c_cutN (sa := sa) (f0 := f) (d := d) (xs := K0.2.2.2.1) w q (f + 1) (hp_sI K'.1 903 v) nd1 (by omega)
  have ty1 : tyN (hp_sI K'.1 903 v) K'.2.1 K'.2.2.1 := ku.1.cg (hI_ne (by decide)) (fun _ _ _ => rfl)
  have ty2 : tyN P2 K'.2.1 K'.2.2.1 := ty1.cg (a3.1 904 rfl).1 fun r x y => (a3.1 r (decide_eq_false (by omega))).2
  obtain ⟨e, ee⟩ : ∃ e, K'.2.1 = K0.2.1 + e := ⟨K'.2.1 - K0.2.1, by have := xt.1; omega⟩
  rw [ee] at ty2
  obtain ⟨P3, b1, b2, b3⟩ := c_cutT (sa := sa) (f0 := f) (d := d) (m := K0.2.1) w e (f + 1) P2 ty2 (by omega)
  refine ⟨P2, P3, by rw [am_c_187]; exact a1, by rw [am_c_186]; exact b1, ?_⟩
  have fr3 : mfr (fun r => cN_S r || cT_S r) (hp_sI K'.1 903 v) P3 := (a3.up fun r h => (Bool.or_eq_false_iff.mp h).1).tr (b3.up fun r h => (Bool.or_eq_false_iff.mp h).2)
  have e45 : P3.1 945 = bI true := by
    rw [(fr3.1 945 rfl).1, hI_ne (by decide), ku.2.2.1, eb]
  have eC : ct_S K'.2.2.1 K0.2.1 = S := by rw [ct_S_xt J.1.wf J.1.n31 xt (Nat.le_refl _)]; exact J.2.2.1
  have inK0 : ∀ X ∈ K0.2.2.2.1, ∀ t, q_of [X] t → S t := fun X hX t ht => by
    obtain ⟨i, hi, es⟩ := List.mem_iff_getElem.mp hX
    rw [← J.2.2.1]
    exact (J.1.cl i X (List.getElem?_eq_some_iff.mpr ⟨hi, es⟩)).1 t ht
  have nd2 : ndN P3 K'.2.1 K'.2.2.1 K0.2.2.2.1 := a2.cg (b3.1 917 rfl).1 fun r x y => (b3.1 r (decide_eq_false (by omega))).2
  have nd3 : ndN P3 K0.2.1 K'.2.2.1 K0.2.2.2.1 := nd2.cutT ku.wf ku.di ku.n31 xt.1 fun X hX t ht => by rw [eC]; exact inK0 X hX t ht
  have rr3 : ∀ r, rr_S r = true → P3.1 r = K'.1.1 r ∧ P3.2 r = K'.1.2 r := fun r hr => by
    have n1 := rr_ne hr (s := 917) rfl
    have n2 := rr_ne hr (s := 926) rfl
    have n3 := rr_ne hr (s := 904) rfl
    have n4 := rr_ne hr (s := 911) rfl
    have n5 := rr_ne hr (s := 903) rfl
    have := fr3.1 r (by
      rw [Bool.or_eq_false_iff]
      exact ⟨decide_eq_false (by omega), decide_eq_false (by omega)⟩)
    exact ⟨this.1.trans (hI_ne n5), this.2⟩
  have hx := J.1.2.2.2.2.2.2
  have rI3 : rI A (P3, K0.2.1, K'.2.2.1, K0.2.2.2.1, true) := by
    refine ru.cutTo ku.wf ku.di ku.n31 ku.2.1.2.2.1 xt.1 eq rr3 (fun r => fr3.2 r) (fun t ht => by rw [eC]; exact hI.1.2.2.1 t ht) (fun t ht => by rw [eC]; exact hI.1.2.2.2.1 t ht) (fun M hM => ?_) (fun M hM => ?_) (fun j nk nt h1 h2 z1 z2 => ?_)
    · obtain ⟨i, hi, es⟩ := List.mem_iff_getElem.mp hM
      exact (J.2.1.2.1.2.2.2.2.2 i M (List.getElem?_eq_some_iff.mpr ⟨hi, es⟩)).mem
    · obtain ⟨s, hs, hX⟩ := List.mem_flatMap.mp hM
      obtain ⟨i, hi, es⟩ := List.mem_iff_getElem.mp hs
      have hr := J.2.1.2.2.1.2.2.2.2.2 i s (List.getElem?_eq_some_iff.mpr ⟨hi, es⟩)
      rcases List.mem_append.mp hX with z | z
      · obtain ⟨i', hi', e'⟩ := List.mem_iff_getElem.mp z
        exact (hr.2.2.2.2 i' M (List.getElem?_eq_some_iff.mpr ⟨hi', e'⟩)).mem
      · rw [List.mem_singleton.mp z]; exact hr.1.mem
    · obtain ⟨nk0, nt0, y1, y2⟩ := J.2.1.2.2.2.1.2.1 j h1 h2
      constructor
      · have l60 := J.1.2.1.1.2
        by_cases j0 : j = 0
        · have := (z1.1 j0).2.1; omega
        · have u1 := (z1.2 (by omega)).1
          have u2 := (y1.2 (by omega)).1
          rw [(dx.1 939 rfl).2, u2] at u1
          have k1 := y2.1.2.2
          have k2 := z2.1.2.2
          rw [eq, List.length_append] at k2
          have := (nI_eq (by omega) (by omega)).mp u1
          omega
      · refine ct_S_le ku.wf ku.di ku.n31 z2.1.1 xt.1 fun t ht => ?_
        rw [z2.2.1] at ht
        rw [eC]
        exact aH_t hI h1 h2 t ht
  have kI3 : kI False S K0.2.2.2.1 (kB (P3, K0.2.1, K'.2.2.1, K0.2.2.2.1, true) false) := by
    refine ⟨b2.cg (hI_ne (by decide)) fun _ _ _ => rfl, nd3.cg (hI_ne (by decide)) fun _ _ _ => rfl, hI_eq, fun z => (by cases z), fun t ht => ?_, fun _ z => z, hx.1, ?_, ?_⟩
    · rw [← eC]; exact ht
    · show K'.2.2.1 0 = _
      rw [xt.2 0 (by omega)]; exact hx.2.1
    · show K'.2.2.1 1 = _
      rw [xt.2 1 (by omega)]; exact hx.2.2
  refine ⟨⟨kI3, ?_, eC, J.2.2.2⟩, e45, fr3⟩
  exact rI3.cg (K := (P3, K0.2.1, K'.2.2.1, K0.2.2.2.1, true)) (ty_wf_le ku.wf xt.1) J.1.n31 (fun r hr => ⟨hI_ne (rr_ne hr rfl), rfl⟩) (fun _ => rfl) ty_xt.rf ⟨[], (List.append_nil _).symm⟩
/-- the reference between calls -/
def mI (S : qT → Prop) (A : sV) (ws : List Int32) (flt : Int32) (P : hp_P) : Prop := ∃ n T ns b, P.1 945 = bI b ∧ kJ S A (kB (P, n, T, ns, b) false) ∧ vS ws (P, n, T, ns, b) ∧ P.1 903 = flt
def mp_S : Nat → Bool := fun r => decide (900 ≤ r)
theorem mfr.mp {F : Nat → Bool} {P P' : hp_P} (h : mfr F P P') (k : ∀ r, F r = true → 900 ≤ r) : mfr mp_S P P' := h.up fun r hr => by
  have := of_decide_eq_false hr
  cases e : F r with
  | false => rfl
  | true => exact absurd (k r e) this
end UN
