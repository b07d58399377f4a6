/-! AXIOMS of the class, 7: choose; step 22 -/
section AX7
variable {sa : Nat → Nat} {B : Nat} {ρ : hp_L} {P : hp_P} {bb : Bool} {n : Nat} {T : Nat → Int32 × Int32 × Int32} {Z : Prop} {G : qT → Prop} {C : sC} {H : List qM} {D : List qS}
/-- the field of the formula is set -/
theorem hf_e0 {i : Int32} {j : Nat} (h : i.toNatClampNeg = j) : (hp_f sa ρ P 0).set 2 (.ref (sa j)) = hp_f sa ρ (hp_sI P 2 i) 0 := by
  rw [← h]
  rfl
theorem hf_e1 {i : Int32} : ∀ c' ∈ hp_cs, c' ≠ 0 → hp_f sa ρ (hp_sI P 2 i) c' = hp_f sa ρ P c' := fun c hc hne => by
  simp only [hp_cs, List.mem_cons, List.not_mem_nil, or_false] at hc
  rcases hc with rfl | rfl | rfl | rfl | rfl | rfl | rfl | rfl | rfl
  · exact absurd rfl hne
  · unfold hp_f hp_sI
    simp
  · unfold hp_f hp_sI
    simp
  · unfold hp_f hp_sI
    simp
  · unfold hp_f hp_sI
    simp
  · unfold hp_f hp_sI
    simp
  · unfold hp_f hp_sI
    simp
  · unfold hp_f hp_sI
    simp
  · unfold hp_f hp_sI
    simp
theorem hs_f2 {i : Int32} {j : Nat} (w : hp_w B ρ) (h : i.toNatClampNeg = j) : am_put B (hp_S sa ρ P) (ρ.1 0) 0 2 (.ref (sa j)) = some (hp_S sa ρ (hp_sI P 2 i)) := by
  unfold am_put
  rw [hp_obj w (by decide)]
  simp only [Option.bind_some]
  have hB : ¬ ρ.1 0 < B := Nat.not_lt.mpr (w.2.2.2.1 0 (by decide)).1
  have hk : 2 < (hp_f sa ρ P 0).length := Nat.le_of_ble_eq_true rfl
  rw [if_neg (fun z => z.elim hB (fun z => by omega))]
  refine congrArg some (Prod.ext rfl (Prod.ext ?_ rfl))
  funext a
  show am_upd (hp_h sa ρ P) (ρ.1 0) _ a = hp_h sa ρ (hp_sI P 2 i) a
  unfold am_upd
  split
  · rename_i e
    rw [e, hp_h_o w (by decide), hf_e0 h]
  · rename_i e
    unfold hp_h
    split
    · rename_i c' hc'
      have h0 := List.find?_some hc'
      have h3 := of_decide_eq_true h0
      rw [hf_e1 c' (List.mem_of_find?_eq_some hc') (fun z => e (by rw [← h3, z]))]
    · rfl
/-- Arrays.fill of the row of what is bound -/
theorem a_fill {f d : Nat} (w : hp_w B ρ) (h4 : (P.2 4).1 = 5) (hf : 100 ≤ f) : ∃ P', am_call B sa am_dfl am_tb f (d + 1) 0 [.ref (ρ.2.1 4), .int (-1)] (hp_S sa ρ P) = some (none, hp_S sa ρ P') ∧ ao 4 P P' ∧ ∀ c, c < 5 → (P'.2 4).2 c = -1 := by
  have lp : ∀ (m i f F : Nat) (P : hp_P), (P.2 4).1 = 5 → i + m = 5 → m + 1 ≤ f → (∀ c, c < i → (P.2 4).2 c = -1) → ∃ P', am_go B sa am_dfl (am_call B sa am_dfl am_tb F d) am_r0 f 5 [(0, .ref (ρ.2.1 4)), (1, .int (-1)), (2, .int (nI i)), (3, .int (nI 5))] [] (hp_S sa ρ P) = some (none, hp_S sa ρ P') ∧ ao 4 P P' ∧ ∀ c, c < 5 → (P'.2 4).2 c = -1 := by
    intro m
    induction m with
    | zero =>
      intro i f F P h4 hi hf hc
      obtain ⟨f, rfl⟩ : ∃ g, f = g + 1 := ⟨f - 1, by omega⟩
      refine ⟨P, ?_, ao.rf, fun c hc' => hc c (by omega)⟩
      rw [am_s0_5]
      simp only [am_c_ge]
      rw [if_pos (nI_le (by omega) (by omega))]
    | succ m ih =>
      intro i f F P h4 hi hf hc
      obtain ⟨f, rfl⟩ : ∃ g, f = g + 1 := ⟨f - 1, by omega⟩
      have ck : hp_ck P 4 (nI i) = some () := hp_ck_nI (by omega) (by omega)
      obtain ⟨P', i1, i2, i3⟩ := ih (i + 1) f F (hp_sA P 4 (nI i) (-1)) (by rw [hA_len]; exact h4) (by omega) (by omega) (fun c hc' => by
        rw [hA_eq, nI_clamp (by omega)]
        show upd _ _ _ c = _
        by_cases e : c = i
        · rw [e, pk_us]
        · rw [pk_un e]; exact hc c (by omega))
      refine ⟨P', ?_, ao.sA.tr i2, i3⟩
      rw [am_s0_5]
      simp only [am_c_ge, ht_4 w, ck, Option.bind_some, nI_1]
      rw [if_neg (nI_ge (by omega) (by omega))]
      exact i1
  obtain ⟨f, rfl⟩ : ∃ g, f = g + 1 := ⟨f - 1, by omega⟩
  obtain ⟨P', i1, i2, i3⟩ := lp 5 0 f (f + 1) P h4 (by omega) (by omega) (fun c hc => by omega)
  refine ⟨P', ?_, i2, i3⟩
  have hal : am_alen (hp_S sa ρ P) (ρ.2.1 4) = some (nI 5) := by rw [hp_alen w (by decide), h4]; rfl
  rw [am_c_0, am_s0_0]
  simp only [hal, Option.bind_some]
  exact i1
/-- the statics of the axioms, as they were made -/
def axS (sa : Nat → Nat) (ρ : hp_L) : Prop := hp_jk ρ (sa 0) (.inl (ax_F0.length, fun i => nI ((ax_F0[i]?).getD 0))) ∧ hp_jk ρ (sa 2) (.inl (ax_F1.length, fun i => nI ((ax_F1[i]?).getD 0))) ∧ hp_jk ρ (sa 3) (.inl (ax_F2.length, fun i => nI ((ax_F2[i]?).getD 0))) ∧ hp_jk ρ (sa 4) (.inl (5, fun i => nI ((([1, 1, 5, 1, 6] : List Nat)[i]?).getD 0)))
/-- the roles of the axioms' object -/
def aw_S : Nat → Bool := fun r => st_S r || decide (r ≤ 4)
theorem aw_st {r : Nat} (h : aw_S r = false) : st_S r = false := (Bool.or_eq_false_iff.mp h).1
theorem hp_fr.aw {e : Nat} {ρ ρ' : hp_L} {P P' : hp_P} (h : hp_fr st_S e ρ P ρ' P') : hp_fr aw_S e ρ P ρ' P' := h.weaken fun _ h => aw_st h
theorem hp_fr.aw4 {e : Nat} {ρ ρ' : hp_L} {P P' : hp_P} (h : hp_fr ax_S e ρ P ρ' P') : hp_fr aw_S e ρ P ρ' P' := h.weaken fun r h => by
  have h1 := (Bool.or_eq_false_iff.mp h)
  unfold ax_S
  rw [h1.1, Bool.false_or]
  have := of_decide_eq_false h1.2
  exact decide_eq_false (by omega)
/-- the roles that steps and axioms change -/
def cw_S : Nat → Bool := fun r => cl_S r || decide (r ≤ 4)
theorem hp_fr.cw {e : Nat} {ρ ρ' : hp_L} {P P' : hp_P} (h : hp_fr cl_S e ρ P ρ' P') : hp_fr cw_S e ρ P ρ' P' := h.weaken fun r h => (Bool.or_eq_false_iff.mp h).1
theorem hp_fr.awc {e : Nat} {ρ ρ' : hp_L} {P P' : hp_P} (h : hp_fr aw_S e ρ P ρ' P') : hp_fr cw_S e ρ P ρ' P' := h.weaken fun r h => by
  have h1 := Bool.or_eq_false_iff.mp h
  unfold aw_S
  rw [cl_st h1.1, h1.2]
  rfl
theorem sI.a0 {P' : hp_P} (h : sI Z G B C ρ P n T H D bb) (k1 : ∀ r, 4 < r → P'.1 r = P.1 r) (k2 : ∀ r, 4 < r → P'.2 r = P.2 r) : sI Z G B C ρ P' n T H D bb := by
  obtain ⟨h1, h2, h3, h4, h5, Dr, O, h6, h7⟩ := h
  exact ⟨h1, h2.cg (k1 103 (by decide)) (k1 111 (by decide)) fun r a b => k2 r (by omega), h3.cg (k1 502 (by decide)) (k1 503 (by decide)) (k2 500 (by decide)) (k2 501 (by decide)), h4.cg fun r a b => ⟨k1 r (by omega), k2 r (by omega)⟩, h5, Dr, O, ⟨⟨h6.1.1.cg (k1 708 (by decide)) fun r a b => k2 r (by omega), h6.1.2⟩, h6.2.1.cg fun r a b => ⟨k1 r (by omega), k2 r (by omega)⟩, h6.2.2⟩, h7⟩
/-- make of a type without parts -/
theorem s_make0 {f d : Nat} (h : sI Z G B C ρ P n T H D bb) (hf : 10000 ≤ f) {c : Int32} (hq : G (qN c qE qE)) :
    ∃ (ρ' : hp_L) (P' : hp_P) (v : Int32) (n' : Nat) (T' : Nat → Int32 × Int32 × Int32), am_call B sa am_dfl am_tb f (d + 3) 3 [.ref (ρ.1 7), .int c, .int (-1), .int (-1)] (hp_S sa ρ P) = some (some (.int v), hp_S sa ρ' P') ∧ sI Z G B C ρ' P' n' T' H D bb ∧ hp_fr st_S 0 ρ P ρ' P' ∧ ty_xt n T n' T' ∧ plg G n' T' v (qN c qE qE) := by
  obtain ⟨Dr, O, hw, hh⟩ := h.2.2.2.2.2
  obtain ⟨h1, h2, h3, h4, h5, h6⟩ := hw
  obtain ⟨ρ', P', v, n', T', r1, r2, r3, r4, r5, r6, r7⟩ := tm_make (sa := sa) (d := d) (c := c) h.w h1.1 hf (Or.inl rfl) (Or.inl rfl)
  rw [ct_m1] at r6
  have hw' : wI Z G P' n' T' (C.1 ++ Dr) O bb D := by
    refine ⟨h1.xt r3 r5, h2.fr r4 fun r a b => ty_S_no a b, fun s hs => (h3 s hs).xt r5.1, ?_, fun hb => ?_, h6⟩
    · rcases r6 with ⟨_, k⟩ | ⟨_, k1, k2, _⟩
      · intro t ht
        rcases k t ht with z | z
        · exact h4 t z
        · rw [z]; exact hq
      · rw [k1, k2]; exact h4
    · rw [← h5 hb]
      exact List.map_congr_left fun s hs => rt.xt (h3 s (List.mem_append.mpr (Or.inr hs))) h1.1.wf h1.1.n31 r5
  refine ⟨ρ', P', v, n', T', r1, h.nx ⟨h1, h2, h3, h4, h5, h6⟩ hh r2 ((h.2.1.xt h1.1.wf h1.1.n31 r5).fr r4 fun r p q => ty_S_en p q) hw' r4.wy.sw r5 id, r4.wy.sw, r5, ?_⟩
  rcases r6 with ⟨k, _⟩ | ⟨k0, k1, k2, k3⟩
  · exact Or.inl k
  · exact Or.inr ⟨k0, k3 G h4 hq⟩
theorem tyR {i : Nat} {v : Int32} (hi : i < 2 ^ 31) (c : Nat) : ((hp_sA P 3 (nI i) v).2 3).2 c = if c = i then v else (P.2 3).2 c := by
  rw [hA_eq, nI_clamp hi]
  show upd _ _ _ c = _
  by_cases e : c = i
  · rw [e, pk_us, if_pos rfl]
  · rw [pk_un e, if_neg e]
theorem sI.s3 {i v : Int32} (h : sI Z G B C ρ P n T H D bb) : sI Z G B C ρ (hp_sA P 3 i v) n T H D bb := h.a0 (fun _ _ => rfl) (fun r hr => hA_ne (by omega))
theorem sI.s2 {v : Int32} (h : sI Z G B C ρ P n T H D bb) : sI Z G B C ρ (hp_sI P 2 v) n T H D bb := h.a0 (fun r hr => hI_ne (by omega)) (fun _ _ => rfl)
theorem fr_s3 {i v : Int32} : hp_fr aw_S 0 ρ P ρ (hp_sA P 3 i v) := hp_fr.sA rfl
theorem fr_s2 {v : Int32} : hp_fr aw_S 0 ρ P ρ (hp_sI P 2 v) := hp_fr.sI rfl
set_option maxHeartbeats 2000000 in
/-- choose -/
theorem a_choose {f d k : Nat} (hf : 20000 ≤ f) (hk : k < 3) (hs : sI Z G B C ρ P n T [] [] false) (hS : axS sa ρ) (h3 : (P.2 3).1 = 5) (h4 : (P.2 4).1 = 5) (hG : ∀ t ∈ ax_G k, G t) :
    ∃ (ρ' : hp_L) (P' : hp_P) (n' : Nat) (T' : Nat → Int32 × Int32 × Int32), am_call B sa am_dfl am_tb f (d + 5) 97 [.ref (ρ.1 0), .int (nI k)] (hp_S sa ρ P) = some (some (.int 1), hp_S sa ρ' P') ∧ sI Z G B C ρ' P' n' T' [] [] false ∧ axI sa G (ax_T k) (ax_F k) ρ' P' n' T' (fun _ => none) ∧ hp_fr aw_S 0 ρ P ρ' P' ∧ ty_xt n T n' T' := by
  have w := hs.w
  obtain ⟨P1, a1, a2, a3⟩ := a_fill (sa := sa) (f := f) (d := d + 3) w h4 (by omega)
  have s1 : sI Z G B C ρ P1 n T [] [] false := hs.a0 (fun r _ => by rw [a2.1]) (fun r hr => a2.2.1 r (by omega))
  have fr1 : hp_fr aw_S 0 ρ P ρ P1 := a2.fr rfl
  have l3 : (P1.2 3).1 = 5 := by rw [a2.2.1 3 (by decide)]; exact h3
  have l4 : (P1.2 4).1 = 5 := by rw [a2.2.2]; exact h4
  -- P2: typeOf[Q] is set
  have s2 := s1.s3 (i := nI 3) (v := 1)
  have ck3 : ∀ (P' : hp_P) (i : Nat), (P'.2 3).1 = 5 → i < 5 → hp_ck P' 3 (nI i) = some () := fun P' i e h => hp_ck_nI (by omega) (by omega)
  have rd3 : ∀ (P' : hp_P) (i : Nat), (P'.2 3).1 = 5 → i < 5 → hp_rd P' 3 (nI i) = some ((P'.2 3).2 i) := fun P' i e h => hp_rd_nI (by omega) (by omega)
  have hlt : ¬ (nI k < 0) := nI_pos (by omega)
  have hle : nI k ≤ 2 := nI_le (b := 2) (by omega) (by omega)
  obtain ⟨f0, hf0⟩ : ∃ g, f = g + 2 := ⟨f - 2, by omega⟩
  have hfs : f = f0 + 1 + 1 := hf0
  -- the end, from where typeOf[X] and typeOf[Y] are set
  have fin0 : ∀ {ρ4 : hp_L} {P4 : hp_P} {n4 : Nat} {T4 : Nat → Int32 × Int32 × Int32} {jf : Nat}, jf < 2 ^ 31 → sI Z G B C ρ4 P4 n4 T4 [] [] false → hp_fr aw_S 0 ρ P1 ρ4 P4 → hp_jk ρ4 (sa jf) (.inl ((ax_F k).length, fun i => nI (((ax_F k)[i]?).getD 0))) → P4.1 2 = nI jf → (P4.2 3).1 = 5 → P4.2 4 = P1.2 4 → (∀ c t, c < 5 → ax_T k c = some t → plg G n4 T4 ((P4.2 3).2 c) t) → axI sa G (ax_T k) (ax_F k) ρ4 P4 n4 T4 (fun _ => none) := by
    intro ρ4 P4 n4 T4 jf hjf hs4 fr hjk e2 e3 e4 ht
    refine ⟨by rw [e2, nI_clamp hjf]; exact hjk, fr.2.2.1 _ _ hS.2.2.2, e3, by rw [e4]; exact l4, ht, fun c hc => ⟨fun _ => by rw [e4]; exact a3 c hc, fun k z => by (cases z)⟩⟩
  have Q5 : plg G n T 1 qB := Or.inl hs.y.B
  have A5 : plg G n T 0 qA := Or.inl hs.y.A
  conv => arg 1; intro ρ'; arg 1; intro P'; arg 1; intro n'; arg 1; intro T'; arg 1; lhs; rw [am_c_97, hfs, am_s97_0, ← hfs]
  simp only [am_c_lt, am_c_le, hlt, if_false, hle, if_true, hr_4 w, Option.bind_some, a1, am_v_some, hr_3 w, ht_3 w, show (3 : Int32) = nI 3 from rfl, ck3 P1 3 l3 (by omega), am_c_ne]
  have n0 : (0 : Int32) = nI 0 := rfl
  have n1' : (1 : Int32) = nI 1 := rfl
  have n2' : (2 : Int32) = nI 2 := rfl
  have n4' : (4 : Int32) = nI 4 := rfl
  have kk : k = 0 ∨ k = 1 ∨ k = 2 := by omega
  have l32 : ((hp_sA P1 3 (nI 3) 1).2 3).1 = 5 := by rw [hA_len]; exact l3
  have tyL : ∀ {P : hp_P} {i v : Int32}, (P.2 3).1 = 5 → ((hp_sA P 3 i v).2 3).1 = 5 := fun h => by rw [hA_len]; exact h
  have tyX : ∀ (P : hp_P) (v : Int32), (P.2 3).1 = 5 → hp_rd (hp_sA P 3 0 v) 3 0 = some v := fun P v h => by
    rw [show (0 : Int32) = nI 0 from rfl, hp_rd_nI (by rw [hA_len]; omega) (by omega), tyR (by omega), if_pos rfl]
  have r5 : ∀ (P : hp_P) (v : Int32) (c : Nat), ((hp_sA (hp_sA P 3 0 v) 3 1 v).2 3).2 c = if c = 1 then v else if c = 0 then v else (P.2 3).2 c := fun P v c => by
    rw [show (0 : Int32) = nI 0 from rfl, show (1 : Int32) = nI 1 from rfl, tyR (by omega), tyR (by omega)]
  rcases kk with rfl | rfl | rfl
  · rw [if_pos (show nI 0 ≠ 2 by decide), am_s97_50]
    have l33 := tyL (i := 0) (v := 0) l32
    have l34 := tyL (i := 1) (v := 0) l33
    have s5 : sI Z G B C ρ (hp_sI (hp_sA (hp_sA (hp_sA P1 3 (nI 3) 1) 3 0 0) 3 1 0) 2 (nI 0)) n T [] [] false := s2.s3.s3.s2
    have fr5 : hp_fr aw_S 0 ρ P1 ρ (hp_sI (hp_sA (hp_sA (hp_sA P1 3 (nI 3) 1) 3 0 0) 3 1 0) 2 (nI 0)) := hp_fr.tr0 fr_s3 (hp_fr.tr0 fr_s3 (hp_fr.tr0 fr_s3 fr_s2))
    obtain ⟨ρ6, P6, v6, n6, T6, c1, c2, c3, c4, c5⟩ := s_make0 (sa := sa) (f := f) (d := d + 1) (c := -2) s5 (by omega) (hG q_v1 (q_inl_mem (by decide)))
    obtain ⟨ρ7, P7, v7, n7, T7, d1, d2, d3, d4, d5⟩ := s_make (sa := sa) (f := f) (d := d + 1) (c := 2) c2 (by omega) (Or.inl c2.y.A) c5 (hG (qF qA q_v1) (q_inl_mem (by decide)))
    have d5 : plg G n7 T7 v7 (qF qA q_v1) := d5
    have w7 := d2.w
    have fr57 := hp_fr.tr0 c3 d3
    have e3 := (fr57.2.1 3 rfl).2.1
    have e4 := (fr57.2.1 4 rfl).2.1
    have e2 : P7.1 2 = nI 0 := (fr57.2.1 2 rfl).1.trans hI_eq
    have a3' : ρ7.2.1 3 = ρ.2.1 3 := (fr57.2.1 3 rfl).2.2
    have l37 : (P7.2 3).1 = 5 := by rw [e3]; exact l34
    have k0 : hp_ck (hp_sA P1 3 (nI 3) 1) 3 0 = some () := ck3 _ 0 l32 (by omega)
    have k1 : hp_ck (hp_sA (hp_sA P1 3 (nI 3) 1) 3 0 0) 3 1 = some () := ck3 _ 1 l33 (by omega)
    have k2 : hp_ck P7 3 2 = some () := ck3 _ 2 l37 (by omega)
    have hput := hs_f2 (sa := sa) (P := hp_sA (hp_sA (hp_sA P1 3 (nI 3) 1) 3 0 0) 3 1 0) (i := nI 0) (j := 0) w (nI_clamp (by omega))
    refine ⟨ρ7, hp_sA P7 3 (nI 2) v7, n7, T7, ?_, d2.s3, fin0 (jf := 0) (by omega) d2.s3 (hp_fr.tr0 fr5 (hp_fr.tr0 fr57.aw fr_s3)) ((hp_fr.tr0 fr1 (hp_fr.tr0 fr5 fr57.aw)).2.2.1 _ _ hS.1) e2 (by rw [hA_len]; exact l37) (by rw [hA_ne (by decide), e4]; rfl) (fun c t hc ht => ?_), hp_fr.tr0 fr1 (hp_fr.tr0 fr5 (hp_fr.tr0 fr57.aw fr_s3)), c4.tr d4⟩
    · simp only [ht_3 w, k0, k1, Option.bind_some, hr_3 w, hl_3 w, tyX _ _ l32, am_c_ne]
      rw [if_neg (fun z => z rfl)]
      simp only [hput, Option.bind_some, hr_3 w, ho_0 w, hx_7 w, c1, am_i_some]
      rw [w_ob c3 7]
      simp only [hx_7 c2.w, Option.bind_some, d1, am_i_some]
      rw [← a3']
      simp only [ht_3 w7, k2, Option.bind_some]
      exact am_rz_1
    · rw [tyR (by omega), e3, hI_A, r5, tyR (by omega)]
      have : c = 0 ∨ c = 1 ∨ c = 2 ∨ c = 3 ∨ c = 4 := by omega
      rcases this with rfl | rfl | rfl | rfl | rfl
      · rw [← Option.some.inj ht]; exact Or.inl d2.y.A
      · rw [← Option.some.inj ht]; exact Or.inl d2.y.A
      · rw [← Option.some.inj ht]; exact d5
      · rw [← Option.some.inj ht]; exact Or.inl d2.y.B
      · cases ht
  · rw [if_pos (show nI 1 ≠ 2 by decide), am_s97_50]
    have l33 := tyL (i := 0) (v := 0) l32
    have l34 := tyL (i := 1) (v := 0) l33
    have s5 : sI Z G B C ρ (hp_sI (hp_sA (hp_sA (hp_sA P1 3 (nI 3) 1) 3 0 0) 3 1 0) 2 (nI 2)) n T [] [] false := s2.s3.s3.s2
    have fr5 : hp_fr aw_S 0 ρ P1 ρ (hp_sI (hp_sA (hp_sA (hp_sA P1 3 (nI 3) 1) 3 0 0) 3 1 0) 2 (nI 2)) := hp_fr.tr0 fr_s3 (hp_fr.tr0 fr_s3 (hp_fr.tr0 fr_s3 fr_s2))
    obtain ⟨ρ6, P6, v6, n6, T6, c1, c2, c3, c4, c5⟩ := s_make (sa := sa) (f := f) (d := d + 1) (c := 2) s5 (by omega) (Or.inl s5.y.A) (Or.inl s5.y.B) (hG (qF qA qB) (q_inl_mem (by decide)))
    have c5 : plg G n6 T6 v6 (qF qA qB) := c5
    have w6 := c2.w
    have e3 := (c3.2.1 3 rfl).2.1
    have e4 := (c3.2.1 4 rfl).2.1
    have e2 : P6.1 2 = nI 2 := (c3.2.1 2 rfl).1.trans hI_eq
    have a36 : ρ6.2.1 3 = ρ.2.1 3 := (c3.2.1 3 rfl).2.2
    have l36 : (P6.2 3).1 = 5 := by rw [e3]; exact l34
    have k2 : hp_ck P6 3 2 = some () := ck3 _ 2 l36 (by omega)
    have l36' := tyL (i := 2) (v := v6) l36
    have rd2 : hp_rd (hp_sA P6 3 2 v6) 3 2 = some v6 := by
      rw [show (2 : Int32) = nI 2 from rfl, hp_rd_nI (by rw [hA_len]; omega) (by omega), tyR (by omega), if_pos rfl]
    obtain ⟨ρ7, P7, v7, n7, T7, d1, d2, d3, d4, d5⟩ := s_make (sa := sa) (f := f) (d := d + 1) (c := 2) (c2.s3 (i := 2) (v := v6)) (by omega) c5 (Or.inl c2.y.A) (hG (qF (qF qA qB) qA) (q_inl_mem (by decide)))
    have d5 : plg G n7 T7 v7 (qF (qF qA qB) qA) := d5
    have w7 := d2.w
    have e37 := (d3.2.1 3 rfl).2.1
    have e47 := (d3.2.1 4 rfl).2.1
    have e27 : P7.1 2 = nI 2 := (d3.2.1 2 rfl).1.trans e2
    have a37 : ρ7.2.1 3 = ρ6.2.1 3 := (d3.2.1 3 rfl).2.2
    have l37 : (P7.2 3).1 = 5 := by rw [e37]; exact l36'
    have k4 : hp_ck P7 3 4 = some () := ck3 _ 4 l37 (by omega)
    have k0 : hp_ck (hp_sA P1 3 (nI 3) 1) 3 0 = some () := ck3 _ 0 l32 (by omega)
    have k1 : hp_ck (hp_sA (hp_sA P1 3 (nI 3) 1) 3 0 0) 3 1 = some () := ck3 _ 1 l33 (by omega)
    have hput := hs_f2 (sa := sa) (P := hp_sA (hp_sA (hp_sA P1 3 (nI 3) 1) 3 0 0) 3 1 0) (i := nI 2) (j := 2) w (nI_clamp (by omega))
    have frA : hp_fr aw_S 0 ρ P1 ρ7 P7 := hp_fr.tr0 fr5 (hp_fr.tr0 c3.aw (hp_fr.tr0 fr_s3 d3.aw))
    refine ⟨ρ7, hp_sA P7 3 (nI 4) v7, n7, T7, ?_, d2.s3, fin0 (jf := 2) (by omega) d2.s3 (hp_fr.tr0 frA fr_s3) ((hp_fr.tr0 fr1 frA).2.2.1 _ _ hS.2.1) e27 (by rw [hA_len]; exact l37) (by rw [hA_ne (by decide), e47, hA_ne (by decide), e4]; rfl) (fun c t hc ht => ?_), hp_fr.tr0 fr1 (hp_fr.tr0 frA fr_s3), c4.tr d4⟩
    · simp only [ht_3 w, k0, k1, Option.bind_some, hr_3 w, hl_3 w, tyX _ _ l32, am_c_ne]
      rw [if_pos (show nI 1 ≠ 0 by decide), if_neg (fun z => z rfl)]
      simp only [hput, Option.bind_some, hr_3 w, ho_0 w, hx_7 w, c1, am_i_some]
      rw [w_ob c3 0, ← a36]
      simp only [ht_3 w6, k2, Option.bind_some, hr_3 w6, ho_0 w6, hl_3 w6, rd2, hx_7 w6, d1, am_i_some]
      rw [← a37]
      simp only [ht_3 w7, k4, Option.bind_some]
      exact am_rz_1
    · rw [tyR (by omega), e37, show (2 : Int32) = nI 2 from rfl, tyR (by omega), e3, hI_A, r5, tyR (by omega)]
      have : c = 0 ∨ c = 1 ∨ c = 2 ∨ c = 3 ∨ c = 4 := by omega
      rcases this with rfl | rfl | rfl | rfl | rfl
      · rw [← Option.some.inj ht]; exact Or.inl d2.y.A
      · rw [← Option.some.inj ht]; exact Or.inl d2.y.A
      · rw [← Option.some.inj ht]; exact c5.xt c2.y.1.wf c2.y.1.n31 d4
      · rw [← Option.some.inj ht]; exact Or.inl d2.y.B
      · rw [← Option.some.inj ht]; exact d5
  · rw [if_neg (fun z => z rfl)]
    obtain ⟨ρ4, P4, v4, n4, T4, g1, g2, g3, g4, g5⟩ := s_make0 (sa := sa) (f := f) (d := d + 1) (c := 1) s2 (by omega) (hG q_th (q_inl_mem (by decide)))
    have g5 : plg G n4 T4 v4 q_th := g5
    have w4 := g2.w
    have e3 := (g3.2.1 3 rfl).2.1
    have e4 := (g3.2.1 4 rfl).2.1
    have a34 : ρ4.2.1 3 = ρ.2.1 3 := (g3.2.1 3 rfl).2.2
    have l42 : (P4.2 3).1 = 5 := by rw [e3]; exact l32
    have l43 := tyL (i := 0) (v := v4) l42
    have l44 := tyL (i := 1) (v := v4) l43
    have s5 : sI Z G B C ρ4 (hp_sI (hp_sA (hp_sA P4 3 0 v4) 3 1 v4) 2 (nI 3)) n4 T4 [] [] false := g2.s3.s3.s2
    have frB : hp_fr aw_S 0 ρ P1 ρ4 (hp_sI (hp_sA (hp_sA P4 3 0 v4) 3 1 v4) 2 (nI 3)) := hp_fr.tr0 fr_s3 (hp_fr.tr0 g3.aw (hp_fr.tr0 fr_s3 (hp_fr.tr0 fr_s3 fr_s2)))
    obtain ⟨ρ7, P7, v7, n7, T7, d1, d2, d3, d4, d5⟩ := s_make (sa := sa) (f := f) (d := d + 1) (c := 2) s5 (by omega) g5 g5 (hG (qF q_th q_th) (q_inl_mem (by decide)))
    have d5 : plg G n7 T7 v7 (qF q_th q_th) := d5
    have w7 := d2.w
    have e37 := (d3.2.1 3 rfl).2.1
    have e47 := (d3.2.1 4 rfl).2.1
    have e27 : P7.1 2 = nI 3 := (d3.2.1 2 rfl).1.trans hI_eq
    have a37 : ρ7.2.1 3 = ρ4.2.1 3 := (d3.2.1 3 rfl).2.2
    have l37 : (P7.2 3).1 = 5 := by rw [e37]; exact l44
    have k2 : hp_ck P7 3 2 = some () := ck3 _ 2 l37 (by omega)
    have k0 : hp_ck P4 3 0 = some () := ck3 _ 0 l42 (by omega)
    have k1 : hp_ck (hp_sA P4 3 0 v4) 3 1 = some () := ck3 _ 1 l43 (by omega)
    have rdx : hp_rd (hp_sI (hp_sA (hp_sA P4 3 0 v4) 3 1 v4) 2 (nI 3)) 3 0 = some v4 := by
      have h0 : hp_rd (hp_sI (hp_sA (hp_sA P4 3 0 v4) 3 1 v4) 2 (nI 3)) 3 (nI 0) = some (((hp_sA (hp_sA P4 3 0 v4) 3 1 v4).2 3).2 0) := hp_rd_nI (by rw [hI_A, l44]; omega) (by omega)
      rw [r5] at h0
      exact h0
    have hput := hs_f2 (sa := sa) (P := hp_sA (hp_sA P4 3 0 v4) 3 1 v4) (i := nI 3) (j := 3) w4 (nI_clamp (by omega))
    have frA : hp_fr aw_S 0 ρ P1 ρ7 P7 := hp_fr.tr0 frB d3.aw
    refine ⟨ρ7, hp_sA P7 3 (nI 2) v7, n7, T7, ?_, d2.s3, fin0 (jf := 3) (by omega) d2.s3 (hp_fr.tr0 frA fr_s3) ((hp_fr.tr0 fr1 frA).2.2.1 _ _ hS.2.2.1) e27 (by rw [hA_len]; exact l37) (by rw [hA_ne (by decide), e47, hI_A, hA_ne (by decide), hA_ne (by decide), e4, hA_ne (by decide)]) (fun c t hc ht => ?_), hp_fr.tr0 fr1 (hp_fr.tr0 frA fr_s3), g4.tr d4⟩
    · simp only [ho_0 w, Option.bind_some, hx_7 w, g1, am_i_some]
      rw [am_s97_50, ← a34, w_ob g3 0]
      simp only [ht_3 w4, k0, k1, Option.bind_some, hr_3 w4, hl_3 w4, tyX _ _ l42, am_c_ne]
      rw [if_pos (show nI 2 ≠ 0 by decide), if_pos (show nI 2 ≠ 1 by decide)]
      simp only [hput, Option.bind_some, hr_3 w4, ho_0 w4, hl_3 w4, rdx, hx_7 w4, d1, am_i_some]
      rw [← a37]
      simp only [ht_3 w7, k2, Option.bind_some]
      exact am_rz_1
    · rw [tyR (by omega), e37, hI_A, r5, e3, tyR (by omega)]
      have p4 := g5.xt g2.y.1.wf g2.y.1.n31 d4
      have : c = 0 ∨ c = 1 ∨ c = 2 ∨ c = 3 ∨ c = 4 := by omega
      rcases this with rfl | rfl | rfl | rfl | rfl
      · rw [← Option.some.inj ht]; exact p4
      · rw [← Option.some.inj ht]; exact p4
      · rw [← Option.some.inj ht]; exact d5
      · rw [← Option.some.inj ht]; exact Or.inl d2.y.B
      · cases ht
end AX7
