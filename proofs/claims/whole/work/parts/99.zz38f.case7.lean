/-! THE LAW: its cases, 6: cut -/
theorem aMu_cut {A : sV} {n : Nat} : aMu (a_cut A n) ≤ aMu A := by
  unfold aMu
  show (A.1.take n).length + (A.2.2.2.2.2.1.take (A.2.2.1 n).2.1).length + (A.2.2.2.2.2.2.take (A.2.2.1 n).2.2).length ≤ _
  rw [List.length_take, List.length_take, List.length_take]
  omega
theorem aMu_keep {A : sV} {n : Nat} {S' : qT → Prop} {N : qQ} : aMu (a_new (a_cut A n) A.2.1 S' [N] [] []) ≤ aMu A + 1 := by
  have := aMu_cut (A := A) (n := n)
  unfold aMu at this ⊢
  show ((a_cut A n).1 ++ [N]).length + _ + _ ≤ _
  rw [List.length_append, List.length_singleton]
  exact Nat.le_trans (by show (a_cut A n).1.length + 1 + (a_cut A n).2.2.2.2.2.1.length + (a_cut A n).2.2.2.2.2.2.length ≤ (a_cut A n).1.length + (a_cut A n).2.2.2.2.2.1.length + (a_cut A n).2.2.2.2.2.2.length + 1; omega) (Nat.add_le_add_right this 1)
set_option maxHeartbeats 4000000 in
theorem law_7 {p : Program} {l : Launch} {e : Env} {s : State} {m : MethodId} {below : List Frame} {meth : Method} {c : Code} {H : Heap} {locs : List Loc} {cells slots : Nat} {Q : State → Prop} {b L : Nat} {xs : Nat → Int32} {D : va_G} {sa q : Nat → Nat} {h0 : Nat → Option am_C} {ρ : hp_L} {P : hp_P} {oa : Nat} {v0 : Int64} {ls : Array Slot} {j x8 x9 F : Nat} (Z : LZ p l s m meth c b L xs D sa q) (hF : 400000 ≤ F) (hl : lv_has ls 7 [(0, .ref b), (1, .ref x8), (2, .ref x9), (3, .ref oa), (4, .int (nI (5 * j)))]) (hj : 5 * j + 5 ≤ L) (h8 : ρ.1 8 = x8) (h9 : ρ.1 9 = x9) (h : LH D sa s h0 ρ P oa v0 H locs) (hI : LI sa s.heap.size j ρ P cells slots) (nx : LN p l e s m below meth c Q b D sa h0 oa j x8 x9) : W p l e room_1 s m #[Value.ref b] below meth c H locs cells slots Q (F0 m 380 ls []) := by
  obtain ⟨S, A, ws, flt, eu, hT, hMo, hA, m1, m2, c1, c2⟩ := hI
  have hL := Z.2.2.2.2.2.2
  obtain ⟨hexec, hb, -⟩ := Z.1
  have hlen0 := hT.len
  obtain ⟨g, rfl⟩ : ∃ g, F = g + 1 := ⟨F - 1, by omega⟩
  by_cases hx : ∃ k, xs (5 * j + 1) = nI k ∧ A.2.1 ≤ k ∧ k ≤ A.1.length
  · obtain ⟨k, ek, k1, k2⟩ := hx
    obtain ⟨P1, e1, t1, f1⟩ := t_cut (sa := sa) (f := g + 1) (d := 397) hT hA k1 k2 (by omega)
    obtain ⟨P2, e2, n1, n2, n3⟩ := m_cut (sa := sa) (f := g + 1) (d := 396) hT.w (hMo.fr f1.cw.tp tp_9) hA k1 k2 (by omega)
    have hlen := t1.len
    have hm := hp_len_m n2
    have z1 := f1.2.2.2.1
    have z2 := f1.2.2.2.2.1
    have mu := aMu_cut (A := A) (n := k)
    rw [h8, ← ek] at e1
    rw [h9, ← ek] at e2
    have Mt := wn_cut l D s.heap.size sa q (by rw [← h8]; exact hp_obj hT.w (by decide)) e1
    refine lv_aload_n hexec hb dl_380 rfl (lv_at hl 1 rfl) ?_
    refine la_arg (k := 1) (k0 := 0) (k4 := 4) Z h hl rfl rfl hj (by decide) rfl dl_381 dl_382 dl_384 dl_385 dl_386 ?_
    have sg : (hp_S sa ρ P1).1 - (hp_S sa ρ P).1 = 0 := Nat.sub_self _
    have sg2 : (hp_S sa ρ P1).2.2 - (hp_S sa ρ P).2.2 = 0 := Nat.sub_self _
    refine lc_W (n := 2) (As := [.ref x8, .int (xs (5 * j + 1))]) (rest := []) Z Mt lx_blind (h.pre Z) lk_cut rfl (by decide) (by decide) (by decide) rfl hl.1 rfl (Nat.le_of_ble_eq_true rfl) dl_387 (by omega) (by omega) (fun t H1 LL ht hal hG hz hk hLL => ?_)
    have hh1 : LH D sa s h0 ρ P1 oa v0 H1 (locs ++ LL) := h.nx (am_call_mono _ _ _ _ _ _ e1) (by rw [← ht]; exact hG.moved hal.symm) (fun z y => Or.inl y) hz hk hLL (h.2.2.2.kept (hk oa h.2.2.2.lt h.nA))
    show W p l e room_1 s m #[Value.ref b] below meth c _ _ _ _ Q (F0 m 390 ls [.int 0])
    refine lv_istore (lv' := [(5, .int 0), (0, .ref b), (1, .ref x8), (2, .ref x9), (3, .ref oa), (4, .int (nI (5 * j)))]) hexec hb dl_390 hl (by decide) rfl (fun ls hl => ?_)
    refine lv_aload_n hexec hb dl_392 rfl (lv_at hl 3 rfl) ?_
    refine la_arg (k := 1) (k0 := 1) (k4 := 5) Z hh1 hl rfl rfl hj (by decide) rfl dl_393 dl_394 dl_396 dl_397 dl_398 ?_
    refine lc_V (ci := 9) (As := [.int (xs (5 * j + 1))]) (rest := []) (M := am_m198) Z hh1 e2 rfl rfl (by decide) (by rw [← h9]; exact hp_obj hT.w (by decide)) rfl rfl lk_198 rfl hl.1 rfl (Nat.le_of_ble_eq_true rfl) (by decide) dl_399 (by omega) (by omega) (fun H2 locs2 hh2 => ?_)
    show W p l e room_1 s m #[Value.ref b] below meth c _ _ _ _ Q (F0 m 402 ls [])
    refine lv_aload_n hexec hb dl_402 rfl (lv_at hl 3 rfl) ?_
    have e3 := m_thrown (sa := sa) (f := g) (d := 399) (P := P2) hT.w
    rw [n3, show ρ.1 9 = x9 from h9] at e3
    refine lc_V (ci := 9) (As := []) (rest := []) (M := am_m122) Z hh2 e3 rfl rfl (by decide) (by rw [← h9]; exact hp_obj hT.w (by decide)) rfl rfl lk_122 rfl hl.1 rfl (Nat.le_of_ble_eq_true rfl) (by decide) dl_403 (by omega) (by omega) (fun H3 locs3 hh3 => ?_)
    show W p l e room_1 s m #[Value.ref b] below meth c _ _ _ _ Q (F0 m 406 ls [.int 0])
    refine lv_iload hexec hb dl_406 (lv_at hl 0 rfl) ?_
    refine lv_icmp_eq (tgt := 413) hexec hb dl_408 (by decide) (fun _ => ?_) (fun z => absurd rfl z)
    refine lv_goto (tgt := 464) hexec hb dl_413 (by decide) ?_
    exact nx ρ _ _ H3 locs3 _ _ ls hh3 ⟨(A.2.2.1 k).1, a_cut A k, ws, flt, eu, t1.fm n2, n1, hA.cut k1 k2, by omega, by omega, by omega, by omega⟩ h8 h9 (lv_sub hl [1, 2, 3, 4, 5] rfl)
  · have te := te_114 (sa := sa) (f := g) (d := 398) hT hx
    rw [h8] at te
    have Mt := wx_cut l D s.heap.size sa q (by rw [← h8]; exact hp_obj hT.w (by decide)) (tw_met l Z.2.2.2.2.2.1 D s.heap.size sa q (F := g + 1) (d := 399) (mi := 114) (M := am_m114) (as := [.ref x8, .int (xs (5 * j + 1))]) (k := 1) (i := 3) rfl (Nat.le_of_ble_eq_true rfl) te rfl (by decide) rfl (by decide) dx_114_11.1 dx_114_11.2.1 dx_114_11.2.2.1 dx_114_11.2.2.2.1 dx_114_11.2.2.2.2)
    have hm := hp_len_m (mfr.c (P := P) (v := 1))
    refine lv_aload_n hexec hb dl_380 rfl (lv_at hl 1 rfl) ?_
    refine la_arg (k := 1) (k0 := 0) (k4 := 4) Z h hl rfl rfl hj (by decide) rfl dl_381 dl_382 dl_384 dl_385 dl_386 ?_
    refine lc_W (n := 2) (As := [.ref x8, .int (xs (5 * j + 1))]) (rest := []) Z Mt lx_blind (h.pre Z) lk_cut rfl (by decide) (by decide) (by decide) rfl hl.1 rfl (Nat.le_of_ble_eq_true rfl) dl_387 (by omega) (by omega) (fun t H1 LL ht hal hG hz hk hLL => ?_)
    obtain ⟨hh1, hsz⟩ := h.up (by rw [← ht]; exact hG.moved hal.symm) hz hk hLL
    have e2 := m_cut_no (sa := sa) (ρ := hp_up ρ H1.size ρ.2.2.2.2) (f := g + 1) (d := 398) (hp_up_w (k := ρ.2.2.2.2) hT.w hsz) hMo hx (by omega)
    rw [show (hp_up ρ H1.size ρ.2.2.2.2).1 9 = x9 from h9] at e2
    show W p l e room_1 s m #[Value.ref b] below meth c _ _ _ _ Q (F0 m 390 ls [.int 1])
    refine lv_istore (lv' := [(5, .int 1), (0, .ref b), (1, .ref x8), (2, .ref x9), (3, .ref oa), (4, .int (nI (5 * j)))]) hexec hb dl_390 hl (by decide) rfl (fun ls hl => ?_)
    refine lv_aload_n hexec hb dl_392 rfl (lv_at hl 3 rfl) ?_
    refine la_arg (k := 1) (k0 := 1) (k4 := 5) Z hh1 hl rfl rfl hj (by decide) rfl dl_393 dl_394 dl_396 dl_397 dl_398 ?_
    refine lc_V (ci := 9) (As := [.int (xs (5 * j + 1))]) (rest := []) (M := am_m198) Z hh1 e2 rfl rfl (by decide) (by rw [← h9]; exact hp_obj (hp_up_w (k := ρ.2.2.2.2) hT.w hsz) (by decide)) rfl rfl lk_198 rfl hl.1 rfl (Nat.le_of_ble_eq_true rfl) (by decide) dl_399 (by omega) (by omega) (fun H2 locs2 hh2 => ?_)
    show W p l e room_1 s m #[Value.ref b] below meth c _ _ _ _ Q (F0 m 402 ls [])
    refine lv_aload_n hexec hb dl_402 rfl (lv_at hl 3 rfl) ?_
    have e3 := m_thrown (sa := sa) (f := g) (d := 399) (P := hp_sI P 900 1) (hp_up_w (k := ρ.2.2.2.2) hT.w hsz)
    rw [hI_eq, show (hp_up ρ H1.size ρ.2.2.2.2).1 9 = x9 from h9] at e3
    refine lc_V (ci := 9) (As := []) (rest := []) (M := am_m122) Z hh2 e3 rfl rfl (by decide) (by rw [← h9]; exact hp_obj (hp_up_w (k := ρ.2.2.2.2) hT.w hsz) (by decide)) rfl rfl lk_122 rfl hl.1 rfl (Nat.le_of_ble_eq_true rfl) (by decide) dl_403 (by omega) (by omega) (fun H3 locs3 hh3 => ?_)
    show W p l e room_1 s m #[Value.ref b] below meth c _ _ _ _ Q (F0 m 406 ls [.int 1])
    refine lv_iload hexec hb dl_406 (lv_at hl 0 rfl) ?_
    refine lv_icmp_eq (tgt := 413) hexec hb dl_408 (by decide) (fun _ => ?_) (fun z => absurd rfl z)
    refine lv_goto (tgt := 464) hexec hb dl_413 (by decide) ?_
    exact nx (hp_up ρ H1.size ρ.2.2.2.2) _ _ H3 locs3 _ _ ls hh3 ⟨S, A, ws, flt, eu + 1, (hT.up hsz).fm mfr.c, hMo.c, hA, by omega, by omega, by omega, by omega⟩ h8 h9 (lv_sub hl [1, 2, 3, 4, 5] rfl)
