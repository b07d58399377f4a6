/-! THE LAW: its cases, 7: keep -/
set_option maxHeartbeats 4000000 in
theorem law_8 {p : Program} {l : Launch} {e : Env} {s : State} {m : MethodId} {below : List Frame} {meth : Method} {c : Code} {H : Heap} {locs : List Loc} {cells slots : Nat} {Q : State → Prop} {b L : Nat} {xs : Nat → Int32} {D : va_G} {sa q : Nat → Nat} {h0 : Nat → Option am_C} {ρ : hp_L} {P : hp_P} {oa : Nat} {v0 : Int64} {ls : Array Slot} {j x8 x9 F : Nat} (Z : LZ p l s m meth c b L xs D sa q) (hF : 400000 ≤ F) (hl : lv_has ls 7 [(0, .ref b), (1, .ref x8), (2, .ref x9), (3, .ref oa), (4, .int (nI (5 * j)))]) (hj : 5 * j + 5 ≤ L) (h8 : ρ.1 8 = x8) (h9 : ρ.1 9 = x9) (h : LH D sa s h0 ρ P oa v0 H locs) (hI : LI sa s.heap.size j ρ P cells slots) (nx : LN p l e s m below meth c Q b D sa h0 oa j x8 x9) : W p l e room_1 s m #[Value.ref b] below meth c H locs cells slots Q (F0 m 416 ls []) := by
  obtain ⟨S, A, ws, flt, eu, hT, hMo, hA, m1, m2, c1, c2⟩ := hI
  have hL := Z.2.2.2.2.2.2
  obtain ⟨hexec, hb, -⟩ := Z.1
  have hlen0 := hT.len
  obtain ⟨g, rfl⟩ : ∃ g, F = g + 1 := ⟨F - 1, by omega⟩
  by_cases hx : ∃ sq, en_at A.1 (xs (5 * j + 1)) sq
  · obtain ⟨sq, a, ea, a31, ha⟩ := hx
    by_cases hs : sq.1 = []
    · by_cases hy : ∃ k, xs (5 * j + 2) = nI k ∧ A.2.1 ≤ k ∧ k ≤ a
      · obtain ⟨k, ek, k1, k3⟩ := hy
        have mu : A.2.2.2.2.2.1.length < 8000 ∧ A.2.2.2.2.2.2.length < 16000 := by unfold aMu at m1; omega
        obtain ⟨ρ1, P1, e1, t1, w1, f1⟩ := t_keep (sa := sa) (f := g + 1) (d := 395) hT hA ha hs k1 k3 (by omega)
        obtain ⟨P2, e2, n1, n2, n3⟩ := m_keep (sa := sa) (f := g + 1) (d := 395) w1 (hMo.fr f1.cw.tp tp_9) hA ha hs k1 k3 mu.1 mu.2 (by omega)
        have hlen := t1.len
        have hm := hp_len_m n2
        have z1 := f1.2.2.2.1
        have z2 := f1.2.2.2.2.1
        have mo := am_call_mono _ _ _ _ _ _ e1
        have mo1 : ρ.2.2.2.1 ≤ ρ1.2.2.2.1 := mo.1
        have mo2 : ρ.2.2.2.2 ≤ ρ1.2.2.2.2 := mo.2.1
        have mu2 := aMu_keep (A := A) (n := k) (S' := q_un (A.2.2.1 k).1 [sq.2]) (N := ([], sq.2))
        have q8 : ρ1.1 8 = x8 := by rw [f1.1]; exact h8
        have q9 : ρ1.1 9 = x9 := by rw [f1.1]; exact h9
        rw [h8, ← ea, ← ek] at e1
        rw [q9, ← ea, ← ek] at e2
        have Mt := wn_keep l D s.heap.size sa q (by rw [← h8]; exact hp_obj hT.w (by decide)) e1
        refine lv_aload_n hexec hb dl_416 rfl (lv_at hl 1 rfl) ?_
        refine la_arg (k := 1) (k0 := 0) (k4 := 4) Z h hl rfl rfl hj (by decide) rfl dl_417 dl_418 dl_420 dl_421 dl_422 ?_
        refine la_arg (k := 2) (k0 := 0) (k4 := 4) Z h hl rfl rfl hj (by decide) rfl dl_423 dl_424 dl_426 dl_427 dl_428 ?_
        refine lc_W (n := 3) (As := [.ref x8, .int (xs (5 * j + 1)), .int (xs (5 * j + 2))]) (rest := []) Z Mt lx_blind (h.pre Z) lk_keep rfl (by decide) (by decide) (by decide) rfl hl.1 rfl (Nat.le_of_ble_eq_true rfl) dl_429 (by show cells + (ρ1.2.2.2.1 - ρ.2.2.2.1) ≤ 601024; omega) (by show slots + (ρ1.2.2.2.2 - ρ.2.2.2.2) ≤ 7293034; omega) (fun t H1 LL ht hal hG hz hk hLL => ?_)
        have hh1 : LH D sa s h0 ρ1 P1 oa v0 H1 (locs ++ LL) := h.nx (am_call_mono _ _ _ _ _ _ e1) (by rw [← ht]; exact hG.moved hal.symm) (fun z y => Or.inl y) hz hk hLL (h.2.2.2.kept (hk oa h.2.2.2.lt h.nA))
        refine W.widen (k := cells + (ρ1.2.2.2.1 - ρ.2.2.2.1)) (n := slots + (ρ1.2.2.2.2 - ρ.2.2.2.2)) (Nat.le_refl _) (Nat.le_refl _) ?_
        show W p l e room_1 s m #[Value.ref b] below meth c _ _ _ _ Q (F0 m 432 ls [.int 0])
        refine lv_istore (lv' := [(5, .int 0), (0, .ref b), (1, .ref x8), (2, .ref x9), (3, .ref oa), (4, .int (nI (5 * j)))]) hexec hb dl_432 hl (by decide) rfl (fun ls hl => ?_)
        refine lv_aload_n hexec hb dl_434 rfl (lv_at hl 3 rfl) ?_
        refine la_arg (k := 1) (k0 := 1) (k4 := 5) Z hh1 hl rfl rfl hj (by decide) rfl dl_435 dl_436 dl_438 dl_439 dl_440 ?_
        refine la_arg (k := 2) (k0 := 1) (k4 := 5) Z hh1 hl rfl rfl hj (by decide) rfl dl_441 dl_442 dl_444 dl_445 dl_446 ?_
        refine lc_V (ci := 9) (As := [.int (xs (5 * j + 1)), .int (xs (5 * j + 2))]) (rest := []) (M := am_m200) Z hh1 e2 rfl rfl (by decide) (by rw [← q9]; exact hp_obj w1 (by decide)) rfl rfl lk_200 rfl hl.1 rfl (Nat.le_of_ble_eq_true rfl) (by decide) dl_447 (by omega) (by omega) (fun H2 locs2 hh2 => ?_)
        show W p l e room_1 s m #[Value.ref b] below meth c _ _ _ _ Q (F0 m 450 ls [])
        refine lv_aload_n hexec hb dl_450 rfl (lv_at hl 3 rfl) ?_
        have e3 := m_thrown (sa := sa) (f := g) (d := 399) (P := P2) w1
        rw [n3, show ρ1.1 9 = x9 from q9] at e3
        refine lc_V (ci := 9) (As := []) (rest := []) (M := am_m122) Z hh2 e3 rfl rfl (by decide) (by rw [← q9]; exact hp_obj w1 (by decide)) rfl rfl lk_122 rfl hl.1 rfl (Nat.le_of_ble_eq_true rfl) (by decide) dl_451 (by omega) (by omega) (fun H3 locs3 hh3 => ?_)
        show W p l e room_1 s m #[Value.ref b] below meth c _ _ _ _ Q (F0 m 454 ls [.int 0])
        refine lv_iload hexec hb dl_454 (lv_at hl 0 rfl) ?_
        refine lv_icmp_eq (tgt := 461) hexec hb dl_456 (by decide) (fun _ => ?_) (fun z => absurd rfl z)
        refine lv_goto (tgt := 464) hexec hb dl_461 (by decide) ?_
        exact nx ρ1 _ _ H3 locs3 _ _ ls hh3 ⟨_, _, ws, flt, eu, t1.fm n2, n1, aI_keep hA ha k1 k3, by omega, by omega, by omega, by omega⟩ q8 q9 (lv_sub hl [1, 2, 3, 4, 5] rfl)
      · have te := te_115c (sa := sa) (f := g) (d := 397) hT ha hs hy
        rw [← ea] at te
        rw [h8] at te
        have Mt := wx_keep3 l D s.heap.size sa q (by rw [← h8]; exact hp_obj hT.w (by decide)) (tw_met l Z.2.2.2.2.2.1 D s.heap.size sa q (F := g + 1) (d := 399) (mi := 115) (M := am_m115) (as := [.ref x8, .int (xs (5 * j + 1)), .int (xs (5 * j + 2))]) (k := 1) (i := 3) rfl (Nat.le_of_ble_eq_true rfl) te rfl (by decide) rfl (by decide) dx_115_58.1 dx_115_58.2.1 dx_115_58.2.2.1 dx_115_58.2.2.2.1 dx_115_58.2.2.2.2)
        have hm := hp_len_m (mfr.c (P := P) (v := 3))
        refine lv_aload_n hexec hb dl_416 rfl (lv_at hl 1 rfl) ?_
        refine la_arg (k := 1) (k0 := 0) (k4 := 4) Z h hl rfl rfl hj (by decide) rfl dl_417 dl_418 dl_420 dl_421 dl_422 ?_
        refine la_arg (k := 2) (k0 := 0) (k4 := 4) Z h hl rfl rfl hj (by decide) rfl dl_423 dl_424 dl_426 dl_427 dl_428 ?_
        refine lc_W (n := 3) (As := [.ref x8, .int (xs (5 * j + 1)), .int (xs (5 * j + 2))]) (rest := []) Z Mt lx_blind (h.pre Z) lk_keep rfl (by decide) (by decide) (by decide) rfl hl.1 rfl (Nat.le_of_ble_eq_true rfl) dl_429 (by omega) (by omega) (fun t H1 LL ht hal hG hz hk hLL => ?_)
        obtain ⟨hh1, hsz⟩ := h.up (by rw [← ht]; exact hG.moved hal.symm) hz hk hLL
        have e2 := (m_keep_go (sa := sa) (ρ := hp_up ρ H1.size ρ.2.2.2.2) (f := g + 1) (d := 398) (x := xs (5 * j + 2)) (hp_up_w (k := ρ.2.2.2.2) hT.w hsz) hMo ha (by omega)).2.1 hs hy
        rw [← ea, show (hp_up ρ H1.size ρ.2.2.2.2).1 9 = x9 from h9] at e2
        show W p l e room_1 s m #[Value.ref b] below meth c _ _ _ _ Q (F0 m 432 ls [.int 3])
        refine lv_istore (lv' := [(5, .int 3), (0, .ref b), (1, .ref x8), (2, .ref x9), (3, .ref oa), (4, .int (nI (5 * j)))]) hexec hb dl_432 hl (by decide) rfl (fun ls hl => ?_)
        refine lv_aload_n hexec hb dl_434 rfl (lv_at hl 3 rfl) ?_
        refine la_arg (k := 1) (k0 := 1) (k4 := 5) Z hh1 hl rfl rfl hj (by decide) rfl dl_435 dl_436 dl_438 dl_439 dl_440 ?_
        refine la_arg (k := 2) (k0 := 1) (k4 := 5) Z hh1 hl rfl rfl hj (by decide) rfl dl_441 dl_442 dl_444 dl_445 dl_446 ?_
        refine lc_V (ci := 9) (As := [.int (xs (5 * j + 1)), .int (xs (5 * j + 2))]) (rest := []) (M := am_m200) Z hh1 e2 rfl rfl (by decide) (by rw [← h9]; exact hp_obj (hp_up_w (k := ρ.2.2.2.2) hT.w hsz) (by decide)) rfl rfl lk_200 rfl hl.1 rfl (Nat.le_of_ble_eq_true rfl) (by decide) dl_447 (by omega) (by omega) (fun H2 locs2 hh2 => ?_)
        show W p l e room_1 s m #[Value.ref b] below meth c _ _ _ _ Q (F0 m 450 ls [])
        refine lv_aload_n hexec hb dl_450 rfl (lv_at hl 3 rfl) ?_
        have e3 := m_thrown (sa := sa) (f := g) (d := 399) (P := hp_sI P 900 3) (hp_up_w (k := ρ.2.2.2.2) hT.w hsz)
        rw [hI_eq, show (hp_up ρ H1.size ρ.2.2.2.2).1 9 = x9 from h9] at e3
        refine lc_V (ci := 9) (As := []) (rest := []) (M := am_m122) Z hh2 e3 rfl rfl (by decide) (by rw [← h9]; exact hp_obj (hp_up_w (k := ρ.2.2.2.2) hT.w hsz) (by decide)) rfl rfl lk_122 rfl hl.1 rfl (Nat.le_of_ble_eq_true rfl) (by decide) dl_451 (by omega) (by omega) (fun H3 locs3 hh3 => ?_)
        show W p l e room_1 s m #[Value.ref b] below meth c _ _ _ _ Q (F0 m 454 ls [.int 3])
        refine lv_iload hexec hb dl_454 (lv_at hl 0 rfl) ?_
        refine lv_icmp_eq (tgt := 461) hexec hb dl_456 (by decide) (fun _ => ?_) (fun z => absurd rfl z)
        refine lv_goto (tgt := 464) hexec hb dl_461 (by decide) ?_
        exact nx (hp_up ρ H1.size ρ.2.2.2.2) _ _ H3 locs3 _ _ ls hh3 ⟨S, A, ws, flt, eu + 1, (hT.up hsz).fm mfr.c, hMo.c, hA, by omega, by omega, by omega, by omega⟩ h8 h9 (lv_sub hl [1, 2, 3, 4, 5] rfl)
    · have te := te_115b (sa := sa) (f := g) (d := 397) (x := xs (5 * j + 2)) hT ha hs
      rw [← ea] at te
      rw [h8] at te
      have Mt := wx_keep2 l D s.heap.size sa q (by rw [← h8]; exact hp_obj hT.w (by decide)) (tw_met l Z.2.2.2.2.2.1 D s.heap.size sa q (F := g + 1) (d := 399) (mi := 115) (M := am_m115) (as := [.ref x8, .int (xs (5 * j + 1)), .int (xs (5 * j + 2))]) (k := 2) (i := 4) rfl (Nat.le_of_ble_eq_true rfl) te rfl (by decide) rfl (by decide) dx_115_32.1 dx_115_32.2.1 dx_115_32.2.2.1 dx_115_32.2.2.2.1 dx_115_32.2.2.2.2)
      have hm := hp_len_m (mfr.c (P := P) (v := 2))
      refine lv_aload_n hexec hb dl_416 rfl (lv_at hl 1 rfl) ?_
      refine la_arg (k := 1) (k0 := 0) (k4 := 4) Z h hl rfl rfl hj (by decide) rfl dl_417 dl_418 dl_420 dl_421 dl_422 ?_
      refine la_arg (k := 2) (k0 := 0) (k4 := 4) Z h hl rfl rfl hj (by decide) rfl dl_423 dl_424 dl_426 dl_427 dl_428 ?_
      refine lc_W (n := 3) (As := [.ref x8, .int (xs (5 * j + 1)), .int (xs (5 * j + 2))]) (rest := []) Z Mt lx_blind (h.pre Z) lk_keep rfl (by decide) (by decide) (by decide) rfl hl.1 rfl (Nat.le_of_ble_eq_true rfl) dl_429 (by omega) (by omega) (fun t H1 LL ht hal hG hz hk hLL => ?_)
      obtain ⟨hh1, hsz⟩ := h.up (by rw [← ht]; exact hG.moved hal.symm) hz hk hLL
      have e2 := (m_keep_go (sa := sa) (ρ := hp_up ρ H1.size ρ.2.2.2.2) (f := g + 1) (d := 398) (x := xs (5 * j + 2)) (hp_up_w (k := ρ.2.2.2.2) hT.w hsz) hMo ha (by omega)).1 hs
      rw [← ea, show (hp_up ρ H1.size ρ.2.2.2.2).1 9 = x9 from h9] at e2
      show W p l e room_1 s m #[Value.ref b] below meth c _ _ _ _ Q (F0 m 432 ls [.int 2])
      refine lv_istore (lv' := [(5, .int 2), (0, .ref b), (1, .ref x8), (2, .ref x9), (3, .ref oa), (4, .int (nI (5 * j)))]) hexec hb dl_432 hl (by decide) rfl (fun ls hl => ?_)
      refine lv_aload_n hexec hb dl_434 rfl (lv_at hl 3 rfl) ?_
      refine la_arg (k := 1) (k0 := 1) (k4 := 5) Z hh1 hl rfl rfl hj (by decide) rfl dl_435 dl_436 dl_438 dl_439 dl_440 ?_
      refine la_arg (k := 2) (k0 := 1) (k4 := 5) Z hh1 hl rfl rfl hj (by decide) rfl dl_441 dl_442 dl_444 dl_445 dl_446 ?_
      refine lc_V (ci := 9) (As := [.int (xs (5 * j + 1)), .int (xs (5 * j + 2))]) (rest := []) (M := am_m200) Z hh1 e2 rfl rfl (by decide) (by rw [← h9]; exact hp_obj (hp_up_w (k := ρ.2.2.2.2) hT.w hsz) (by decide)) rfl rfl lk_200 rfl hl.1 rfl (Nat.le_of_ble_eq_true rfl) (by decide) dl_447 (by omega) (by omega) (fun H2 locs2 hh2 => ?_)
      show W p l e room_1 s m #[Value.ref b] below meth c _ _ _ _ Q (F0 m 450 ls [])
      refine lv_aload_n hexec hb dl_450 rfl (lv_at hl 3 rfl) ?_
      have e3 := m_thrown (sa := sa) (f := g) (d := 399) (P := hp_sI P 900 2) (hp_up_w (k := ρ.2.2.2.2) hT.w hsz)
      rw [hI_eq, show (hp_up ρ H1.size ρ.2.2.2.2).1 9 = x9 from h9] at e3
      refine lc_V (ci := 9) (As := []) (rest := []) (M := am_m122) Z hh2 e3 rfl rfl (by decide) (by rw [← h9]; exact hp_obj (hp_up_w (k := ρ.2.2.2.2) hT.w hsz) (by decide)) rfl rfl lk_122 rfl hl.1 rfl (Nat.le_of_ble_eq_true rfl) (by decide) dl_451 (by omega) (by omega) (fun H3 locs3 hh3 => ?_)
      show W p l e room_1 s m #[Value.ref b] below meth c _ _ _ _ Q (F0 m 454 ls [.int 2])
      refine lv_iload hexec hb dl_454 (lv_at hl 0 rfl) ?_
      refine lv_icmp_eq (tgt := 461) hexec hb dl_456 (by decide) (fun _ => ?_) (fun z => absurd rfl z)
      refine lv_goto (tgt := 464) hexec hb dl_461 (by decide) ?_
      exact nx (hp_up ρ H1.size ρ.2.2.2.2) _ _ H3 locs3 _ _ ls hh3 ⟨S, A, ws, flt, eu + 1, (hT.up hsz).fm mfr.c, hMo.c, hA, by omega, by omega, by omega, by omega⟩ h8 h9 (lv_sub hl [1, 2, 3, 4, 5] rfl)
  · have te := te_115a (sa := sa) (f := g) (d := 398) (x := xs (5 * j + 2)) hT hx
    rw [h8] at te
    have Mt := wx_keep1 l D s.heap.size sa q (by rw [← h8]; exact hp_obj hT.w (by decide)) (tw_met l Z.2.2.2.2.2.1 D s.heap.size sa q (F := g + 1) (d := 399) (mi := 115) (M := am_m115) (as := [.ref x8, .int (xs (5 * j + 1)), .int (xs (5 * j + 2))]) (k := 0) (i := 0) rfl (Nat.le_of_ble_eq_true rfl) te rfl (by decide) rfl (by decide) dx_115_11.1 dx_115_11.2.1 dx_115_11.2.2.1 dx_115_11.2.2.2.1 dx_115_11.2.2.2.2)
    have hm := hp_len_m (mfr.c (P := P) (v := 1))
    refine lv_aload_n hexec hb dl_416 rfl (lv_at hl 1 rfl) ?_
    refine la_arg (k := 1) (k0 := 0) (k4 := 4) Z h hl rfl rfl hj (by decide) rfl dl_417 dl_418 dl_420 dl_421 dl_422 ?_
    refine la_arg (k := 2) (k0 := 0) (k4 := 4) Z h hl rfl rfl hj (by decide) rfl dl_423 dl_424 dl_426 dl_427 dl_428 ?_
    refine lc_W (n := 3) (As := [.ref x8, .int (xs (5 * j + 1)), .int (xs (5 * j + 2))]) (rest := []) Z Mt lx_blind (h.pre Z) lk_keep rfl (by decide) (by decide) (by decide) rfl hl.1 rfl (Nat.le_of_ble_eq_true rfl) dl_429 (by omega) (by omega) (fun t H1 LL ht hal hG hz hk hLL => ?_)
    obtain ⟨hh1, hsz⟩ := h.up (by rw [← ht]; exact hG.moved hal.symm) hz hk hLL
    have e2 := m_keep_no1 (sa := sa) (ρ := hp_up ρ H1.size ρ.2.2.2.2) (f := g + 1) (d := 398) (y := xs (5 * j + 2)) (hp_up_w (k := ρ.2.2.2.2) hT.w hsz) hMo hx (by omega)
    rw [show (hp_up ρ H1.size ρ.2.2.2.2).1 9 = x9 from h9] at e2
    show W p l e room_1 s m #[Value.ref b] below meth c _ _ _ _ Q (F0 m 432 ls [.int 1])
    refine lv_istore (lv' := [(5, .int 1), (0, .ref b), (1, .ref x8), (2, .ref x9), (3, .ref oa), (4, .int (nI (5 * j)))]) hexec hb dl_432 hl (by decide) rfl (fun ls hl => ?_)
    refine lv_aload_n hexec hb dl_434 rfl (lv_at hl 3 rfl) ?_
    refine la_arg (k := 1) (k0 := 1) (k4 := 5) Z hh1 hl rfl rfl hj (by decide) rfl dl_435 dl_436 dl_438 dl_439 dl_440 ?_
    refine la_arg (k := 2) (k0 := 1) (k4 := 5) Z hh1 hl rfl rfl hj (by decide) rfl dl_441 dl_442 dl_444 dl_445 dl_446 ?_
    refine lc_V (ci := 9) (As := [.int (xs (5 * j + 1)), .int (xs (5 * j + 2))]) (rest := []) (M := am_m200) Z hh1 e2 rfl rfl (by decide) (by rw [← h9]; exact hp_obj (hp_up_w (k := ρ.2.2.2.2) hT.w hsz) (by decide)) rfl rfl lk_200 rfl hl.1 rfl (Nat.le_of_ble_eq_true rfl) (by decide) dl_447 (by omega) (by omega) (fun H2 locs2 hh2 => ?_)
    show W p l e room_1 s m #[Value.ref b] below meth c _ _ _ _ Q (F0 m 450 ls [])
    refine lv_aload_n hexec hb dl_450 rfl (lv_at hl 3 rfl) ?_
    have e3 := m_thrown (sa := sa) (f := g) (d := 399) (P := hp_sI P 900 1) (hp_up_w (k := ρ.2.2.2.2) hT.w hsz)
    rw [hI_eq, show (hp_up ρ H1.size ρ.2.2.2.2).1 9 = x9 from h9] at e3
    refine lc_V (ci := 9) (As := []) (rest := []) (M := am_m122) Z hh2 e3 rfl rfl (by decide) (by rw [← h9]; exact hp_obj (hp_up_w (k := ρ.2.2.2.2) hT.w hsz) (by decide)) rfl rfl lk_122 rfl hl.1 rfl (Nat.le_of_ble_eq_true rfl) (by decide) dl_451 (by omega) (by omega) (fun H3 locs3 hh3 => ?_)
    show W p l e room_1 s m #[Value.ref b] below meth c _ _ _ _ Q (F0 m 454 ls [.int 1])
    refine lv_iload hexec hb dl_454 (lv_at hl 0 rfl) ?_
    refine lv_icmp_eq (tgt := 461) hexec hb dl_456 (by decide) (fun _ => ?_) (fun z => absurd rfl z)
    refine lv_goto (tgt := 464) hexec hb dl_461 (by decide) ?_
    exact nx (hp_up ρ H1.size ρ.2.2.2.2) _ _ H3 locs3 _ _ ls hh3 ⟨S, A, ws, flt, eu + 1, (hT.up hsz).fm mfr.c, hMo.c, hA, by omega, by omega, by omega, by omega⟩ h8 h9 (lv_sub hl [1, 2, 3, 4, 5] rfl)
