/-! THE LAW: its cases, 1 -/
/-- what comes behind a case -/
def LN (p : Program) (l : Launch) (e : Env) (s : State) (m : MethodId) (below : List Frame) (meth : Method) (c : Code) (Q : State → Prop) (b : Nat) (D : va_G) (sa : Nat → Nat) (h0 : Nat → Option am_C) (oa j x8 x9 : Nat) : Prop := ∀ (ρ' : hp_L) (P' : hp_P) (v' : Int64) (H' : Heap) (locs' : List Loc) (cells' slots' : Nat) (ls' : Array Slot), LH D sa s h0 ρ' P' oa v' H' locs' → LI sa s.heap.size (j + 1) ρ' P' cells' slots' → ρ'.1 8 = x8 → ρ'.1 9 = x9 → lv_has ls' 7 [(0, .ref b), (1, .ref x8), (2, .ref x9), (3, .ref oa), (4, .int (nI (5 * j)))] → W p l e room_1 s m #[Value.ref b] below meth c H' locs' cells' slots' Q (F0 m 464 ls' [])
theorem sy_9 : ∀ r, 900 ≤ r → sy_S r = false := fun r hr => decide_eq_false (by omega)
theorem tp_9 : ∀ r, 900 ≤ r → tp_S r = false := fun r hr => decide_eq_false (by omega)
theorem m_thrown {sa : Nat → Nat} {B f d : Nat} {ρ : hp_L} {P : hp_P} (w : hp_w B ρ) : am_call B sa am_dfl am_tb (f + 1) (d + 1) 122 [.ref (ρ.1 9)] (hp_S sa ρ P) = some (some (.int (P.1 900)), hp_S sa ρ P) := by
  rw [am_c_122, am_s122_0]
  exact cs_b (hg_900 w) rfl
section LOUT
variable {p : Program} {l : Launch} {e : Env} {s : State} {m : MethodId} {below : List Frame} {meth : Method} {c : Code} {H : Heap} {locs : List Loc} {cells slots : Nat} {Q : State → Prop} {b L : Nat} {xs : Nat → Int32} {D : va_G} {sa q : Nat → Nat} {h0 : Nat → Option am_C} {ρ : hp_L} {P : hp_P} {oa : Nat} {v0 : Int64} {ls : Array Slot} {j x8 x9 F : Nat}
theorem la_out {pc : Nat} {rest : List Value} (Z : LZ p l s m meth c b L xs D sa q) (h : LH D sa s h0 ρ P oa v0 H locs) (hdg : decode code pc = .ok (.laload, 1)) (kk : W p l e room_1 s m #[Value.ref b] below meth c H locs cells slots Q (F0 m (pc + 1) ls (.long v0 :: rest))) : W p l e room_1 s m #[Value.ref b] below meth c H locs cells slots Q (F0 m pc ls (.int 0 :: .ref oa :: rest)) := by
  obtain ⟨cA, f, g1, g2, g3⟩ := h.2.2.2
  rw [← g3] at kk
  exact W.lald (v := .long (f 0)) Z.1.1 Z.1.2.1 g2 (g1 1 (fun j => .long (f j))) (fun z => by cases z) (by show ¬ ((0 : Int32) < 0 ∨ (arrV _ _ _).slots.size ≤ _); rw [arrV_size]; exact (by decide : ¬ ((0 : Int32) < 0 ∨ 1 ≤ Int32.toNatClampNeg 0))) (by show (arrV _ _ _).slots[_]? = _; exact arrV_read _ _ (by show Int32.toNatClampNeg 0 < 1; decide)) rfl rfl hdg kk
end LOUT
set_option maxHeartbeats 4000000 in
theorem law_0 {p : Program} {l : Launch} {e : Env} {s : State} {m : MethodId} {below : List Frame} {meth : Method} {c : Code} {H : Heap} {locs : List Loc} {cells slots : Nat} {Q : State → Prop} {b L : Nat} {xs : Nat → Int32} {D : va_G} {sa q : Nat → Nat} {h0 : Nat → Option am_C} {ρ : hp_L} {P : hp_P} {oa : Nat} {v0 : Int64} {ls : Array Slot} {j x8 x9 F : Nat} (Z : LZ p l s m meth c b L xs D sa q) (hF : 400000 ≤ F) (hl : lv_has ls 7 [(0, .ref b), (1, .ref x8), (2, .ref x9), (3, .ref oa), (4, .int (nI (5 * j)))]) (hj : 5 * j + 5 ≤ L) (h8 : ρ.1 8 = x8) (h9 : ρ.1 9 = x9) (h : LH D sa s h0 ρ P oa v0 H locs) (hI : LI sa s.heap.size j ρ P cells slots) (nx : LN p l e s m below meth c Q b D sa h0 oa j x8 x9) : W p l e room_1 s m #[Value.ref b] below meth c H locs cells slots Q (F0 m 88 ls []) := by
  obtain ⟨S, A, ws, flt, eu, hT, hMo, hA, m1, m2, c1, c2⟩ := hI
  have hL := Z.2.2.2.2.2.2
  obtain ⟨hexec, hb, -⟩ := Z.1
  have hlen0 := hT.len
  obtain ⟨g, rfl⟩ : ∃ g, F = g + 1 := ⟨F - 1, by omega⟩
  obtain ⟨ρ1, P1, e1, t1, w1, f1⟩ := t_say (f := g) (d := 397) (x := xs (5 * j + 1)) hT (by omega)
  obtain ⟨P2, e2, n1, n2, n3⟩ := m_say (sa := sa) (f := g) (d := 399) (x := xs (5 * j + 1)) w1 (hMo.fr f1 sy_9) (by omega)
  have hlen := t1.len
  have hm := hp_len_m n2
  have z1 := f1.2.2.2.1
  have z2 := f1.2.2.2.2.1
  have mo := am_call_mono _ _ _ _ _ _ e1
  have mo1 : ρ.2.2.2.1 ≤ ρ1.2.2.2.1 := mo.1
  have mo2 : ρ.2.2.2.2 ≤ ρ1.2.2.2.2 := mo.2.1
  have q8 : ρ1.1 8 = x8 := by rw [f1.1]; exact h8
  have q9 : ρ1.1 9 = x9 := by rw [f1.1]; exact h9
  rw [h8] at e1
  rw [q9] at e2
  refine lv_aload_n hexec hb dl_88 rfl (lv_at hl 1 rfl) ?_
  refine la_arg (k := 1) (k0 := 0) (k4 := 4) Z h hl rfl rfl hj (by decide) rfl dl_89 dl_90 dl_92 dl_93 dl_94 ?_
  refine lc_V (ci := 8) (As := [.int (xs (5 * j + 1))]) (rest := []) (M := am_m107) Z h e1 rfl rfl (by decide) (by rw [← h8]; exact hp_obj hT.w (by decide)) rfl rfl lk_107 rfl hl.1 rfl (Nat.le_of_ble_eq_true rfl) (by decide) dl_95 (by omega) (by omega) (fun H1 locs1 hh1 => ?_)
  show W p l e room_1 s m #[Value.ref b] below meth c _ _ _ _ Q (F0 m 98 ls [.int 1])
  refine lv_aload_n hexec hb dl_98 rfl (lv_at hl 2 rfl) ?_
  refine la_arg (k := 1) (k0 := 0) (k4 := 4) Z hh1 hl rfl rfl hj (by decide) rfl dl_99 dl_100 dl_102 dl_103 dl_104 ?_
  refine lc_V (ci := 9) (As := [.int (xs (5 * j + 1))]) (rest := [.int 1]) (M := am_m185) Z hh1 e2 rfl rfl (by decide) (by rw [← q9]; exact hp_obj w1 (by decide)) rfl rfl lk_185 rfl hl.1 rfl (Nat.le_of_ble_eq_true rfl) (by decide) dl_105 (by omega) (by omega) (fun H2 locs2 hh2 => ?_)
  show W p l e room_1 s m #[Value.ref b] below meth c _ _ _ _ Q (F0 m 108 ls [.int 1, .int 1])
  refine lv_icmp_eq (tgt := 464) hexec hb dl_108 (by decide) (fun _ => ?_) (fun z => absurd rfl z)
  have ln : (ws ++ [xs (5 * j + 1)]).length = ws.length + 1 := by rw [List.length_append, List.length_singleton]
  exact nx ρ1 P2 v0 H2 locs2 _ _ ls hh2 ⟨S, A, ws ++ [xs (5 * j + 1)], flt, eu, t1.fm n2, n1, hA, by omega, by omega, by omega, by omega⟩ q8 q9 hl
set_option maxHeartbeats 4000000 in
theorem law_1 {p : Program} {l : Launch} {e : Env} {s : State} {m : MethodId} {below : List Frame} {meth : Method} {c : Code} {H : Heap} {locs : List Loc} {cells slots : Nat} {Q : State → Prop} {b L : Nat} {xs : Nat → Int32} {D : va_G} {sa q : Nat → Nat} {h0 : Nat → Option am_C} {ρ : hp_L} {P : hp_P} {oa : Nat} {v0 : Int64} {ls : Array Slot} {j x8 x9 F : Nat} (Z : LZ p l s m meth c b L xs D sa q) (hF : 400000 ≤ F) (hl : lv_has ls 7 [(0, .ref b), (1, .ref x8), (2, .ref x9), (3, .ref oa), (4, .int (nI (5 * j)))]) (hj : 5 * j + 5 ≤ L) (h8 : ρ.1 8 = x8) (h9 : ρ.1 9 = x9) (h : LH D sa s h0 ρ P oa v0 H locs) (hI : LI sa s.heap.size j ρ P cells slots) (nx : LN p l e s m below meth c Q b D sa h0 oa j x8 x9) : W p l e room_1 s m #[Value.ref b] below meth c H locs cells slots Q (F0 m 113 ls []) := by
  obtain ⟨S, A, ws, flt, eu, hT, hMo, hA, m1, m2, c1, c2⟩ := hI
  have hL := Z.2.2.2.2.2.2
  obtain ⟨hexec, hb, -⟩ := Z.1
  have hlen0 := hT.len
  obtain ⟨g, rfl⟩ : ∃ g, F = g + 1 := ⟨F - 1, by omega⟩
  obtain ⟨gg, S1, A1, acc, flt1, ρ1, P1, J1, e1, t1, hA1, w1, f1, mu1, -⟩ := t_judge (sa := sa) (f := g + 1) (d := 88) hT hA (by omega) (by omega)
  obtain ⟨g2, S2, A2, acc2, flt2, P2, J2, e2, n1, n2, n3⟩ := m_judge (sa := sa) (f := g + 1) (d := 198) w1 (hMo.fr f1 tp_9) hA (by omega) (by omega)
  obtain ⟨rfl, rfl, rfl, rfl⟩ := aJ_inj hA.2.2.2.1.2.2.2.1 J1 J2
  have hlen := t1.len
  have hm := hp_len_m n2
  have z1 := f1.2.2.2.1
  have z2 := f1.2.2.2.2.1
  have mo := am_call_mono _ _ _ _ _ _ e1
  have mo1 : ρ.2.2.2.1 ≤ ρ1.2.2.2.1 := mo.1
  have mo2 : ρ.2.2.2.2 ≤ ρ1.2.2.2.2 := mo.2.1
  have q8 : ρ1.1 8 = x8 := by rw [f1.1]; exact h8
  have q9 : ρ1.1 9 = x9 := by rw [f1.1]; exact h9
  rw [h8] at e1
  rw [q9] at e2
  refine lv_aload_n hexec hb dl_113 rfl (lv_at hl 1 rfl) ?_
  refine lc_V (ci := 8) (As := []) (rest := []) (M := am_m108) Z h e1 rfl rfl (by decide) (by rw [← h8]; exact hp_obj hT.w (by decide)) rfl rfl lk_108 rfl hl.1 rfl (Nat.le_of_ble_eq_true rfl) (by decide) dl_114 (by omega) (by omega) (fun H1 locs1 hh1 => ?_)
  show W p l e room_1 s m #[Value.ref b] below meth c _ _ _ _ Q (F0 m 117 ls [.int (nI acc)])
  refine lv_aload_n hexec hb dl_117 rfl (lv_at hl 2 rfl) ?_
  refine lc_V (ci := 9) (As := []) (rest := [.int (nI acc)]) (M := am_m188) Z hh1 e2 rfl rfl (by decide) (by rw [← q9]; exact hp_obj w1 (by decide)) rfl rfl lk_188 rfl hl.1 rfl (Nat.le_of_ble_eq_true rfl) (by decide) dl_118 (by omega) (by omega) (fun H2 locs2 hh2 => ?_)
  show W p l e room_1 s m #[Value.ref b] below meth c _ _ _ _ Q (F0 m 121 ls [.int (nI acc), .int (nI acc)])
  refine lv_icmp_eq (tgt := 464) hexec hb dl_121 (by decide) (fun _ => ?_) (fun z => absurd rfl z)
  exact nx ρ1 P2 v0 H2 locs2 _ _ ls hh2 ⟨S1, A1, [], flt1, eu + (ws.length + 2), t1.fm n2, n1, hA1, by show aMu A1 + 0 ≤ j + 1; omega, by show eu + (ws.length + 2) + 0 ≤ 3 * (j + 1); omega, by omega, by omega⟩ q8 q9 hl
set_option maxHeartbeats 4000000 in
theorem law_2 {p : Program} {l : Launch} {e : Env} {s : State} {m : MethodId} {below : List Frame} {meth : Method} {c : Code} {H : Heap} {locs : List Loc} {cells slots : Nat} {Q : State → Prop} {b L : Nat} {xs : Nat → Int32} {D : va_G} {sa q : Nat → Nat} {h0 : Nat → Option am_C} {ρ : hp_L} {P : hp_P} {oa : Nat} {v0 : Int64} {ls : Array Slot} {j x8 x9 F : Nat} (Z : LZ p l s m meth c b L xs D sa q) (hF : 400000 ≤ F) (hl : lv_has ls 7 [(0, .ref b), (1, .ref x8), (2, .ref x9), (3, .ref oa), (4, .int (nI (5 * j)))]) (hj : 5 * j + 5 ≤ L) (h8 : ρ.1 8 = x8) (h9 : ρ.1 9 = x9) (h : LH D sa s h0 ρ P oa v0 H locs) (hI : LI sa s.heap.size j ρ P cells slots) (nx : LN p l e s m below meth c Q b D sa h0 oa j x8 x9) : W p l e room_1 s m #[Value.ref b] below meth c H locs cells slots Q (F0 m 126 ls []) := by
  obtain ⟨S, A, ws, flt, eu, hT, hMo, hA, m1, m2, c1, c2⟩ := hI
  have hL := Z.2.2.2.2.2.2
  obtain ⟨hexec, hb, -⟩ := Z.1
  have hlen0 := hT.len
  obtain ⟨g, rfl⟩ : ∃ g, F = g + 1 := ⟨F - 1, by omega⟩
  have e1 := t_fault (sa := sa) (f := g) (d := 399) hT
  have e2 := m_fault (sa := sa) (f := g) (d := 399) hT.w hMo
  have hm := hp_len_m (mfr.c (P := P) (v := 0))
  rw [h8] at e1
  rw [h9] at e2
  refine lv_aload_n hexec hb dl_126 rfl (lv_at hl 1 rfl) ?_
  refine lc_V (ci := 8) (As := []) (rest := []) (M := am_m109) Z h e1 rfl rfl (by decide) (by rw [← h8]; exact hp_obj hT.w (by decide)) rfl rfl lk_109 rfl hl.1 rfl (Nat.le_of_ble_eq_true rfl) (by decide) dl_127 (by omega) (by omega) (fun H1 locs1 hh1 => ?_)
  show W p l e room_1 s m #[Value.ref b] below meth c _ _ _ _ Q (F0 m 130 ls [.int (flt)])
  refine lv_aload_n hexec hb dl_130 rfl (lv_at hl 2 rfl) ?_
  refine lc_V (ci := 9) (As := []) (rest := [.int (flt)]) (M := am_m189) Z hh1 e2 rfl rfl (by decide) (by rw [← h9]; exact hp_obj hT.w (by decide)) rfl rfl lk_189 rfl hl.1 rfl (Nat.le_of_ble_eq_true rfl) (by decide) dl_131 (by omega) (by omega) (fun H2 locs2 hh2 => ?_)
  show W p l e room_1 s m #[Value.ref b] below meth c _ _ _ _ Q (F0 m 134 ls [.int (flt), .int (flt)])
  refine lv_icmp_eq (tgt := 464) hexec hb dl_134 (by decide) (fun _ => ?_) (fun z => absurd rfl z)
  exact nx ρ _ v0 H2 locs2 _ _ ls hh2 ⟨S, A, ws, flt, eu, hT.fm mfr.c, hMo.c, hA, by omega, by omega, by omega, by omega⟩ h8 h9 hl
set_option maxHeartbeats 4000000 in
theorem law_3 {p : Program} {l : Launch} {e : Env} {s : State} {m : MethodId} {below : List Frame} {meth : Method} {c : Code} {H : Heap} {locs : List Loc} {cells slots : Nat} {Q : State → Prop} {b L : Nat} {xs : Nat → Int32} {D : va_G} {sa q : Nat → Nat} {h0 : Nat → Option am_C} {ρ : hp_L} {P : hp_P} {oa : Nat} {v0 : Int64} {ls : Array Slot} {j x8 x9 F : Nat} (Z : LZ p l s m meth c b L xs D sa q) (hF : 400000 ≤ F) (hl : lv_has ls 7 [(0, .ref b), (1, .ref x8), (2, .ref x9), (3, .ref oa), (4, .int (nI (5 * j)))]) (hj : 5 * j + 5 ≤ L) (h8 : ρ.1 8 = x8) (h9 : ρ.1 9 = x9) (h : LH D sa s h0 ρ P oa v0 H locs) (hI : LI sa s.heap.size j ρ P cells slots) (nx : LN p l e s m below meth c Q b D sa h0 oa j x8 x9) : W p l e room_1 s m #[Value.ref b] below meth c H locs cells slots Q (F0 m 139 ls []) := by
  obtain ⟨S, A, ws, flt, eu, hT, hMo, hA, m1, m2, c1, c2⟩ := hI
  have hL := Z.2.2.2.2.2.2
  obtain ⟨hexec, hb, -⟩ := Z.1
  have hlen0 := hT.len
  obtain ⟨g, rfl⟩ : ∃ g, F = g + 1 := ⟨F - 1, by omega⟩
  have e1 := t_size (sa := sa) (f := g) (d := 399) hT
  have e2 := m_size (sa := sa) (f := g) (d := 399) hT.w hMo
  have hm := hp_len_m (mfr.c (P := P) (v := 0))
  rw [h8] at e1
  rw [h9] at e2
  refine lv_aload_n hexec hb dl_139 rfl (lv_at hl 1 rfl) ?_
  refine lc_V (ci := 8) (As := []) (rest := []) (M := am_m110) Z h e1 rfl rfl (by decide) (by rw [← h8]; exact hp_obj hT.w (by decide)) rfl rfl lk_110 rfl hl.1 rfl (Nat.le_of_ble_eq_true rfl) (by decide) dl_140 (by omega) (by omega) (fun H1 locs1 hh1 => ?_)
  show W p l e room_1 s m #[Value.ref b] below meth c _ _ _ _ Q (F0 m 143 ls [.int (nI A.1.length)])
  refine lv_aload_n hexec hb dl_143 rfl (lv_at hl 2 rfl) ?_
  refine lc_V (ci := 9) (As := []) (rest := [.int (nI A.1.length)]) (M := am_m190) Z hh1 e2 rfl rfl (by decide) (by rw [← h9]; exact hp_obj hT.w (by decide)) rfl rfl lk_190 rfl hl.1 rfl (Nat.le_of_ble_eq_true rfl) (by decide) dl_144 (by omega) (by omega) (fun H2 locs2 hh2 => ?_)
  show W p l e room_1 s m #[Value.ref b] below meth c _ _ _ _ Q (F0 m 147 ls [.int (nI A.1.length), .int (nI A.1.length)])
  refine lv_icmp_eq (tgt := 464) hexec hb dl_147 (by decide) (fun _ => ?_) (fun z => absurd rfl z)
  exact nx ρ _ v0 H2 locs2 _ _ ls hh2 ⟨S, A, ws, flt, eu, hT.fm mfr.c, hMo.c, hA, by omega, by omega, by omega, by omega⟩ h8 h9 hl
