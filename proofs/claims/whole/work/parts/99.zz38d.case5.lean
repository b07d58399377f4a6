/-! THE LAW: its cases, 4: symbol -/
set_option maxHeartbeats 4000000 in
theorem law_5 {p : Program} {l : Launch} {e : Env} {s : State} {m : MethodId} {below : List Frame} {meth : Method} {c : Code} {H : Heap} {locs : List Loc} {cells slots : Nat} {Q : State → Prop} {b L : Nat} {xs : Nat → Int32} {D : va_G} {sa q : Nat → Nat} {h0 : Nat → Option am_C} {ρ : hp_L} {P : hp_P} {oa : Nat} {v0 : Int64} {ls : Array Slot} {j x8 x9 F : Nat} (Z : LZ p l s m meth c b L xs D sa q) (hF : 400000 ≤ F) (hl : lv_has ls 7 [(0, .ref b), (1, .ref x8), (2, .ref x9), (3, .ref oa), (4, .int (nI (5 * j)))]) (hj : 5 * j + 5 ≤ L) (h8 : ρ.1 8 = x8) (h9 : ρ.1 9 = x9) (h : LH D sa s h0 ρ P oa v0 H locs) (hI : LI sa s.heap.size j ρ P cells slots) (nx : LN p l e s m below meth c Q b D sa h0 oa j x8 x9) : W p l e room_1 s m #[Value.ref b] below meth c H locs cells slots Q (F0 m 208 ls []) := by
  obtain ⟨S, A, ws, flt, eu, hT, hMo, hA, m1, m2, c1, c2⟩ := hI
  have hL := Z.2.2.2.2.2.2
  obtain ⟨hexec, hb, -⟩ := Z.1
  have hlen0 := hT.len
  obtain ⟨g, rfl⟩ : ∃ g, F = g + 1 := ⟨F - 1, by omega⟩
  obtain ⟨o1, o2, o3⟩ := h.2.2.1
  by_cases hx : ∃ y, sy_at A.1 (xs (5 * j + 1)) (xs (5 * j + 2)) (xs (5 * j + 3)) y
  · obtain ⟨y, hx⟩ := hx
    have e1 := t_symbol (sa := sa) (f := g + 1) (d := 396) hT (by omega) hx
    have e2 := m_symbol (sa := sa) (f := g + 1) (d := 397) hT.w hMo hx (by omega)
    rw [h8] at e1
    rw [h9] at e2
    have Mt := wn_symbol l D s.heap.size sa q (oa := oa) (by rw [← h8]; exact hp_obj hT.w (by decide)) e1 o1 o2 o3
    have hm := hp_len_m (mfr.c (P := P) (v := 0))
    refine lv_aload_n hexec hb dl_208 rfl (lv_at hl 1 rfl) ?_
    refine la_arg (k := 1) (k0 := 0) (k4 := 4) Z h hl rfl rfl hj (by decide) rfl dl_209 dl_210 dl_212 dl_213 dl_214 ?_
    refine la_arg (k := 2) (k0 := 0) (k4 := 4) Z h hl rfl rfl hj (by decide) rfl dl_215 dl_216 dl_218 dl_219 dl_220 ?_
    refine la_arg (k := 3) (k0 := 0) (k4 := 4) Z h hl rfl rfl hj (by decide) rfl dl_221 dl_222 dl_224 dl_225 dl_226 ?_
    refine lv_aload_n hexec hb dl_227 rfl (lv_at hl 3 rfl) ?_
    refine lc_W (n := 5) (As := [.ref x8, .int (xs (5 * j + 1)), .int (xs (5 * j + 2)), .int (xs (5 * j + 3)), .ref oa]) (rest := []) Z Mt lo_blind (h.pre2 Z) lk_symbol rfl (by decide) (by decide) (by decide) rfl hl.1 rfl (Nat.le_of_ble_eq_true rfl) dl_228 (by omega) (by omega) (fun t H1 LL ht hal hG hz hk hLL => ?_)
    have hh1 : LH D sa s h0 ρ P oa (Int32.toInt64 (y.1)) H1 (locs ++ LL) := h.nx am_le.rf (by rw [← ht]; exact hG.1.moved hal.symm) (fun z y => y) hz hk hLL (by rw [← ht]; exact hG.2.moved hal.symm)
    show W p l e room_1 s m #[Value.ref b] below meth c _ _ _ _ Q (F0 m 231 ls [.int 0])
    refine lv_istore (lv' := [(5, .int 0), (0, .ref b), (1, .ref x8), (2, .ref x9), (3, .ref oa), (4, .int (nI (5 * j)))]) hexec hb dl_231 hl (by decide) rfl (fun ls hl => ?_)
    refine lv_aload_n hexec hb dl_233 rfl (lv_at hl 3 rfl) ?_
    refine la_arg (k := 1) (k0 := 1) (k4 := 5) Z hh1 hl rfl rfl hj (by decide) rfl dl_234 dl_235 dl_237 dl_238 dl_239 ?_
    refine la_arg (k := 2) (k0 := 1) (k4 := 5) Z hh1 hl rfl rfl hj (by decide) rfl dl_240 dl_241 dl_243 dl_244 dl_245 ?_
    refine la_arg (k := 3) (k0 := 1) (k4 := 5) Z hh1 hl rfl rfl hj (by decide) rfl dl_246 dl_247 dl_249 dl_250 dl_251 ?_
    refine lc_V (ci := 9) (As := [.int (xs (5 * j + 1)), .int (xs (5 * j + 2)), .int (xs (5 * j + 3))]) (rest := []) (M := am_m194) Z hh1 e2 rfl rfl (by decide) (by rw [← h9]; exact hp_obj hT.w (by decide)) rfl rfl lk_194 rfl hl.1 rfl (Nat.le_of_ble_eq_true rfl) (by decide) dl_252 (by omega) (by omega) (fun H2 locs2 hh2 => ?_)
    show W p l e room_1 s m #[Value.ref b] below meth c _ _ _ _ Q (F0 m 255 ls [.int (y.1)])
    refine lv_istore (lv' := [(6, .int (y.1)), (5, .int 0), (0, .ref b), (1, .ref x8), (2, .ref x9), (3, .ref oa), (4, .int (nI (5 * j)))]) hexec hb dl_255 hl (by decide) rfl (fun ls hl => ?_)
    refine lv_aload_n hexec hb dl_257 rfl (lv_at hl 4 rfl) ?_
    have e3 := m_thrown (sa := sa) (f := g) (d := 399) (P := hp_sI P 900 0) hT.w
    rw [hI_eq, show ρ.1 9 = x9 from h9] at e3
    refine lc_V (ci := 9) (As := []) (rest := []) (M := am_m122) Z hh2 e3 rfl rfl (by decide) (by rw [← h9]; exact hp_obj hT.w (by decide)) rfl rfl lk_122 rfl hl.1 rfl (Nat.le_of_ble_eq_true rfl) (by decide) dl_258 (by omega) (by omega) (fun H3 locs3 hh3 => ?_)
    show W p l e room_1 s m #[Value.ref b] below meth c _ _ _ _ Q (F0 m 261 ls [.int 0])
    refine lv_iload hexec hb dl_261 (lv_at hl 1 rfl) ?_
    refine lv_icmp_eq (tgt := 268) hexec hb dl_263 (by decide) (fun _ => ?_) (fun z => absurd rfl z)
    refine lv_iload hexec hb dl_268 (lv_at hl 1 rfl) ?_
    refine lv_if_ne (tgt := 285) hexec hb dl_270 (by decide) (fun z => ?_) (fun z => ?_)
    · exact absurd rfl z
    · refine lv_aload_n hexec hb dl_273 rfl (lv_at hl 5 rfl) ?_
      refine lv_iconst (v := 0) hexec hb dl_274 (by decide) ?_
      refine la_out Z hh3 dl_275 ?_
      refine lv_iload hexec hb dl_276 (lv_at hl 0 rfl) ?_
      refine lv_i2l (v := Int32.toInt64 (y.1)) hexec hb dl_278 rfl ?_
      refine W.lcmp hexec hb dl_279 ?_
      refine lv_if_eq (tgt := 285) hexec hb dl_280 (by decide) (fun z => ?_) (fun z => absurd (by simp [lg_cmp]) z)
      refine lv_goto (tgt := 464) hexec hb dl_285 (by decide) ?_
      exact nx ρ _ _ H3 locs3 _ _ ls hh3 ⟨S, A, ws, flt, eu, hT.fm mfr.c, hMo.c, hA, by omega, by omega, by omega, by omega⟩ h8 h9 (lv_sub hl [2, 3, 4, 5, 6] rfl)
  · have hx : ∀ y, ¬ sy_at A.1 (xs (5 * j + 1)) (xs (5 * j + 2)) (xs (5 * j + 3)) y := fun y hy => hx ⟨y, hy⟩
    have te := te_112 (sa := sa) (f := g) (d := 396) hT (by omega) hx
    rw [h8] at te
    have Mt := wx_symbol l D s.heap.size sa q (oa := oa) (by rw [← h8]; exact hp_obj hT.w (by decide)) (tw_met l Z.2.2.2.2.2.1 D s.heap.size sa q (F := g + 1) (d := 399) (mi := 112) (M := am_m112) (as := [.ref x8, .int (xs (5 * j + 1)), .int (xs (5 * j + 2)), .int (xs (5 * j + 3))]) (k := 0) (i := 1) rfl (Nat.le_of_ble_eq_true rfl) te rfl (by decide) rfl (by decide) dx_112_18.1 dx_112_18.2.1 dx_112_18.2.2.1 dx_112_18.2.2.2.1 dx_112_18.2.2.2.2)
    have hm := hp_len_m (mfr.c (P := P) (v := 1))
    refine lv_aload_n hexec hb dl_208 rfl (lv_at hl 1 rfl) ?_
    refine la_arg (k := 1) (k0 := 0) (k4 := 4) Z h hl rfl rfl hj (by decide) rfl dl_209 dl_210 dl_212 dl_213 dl_214 ?_
    refine la_arg (k := 2) (k0 := 0) (k4 := 4) Z h hl rfl rfl hj (by decide) rfl dl_215 dl_216 dl_218 dl_219 dl_220 ?_
    refine la_arg (k := 3) (k0 := 0) (k4 := 4) Z h hl rfl rfl hj (by decide) rfl dl_221 dl_222 dl_224 dl_225 dl_226 ?_
    refine lv_aload_n hexec hb dl_227 rfl (lv_at hl 3 rfl) ?_
    refine lc_W (n := 5) (As := [.ref x8, .int (xs (5 * j + 1)), .int (xs (5 * j + 2)), .int (xs (5 * j + 3)), .ref oa]) (rest := []) Z Mt lx_blind (h.pre Z) lk_symbol rfl (by decide) (by decide) (by decide) rfl hl.1 rfl (Nat.le_of_ble_eq_true rfl) dl_228 (by omega) (by omega) (fun t H1 LL ht hal hG hz hk hLL => ?_)
    obtain ⟨hh1, hsz⟩ := h.up (by rw [← ht]; exact hG.moved hal.symm) hz hk hLL
    have e2 := m_symbol_no (sa := sa) (ρ := hp_up ρ H1.size ρ.2.2.2.2) (f := g + 1) (d := 397) (hp_up_w (k := ρ.2.2.2.2) hT.w hsz) hMo hx (by omega)
    rw [show (hp_up ρ H1.size ρ.2.2.2.2).1 9 = x9 from h9] at e2
    show W p l e room_1 s m #[Value.ref b] below meth c _ _ _ _ Q (F0 m 231 ls [.int 1])
    refine lv_istore (lv' := [(5, .int 1), (0, .ref b), (1, .ref x8), (2, .ref x9), (3, .ref oa), (4, .int (nI (5 * j)))]) hexec hb dl_231 hl (by decide) rfl (fun ls hl => ?_)
    refine lv_aload_n hexec hb dl_233 rfl (lv_at hl 3 rfl) ?_
    refine la_arg (k := 1) (k0 := 1) (k4 := 5) Z hh1 hl rfl rfl hj (by decide) rfl dl_234 dl_235 dl_237 dl_238 dl_239 ?_
    refine la_arg (k := 2) (k0 := 1) (k4 := 5) Z hh1 hl rfl rfl hj (by decide) rfl dl_240 dl_241 dl_243 dl_244 dl_245 ?_
    refine la_arg (k := 3) (k0 := 1) (k4 := 5) Z hh1 hl rfl rfl hj (by decide) rfl dl_246 dl_247 dl_249 dl_250 dl_251 ?_
    refine lc_V (ci := 9) (As := [.int (xs (5 * j + 1)), .int (xs (5 * j + 2)), .int (xs (5 * j + 3))]) (rest := []) (M := am_m194) Z hh1 e2 rfl rfl (by decide) (by rw [← h9]; exact hp_obj (hp_up_w (k := ρ.2.2.2.2) hT.w hsz) (by decide)) rfl rfl lk_194 rfl hl.1 rfl (Nat.le_of_ble_eq_true rfl) (by decide) dl_252 (by omega) (by omega) (fun H2 locs2 hh2 => ?_)
    show W p l e room_1 s m #[Value.ref b] below meth c _ _ _ _ Q (F0 m 255 ls [.int (0)])
    refine lv_istore (lv' := [(6, .int (0)), (5, .int 1), (0, .ref b), (1, .ref x8), (2, .ref x9), (3, .ref oa), (4, .int (nI (5 * j)))]) hexec hb dl_255 hl (by decide) rfl (fun ls hl => ?_)
    refine lv_aload_n hexec hb dl_257 rfl (lv_at hl 4 rfl) ?_
    have e3 := m_thrown (sa := sa) (f := g) (d := 399) (P := hp_sI P 900 1) (hp_up_w (k := ρ.2.2.2.2) hT.w hsz)
    rw [hI_eq, show (hp_up ρ H1.size ρ.2.2.2.2).1 9 = x9 from h9] at e3
    refine lc_V (ci := 9) (As := []) (rest := []) (M := am_m122) Z hh2 e3 rfl rfl (by decide) (by rw [← h9]; exact hp_obj (hp_up_w (k := ρ.2.2.2.2) hT.w hsz) (by decide)) rfl rfl lk_122 rfl hl.1 rfl (Nat.le_of_ble_eq_true rfl) (by decide) dl_258 (by omega) (by omega) (fun H3 locs3 hh3 => ?_)
    show W p l e room_1 s m #[Value.ref b] below meth c _ _ _ _ Q (F0 m 261 ls [.int 1])
    refine lv_iload hexec hb dl_261 (lv_at hl 1 rfl) ?_
    refine lv_icmp_eq (tgt := 268) hexec hb dl_263 (by decide) (fun _ => ?_) (fun z => absurd rfl z)
    refine lv_iload hexec hb dl_268 (lv_at hl 1 rfl) ?_
    refine lv_if_ne (tgt := 285) hexec hb dl_270 (by decide) (fun z => ?_) (fun z => ?_)
    · refine lv_goto (tgt := 464) hexec hb dl_285 (by decide) ?_
      exact nx ((hp_up ρ H1.size ρ.2.2.2.2)) _ _ H3 locs3 _ _ ls hh3 ⟨S, A, ws, flt, eu + 1, (hT.up hsz).fm mfr.c, hMo.c, hA, by omega, by omega, by omega, by omega⟩ h8 h9 (lv_sub hl [2, 3, 4, 5, 6] rfl)
    · exact absurd z (by decide)
