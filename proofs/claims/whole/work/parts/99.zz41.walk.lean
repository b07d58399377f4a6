/-! THE LAW, from its entry -/
section LWI
variable {p : Program} {l : Launch} {e : Env} {R : Room} {s : State} {m : MethodId} {args : Array Value} {below : List Frame} {meth : Method} {c : Code} {H : Heap} {locs : List Loc} {cells slots : Nat} {Q : State → Prop}
variable {cc : ByteArray} {pc : Nat} {ls : Array Slot} {rest st0 : List Value} {D : va_G} {B : Nat} {sa : Nat → Nat} {a : Nat} {σ σ' σ0 : am_S} {own : String}
theorem lc_I (hexec : p.tables.exec = Jvm.exec) (hb : c.code = cc) {nL : Nat} (hml : c.maxLocals = nL) (hown : s.vm.findClass own = some m.cls) (hts : ∀ w ∈ am_W, w.before args s = true) (hK : am_K D B sa s) (hR : am_R D B s σ H) (hS : am_Sv B σ0 σ s H locs)
    {F mi n d index : Nat} {As : List Value} {v : Option Value} {Mm : am_M} (hc : am_call B sa am_dfl am_tb F d mi (.ref a :: As) σ = some (v, σ')) (hM : am_tb mi = some Mm) (hhd : am_hd mi = some (n, false)) (hret : Mm.2.2.2.1 = none)
    (hl : Cond.methodLink own index Mm.1 ∈ am_W) (hnm : Mm.1.name = "<init>") (hn : As.length = n) (hsz : ls.size = nL) (hst : st0 = As.reverse ++ .ref a :: rest) (hW : (rest.map fun v => v.category).sum ≤ 8) (hfr : d + 1 ≤ R.frames) (hlo : 59 + 64 * d ≤ R.locals)
    (hdg : decode cc pc = .ok (.invokespecial index, 3)) (hf : cells + (σ'.1 - σ.1) ≤ R.cells ∧ slots + (σ'.2.2 - σ.2.2) ≤ R.slots)
    (kk : ∀ (H1 : Heap) (locs1 : List Loc), am_R D B s σ' H1 → am_Sv B σ0 σ' s H1 locs1 → W p l e R s m args below meth c H1 locs1 (cells + (σ'.1 - σ.1)) (slots + (σ'.2.2 - σ.2.2)) Q (F0 m (pc + 3) ls (v.toList ++ rest))) : W p l e R s m args below meth c H locs cells slots Q (F0 m pc ls st0) := by
  obtain ⟨hce, -, hin, -⟩ := am_cal_all mi Mm n false hM hhd
  have hroom : d + 1 ≤ R.frames ∧ 8 + (Mm.2.2.1 + 11) + 64 * d ≤ R.locals := ⟨hfr, by have := hce.2.2.2; omega⟩
  have hg := am_goodIn hce
  have hMt := am_call_ok l D B sa am_tb am_ok_all F d mi _ _ _ _ hc Mm hM
  have hle := am_call_mono d mi _ _ _ _ hc
  unfold am_Ct at hMt
  rw [hret] at hMt hg
  exact am_w_run (ar := (Value.ref a :: As).toArray) (va_runI (b := a) (As := As) (rest := rest) (n := n) ⟨hexec, hb, hml, hown, hts⟩ hMt (cwI n hts hg rfl rfl rfl (hts _ hce.2.1) (hts _ hl) (hts _ (hin rfl)) hnm hce.2.2.1 hroom) ⟨am_blind, fun U hU hWm => ⟨rfl, am_pre_at hR hK hS.S hU hWm⟩⟩ rfl hn hsz hst (lv_room hW) hdg hf) hS hle kk
end LWI
/-- the reference, made -/
theorem c_121 {n0 k B d F : Nat} {sa : Nat → Nat} {h0 : Nat → Option am_C} (hB : B ≤ n0) (hF : 400000 ≤ F) : ∃ P', am_call B sa am_dfl am_tb F (d + 5) 121 [.ref (n0 + 39)] (wS n0 h0 (clsL n0 (sa 0) ++ [.inr (9, am_dfl 9)]) k) = some (none, hp_S sa (rho0 n0 h0 (k + 726476)) P') ∧ mI io_S io_A [] (-1) P' ∧ mfr mp_S ip0 P' := by
  obtain ⟨g, rfl⟩ : ∃ g, F = g + 1 := ⟨F - 1, by omega⟩
  obtain ⟨P', e1, e2, e3, -⟩ := mc_end (sa := sa) (f := g) (d := d) (rho0_w (n0 := n0) (h0 := h0) (k := k + 726476) hB) (by omega)
  refine ⟨P', ?_, e2, e3⟩
  rw [c_121a hB rfl, wS_0 hB]
  exact e1
theorem io_len : hp_len ip0 = 1472 := by decide +kernel
set_option maxHeartbeats 8000000 in
theorem whole_start {p : Program} {e : Env} {s : State} {m : MethodId} {below : List Frame} {meth : Method} {c : Code} (l : Launch) (hl0 : l.stackTraces = false) {b L : Nat} {xs : Nat → Int32} (hL : L ≤ 2560) (C0 : lw_At p s m meth c b L xs) : W p l e room_1 s m #[Value.ref b] below meth c s.heap [] 0 0 (lw_Z below #[Value.ref b] s) (entryFrame m ([Value.ref b] : List Value).toArray 7) := by
  obtain ⟨hx, hb, hr, hml, hown, hts, hX, hbl, hlocks, hgv⟩ := C0
  obtain ⟨D, sa, q, hK, hxt, hst⟩ := ls_all hts hgv
  have htsW : ∀ w ∈ am_W, w.before #[Value.ref b] s = true := fun w hw => hts w (am_W_tbl hw)
  have Z : LZ p l s m meth c b L xs D sa q := ⟨⟨hx, hb, hr, hml, hown, hlocks⟩, htsW, ⟨hX, hbl⟩, hK, hxt, hl0, hL⟩
  obtain ⟨F, hF⟩ : ∃ F : Nat, 400000 ≤ F := ⟨400000, Nat.le_refl _⟩
  have hR0 : am_R D s.heap.size s (wS s.heap.size (ls_h sa) [] 0) s.heap := by
    refine ⟨rfl, Nat.le_refl _, fun z cc hc => ?_⟩
    have hc : (if z < s.heap.size then ls_h sa z else ([] : List am_C)[z - s.heap.size]?) = some cc := hc
    split at hc
    · unfold ls_h at hc
      split at hc
      · rename_i h1 h2; rw [h2]; exact (hst 0 cc hc).2.2
      · split at hc
        · rename_i h1 h2 h3; rw [h3]; exact (hst 1 cc hc).2.2
        · split at hc
          · rename_i h1 h2 h3 h4; rw [h4]; exact (hst 2 cc hc).2.2
          · split at hc
            · rename_i h1 h2 h3 h4 h5; rw [h5]; exact (hst 3 cc hc).2.2
            · split at hc
              · rename_i h1 h2 h3 h4 h5 h6; rw [h6]; exact (hst 4 cc hc).2.2
              · cases hc
    · cases hc
  have hS0 : am_Sv s.heap.size (wS s.heap.size (ls_h sa) [] 0) (wS s.heap.size (ls_h sa) [] 0) s s.heap [] := ⟨va_S.rf, am_le.rf⟩
  have hl := lv_entry ([.ref b]) (n := 7) (Nat.le_of_ble_eq_true rfl)
  rw [lg_entry_eq]
  generalize (lg_sl ([.ref b]) ++ List.replicate (7 - (lg_sl ([.ref b])).length) Slot.unset).toArray = ls at hl ⊢
  have hl : lv_has ls 7 [(0, .ref b)] := hl
  obtain ⟨i8, j8, l8, f8⟩ := am_base_ok.2.2.2.2 8 _ rfl
  obtain ⟨i9, j9, l9, f9⟩ := am_base_ok.2.2.2.2 9 _ rfl
  refine am_w_new (fs := am_dfl 8) (ci := 8) hx hb htsW hown hK.1 hR0 hS0 rfl lk_C8 i8 j8 l8 f8 (Nat.le_of_ble_eq_true rfl) (Nat.le_of_ble_eq_true rfl) dl_0 (fun H1 locs1 hR1 hS1 => ?_)
  have e1 : am_new (wS s.heap.size (ls_h sa) [] 0) 8 (am_dfl 8) = wS s.heap.size (ls_h sa) [.inr (8, am_dfl 8)] 10 := wS_newc (k := 0) (m := 10) rfl rfl
  rw [e1] at hR1 hS1
  refine lv_dup hx hb dl_3 rfl ?_
  have c1 := c_106 (sa := sa) (h0 := ls_h sa) (n0 := s.heap.size) (k := 10) (B := s.heap.size) (d := 95) (f := F) (Nat.le_refl _) (by omega)
  refine lc_I (As := []) (rest := [.ref (s.heap.size + 0)]) hx hb hml hown htsW hK hR1 hS1 c1 (Mm := am_m106) rfl rfl rfl lk_106 rfl rfl hl.1 rfl (Nat.le_of_ble_eq_true rfl) (Nat.le_of_ble_eq_true rfl) (Nat.le_of_ble_eq_true rfl) dl_4 ⟨?_, ?_⟩ (fun H2 locs2 hR2 hS2 => ?_)
  · show 0 + 1 + (s.heap.size + 39 - (s.heap.size + 1)) ≤ 601024
    omega
  · exact Nat.le_of_ble_eq_true rfl
  refine W.widen (k := 39) (n := 3177) (by show 0 + 1 + (s.heap.size + 39 - (s.heap.size + 1)) ≤ 39; omega) (Nat.le_of_ble_eq_true rfl) ?_
  refine lv_astore_n (lv' := [(1, .ref (s.heap.size + 0)), (0, .ref b)]) hx hb dl_7 rfl hl (by decide) rfl (fun ls hl => ?_)
  refine am_w_new (fs := am_dfl 9) (ci := 9) hx hb htsW hown hK.1 hR2 hS2 rfl lk_C9 i9 j9 l9 f9 (Nat.le_of_ble_eq_true rfl) (Nat.le_of_ble_eq_true rfl) dl_8 (fun H3 locs3 hR3 hS3 => ?_)
  have e3 : am_new (wS s.heap.size (ls_h sa) (clsL s.heap.size (sa 0)) (10 + 3167)) 9 (am_dfl 9) = wS s.heap.size (ls_h sa) (clsL s.heap.size (sa 0) ++ [.inr (9, am_dfl 9)]) 3230 := wS_newc (k := 10 + 3167) (m := 53) rfl rfl
  rw [e3] at hR3 hS3
  refine lv_dup hx hb dl_11 rfl ?_
  obtain ⟨P1, c2, hm1, hf1⟩ := c_121 (n0 := s.heap.size) (k := 3230) (B := s.heap.size) (d := 95) (sa := sa) (h0 := ls_h sa) (Nat.le_refl _) hF
  refine lc_I (As := []) (rest := [.ref (s.heap.size + 39)]) hx hb hml hown htsW hK hR3 hS3 c2 (Mm := am_m121) rfl rfl rfl lk_121 rfl rfl hl.1 rfl (Nat.le_of_ble_eq_true rfl) (Nat.le_of_ble_eq_true rfl) (Nat.le_of_ble_eq_true rfl) dl_12 ⟨?_, ?_⟩ (fun H4 locs4 hR4 hS4 => ?_)
  · show 39 + 1 + (s.heap.size + 76 - (s.heap.size + 40)) ≤ 601024
    omega
  · show 3177 + (am_dfl 9).length + (3230 + 726476 - 3230) ≤ 7293034
    rw [l9]
    show 3177 + 53 + (3230 + 726476 - 3230) ≤ 7293034
    omega
  refine W.widen (k := 76) (n := 729706) (by show 39 + 1 + (s.heap.size + 76 - (s.heap.size + 40)) ≤ 76; omega) (by show 3177 + (am_dfl 9).length + (3230 + 726476 - 3230) ≤ 729706; rw [l9]; show 3177 + 53 + (3230 + 726476 - 3230) ≤ 729706; omega) ?_
  refine lv_astore_n (lv' := [(2, .ref (s.heap.size + 39)), (1, .ref (s.heap.size + 0)), (0, .ref b)]) hx hb dl_15 rfl hl (by decide) rfl (fun ls hl => ?_)
  refine lv_iconst (v := 1) hx hb dl_16 (by decide) ?_
  have w0 : hp_w s.heap.size (rho0 s.heap.size (ls_h sa) 729706) := rho0_w (Nat.le_refl _)
  have hsz4 : H4.size = s.heap.size + 76 := hR4.1
  refine va_newaK (g := F0 m 17 ls [.int 1]) (atype := .long) hx hb (htsW _ lk_J) rfl dl_17 rfl (by decide) (N := 1) (by decide) (by decide) (Nat.le_of_ble_eq_true rfl) (Nat.le_of_ble_eq_true rfl) rfl (fun H5 cA g1 g2 g3 g4 _ => ?_)
  refine lv_astore_n (lv' := [(3, .ref H4.size), (2, .ref (s.heap.size + 39)), (1, .ref (s.heap.size + 0)), (0, .ref b)]) hx hb dl_19 rfl hl (by decide) rfl (fun ls hl => ?_)
  refine lv_iconst (v := nI (5 * 0)) hx hb dl_20 (by decide) ?_
  refine lv_istore (lv' := [(4, .int (nI (5 * 0))), (3, .ref H4.size), (2, .ref (s.heap.size + 39)), (1, .ref (s.heap.size + 0)), (0, .ref b)]) hx hb dl_21 hl (by decide) rfl (fun ls hl => ?_)
  have tI0 : tI s.heap.size sa io_S io_A [] (-1) (rho0 s.heap.size (ls_h sa) 729706) ip0 := io_tI (Nat.le_refl _) (fun j cc hc => ⟨(hst j cc hc).1, (hst j cc hc).2.1⟩)
  have hle : am_le (hp_S sa (rho0 s.heap.size (ls_h sa) 729706) P1) (hp_S sa (hp_up (rho0 s.heap.size (ls_h sa) 729706) (s.heap.size + 77) 729707) P1) := ⟨by show s.heap.size + 76 ≤ s.heap.size + 77; omega, by show 729706 ≤ 729707; decide, fun z y => Or.inr y⟩
  have hLH : LH D sa s (wS s.heap.size (ls_h sa) [] 0).2.1 (hp_up (rho0 s.heap.size (ls_h sa) 729706) (s.heap.size + 77) 729707) P1 H4.size 0 H5 locs4 := by
    refine ⟨⟨by rw [g2, hsz4]; rfl, by show s.heap.size ≤ s.heap.size + 77; omega, fun z cc hc => (hR4.2.2 z cc hc).kept (g3 z (hR4.2.2 z cc hc).lt)⟩, hS4.new hle (by rw [g2]; exact Nat.le_succ _) g3, ⟨by omega, by rw [hsz4]; show s.heap.size + 76 < s.heap.size + 77; omega, ?_⟩, ⟨cA, fun _ => 0, g4, ?_, rfl⟩⟩
    · show hp_h sa (rho0 s.heap.size (ls_h sa) 729706) P1 H4.size = none
      rw [hsz4, hp_h_j (fun cl hc e => by have := (w0.2.2.2.1 cl hc).2; rw [e] at this; exact Nat.lt_irrefl _ this) (fun r hr e => by have := (w0.2.2.2.2.1 r hr).2; rw [e] at this; exact Nat.lt_irrefl _ this)]
      exact w0.2.2.2.2.2 _ (Nat.le_refl _)
    · rw [g1, vp_cell_l]
      rfl
  have hLI : LI sa s.heap.size 0 (hp_up (rho0 s.heap.size (ls_h sa) 729706) (s.heap.size + 77) 729707) P1 (76 + 1) (729706 + 1) := by
    have hm := hp_len_m hf1
    have hl2 := io_len
    refine ⟨io_S, io_A, [], -1, 0, (tI0.fm hf1).up (by show s.heap.size + 76 ≤ s.heap.size + 77; omega), hm1, io_I, Nat.le_refl _, Nat.le_refl _, by omega, by omega⟩
  exact law_loop Z hF (L + 1) 0 _ P1 0 H5 locs4 _ _ ls (by omega) (by omega) hLH hLI rfl rfl (lv_sub hl [4, 3, 2, 1, 0] rfl)
