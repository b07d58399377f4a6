/-! THE LAW'S WRAPPERS -/
/-- the law's row of one long -/
def lo_at (oa : Nat) (v : Int64) (U : State) (H : Heap) : Prop := ∃ (cA : ClassId) (f : Nat → Int64), ArrOfT U cA .long ∧ H[oa]? = some (vp_cell cA (1, .inr (.inl f))) ∧ f 0 = v
theorem lo_at.kept {oa : Nat} {v : Int64} {U : State} {H H1 : Heap} (h : lo_at oa v U H) (k : H1[oa]? = H[oa]?) : lo_at oa v U H1 := by
  obtain ⟨cA, f, h1, h2, h3⟩ := h
  exact ⟨cA, f, h1, k.trans h2, h3⟩
theorem lo_at.moved {oa : Nat} {v : Int64} {u U : State} {H : Heap} (hvm : u.vm.Alike U.vm) (h : lo_at oa v u H) : lo_at oa v U H := by
  obtain ⟨cA, f, h1, h2, h3⟩ := h
  exact ⟨cA, f, arrOfT_moved hvm h1, h2, h3⟩
theorem lo_at.lt {oa : Nat} {v : Int64} {U : State} {H : Heap} (h : lo_at oa v U H) : oa < H.size := by
  obtain ⟨cA, f, h1, h2, h3⟩ := h
  exact (Array.getElem?_eq_some_iff.mp h2).1
def lo_Pre (D : va_G) (B : Nat) (sa : Nat → Nat) (σ : am_S) (q : Nat → Nat) (oa : Nat) (U : State) : Prop := lx_Pre D B sa σ q U ∧ ∃ v, lo_at oa v U U.heap
theorem lo_blind {D : va_G} {B oa : Nat} {sa q : Nat → Nat} {σ : am_S} {as : List Value} : FrameBlind (va_Pc as (lo_Pre D B sa σ q oa)) := fun a U g mk h => by
  obtain ⟨h1, h2, v, h3⟩ := h
  exact ⟨h1, lx_same (u := U) rfl rfl h2, v, h3.moved (u := U) (Vm.Alike.refl U.vm)⟩
theorem am_R.oth {D : va_G} {B a : Nat} {U : State} {σ : am_S} {H H1 : Heap} (h : am_R D B U σ H) (z : H1.size = H.size) (oq : ∀ q : Nat, q ≠ a → H1[q]? = H[q]?) (ha : σ.2.1 a = none) : am_R D B U σ H1 :=
  ⟨z.trans h.1, h.2.1, fun q c hc => (h.2.2 q c hc).kept (oq q fun e => by rw [e, ha] at hc; cases hc)⟩
theorem am_le.non {σ σ' : am_S} {a : Nat} (h : am_le σ σ') (h1 : a < σ.1) (h2 : σ.2.1 a = none) : σ'.2.1 a = none := by
  cases e : σ'.2.1 a with
  | none => rfl
  | some c =>
    rcases h.2.2 a (by rw [e]; exact fun z => by cases z) with z | z
    · omega
    · exact absurd h2 z
theorem dw_hypotheses_0 : decode cL_hypotheses 0 = .ok (.aload_n 2, 1) := by decide +kernel
theorem dw_hypotheses_1 : decode cL_hypotheses 1 = .ok (.iconst 0, 1) := by decide +kernel
theorem dw_hypotheses_2 : decode cL_hypotheses 2 = .ok (.aload_n 0, 1) := by decide +kernel
theorem dw_hypotheses_3 : decode cL_hypotheses 3 = .ok (.iload_n 1, 1) := by decide +kernel
theorem dw_hypotheses_4 : decode cL_hypotheses 4 = .ok (.invokevirtual 7, 3) := by decide +kernel
theorem dw_hypotheses_7 : decode cL_hypotheses 7 = .ok (.i2l, 1) := by decide +kernel
theorem dw_hypotheses_8 : decode cL_hypotheses 8 = .ok (.lastore, 1) := by decide +kernel
theorem dw_hypotheses_9 : decode cL_hypotheses 9 = .ok (.goto 6, 3) := by decide +kernel
theorem dw_hypotheses_12 : decode cL_hypotheses 12 = .ok (.astore_n 3, 1) := by decide +kernel
theorem dw_hypotheses_13 : decode cL_hypotheses 13 = .ok (.iconst 1, 1) := by decide +kernel
theorem dw_hypotheses_14 : decode cL_hypotheses 14 = .ok (.ireturn, 1) := by decide +kernel
theorem dw_hypotheses_15 : decode cL_hypotheses 15 = .ok (.iconst 0, 1) := by decide +kernel
theorem dw_hypotheses_16 : decode cL_hypotheses 16 = .ok (.ireturn, 1) := by decide +kernel
theorem dw_symbol_0 : decode cL_symbol 0 = .ok (.aload 4, 2) := by decide +kernel
theorem dw_symbol_2 : decode cL_symbol 2 = .ok (.iconst 0, 1) := by decide +kernel
theorem dw_symbol_3 : decode cL_symbol 3 = .ok (.aload_n 0, 1) := by decide +kernel
theorem dw_symbol_4 : decode cL_symbol 4 = .ok (.iload_n 1, 1) := by decide +kernel
theorem dw_symbol_5 : decode cL_symbol 5 = .ok (.iload_n 2, 1) := by decide +kernel
theorem dw_symbol_6 : decode cL_symbol 6 = .ok (.iload_n 3, 1) := by decide +kernel
theorem dw_symbol_7 : decode cL_symbol 7 = .ok (.invokevirtual 15, 3) := by decide +kernel
theorem dw_symbol_10 : decode cL_symbol 10 = .ok (.i2l, 1) := by decide +kernel
theorem dw_symbol_11 : decode cL_symbol 11 = .ok (.lastore, 1) := by decide +kernel
theorem dw_symbol_12 : decode cL_symbol 12 = .ok (.goto 7, 3) := by decide +kernel
theorem dw_symbol_15 : decode cL_symbol 15 = .ok (.astore 5, 2) := by decide +kernel
theorem dw_symbol_17 : decode cL_symbol 17 = .ok (.iconst 1, 1) := by decide +kernel
theorem dw_symbol_18 : decode cL_symbol 18 = .ok (.ireturn, 1) := by decide +kernel
theorem dw_symbol_19 : decode cL_symbol 19 = .ok (.iconst 0, 1) := by decide +kernel
theorem dw_symbol_20 : decode cL_symbol 20 = .ok (.ireturn, 1) := by decide +kernel
theorem dw_typeSymbol_0 : decode cL_typeSymbol 0 = .ok (.aload 5, 2) := by decide +kernel
theorem dw_typeSymbol_2 : decode cL_typeSymbol 2 = .ok (.iconst 0, 1) := by decide +kernel
theorem dw_typeSymbol_3 : decode cL_typeSymbol 3 = .ok (.aload_n 0, 1) := by decide +kernel
theorem dw_typeSymbol_4 : decode cL_typeSymbol 4 = .ok (.iload_n 1, 1) := by decide +kernel
theorem dw_typeSymbol_5 : decode cL_typeSymbol 5 = .ok (.iload_n 2, 1) := by decide +kernel
theorem dw_typeSymbol_6 : decode cL_typeSymbol 6 = .ok (.iload_n 3, 1) := by decide +kernel
theorem dw_typeSymbol_7 : decode cL_typeSymbol 7 = .ok (.iload 4, 2) := by decide +kernel
theorem dw_typeSymbol_9 : decode cL_typeSymbol 9 = .ok (.invokevirtual 19, 3) := by decide +kernel
theorem dw_typeSymbol_12 : decode cL_typeSymbol 12 = .ok (.i2l, 1) := by decide +kernel
theorem dw_typeSymbol_13 : decode cL_typeSymbol 13 = .ok (.lastore, 1) := by decide +kernel
theorem dw_typeSymbol_14 : decode cL_typeSymbol 14 = .ok (.goto 7, 3) := by decide +kernel
theorem dw_typeSymbol_17 : decode cL_typeSymbol 17 = .ok (.astore 6, 2) := by decide +kernel
theorem dw_typeSymbol_19 : decode cL_typeSymbol 19 = .ok (.iconst 1, 1) := by decide +kernel
theorem dw_typeSymbol_20 : decode cL_typeSymbol 20 = .ok (.ireturn, 1) := by decide +kernel
theorem dw_typeSymbol_21 : decode cL_typeSymbol 21 = .ok (.iconst 0, 1) := by decide +kernel
theorem dw_typeSymbol_22 : decode cL_typeSymbol 22 = .ok (.ireturn, 1) := by decide +kernel
theorem dw_cut_0 : decode cL_cut 0 = .ok (.aload_n 0, 1) := by decide +kernel
theorem dw_cut_1 : decode cL_cut 1 = .ok (.iload_n 1, 1) := by decide +kernel
theorem dw_cut_2 : decode cL_cut 2 = .ok (.invokevirtual 23, 3) := by decide +kernel
theorem dw_cut_5 : decode cL_cut 5 = .ok (.goto 6, 3) := by decide +kernel
theorem dw_cut_8 : decode cL_cut 8 = .ok (.astore_n 2, 1) := by decide +kernel
theorem dw_cut_9 : decode cL_cut 9 = .ok (.iconst 1, 1) := by decide +kernel
theorem dw_cut_10 : decode cL_cut 10 = .ok (.ireturn, 1) := by decide +kernel
theorem dw_cut_11 : decode cL_cut 11 = .ok (.iconst 0, 1) := by decide +kernel
theorem dw_cut_12 : decode cL_cut 12 = .ok (.ireturn, 1) := by decide +kernel
theorem dw_keep_0 : decode cL_keep 0 = .ok (.aload_n 0, 1) := by decide +kernel
theorem dw_keep_1 : decode cL_keep 1 = .ok (.iload_n 1, 1) := by decide +kernel
theorem dw_keep_2 : decode cL_keep 2 = .ok (.iload_n 2, 1) := by decide +kernel
theorem dw_keep_3 : decode cL_keep 3 = .ok (.invokevirtual 29, 3) := by decide +kernel
theorem dw_keep_6 : decode cL_keep 6 = .ok (.goto 12, 3) := by decide +kernel
theorem dw_keep_9 : decode cL_keep 9 = .ok (.astore_n 3, 1) := by decide +kernel
theorem dw_keep_10 : decode cL_keep 10 = .ok (.iconst 1, 1) := by decide +kernel
theorem dw_keep_11 : decode cL_keep 11 = .ok (.ireturn, 1) := by decide +kernel
theorem dw_keep_12 : decode cL_keep 12 = .ok (.astore_n 3, 1) := by decide +kernel
theorem dw_keep_13 : decode cL_keep 13 = .ok (.iconst 2, 1) := by decide +kernel
theorem dw_keep_14 : decode cL_keep 14 = .ok (.ireturn, 1) := by decide +kernel
theorem dw_keep_15 : decode cL_keep 15 = .ok (.astore_n 3, 1) := by decide +kernel
theorem dw_keep_16 : decode cL_keep 16 = .ok (.iconst 3, 1) := by decide +kernel
theorem dw_keep_17 : decode cL_keep 17 = .ok (.ireturn, 1) := by decide +kernel
theorem dw_keep_18 : decode cL_keep 18 = .ok (.iconst 0, 1) := by decide +kernel
theorem dw_keep_19 : decode cL_keep 19 = .ok (.ireturn, 1) := by decide +kernel
set_option maxHeartbeats 4000000 in
theorem wx_hypotheses (l : Launch) (D : va_G) (B : Nat) (sa q : Nat → Nat) {d a oa : Nat} {x1 : Int32} {σ : am_S} {fs : List Value} (ho : am_obj σ a 8 = some fs) (hM : vx_Met l am_m111.1 (.code am_m111.1 am_m111.2.1 am_m111.2.2.1 am_m111.2.2.2.1 :: am_W) { frames := d, cells := 1, slots := 6, locals := 64 * d } (va_Pc (.ref a :: [.int x1]) (lx_Pre D B sa σ q)) (fun _ _ _ _ => False) (tw_X D B σ (tw_E 0)) 1 6 (am_A B σ)) :
    Met l yL_hypotheses (.codeWith yL_hypotheses cL_hypotheses 4 (some .int) [(0, 9, 12, 13)] :: am_W) { frames := d + 1, cells := 1, slots := 6, locals := 64 * (d + 1) } (va_Pc [.ref a, .int x1, .ref oa] (lx_Pre D B sa σ q)) (fun _ st oc t => oc = .returned (some (.int 1)) ∧ am_R D B t (t.heap.size, σ.2.1, σ.2.2) t.heap ∧ va_F (am_A B σ) st t) 1 6 (am_A B σ) := by
  refine va_MetW (cc := cL_hypotheses) (maxL := 4) (ret := some .int) (hh := [(0, 9, 12, 13)]) (by decide) rfl ?_
  intro p e s m args below meth c s₁ Bd hml hv
  obtain ⟨rfl, ⟨hR, hK⟩, hxt⟩ := hv
  have hexec := Bd.exec
  have hb := Bd.bytes
  have hr := Bd.returns
  have hlocks := Bd.notSynchronized
  have hts0 := atoms_spec (ws := .codeWith yL_hypotheses cL_hypotheses 4 (some .int) [(0, 9, 12, 13)] :: am_W) Bd.pre
  have hts : ∀ w ∈ am_W, w.before ([.ref a, .int x1, .ref oa] : List Value).toArray s = true := fun w hw => hts0 w (List.mem_cons_of_mem _ hw)
  have hown : s.vm.findClass RL = some m.cls := findClass_of_methodNamed Bd.named
  have hl0 := lv_entry ([.ref a, .int x1, .ref oa] : List Value) (n := 4) (Nat.le_of_ble_eq_true rfl)
  rw [lg_entry_eq]
  generalize (lg_sl ([.ref a, .int x1, .ref oa] : List Value) ++ List.replicate (4 - (lg_sl ([.ref a, .int x1, .ref oa] : List Value)).length) Slot.unset).toArray = ls at hl0 ⊢
  have hl : lv_has ls 4 [(0, .ref a), (1, .int x1), (2, .ref oa)] := hl0
  have htab := vx_table (x := yL_hypotheses) Bd (hts0 _ List.mem_cons_self)
  obtain ⟨hce, -, hin, hsel⟩ := am_cal_all 111 am_m111 1 false rfl rfl
  refine lv_aload_n hexec hb dw_hypotheses_0 rfl (lv_at hl 2 rfl) ?_
  refine lv_iconst (v := 0) hexec hb dw_hypotheses_1 (by decide) ?_
  refine lv_aload_n hexec hb dw_hypotheses_2 rfl (lv_at hl 0 rfl) ?_
  refine lv_iload_n hexec hb dw_hypotheses_3 rfl (lv_at hl 1 rfl) ?_
  refine tw_w (σ0 := σ) (own := RL) (rest := [.int 0, .ref oa]) (As := [.int x1]) (ci := 8) (M := am_m111) hexec hb hml hown hts hK hxt hR ⟨va_S.rf, am_le.rf⟩ hM hce ho rfl rfl lk_111 (hin rfl) (hsel rfl (by decide)) rfl hl.1 rfl (Nat.le_of_ble_eq_true rfl) rfl rfl dw_hypotheses_4 ⟨Nat.le_refl _, Nat.le_refl _⟩ (fun H1 locs1 q9 ce hR1 hS1 hcl hcv hcc => ?_)
  refine vx_catch (own := RL) (name := tw_E 0) (E := tw_E 0) hown [] ⟨0, 9, 12, 13⟩ [] htab (fun z hz => by cases hz) (by decide) (by decide) (hts _ lk_E0) (va_Nw.use rfl (hxt.1 (.castable (tw_E 0) (tw_E 0)) (by decide))) hcl hcv hcc ?_
  refine lv_astore_n (lv' := [(3, .ref q9), (0, .ref a), (1, .int x1), (2, .ref oa)]) hexec hb dw_hypotheses_12 rfl hl (by decide) rfl (fun ls hl => ?_)
  refine lv_iconst (v := 1) hexec hb dw_hypotheses_13 (by decide) ?_
  exact W.iret hexec hb hr (fun t ht hW => ⟨rfl, ⟨by rw [ht], by rw [ht]; exact hR1.2.1, fun z c hc => by rw [ht]; exact (hR1.2.2 z c hc).moved hW.alike⟩, hS1.F ht⟩) hS1.2.2 dw_hypotheses_14
set_option maxHeartbeats 4000000 in
theorem wn_hypotheses (l : Launch) (D : va_G) (B : Nat) (sa q : Nat → Nat) {F d a oa : Nat} {x1 v : Int32} {σ : am_S} {fs : List Value} (ho : am_obj σ a 8 = some fs) (hc : am_call B sa am_dfl am_tb F d 111 (.ref a :: [.int x1]) σ = some (some (.int v), σ)) (h1 : B ≤ oa) (h2 : oa < σ.1) (h3 : σ.2.1 oa = none) :
    Met l yL_hypotheses (.codeWith yL_hypotheses cL_hypotheses 4 (some .int) [(0, 9, 12, 13)] :: am_W) { frames := d + 1, cells := 0, slots := 0, locals := 64 * (d + 1) } (va_Pc [.ref a, .int x1, .ref oa] (lo_Pre D B sa σ q oa)) (fun _ st oc t => oc = .returned (some (.int 0)) ∧ (am_R D B t σ t.heap ∧ lo_at oa v.toInt64 t t.heap) ∧ va_F (fun z => am_A B σ z ∨ z = oa) st t) 0 0 (fun z => am_A B σ z ∨ z = oa) := by
  refine va_MetW (cc := cL_hypotheses) (maxL := 4) (ret := some .int) (hh := [(0, 9, 12, 13)]) (by decide) rfl ?_
  intro p e s m args below meth c s₁ Bd hml hv
  obtain ⟨rfl, ⟨⟨hR, hK⟩, hxt⟩, v0, hlo⟩ := hv
  have hexec := Bd.exec
  have hb := Bd.bytes
  have hr := Bd.returns
  have hlocks := Bd.notSynchronized
  have hts0 := atoms_spec (ws := .codeWith yL_hypotheses cL_hypotheses 4 (some .int) [(0, 9, 12, 13)] :: am_W) Bd.pre
  have hts : ∀ w ∈ am_W, w.before ([.ref a, .int x1, .ref oa] : List Value).toArray s = true := fun w hw => hts0 w (List.mem_cons_of_mem _ hw)
  have hown : s.vm.findClass RL = some m.cls := findClass_of_methodNamed Bd.named
  have hl0 := lv_entry ([.ref a, .int x1, .ref oa] : List Value) (n := 4) (Nat.le_of_ble_eq_true rfl)
  rw [lg_entry_eq]
  generalize (lg_sl ([.ref a, .int x1, .ref oa] : List Value) ++ List.replicate (4 - (lg_sl ([.ref a, .int x1, .ref oa] : List Value)).length) Slot.unset).toArray = ls at hl0 ⊢
  have hl : lv_has ls 4 [(0, .ref a), (1, .int x1), (2, .ref oa)] := hl0
  obtain ⟨hce, -, hin, hsel⟩ := am_cal_all 111 am_m111 1 false rfl rfl
  have hsz : s.heap.size = σ.1 := hR.1
  have hnA : ¬ am_A B σ oa := fun z => z.2.elim (fun y => by omega) (fun y => y h3)
  refine lv_aload_n hexec hb dw_hypotheses_0 rfl (lv_at hl 2 rfl) ?_
  refine lv_iconst (v := 0) hexec hb dw_hypotheses_1 (by decide) ?_
  refine lv_aload_n hexec hb dw_hypotheses_2 rfl (lv_at hl 0 rfl) ?_
  refine lv_iload_n hexec hb dw_hypotheses_3 rfl (lv_at hl 1 rfl) ?_
  refine am_w_callV (σ0 := σ) (σ' := σ) (own := RL) (rest := [.int 0, .ref oa]) (As := [.int x1]) (ci := 8) (M := am_m111) (v := some (.int v)) hexec hb hml hown hts hK hR ⟨va_S.rf, am_le.rf⟩ am_le.rf (am_call_ok l D B sa am_tb am_ok_all F d 111 _ σ _ σ hc am_m111 rfl) hce ho rfl rfl (Or.inl lk_111) (hin rfl) (hsel rfl (by decide)) rfl hl.1 rfl (Nat.le_of_ble_eq_true rfl) rfl rfl dw_hypotheses_4 ⟨by show 0 + (σ.1 - σ.1) ≤ 0; omega, by show 0 + (σ.2.2 - σ.2.2) ≤ 0; omega⟩ (fun H1 locs1 hR1 hS1 => ?_)
  refine W.widen (k := 0) (n := 0) (by omega) (by omega) ?_
  refine lv_i2l (v := v.toInt64) hexec hb dw_hypotheses_7 rfl ?_
  obtain ⟨cA, f, g1, g2, g3⟩ := hlo
  have g2' : H1[oa]? = some (vp_cell cA (1, .inr (.inl f))) := (hS1.1.2.1 oa (by omega) hnA).trans g2
  refine W.last hexec hb g2' (g1 1 (fun j => .long (f j))) (fun z => by cases z) (by show ¬ ((0 : Int32) < 0 ∨ (arrV _ _ _).slots.size ≤ _); rw [arrV_size]; exact (by decide : ¬ ((0 : Int32) < 0 ∨ 1 ≤ Int32.toNatClampNeg 0))) rfl rfl dw_hypotheses_8 (fun H2 e2 z2 oq => ?_)
  refine lv_goto (tgt := 15) hexec hb dw_hypotheses_9 rfl ?_
  refine lv_iconst (v := 0) hexec hb dw_hypotheses_15 (by decide) ?_
  have hS2 : va_S (fun z => am_A B σ z ∨ z = oa) s.heap H2 (locs1 ++ [⟨oa, (0 : Int32).toNatClampNeg⟩]) := va_S.put ⟨hS1.1.1, fun z y1 y2 => hS1.1.2.1 z y1 fun y => y2 (Or.inl y), fun z hz => Or.inl (hS1.1.2.2 z hz)⟩ z2 oq (Or.inr rfl)
  have hR2 : am_R D B s σ H2 := hR1.oth z2 oq h3
  have hlo2 : lo_at oa v.toInt64 s H2 := ⟨cA, vp_updL f 0 v.toInt64, g1, by
    rw [e2]
    congr 1, by simp [vp_updL]⟩
  exact W.iret hexec hb hr (fun t ht hW => ⟨rfl, ⟨by rw [ht]; exact hR2.moved hW.alike, by rw [ht]; exact hlo2.moved hW.alike⟩, hS2.F ht⟩) hS2.2.2 dw_hypotheses_16
set_option maxHeartbeats 4000000 in
theorem wx_symbol (l : Launch) (D : va_G) (B : Nat) (sa q : Nat → Nat) {d a oa : Nat} {x1 x2 x3 : Int32} {σ : am_S} {fs : List Value} (ho : am_obj σ a 8 = some fs) (hM : vx_Met l am_m112.1 (.code am_m112.1 am_m112.2.1 am_m112.2.2.1 am_m112.2.2.2.1 :: am_W) { frames := d, cells := 1, slots := 6, locals := 64 * d } (va_Pc (.ref a :: [.int x1, .int x2, .int x3]) (lx_Pre D B sa σ q)) (fun _ _ _ _ => False) (tw_X D B σ (tw_E 0)) 1 6 (am_A B σ)) :
    Met l yL_symbol (.codeWith yL_symbol cL_symbol 6 (some .int) [(0, 12, 15, 13)] :: am_W) { frames := d + 1, cells := 1, slots := 6, locals := 64 * (d + 1) } (va_Pc [.ref a, .int x1, .int x2, .int x3, .ref oa] (lx_Pre D B sa σ q)) (fun _ st oc t => oc = .returned (some (.int 1)) ∧ am_R D B t (t.heap.size, σ.2.1, σ.2.2) t.heap ∧ va_F (am_A B σ) st t) 1 6 (am_A B σ) := by
  refine va_MetW (cc := cL_symbol) (maxL := 6) (ret := some .int) (hh := [(0, 12, 15, 13)]) (by decide) rfl ?_
  intro p e s m args below meth c s₁ Bd hml hv
  obtain ⟨rfl, ⟨hR, hK⟩, hxt⟩ := hv
  have hexec := Bd.exec
  have hb := Bd.bytes
  have hr := Bd.returns
  have hlocks := Bd.notSynchronized
  have hts0 := atoms_spec (ws := .codeWith yL_symbol cL_symbol 6 (some .int) [(0, 12, 15, 13)] :: am_W) Bd.pre
  have hts : ∀ w ∈ am_W, w.before ([.ref a, .int x1, .int x2, .int x3, .ref oa] : List Value).toArray s = true := fun w hw => hts0 w (List.mem_cons_of_mem _ hw)
  have hown : s.vm.findClass RL = some m.cls := findClass_of_methodNamed Bd.named
  have hl0 := lv_entry ([.ref a, .int x1, .int x2, .int x3, .ref oa] : List Value) (n := 6) (Nat.le_of_ble_eq_true rfl)
  rw [lg_entry_eq]
  generalize (lg_sl ([.ref a, .int x1, .int x2, .int x3, .ref oa] : List Value) ++ List.replicate (6 - (lg_sl ([.ref a, .int x1, .int x2, .int x3, .ref oa] : List Value)).length) Slot.unset).toArray = ls at hl0 ⊢
  have hl : lv_has ls 6 [(0, .ref a), (1, .int x1), (2, .int x2), (3, .int x3), (4, .ref oa)] := hl0
  have htab := vx_table (x := yL_symbol) Bd (hts0 _ List.mem_cons_self)
  obtain ⟨hce, -, hin, hsel⟩ := am_cal_all 112 am_m112 3 false rfl rfl
  refine lv_aload hexec hb dw_symbol_0 (lv_at hl 4 rfl) ?_
  refine lv_iconst (v := 0) hexec hb dw_symbol_2 (by decide) ?_
  refine lv_aload_n hexec hb dw_symbol_3 rfl (lv_at hl 0 rfl) ?_
  refine lv_iload_n hexec hb dw_symbol_4 rfl (lv_at hl 1 rfl) ?_
  refine lv_iload_n hexec hb dw_symbol_5 rfl (lv_at hl 2 rfl) ?_
  refine lv_iload_n hexec hb dw_symbol_6 rfl (lv_at hl 3 rfl) ?_
  refine tw_w (σ0 := σ) (own := RL) (rest := [.int 0, .ref oa]) (As := [.int x1, .int x2, .int x3]) (ci := 8) (M := am_m112) hexec hb hml hown hts hK hxt hR ⟨va_S.rf, am_le.rf⟩ hM hce ho rfl rfl lk_112 (hin rfl) (hsel rfl (by decide)) rfl hl.1 rfl (Nat.le_of_ble_eq_true rfl) rfl rfl dw_symbol_7 ⟨Nat.le_refl _, Nat.le_refl _⟩ (fun H1 locs1 q9 ce hR1 hS1 hcl hcv hcc => ?_)
  refine vx_catch (own := RL) (name := tw_E 0) (E := tw_E 0) hown [] ⟨0, 12, 15, 13⟩ [] htab (fun z hz => by cases hz) (by decide) (by decide) (hts _ lk_E0) (va_Nw.use rfl (hxt.1 (.castable (tw_E 0) (tw_E 0)) (by decide))) hcl hcv hcc ?_
  refine lv_astore (lv' := [(5, .ref q9), (0, .ref a), (1, .int x1), (2, .int x2), (3, .int x3), (4, .ref oa)]) hexec hb dw_symbol_15 hl (by decide) rfl (fun ls hl => ?_)
  refine lv_iconst (v := 1) hexec hb dw_symbol_17 (by decide) ?_
  exact W.iret hexec hb hr (fun t ht hW => ⟨rfl, ⟨by rw [ht], by rw [ht]; exact hR1.2.1, fun z c hc => by rw [ht]; exact (hR1.2.2 z c hc).moved hW.alike⟩, hS1.F ht⟩) hS1.2.2 dw_symbol_18
set_option maxHeartbeats 4000000 in
theorem wn_symbol (l : Launch) (D : va_G) (B : Nat) (sa q : Nat → Nat) {F d a oa : Nat} {x1 x2 x3 v : Int32} {σ : am_S} {fs : List Value} (ho : am_obj σ a 8 = some fs) (hc : am_call B sa am_dfl am_tb F d 112 (.ref a :: [.int x1, .int x2, .int x3]) σ = some (some (.int v), σ)) (h1 : B ≤ oa) (h2 : oa < σ.1) (h3 : σ.2.1 oa = none) :
    Met l yL_symbol (.codeWith yL_symbol cL_symbol 6 (some .int) [(0, 12, 15, 13)] :: am_W) { frames := d + 1, cells := 0, slots := 0, locals := 64 * (d + 1) } (va_Pc [.ref a, .int x1, .int x2, .int x3, .ref oa] (lo_Pre D B sa σ q oa)) (fun _ st oc t => oc = .returned (some (.int 0)) ∧ (am_R D B t σ t.heap ∧ lo_at oa v.toInt64 t t.heap) ∧ va_F (fun z => am_A B σ z ∨ z = oa) st t) 0 0 (fun z => am_A B σ z ∨ z = oa) := by
  refine va_MetW (cc := cL_symbol) (maxL := 6) (ret := some .int) (hh := [(0, 12, 15, 13)]) (by decide) rfl ?_
  intro p e s m args below meth c s₁ Bd hml hv
  obtain ⟨rfl, ⟨⟨hR, hK⟩, hxt⟩, v0, hlo⟩ := hv
  have hexec := Bd.exec
  have hb := Bd.bytes
  have hr := Bd.returns
  have hlocks := Bd.notSynchronized
  have hts0 := atoms_spec (ws := .codeWith yL_symbol cL_symbol 6 (some .int) [(0, 12, 15, 13)] :: am_W) Bd.pre
  have hts : ∀ w ∈ am_W, w.before ([.ref a, .int x1, .int x2, .int x3, .ref oa] : List Value).toArray s = true := fun w hw => hts0 w (List.mem_cons_of_mem _ hw)
  have hown : s.vm.findClass RL = some m.cls := findClass_of_methodNamed Bd.named
  have hl0 := lv_entry ([.ref a, .int x1, .int x2, .int x3, .ref oa] : List Value) (n := 6) (Nat.le_of_ble_eq_true rfl)
  rw [lg_entry_eq]
  generalize (lg_sl ([.ref a, .int x1, .int x2, .int x3, .ref oa] : List Value) ++ List.replicate (6 - (lg_sl ([.ref a, .int x1, .int x2, .int x3, .ref oa] : List Value)).length) Slot.unset).toArray = ls at hl0 ⊢
  have hl : lv_has ls 6 [(0, .ref a), (1, .int x1), (2, .int x2), (3, .int x3), (4, .ref oa)] := hl0
  obtain ⟨hce, -, hin, hsel⟩ := am_cal_all 112 am_m112 3 false rfl rfl
  have hsz : s.heap.size = σ.1 := hR.1
  have hnA : ¬ am_A B σ oa := fun z => z.2.elim (fun y => by omega) (fun y => y h3)
  refine lv_aload hexec hb dw_symbol_0 (lv_at hl 4 rfl) ?_
  refine lv_iconst (v := 0) hexec hb dw_symbol_2 (by decide) ?_
  refine lv_aload_n hexec hb dw_symbol_3 rfl (lv_at hl 0 rfl) ?_
  refine lv_iload_n hexec hb dw_symbol_4 rfl (lv_at hl 1 rfl) ?_
  refine lv_iload_n hexec hb dw_symbol_5 rfl (lv_at hl 2 rfl) ?_
  refine lv_iload_n hexec hb dw_symbol_6 rfl (lv_at hl 3 rfl) ?_
  refine am_w_callV (σ0 := σ) (σ' := σ) (own := RL) (rest := [.int 0, .ref oa]) (As := [.int x1, .int x2, .int x3]) (ci := 8) (M := am_m112) (v := some (.int v)) hexec hb hml hown hts hK hR ⟨va_S.rf, am_le.rf⟩ am_le.rf (am_call_ok l D B sa am_tb am_ok_all F d 112 _ σ _ σ hc am_m112 rfl) hce ho rfl rfl (Or.inl lk_112) (hin rfl) (hsel rfl (by decide)) rfl hl.1 rfl (Nat.le_of_ble_eq_true rfl) rfl rfl dw_symbol_7 ⟨by show 0 + (σ.1 - σ.1) ≤ 0; omega, by show 0 + (σ.2.2 - σ.2.2) ≤ 0; omega⟩ (fun H1 locs1 hR1 hS1 => ?_)
  refine W.widen (k := 0) (n := 0) (by omega) (by omega) ?_
  refine lv_i2l (v := v.toInt64) hexec hb dw_symbol_10 rfl ?_
  obtain ⟨cA, f, g1, g2, g3⟩ := hlo
  have g2' : H1[oa]? = some (vp_cell cA (1, .inr (.inl f))) := (hS1.1.2.1 oa (by omega) hnA).trans g2
  refine W.last hexec hb g2' (g1 1 (fun j => .long (f j))) (fun z => by cases z) (by show ¬ ((0 : Int32) < 0 ∨ (arrV _ _ _).slots.size ≤ _); rw [arrV_size]; exact (by decide : ¬ ((0 : Int32) < 0 ∨ 1 ≤ Int32.toNatClampNeg 0))) rfl rfl dw_symbol_11 (fun H2 e2 z2 oq => ?_)
  refine lv_goto (tgt := 19) hexec hb dw_symbol_12 rfl ?_
  refine lv_iconst (v := 0) hexec hb dw_symbol_19 (by decide) ?_
  have hS2 : va_S (fun z => am_A B σ z ∨ z = oa) s.heap H2 (locs1 ++ [⟨oa, (0 : Int32).toNatClampNeg⟩]) := va_S.put ⟨hS1.1.1, fun z y1 y2 => hS1.1.2.1 z y1 fun y => y2 (Or.inl y), fun z hz => Or.inl (hS1.1.2.2 z hz)⟩ z2 oq (Or.inr rfl)
  have hR2 : am_R D B s σ H2 := hR1.oth z2 oq h3
  have hlo2 : lo_at oa v.toInt64 s H2 := ⟨cA, vp_updL f 0 v.toInt64, g1, by
    rw [e2]
    congr 1, by simp [vp_updL]⟩
  exact W.iret hexec hb hr (fun t ht hW => ⟨rfl, ⟨by rw [ht]; exact hR2.moved hW.alike, by rw [ht]; exact hlo2.moved hW.alike⟩, hS2.F ht⟩) hS2.2.2 dw_symbol_20
set_option maxHeartbeats 4000000 in
theorem wx_typeSymbol (l : Launch) (D : va_G) (B : Nat) (sa q : Nat → Nat) {d a oa : Nat} {x1 x2 x3 x4 : Int32} {σ : am_S} {fs : List Value} (ho : am_obj σ a 8 = some fs) (hM : vx_Met l am_m113.1 (.code am_m113.1 am_m113.2.1 am_m113.2.2.1 am_m113.2.2.2.1 :: am_W) { frames := d, cells := 1, slots := 6, locals := 64 * d } (va_Pc (.ref a :: [.int x1, .int x2, .int x3, .int x4]) (lx_Pre D B sa σ q)) (fun _ _ _ _ => False) (tw_X D B σ (tw_E 0)) 1 6 (am_A B σ)) :
    Met l yL_typeSymbol (.codeWith yL_typeSymbol cL_typeSymbol 7 (some .int) [(0, 14, 17, 13)] :: am_W) { frames := d + 1, cells := 1, slots := 6, locals := 64 * (d + 1) } (va_Pc [.ref a, .int x1, .int x2, .int x3, .int x4, .ref oa] (lx_Pre D B sa σ q)) (fun _ st oc t => oc = .returned (some (.int 1)) ∧ am_R D B t (t.heap.size, σ.2.1, σ.2.2) t.heap ∧ va_F (am_A B σ) st t) 1 6 (am_A B σ) := by
  refine va_MetW (cc := cL_typeSymbol) (maxL := 7) (ret := some .int) (hh := [(0, 14, 17, 13)]) (by decide) rfl ?_
  intro p e s m args below meth c s₁ Bd hml hv
  obtain ⟨rfl, ⟨hR, hK⟩, hxt⟩ := hv
  have hexec := Bd.exec
  have hb := Bd.bytes
  have hr := Bd.returns
  have hlocks := Bd.notSynchronized
  have hts0 := atoms_spec (ws := .codeWith yL_typeSymbol cL_typeSymbol 7 (some .int) [(0, 14, 17, 13)] :: am_W) Bd.pre
  have hts : ∀ w ∈ am_W, w.before ([.ref a, .int x1, .int x2, .int x3, .int x4, .ref oa] : List Value).toArray s = true := fun w hw => hts0 w (List.mem_cons_of_mem _ hw)
  have hown : s.vm.findClass RL = some m.cls := findClass_of_methodNamed Bd.named
  have hl0 := lv_entry ([.ref a, .int x1, .int x2, .int x3, .int x4, .ref oa] : List Value) (n := 7) (Nat.le_of_ble_eq_true rfl)
  rw [lg_entry_eq]
  generalize (lg_sl ([.ref a, .int x1, .int x2, .int x3, .int x4, .ref oa] : List Value) ++ List.replicate (7 - (lg_sl ([.ref a, .int x1, .int x2, .int x3, .int x4, .ref oa] : List Value)).length) Slot.unset).toArray = ls at hl0 ⊢
  have hl : lv_has ls 7 [(0, .ref a), (1, .int x1), (2, .int x2), (3, .int x3), (4, .int x4), (5, .ref oa)] := hl0
  have htab := vx_table (x := yL_typeSymbol) Bd (hts0 _ List.mem_cons_self)
  obtain ⟨hce, -, hin, hsel⟩ := am_cal_all 113 am_m113 4 false rfl rfl
  refine lv_aload hexec hb dw_typeSymbol_0 (lv_at hl 5 rfl) ?_
  refine lv_iconst (v := 0) hexec hb dw_typeSymbol_2 (by decide) ?_
  refine lv_aload_n hexec hb dw_typeSymbol_3 rfl (lv_at hl 0 rfl) ?_
  refine lv_iload_n hexec hb dw_typeSymbol_4 rfl (lv_at hl 1 rfl) ?_
  refine lv_iload_n hexec hb dw_typeSymbol_5 rfl (lv_at hl 2 rfl) ?_
  refine lv_iload_n hexec hb dw_typeSymbol_6 rfl (lv_at hl 3 rfl) ?_
  refine lv_iload hexec hb dw_typeSymbol_7 (lv_at hl 4 rfl) ?_
  refine tw_w (σ0 := σ) (own := RL) (rest := [.int 0, .ref oa]) (As := [.int x1, .int x2, .int x3, .int x4]) (ci := 8) (M := am_m113) hexec hb hml hown hts hK hxt hR ⟨va_S.rf, am_le.rf⟩ hM hce ho rfl rfl lk_113 (hin rfl) (hsel rfl (by decide)) rfl hl.1 rfl (Nat.le_of_ble_eq_true rfl) rfl rfl dw_typeSymbol_9 ⟨Nat.le_refl _, Nat.le_refl _⟩ (fun H1 locs1 q9 ce hR1 hS1 hcl hcv hcc => ?_)
  refine vx_catch (own := RL) (name := tw_E 0) (E := tw_E 0) hown [] ⟨0, 14, 17, 13⟩ [] htab (fun z hz => by cases hz) (by decide) (by decide) (hts _ lk_E0) (va_Nw.use rfl (hxt.1 (.castable (tw_E 0) (tw_E 0)) (by decide))) hcl hcv hcc ?_
  refine lv_astore (lv' := [(6, .ref q9), (0, .ref a), (1, .int x1), (2, .int x2), (3, .int x3), (4, .int x4), (5, .ref oa)]) hexec hb dw_typeSymbol_17 hl (by decide) rfl (fun ls hl => ?_)
  refine lv_iconst (v := 1) hexec hb dw_typeSymbol_19 (by decide) ?_
  exact W.iret hexec hb hr (fun t ht hW => ⟨rfl, ⟨by rw [ht], by rw [ht]; exact hR1.2.1, fun z c hc => by rw [ht]; exact (hR1.2.2 z c hc).moved hW.alike⟩, hS1.F ht⟩) hS1.2.2 dw_typeSymbol_20
set_option maxHeartbeats 4000000 in
theorem wn_typeSymbol (l : Launch) (D : va_G) (B : Nat) (sa q : Nat → Nat) {F d a oa : Nat} {x1 x2 x3 x4 v : Int32} {σ : am_S} {fs : List Value} (ho : am_obj σ a 8 = some fs) (hc : am_call B sa am_dfl am_tb F d 113 (.ref a :: [.int x1, .int x2, .int x3, .int x4]) σ = some (some (.int v), σ)) (h1 : B ≤ oa) (h2 : oa < σ.1) (h3 : σ.2.1 oa = none) :
    Met l yL_typeSymbol (.codeWith yL_typeSymbol cL_typeSymbol 7 (some .int) [(0, 14, 17, 13)] :: am_W) { frames := d + 1, cells := 0, slots := 0, locals := 64 * (d + 1) } (va_Pc [.ref a, .int x1, .int x2, .int x3, .int x4, .ref oa] (lo_Pre D B sa σ q oa)) (fun _ st oc t => oc = .returned (some (.int 0)) ∧ (am_R D B t σ t.heap ∧ lo_at oa v.toInt64 t t.heap) ∧ va_F (fun z => am_A B σ z ∨ z = oa) st t) 0 0 (fun z => am_A B σ z ∨ z = oa) := by
  refine va_MetW (cc := cL_typeSymbol) (maxL := 7) (ret := some .int) (hh := [(0, 14, 17, 13)]) (by decide) rfl ?_
  intro p e s m args below meth c s₁ Bd hml hv
  obtain ⟨rfl, ⟨⟨hR, hK⟩, hxt⟩, v0, hlo⟩ := hv
  have hexec := Bd.exec
  have hb := Bd.bytes
  have hr := Bd.returns
  have hlocks := Bd.notSynchronized
  have hts0 := atoms_spec (ws := .codeWith yL_typeSymbol cL_typeSymbol 7 (some .int) [(0, 14, 17, 13)] :: am_W) Bd.pre
  have hts : ∀ w ∈ am_W, w.before ([.ref a, .int x1, .int x2, .int x3, .int x4, .ref oa] : List Value).toArray s = true := fun w hw => hts0 w (List.mem_cons_of_mem _ hw)
  have hown : s.vm.findClass RL = some m.cls := findClass_of_methodNamed Bd.named
  have hl0 := lv_entry ([.ref a, .int x1, .int x2, .int x3, .int x4, .ref oa] : List Value) (n := 7) (Nat.le_of_ble_eq_true rfl)
  rw [lg_entry_eq]
  generalize (lg_sl ([.ref a, .int x1, .int x2, .int x3, .int x4, .ref oa] : List Value) ++ List.replicate (7 - (lg_sl ([.ref a, .int x1, .int x2, .int x3, .int x4, .ref oa] : List Value)).length) Slot.unset).toArray = ls at hl0 ⊢
  have hl : lv_has ls 7 [(0, .ref a), (1, .int x1), (2, .int x2), (3, .int x3), (4, .int x4), (5, .ref oa)] := hl0
  obtain ⟨hce, -, hin, hsel⟩ := am_cal_all 113 am_m113 4 false rfl rfl
  have hsz : s.heap.size = σ.1 := hR.1
  have hnA : ¬ am_A B σ oa := fun z => z.2.elim (fun y => by omega) (fun y => y h3)
  refine lv_aload hexec hb dw_typeSymbol_0 (lv_at hl 5 rfl) ?_
  refine lv_iconst (v := 0) hexec hb dw_typeSymbol_2 (by decide) ?_
  refine lv_aload_n hexec hb dw_typeSymbol_3 rfl (lv_at hl 0 rfl) ?_
  refine lv_iload_n hexec hb dw_typeSymbol_4 rfl (lv_at hl 1 rfl) ?_
  refine lv_iload_n hexec hb dw_typeSymbol_5 rfl (lv_at hl 2 rfl) ?_
  refine lv_iload_n hexec hb dw_typeSymbol_6 rfl (lv_at hl 3 rfl) ?_
  refine lv_iload hexec hb dw_typeSymbol_7 (lv_at hl 4 rfl) ?_
  refine am_w_callV (σ0 := σ) (σ' := σ) (own := RL) (rest := [.int 0, .ref oa]) (As := [.int x1, .int x2, .int x3, .int x4]) (ci := 8) (M := am_m113) (v := some (.int v)) hexec hb hml hown hts hK hR ⟨va_S.rf, am_le.rf⟩ am_le.rf (am_call_ok l D B sa am_tb am_ok_all F d 113 _ σ _ σ hc am_m113 rfl) hce ho rfl rfl (Or.inl lk_113) (hin rfl) (hsel rfl (by decide)) rfl hl.1 rfl (Nat.le_of_ble_eq_true rfl) rfl rfl dw_typeSymbol_9 ⟨by show 0 + (σ.1 - σ.1) ≤ 0; omega, by show 0 + (σ.2.2 - σ.2.2) ≤ 0; omega⟩ (fun H1 locs1 hR1 hS1 => ?_)
  refine W.widen (k := 0) (n := 0) (by omega) (by omega) ?_
  refine lv_i2l (v := v.toInt64) hexec hb dw_typeSymbol_12 rfl ?_
  obtain ⟨cA, f, g1, g2, g3⟩ := hlo
  have g2' : H1[oa]? = some (vp_cell cA (1, .inr (.inl f))) := (hS1.1.2.1 oa (by omega) hnA).trans g2
  refine W.last hexec hb g2' (g1 1 (fun j => .long (f j))) (fun z => by cases z) (by show ¬ ((0 : Int32) < 0 ∨ (arrV _ _ _).slots.size ≤ _); rw [arrV_size]; exact (by decide : ¬ ((0 : Int32) < 0 ∨ 1 ≤ Int32.toNatClampNeg 0))) rfl rfl dw_typeSymbol_13 (fun H2 e2 z2 oq => ?_)
  refine lv_goto (tgt := 21) hexec hb dw_typeSymbol_14 rfl ?_
  refine lv_iconst (v := 0) hexec hb dw_typeSymbol_21 (by decide) ?_
  have hS2 : va_S (fun z => am_A B σ z ∨ z = oa) s.heap H2 (locs1 ++ [⟨oa, (0 : Int32).toNatClampNeg⟩]) := va_S.put ⟨hS1.1.1, fun z y1 y2 => hS1.1.2.1 z y1 fun y => y2 (Or.inl y), fun z hz => Or.inl (hS1.1.2.2 z hz)⟩ z2 oq (Or.inr rfl)
  have hR2 : am_R D B s σ H2 := hR1.oth z2 oq h3
  have hlo2 : lo_at oa v.toInt64 s H2 := ⟨cA, vp_updL f 0 v.toInt64, g1, by
    rw [e2]
    congr 1, by simp [vp_updL]⟩
  exact W.iret hexec hb hr (fun t ht hW => ⟨rfl, ⟨by rw [ht]; exact hR2.moved hW.alike, by rw [ht]; exact hlo2.moved hW.alike⟩, hS2.F ht⟩) hS2.2.2 dw_typeSymbol_22
set_option maxHeartbeats 4000000 in
theorem wx_cut (l : Launch) (D : va_G) (B : Nat) (sa q : Nat → Nat) {d a : Nat} {x1 : Int32} {σ : am_S} {fs : List Value} (ho : am_obj σ a 8 = some fs) (hM : vx_Met l am_m114.1 (.code am_m114.1 am_m114.2.1 am_m114.2.2.1 am_m114.2.2.2.1 :: am_W) { frames := d, cells := 1, slots := 6, locals := 64 * d } (va_Pc (.ref a :: [.int x1]) (lx_Pre D B sa σ q)) (fun _ _ _ _ => False) (tw_X D B σ (tw_E 1)) 1 6 (am_A B σ)) :
    Met l yL_cut (.codeWith yL_cut cL_cut 3 (some .int) [(0, 5, 8, 27)] :: am_W) { frames := d + 1, cells := 1, slots := 6, locals := 64 * (d + 1) } (va_Pc [.ref a, .int x1] (lx_Pre D B sa σ q)) (fun _ st oc t => oc = .returned (some (.int 1)) ∧ am_R D B t (t.heap.size, σ.2.1, σ.2.2) t.heap ∧ va_F (am_A B σ) st t) 1 6 (am_A B σ) := by
  refine va_MetW (cc := cL_cut) (maxL := 3) (ret := some .int) (hh := [(0, 5, 8, 27)]) (by decide) rfl ?_
  intro p e s m args below meth c s₁ Bd hml hv
  obtain ⟨rfl, ⟨hR, hK⟩, hxt⟩ := hv
  have hexec := Bd.exec
  have hb := Bd.bytes
  have hr := Bd.returns
  have hlocks := Bd.notSynchronized
  have hts0 := atoms_spec (ws := .codeWith yL_cut cL_cut 3 (some .int) [(0, 5, 8, 27)] :: am_W) Bd.pre
  have hts : ∀ w ∈ am_W, w.before ([.ref a, .int x1] : List Value).toArray s = true := fun w hw => hts0 w (List.mem_cons_of_mem _ hw)
  have hown : s.vm.findClass RL = some m.cls := findClass_of_methodNamed Bd.named
  have hl0 := lv_entry ([.ref a, .int x1] : List Value) (n := 3) (Nat.le_of_ble_eq_true rfl)
  rw [lg_entry_eq]
  generalize (lg_sl ([.ref a, .int x1] : List Value) ++ List.replicate (3 - (lg_sl ([.ref a, .int x1] : List Value)).length) Slot.unset).toArray = ls at hl0 ⊢
  have hl : lv_has ls 3 [(0, .ref a), (1, .int x1)] := hl0
  have htab := vx_table (x := yL_cut) Bd (hts0 _ List.mem_cons_self)
  obtain ⟨hce, -, hin, hsel⟩ := am_cal_all 114 am_m114 1 false rfl rfl
  refine lv_aload_n hexec hb dw_cut_0 rfl (lv_at hl 0 rfl) ?_
  refine lv_iload_n hexec hb dw_cut_1 rfl (lv_at hl 1 rfl) ?_
  refine tw_w (σ0 := σ) (own := RL) (rest := []) (As := [.int x1]) (ci := 8) (M := am_m114) hexec hb hml hown hts hK hxt hR ⟨va_S.rf, am_le.rf⟩ hM hce ho rfl rfl lk_114 (hin rfl) (hsel rfl (by decide)) rfl hl.1 rfl (Nat.le_of_ble_eq_true rfl) rfl rfl dw_cut_2 ⟨Nat.le_refl _, Nat.le_refl _⟩ (fun H1 locs1 q9 ce hR1 hS1 hcl hcv hcc => ?_)
  refine vx_catch (own := RL) (name := tw_E 1) (E := tw_E 1) hown [] ⟨0, 5, 8, 27⟩ [] htab (fun z hz => by cases hz) (by decide) (by decide) (hts _ lk_E1) (va_Nw.use rfl (hxt.1 (.castable (tw_E 1) (tw_E 1)) (by decide))) hcl hcv hcc ?_
  refine lv_astore_n (lv' := [(2, .ref q9), (0, .ref a), (1, .int x1)]) hexec hb dw_cut_8 rfl hl (by decide) rfl (fun ls hl => ?_)
  refine lv_iconst (v := 1) hexec hb dw_cut_9 (by decide) ?_
  exact W.iret hexec hb hr (fun t ht hW => ⟨rfl, ⟨by rw [ht], by rw [ht]; exact hR1.2.1, fun z c hc => by rw [ht]; exact (hR1.2.2 z c hc).moved hW.alike⟩, hS1.F ht⟩) hS1.2.2 dw_cut_10
set_option maxHeartbeats 4000000 in
theorem wn_cut (l : Launch) (D : va_G) (B : Nat) (sa q : Nat → Nat) {F d a : Nat} {x1 : Int32} {σ σ' : am_S} {fs : List Value} (ho : am_obj σ a 8 = some fs) (hc : am_call B sa am_dfl am_tb F d 114 (.ref a :: [.int x1]) σ = some (none, σ')) :
    Met l yL_cut (.codeWith yL_cut cL_cut 3 (some .int) [(0, 5, 8, 27)] :: am_W) { frames := d + 1, cells := σ'.1 - σ.1, slots := σ'.2.2 - σ.2.2, locals := 64 * (d + 1) } (va_Pc [.ref a, .int x1] (lx_Pre D B sa σ q)) (fun _ st oc t => oc = .returned (some (.int 0)) ∧ am_R D B t σ' t.heap ∧ va_F (am_A B σ) st t) (σ'.1 - σ.1) (σ'.2.2 - σ.2.2) (am_A B σ) := by
  refine va_MetW (cc := cL_cut) (maxL := 3) (ret := some .int) (hh := [(0, 5, 8, 27)]) (by decide) rfl ?_
  intro p e s m args below meth c s₁ Bd hml hv
  obtain ⟨rfl, ⟨hR, hK⟩, hxt⟩ := hv
  have hexec := Bd.exec
  have hb := Bd.bytes
  have hr := Bd.returns
  have hlocks := Bd.notSynchronized
  have hts0 := atoms_spec (ws := .codeWith yL_cut cL_cut 3 (some .int) [(0, 5, 8, 27)] :: am_W) Bd.pre
  have hts : ∀ w ∈ am_W, w.before ([.ref a, .int x1] : List Value).toArray s = true := fun w hw => hts0 w (List.mem_cons_of_mem _ hw)
  have hown : s.vm.findClass RL = some m.cls := findClass_of_methodNamed Bd.named
  have hl0 := lv_entry ([.ref a, .int x1] : List Value) (n := 3) (Nat.le_of_ble_eq_true rfl)
  rw [lg_entry_eq]
  generalize (lg_sl ([.ref a, .int x1] : List Value) ++ List.replicate (3 - (lg_sl ([.ref a, .int x1] : List Value)).length) Slot.unset).toArray = ls at hl0 ⊢
  have hl : lv_has ls 3 [(0, .ref a), (1, .int x1)] := hl0
  obtain ⟨hce, -, hin, hsel⟩ := am_cal_all 114 am_m114 1 false rfl rfl
  have hle := am_call_mono d 114 _ σ _ σ' hc
  refine lv_aload_n hexec hb dw_cut_0 rfl (lv_at hl 0 rfl) ?_
  refine lv_iload_n hexec hb dw_cut_1 rfl (lv_at hl 1 rfl) ?_
  refine am_w_callV (σ0 := σ) (σ' := σ') (own := RL) (rest := []) (As := [.int x1]) (ci := 8) (M := am_m114) (v := none) hexec hb hml hown hts hK hR ⟨va_S.rf, am_le.rf⟩ hle (am_call_ok l D B sa am_tb am_ok_all F d 114 _ σ _ σ' hc am_m114 rfl) hce ho rfl rfl (Or.inl lk_114) (hin rfl) (hsel rfl (by decide)) rfl hl.1 rfl (Nat.le_of_ble_eq_true rfl) rfl rfl dw_cut_2 ⟨by show 0 + (σ'.1 - σ.1) ≤ σ'.1 - σ.1; omega, by show 0 + (σ'.2.2 - σ.2.2) ≤ σ'.2.2 - σ.2.2; omega⟩ (fun H1 locs1 hR1 hS1 => ?_)
  refine W.widen (k := σ'.1 - σ.1) (n := σ'.2.2 - σ.2.2) (by omega) (by omega) ?_
  refine lv_goto (tgt := 11) hexec hb dw_cut_5 rfl ?_
  refine lv_iconst (v := 0) hexec hb dw_cut_11 (by decide) ?_
  exact W.iret hexec hb hr (fun t ht hW => ⟨rfl, by rw [ht]; exact hR1.moved hW.alike, hS1.1.F ht⟩) hS1.1.2.2 dw_cut_12
set_option maxHeartbeats 4000000 in
theorem wx_keep1 (l : Launch) (D : va_G) (B : Nat) (sa q : Nat → Nat) {d a : Nat} {x1 x2 : Int32} {σ : am_S} {fs : List Value} (ho : am_obj σ a 8 = some fs) (hM : vx_Met l am_m115.1 (.code am_m115.1 am_m115.2.1 am_m115.2.2.1 am_m115.2.2.2.1 :: am_W) { frames := d, cells := 1, slots := 6, locals := 64 * d } (va_Pc (.ref a :: [.int x1, .int x2]) (lx_Pre D B sa σ q)) (fun _ _ _ _ => False) (tw_X D B σ (tw_E 0)) 1 6 (am_A B σ)) :
    Met l yL_keep (.codeWith yL_keep cL_keep 4 (some .int) [(0, 6, 9, 13), (0, 6, 12, 33), (0, 6, 15, 27)] :: am_W) { frames := d + 1, cells := 1, slots := 6, locals := 64 * (d + 1) } (va_Pc [.ref a, .int x1, .int x2] (lx_Pre D B sa σ q)) (fun _ st oc t => oc = .returned (some (.int 1)) ∧ am_R D B t (t.heap.size, σ.2.1, σ.2.2) t.heap ∧ va_F (am_A B σ) st t) 1 6 (am_A B σ) := by
  refine va_MetW (cc := cL_keep) (maxL := 4) (ret := some .int) (hh := [(0, 6, 9, 13), (0, 6, 12, 33), (0, 6, 15, 27)]) (by decide) rfl ?_
  intro p e s m args below meth c s₁ Bd hml hv
  obtain ⟨rfl, ⟨hR, hK⟩, hxt⟩ := hv
  have hexec := Bd.exec
  have hb := Bd.bytes
  have hr := Bd.returns
  have hlocks := Bd.notSynchronized
  have hts0 := atoms_spec (ws := .codeWith yL_keep cL_keep 4 (some .int) [(0, 6, 9, 13), (0, 6, 12, 33), (0, 6, 15, 27)] :: am_W) Bd.pre
  have hts : ∀ w ∈ am_W, w.before ([.ref a, .int x1, .int x2] : List Value).toArray s = true := fun w hw => hts0 w (List.mem_cons_of_mem _ hw)
  have hown : s.vm.findClass RL = some m.cls := findClass_of_methodNamed Bd.named
  have hl0 := lv_entry ([.ref a, .int x1, .int x2] : List Value) (n := 4) (Nat.le_of_ble_eq_true rfl)
  rw [lg_entry_eq]
  generalize (lg_sl ([.ref a, .int x1, .int x2] : List Value) ++ List.replicate (4 - (lg_sl ([.ref a, .int x1, .int x2] : List Value)).length) Slot.unset).toArray = ls at hl0 ⊢
  have hl : lv_has ls 4 [(0, .ref a), (1, .int x1), (2, .int x2)] := hl0
  have htab := vx_table (x := yL_keep) Bd (hts0 _ List.mem_cons_self)
  obtain ⟨hce, -, hin, hsel⟩ := am_cal_all 115 am_m115 2 false rfl rfl
  refine lv_aload_n hexec hb dw_keep_0 rfl (lv_at hl 0 rfl) ?_
  refine lv_iload_n hexec hb dw_keep_1 rfl (lv_at hl 1 rfl) ?_
  refine lv_iload_n hexec hb dw_keep_2 rfl (lv_at hl 2 rfl) ?_
  refine tw_w (σ0 := σ) (own := RL) (rest := []) (As := [.int x1, .int x2]) (ci := 8) (M := am_m115) hexec hb hml hown hts hK hxt hR ⟨va_S.rf, am_le.rf⟩ hM hce ho rfl rfl lk_115 (hin rfl) (hsel rfl (by decide)) rfl hl.1 rfl (Nat.le_of_ble_eq_true rfl) rfl rfl dw_keep_3 ⟨Nat.le_refl _, Nat.le_refl _⟩ (fun H1 locs1 q9 ce hR1 hS1 hcl hcv hcc => ?_)
  refine vx_catch (own := RL) (name := tw_E 0) (E := tw_E 0) hown [] ⟨0, 6, 9, 13⟩ [⟨0, 6, 12, 33⟩, ⟨0, 6, 15, 27⟩] htab (fun z hz => by cases hz) (by decide) (by decide) (hts _ lk_E0) (va_Nw.use rfl (hxt.1 (.castable (tw_E 0) (tw_E 0)) (by decide))) hcl hcv hcc ?_
  refine lv_astore_n (lv' := [(3, .ref q9), (0, .ref a), (1, .int x1), (2, .int x2)]) hexec hb dw_keep_9 rfl hl (by decide) rfl (fun ls hl => ?_)
  refine lv_iconst (v := 1) hexec hb dw_keep_10 (by decide) ?_
  exact W.iret hexec hb hr (fun t ht hW => ⟨rfl, ⟨by rw [ht], by rw [ht]; exact hR1.2.1, fun z c hc => by rw [ht]; exact (hR1.2.2 z c hc).moved hW.alike⟩, hS1.F ht⟩) hS1.2.2 dw_keep_11
set_option maxHeartbeats 4000000 in
theorem wx_keep2 (l : Launch) (D : va_G) (B : Nat) (sa q : Nat → Nat) {d a : Nat} {x1 x2 : Int32} {σ : am_S} {fs : List Value} (ho : am_obj σ a 8 = some fs) (hM : vx_Met l am_m115.1 (.code am_m115.1 am_m115.2.1 am_m115.2.2.1 am_m115.2.2.2.1 :: am_W) { frames := d, cells := 1, slots := 6, locals := 64 * d } (va_Pc (.ref a :: [.int x1, .int x2]) (lx_Pre D B sa σ q)) (fun _ _ _ _ => False) (tw_X D B σ (tw_E 2)) 1 6 (am_A B σ)) :
    Met l yL_keep (.codeWith yL_keep cL_keep 4 (some .int) [(0, 6, 9, 13), (0, 6, 12, 33), (0, 6, 15, 27)] :: am_W) { frames := d + 1, cells := 1, slots := 6, locals := 64 * (d + 1) } (va_Pc [.ref a, .int x1, .int x2] (lx_Pre D B sa σ q)) (fun _ st oc t => oc = .returned (some (.int 2)) ∧ am_R D B t (t.heap.size, σ.2.1, σ.2.2) t.heap ∧ va_F (am_A B σ) st t) 1 6 (am_A B σ) := by
  refine va_MetW (cc := cL_keep) (maxL := 4) (ret := some .int) (hh := [(0, 6, 9, 13), (0, 6, 12, 33), (0, 6, 15, 27)]) (by decide) rfl ?_
  intro p e s m args below meth c s₁ Bd hml hv
  obtain ⟨rfl, ⟨hR, hK⟩, hxt⟩ := hv
  have hexec := Bd.exec
  have hb := Bd.bytes
  have hr := Bd.returns
  have hlocks := Bd.notSynchronized
  have hts0 := atoms_spec (ws := .codeWith yL_keep cL_keep 4 (some .int) [(0, 6, 9, 13), (0, 6, 12, 33), (0, 6, 15, 27)] :: am_W) Bd.pre
  have hts : ∀ w ∈ am_W, w.before ([.ref a, .int x1, .int x2] : List Value).toArray s = true := fun w hw => hts0 w (List.mem_cons_of_mem _ hw)
  have hown : s.vm.findClass RL = some m.cls := findClass_of_methodNamed Bd.named
  have hl0 := lv_entry ([.ref a, .int x1, .int x2] : List Value) (n := 4) (Nat.le_of_ble_eq_true rfl)
  rw [lg_entry_eq]
  generalize (lg_sl ([.ref a, .int x1, .int x2] : List Value) ++ List.replicate (4 - (lg_sl ([.ref a, .int x1, .int x2] : List Value)).length) Slot.unset).toArray = ls at hl0 ⊢
  have hl : lv_has ls 4 [(0, .ref a), (1, .int x1), (2, .int x2)] := hl0
  have htab := vx_table (x := yL_keep) Bd (hts0 _ List.mem_cons_self)
  obtain ⟨hce, -, hin, hsel⟩ := am_cal_all 115 am_m115 2 false rfl rfl
  refine lv_aload_n hexec hb dw_keep_0 rfl (lv_at hl 0 rfl) ?_
  refine lv_iload_n hexec hb dw_keep_1 rfl (lv_at hl 1 rfl) ?_
  refine lv_iload_n hexec hb dw_keep_2 rfl (lv_at hl 2 rfl) ?_
  refine tw_w (σ0 := σ) (own := RL) (rest := []) (As := [.int x1, .int x2]) (ci := 8) (M := am_m115) hexec hb hml hown hts hK hxt hR ⟨va_S.rf, am_le.rf⟩ hM hce ho rfl rfl lk_115 (hin rfl) (hsel rfl (by decide)) rfl hl.1 rfl (Nat.le_of_ble_eq_true rfl) rfl rfl dw_keep_3 ⟨Nat.le_refl _, Nat.le_refl _⟩ (fun H1 locs1 q9 ce hR1 hS1 hcl hcv hcc => ?_)
  refine vx_catch (own := RL) (name := tw_E 2) (E := tw_E 2) hown [⟨0, 6, 9, 13⟩] ⟨0, 6, 12, 33⟩ [⟨0, 6, 15, 27⟩] htab (fun z hz => by
      simp only [List.mem_cons, List.not_mem_nil, or_false] at hz
      subst hz
      exact Or.inr ⟨by decide, _, hts _ lk_E0, hxt.2.1.1⟩) (by decide) (by decide) (hts _ lk_E2) (va_Nw.use rfl (hxt.1 (.castable (tw_E 2) (tw_E 2)) (by decide))) hcl hcv hcc ?_
  refine lv_astore_n (lv' := [(3, .ref q9), (0, .ref a), (1, .int x1), (2, .int x2)]) hexec hb dw_keep_12 rfl hl (by decide) rfl (fun ls hl => ?_)
  refine lv_iconst (v := 2) hexec hb dw_keep_13 (by decide) ?_
  exact W.iret hexec hb hr (fun t ht hW => ⟨rfl, ⟨by rw [ht], by rw [ht]; exact hR1.2.1, fun z c hc => by rw [ht]; exact (hR1.2.2 z c hc).moved hW.alike⟩, hS1.F ht⟩) hS1.2.2 dw_keep_14
set_option maxHeartbeats 4000000 in
theorem wx_keep3 (l : Launch) (D : va_G) (B : Nat) (sa q : Nat → Nat) {d a : Nat} {x1 x2 : Int32} {σ : am_S} {fs : List Value} (ho : am_obj σ a 8 = some fs) (hM : vx_Met l am_m115.1 (.code am_m115.1 am_m115.2.1 am_m115.2.2.1 am_m115.2.2.2.1 :: am_W) { frames := d, cells := 1, slots := 6, locals := 64 * d } (va_Pc (.ref a :: [.int x1, .int x2]) (lx_Pre D B sa σ q)) (fun _ _ _ _ => False) (tw_X D B σ (tw_E 1)) 1 6 (am_A B σ)) :
    Met l yL_keep (.codeWith yL_keep cL_keep 4 (some .int) [(0, 6, 9, 13), (0, 6, 12, 33), (0, 6, 15, 27)] :: am_W) { frames := d + 1, cells := 1, slots := 6, locals := 64 * (d + 1) } (va_Pc [.ref a, .int x1, .int x2] (lx_Pre D B sa σ q)) (fun _ st oc t => oc = .returned (some (.int 3)) ∧ am_R D B t (t.heap.size, σ.2.1, σ.2.2) t.heap ∧ va_F (am_A B σ) st t) 1 6 (am_A B σ) := by
  refine va_MetW (cc := cL_keep) (maxL := 4) (ret := some .int) (hh := [(0, 6, 9, 13), (0, 6, 12, 33), (0, 6, 15, 27)]) (by decide) rfl ?_
  intro p e s m args below meth c s₁ Bd hml hv
  obtain ⟨rfl, ⟨hR, hK⟩, hxt⟩ := hv
  have hexec := Bd.exec
  have hb := Bd.bytes
  have hr := Bd.returns
  have hlocks := Bd.notSynchronized
  have hts0 := atoms_spec (ws := .codeWith yL_keep cL_keep 4 (some .int) [(0, 6, 9, 13), (0, 6, 12, 33), (0, 6, 15, 27)] :: am_W) Bd.pre
  have hts : ∀ w ∈ am_W, w.before ([.ref a, .int x1, .int x2] : List Value).toArray s = true := fun w hw => hts0 w (List.mem_cons_of_mem _ hw)
  have hown : s.vm.findClass RL = some m.cls := findClass_of_methodNamed Bd.named
  have hl0 := lv_entry ([.ref a, .int x1, .int x2] : List Value) (n := 4) (Nat.le_of_ble_eq_true rfl)
  rw [lg_entry_eq]
  generalize (lg_sl ([.ref a, .int x1, .int x2] : List Value) ++ List.replicate (4 - (lg_sl ([.ref a, .int x1, .int x2] : List Value)).length) Slot.unset).toArray = ls at hl0 ⊢
  have hl : lv_has ls 4 [(0, .ref a), (1, .int x1), (2, .int x2)] := hl0
  have htab := vx_table (x := yL_keep) Bd (hts0 _ List.mem_cons_self)
  obtain ⟨hce, -, hin, hsel⟩ := am_cal_all 115 am_m115 2 false rfl rfl
  refine lv_aload_n hexec hb dw_keep_0 rfl (lv_at hl 0 rfl) ?_
  refine lv_iload_n hexec hb dw_keep_1 rfl (lv_at hl 1 rfl) ?_
  refine lv_iload_n hexec hb dw_keep_2 rfl (lv_at hl 2 rfl) ?_
  refine tw_w (σ0 := σ) (own := RL) (rest := []) (As := [.int x1, .int x2]) (ci := 8) (M := am_m115) hexec hb hml hown hts hK hxt hR ⟨va_S.rf, am_le.rf⟩ hM hce ho rfl rfl lk_115 (hin rfl) (hsel rfl (by decide)) rfl hl.1 rfl (Nat.le_of_ble_eq_true rfl) rfl rfl dw_keep_3 ⟨Nat.le_refl _, Nat.le_refl _⟩ (fun H1 locs1 q9 ce hR1 hS1 hcl hcv hcc => ?_)
  refine vx_catch (own := RL) (name := tw_E 1) (E := tw_E 1) hown [⟨0, 6, 9, 13⟩, ⟨0, 6, 12, 33⟩] ⟨0, 6, 15, 27⟩ [] htab (fun z hz => by
      simp only [List.mem_cons, List.not_mem_nil, or_false] at hz
      rcases hz with rfl | rfl
      · exact Or.inr ⟨by decide, _, hts _ lk_E0, hxt.2.1.2.1⟩
      · exact Or.inr ⟨by decide, _, hts _ lk_E2, hxt.2.1.2.2⟩) (by decide) (by decide) (hts _ lk_E1) (va_Nw.use rfl (hxt.1 (.castable (tw_E 1) (tw_E 1)) (by decide))) hcl hcv hcc ?_
  refine lv_astore_n (lv' := [(3, .ref q9), (0, .ref a), (1, .int x1), (2, .int x2)]) hexec hb dw_keep_15 rfl hl (by decide) rfl (fun ls hl => ?_)
  refine lv_iconst (v := 3) hexec hb dw_keep_16 (by decide) ?_
  exact W.iret hexec hb hr (fun t ht hW => ⟨rfl, ⟨by rw [ht], by rw [ht]; exact hR1.2.1, fun z c hc => by rw [ht]; exact (hR1.2.2 z c hc).moved hW.alike⟩, hS1.F ht⟩) hS1.2.2 dw_keep_17
set_option maxHeartbeats 4000000 in
theorem wn_keep (l : Launch) (D : va_G) (B : Nat) (sa q : Nat → Nat) {F d a : Nat} {x1 x2 : Int32} {σ σ' : am_S} {fs : List Value} (ho : am_obj σ a 8 = some fs) (hc : am_call B sa am_dfl am_tb F d 115 (.ref a :: [.int x1, .int x2]) σ = some (none, σ')) :
    Met l yL_keep (.codeWith yL_keep cL_keep 4 (some .int) [(0, 6, 9, 13), (0, 6, 12, 33), (0, 6, 15, 27)] :: am_W) { frames := d + 1, cells := σ'.1 - σ.1, slots := σ'.2.2 - σ.2.2, locals := 64 * (d + 1) } (va_Pc [.ref a, .int x1, .int x2] (lx_Pre D B sa σ q)) (fun _ st oc t => oc = .returned (some (.int 0)) ∧ am_R D B t σ' t.heap ∧ va_F (am_A B σ) st t) (σ'.1 - σ.1) (σ'.2.2 - σ.2.2) (am_A B σ) := by
  refine va_MetW (cc := cL_keep) (maxL := 4) (ret := some .int) (hh := [(0, 6, 9, 13), (0, 6, 12, 33), (0, 6, 15, 27)]) (by decide) rfl ?_
  intro p e s m args below meth c s₁ Bd hml hv
  obtain ⟨rfl, ⟨hR, hK⟩, hxt⟩ := hv
  have hexec := Bd.exec
  have hb := Bd.bytes
  have hr := Bd.returns
  have hlocks := Bd.notSynchronized
  have hts0 := atoms_spec (ws := .codeWith yL_keep cL_keep 4 (some .int) [(0, 6, 9, 13), (0, 6, 12, 33), (0, 6, 15, 27)] :: am_W) Bd.pre
  have hts : ∀ w ∈ am_W, w.before ([.ref a, .int x1, .int x2] : List Value).toArray s = true := fun w hw => hts0 w (List.mem_cons_of_mem _ hw)
  have hown : s.vm.findClass RL = some m.cls := findClass_of_methodNamed Bd.named
  have hl0 := lv_entry ([.ref a, .int x1, .int x2] : List Value) (n := 4) (Nat.le_of_ble_eq_true rfl)
  rw [lg_entry_eq]
  generalize (lg_sl ([.ref a, .int x1, .int x2] : List Value) ++ List.replicate (4 - (lg_sl ([.ref a, .int x1, .int x2] : List Value)).length) Slot.unset).toArray = ls at hl0 ⊢
  have hl : lv_has ls 4 [(0, .ref a), (1, .int x1), (2, .int x2)] := hl0
  obtain ⟨hce, -, hin, hsel⟩ := am_cal_all 115 am_m115 2 false rfl rfl
  have hle := am_call_mono d 115 _ σ _ σ' hc
  refine lv_aload_n hexec hb dw_keep_0 rfl (lv_at hl 0 rfl) ?_
  refine lv_iload_n hexec hb dw_keep_1 rfl (lv_at hl 1 rfl) ?_
  refine lv_iload_n hexec hb dw_keep_2 rfl (lv_at hl 2 rfl) ?_
  refine am_w_callV (σ0 := σ) (σ' := σ') (own := RL) (rest := []) (As := [.int x1, .int x2]) (ci := 8) (M := am_m115) (v := none) hexec hb hml hown hts hK hR ⟨va_S.rf, am_le.rf⟩ hle (am_call_ok l D B sa am_tb am_ok_all F d 115 _ σ _ σ' hc am_m115 rfl) hce ho rfl rfl (Or.inl lk_115) (hin rfl) (hsel rfl (by decide)) rfl hl.1 rfl (Nat.le_of_ble_eq_true rfl) rfl rfl dw_keep_3 ⟨by show 0 + (σ'.1 - σ.1) ≤ σ'.1 - σ.1; omega, by show 0 + (σ'.2.2 - σ.2.2) ≤ σ'.2.2 - σ.2.2; omega⟩ (fun H1 locs1 hR1 hS1 => ?_)
  refine W.widen (k := σ'.1 - σ.1) (n := σ'.2.2 - σ.2.2) (by omega) (by omega) ?_
  refine lv_goto (tgt := 18) hexec hb dw_keep_6 rfl ?_
  refine lv_iconst (v := 0) hexec hb dw_keep_18 (by decide) ?_
  exact W.iret hexec hb hr (fun t ht hW => ⟨rfl, by rw [ht]; exact hR1.moved hW.alike, hS1.1.F ht⟩) hS1.1.2.2 dw_keep_19
