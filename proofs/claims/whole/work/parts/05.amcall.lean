/-! arraycopy, and calls -/
section AMC
variable {p : Program} {l : Launch} {e : Env} {R : Room} {s : State} {m : MethodId} {args : Array Value} {below : List Frame} {meth : Method} {c : Code} {H : Heap} {locs : List Loc} {cells slots : Nat} {Q : State → Prop}
variable {cc : ByteArray} {pc : Nat} {ls : Array Slot} {rest st0 : List Value} {D : va_G} {B : Nat} {sa : Nat → Nat} {a a0 : Nat} {σ σ' σ0 : am_S} {own : String}
theorem am_w_cpy (hexec : p.tables.exec = Jvm.exec) (hb : c.code = cc) (hml : c.maxLocals = ls.size) {index : Nat} (hown : s.vm.findClass own = some m.cls) (hts : ∀ w ∈ am_W, w.before args s = true) (hlink : Cond.methodLink own index arraycopyName ∈ am_W) (hnat : Cond.native arraycopyName ∈ am_W) (hstat : Cond.static arraycopyName ∈ am_W) (hini : Cond.initialized "java/lang/System" ∈ am_W)
    (hR : am_R D B s σ H) (hS : am_Sv B σ0 σ s H locs) {x y : Nat × (Nat → Int32)} (ho : am_arr σ a0 = some x) (ho2 : am_arr σ a = some y) (hB0 : B ≤ a0) (hBa : B ≤ a)
    {sp dp n : Int32} (h1 : ¬ sp < 0) (h2 : ¬ dp < 0) (h3 : ¬ n < 0) (h4 : sp.toNatClampNeg + n.toNatClampNeg ≤ x.1) (h5 : dp.toNatClampNeg + n.toNatClampNeg ≤ y.1)
    (hframes : 1 ≤ R.frames) (hlocals : (rest.map fun v => v.category).sum + (nativeFrameWords "java/lang/System" "arraycopy" 5 + 11) ≤ R.locals) (hdg : decode cc pc = .ok (.invokestatic index, 3))
    (kk : ∀ (H1 : Heap) (locs1 : List Loc), am_R D B s (σ.1, am_upd σ.2.1 a (.inl (y.1, va_cpy x.2 y.2 sp.toNatClampNeg dp.toNatClampNeg n.toNatClampNeg)), σ.2.2) H1 → am_Sv B σ0 (σ.1, am_upd σ.2.1 a (.inl (y.1, va_cpy x.2 y.2 sp.toNatClampNeg dp.toNatClampNeg n.toNatClampNeg)), σ.2.2) s H1 locs1 → W p l e R s m args below meth c H1 locs1 cells slots Q (F0 m (pc + 3) ls rest)) : W p l e R s m args below meth c H locs cells slots Q (F0 m pc ls (.int n :: .int dp :: .ref a :: .int sp :: .ref a0 :: rest)) := by
  have nn : ∀ z : Int32, ¬ z < 0 → z.toInt = (z.toNatClampNeg : Int) := by
    intro z hz
    have hz0 : (0 : Int) ≤ z.toInt := by
      have := Int32.not_lt.mp hz
      simpa using Int32.le_iff_toInt_le.mp this
    show z.toInt = ((z.toInt.toNat : Nat) : Int)
    omega
  obtain ⟨-, c0, g0, hc0⟩ | ⟨g0, -⟩ := am_arrat hR ho
  · obtain ⟨-, c1, g1, hc1⟩ | ⟨g1, -⟩ := am_arrat hR ho2
    · obtain ⟨n0, f⟩ := x
      obtain ⟨n1, g⟩ := y
      intro T hT X
      obtain ⟨-, k0, hk0, cm0, hkk0⟩ := g0 n0 (fun j => .int (f j))
      obtain ⟨-, k1, hk1, cm1, hkk1⟩ := g1 n1 (fun j => .int (g j))
      obtain ⟨vm', X', step⟩ := X.arraycopy hexec hown (hts _ hlink) (hts _ hnat) (hts _ hstat) (hts _ hini) (src := a0) (dst := a) (cs := vp_cell c0 (n0, .inl f)) (cd := vp_cell c1 (n1, .inl g)) (srcPos := sp) (destPos := dp) (n := n) (by rw [hT]; exact hc0) (by rw [hT]; exact hc1)
        (fun _ h => by cases h) (fun _ h => by cases h) (fun h => by cases h) (fun h => by cases h) hk0 hk1 hkk0 hkk1 (by simp [refKind]) h1 h2 h3
        (by rw [nn sp h1, nn n h3]; show ¬ _ > ((arrV c0 n0 (fun j => .int (f j))).slots.size : Int); rw [arrV_size]; dsimp only at h4; omega)
        (by rw [nn dp h2, nn n h3]; show ¬ _ > ((arrV c1 n1 (fun j => .int (g j))).slots.size : Int); rw [arrV_size]; dsimp only at h5; omega)
        (fun vm₁ _ i hi => by
          have e : (vp_cell c0 (n0, .inl f)).slots.getD (sp.toNatClampNeg + i) .null = .int (f (sp.toNatClampNeg + i)) := by
            show (arrV c0 n0 (fun j => .int (f j))).slots.getD _ _ = _
            rw [Array.getD_eq_getD_getElem?, arrV_read _ _ (by dsimp only at h4; omega)]
            rfl
          refine ⟨?_, ?_⟩
          · rw [e]
            rfl
          · rw [e]
            exact trivial)
        (g := F0 m pc ls (.int n :: .int dp :: .ref a :: .int sp :: .ref a0 :: rest)) rfl (by rw [hml]) (rest := rest) rfl (by rw [hb]; exact hdg) hframes (by show 2 * 0 + _ + _ ≤ _; omega)
      have e1 : copied (vp_cell c0 (n0, .inl f)) (vp_cell c1 (n1, .inl g)) sp dp n = vp_cell c1 (n1, .inl (va_cpy f g sp.toNatClampNeg dp.toNatClampNeg n.toNatClampNeg)) := va_copied (fun z => .int z) c0 c1 f g h4
      rw [e1] at X' step
      have hl : a < H.size := (Array.getElem?_eq_some_iff.mp hc1).1
      have hheap : ((T.setVm vm').setCell a (vp_cell c1 (n1, .inl (va_cpy f g sp.toNatClampNeg dp.toNatClampNeg n.toNatClampNeg)))).heap = H.setIfInBounds a (vp_cell c1 (n1, .inl (va_cpy f g sp.toNatClampNeg dp.toNatClampNeg n.toNatClampNeg))) := by rw [← hT]; rfl
      have oq : ∀ q : Nat, q ≠ a → (H.setIfInBounds a (vp_cell c1 (n1, .inl (va_cpy f g sp.toNatClampNeg dp.toNatClampNeg n.toNatClampNeg))))[q]? = H[q]? := fun q hq => by simp [Array.getElem?_setIfInBounds, Ne.symm hq]
      obtain ⟨t, a1, b1⟩ := kk _ _ (hR.set (by simp) oq (Or.inl ⟨hBa, c1, g1, by simp [Array.getElem?_setIfInBounds, hl]⟩)) ⟨⟨by simp; exact hS.1.1, fun q g1 g2 => by
          rw [oq q (fun e => g2 (by rw [e]; exact am_A.up hS.2 ⟨hBa, Or.inr (am_arr_kn ho2)⟩))]
          exact hS.1.2.1 q g1 g2, fun q hq => by
          rcases List.mem_append.mp hq with h | h
          · exact hS.1.2.2 q h
          · obtain ⟨z, -, hz⟩ := List.mem_map.mp h
            rw [← hz]
            exact am_A.up hS.2 ⟨hBa, Or.inr (am_arr_kn ho2)⟩⟩, hS.2.tr (am_le.upd (am_arr_kn ho2))⟩ _ hheap X'
      exact ⟨t, step t a1, b1⟩
    · omega
  · omega
/-- behind a call -/
theorem am_w_run {mc ms : Nat} {ar : Array Value} {v : Option Value} (hr : va_Run p l e R s m args below meth c H locs cells slots mc ms (F0 m pc ls st0) rest (am_Post D B σ σ' v ar) (am_A B σ)) (hS : am_Sv B σ0 σ s H locs) (hle : am_le σ σ')
    (kk : ∀ (H1 : Heap) (locs1 : List Loc), am_R D B s σ' H1 → am_Sv B σ0 σ' s H1 locs1 → W p l e R s m args below meth c H1 locs1 (cells + mc) (slots + ms) Q (F0 m (pc + 3) ls (v.toList ++ rest))) : W p l e R s m args below meth c H locs cells slots Q (F0 m pc ls st0) := by
  intro T hT X
  obtain ⟨v', st₀, t, T', L, h0, X', hL, e1, e2, ⟨ho, hR1, hz, hk⟩, st⟩ := hr T hT X
  cases ho
  rw [h0] at hz hk
  have hal : s.vm.Alike t.vm := by rw [← e2]; exact X'.warmed.alike
  obtain ⟨t2, a1, b1⟩ := kk T'.heap (locs ++ L) (by rw [e1]; exact hR1.moved hal.symm)
    ⟨⟨Nat.le_trans hS.1.1 (by rw [e1]; exact hz), fun q h1 h2 => by rw [e1, hk q (Nat.lt_of_lt_of_le h1 hS.1.1) (fun z => h2 (am_A.up hS.2 z))]; exact hS.1.2.1 q h1 h2, fun q hq => by
      rcases List.mem_append.mp hq with h | h
      · exact hS.1.2.2 q h
      · exact am_A.up hS.2 (hL q h)⟩, hS.2.tr hle⟩ T' rfl X'
  exact ⟨t2, st t2 a1, b1⟩
/-- what a method of the table does at its arguments, d calls deep -/
def am_Ct (l : Launch) (D : va_G) (B : Nat) (sa : Nat → Nat) (M : am_M) (d : Nat) (as : List Value) (σ : am_S) (v : Option Value) (σ' : am_S) : Prop :=
  Met l M.1 (.code M.1 M.2.1 M.2.2.1 M.2.2.2.1 :: am_W) { frames := d, cells := σ'.1 - σ.1, slots := σ'.2.2 - σ.2.2, locals := 64 * d } (va_Pc as (am_Pre D B sa σ)) (am_Post D B σ σ' v) (σ'.1 - σ.1) (σ'.2.2 - σ.2.2) (am_A B σ)
/-- what a callee needs of the tables -/
def am_callee (M : am_M) (n : Nat) : Prop := Cond.code M.1 M.2.1 M.2.2.1 M.2.2.2.1 ∈ am_W ∧ Cond.initialized M.1.cls ∈ am_W ∧ (M.1.cls ≠ "java/lang/invoke/MethodHandle" ∧ M.1.cls ≠ "java/lang/invoke/VarHandle" ∧ (parseMethodDescriptor M.1.desc).map (fun d => d.parameters.length) = some n) ∧ M.2.2.1 ≤ 40
theorem am_goodIn {M : am_M} {n : Nat} (h : am_callee M n) : GoodIn am_W (.code M.1 M.2.1 M.2.2.1 M.2.2.2.1 :: am_W) := by
  intro w hw
  have : w ∈ am_W := by
    rcases List.mem_cons.mp hw with rfl | h1
    · exact h.1
    · exact h1
  exact ⟨this, good_of_word (am_W_good this)⟩
theorem am_w_callV (hexec : p.tables.exec = Jvm.exec) (hb : c.code = cc) {nL : Nat} (hml : c.maxLocals = nL) (hown : s.vm.findClass own = some m.cls) (hts : ∀ w ∈ am_W, w.before args s = true) (hK : am_K D B sa s) (hR : am_R D B s σ H) (hS : am_Sv B σ0 σ s H locs) (hle : am_le σ σ')
    {M : am_M} {n d ci index : Nat} {As fs : List Value} {v : Option Value} {q : vw_C} (hM : am_Ct l D B sa M d (.ref a :: As) σ v σ') (hce : am_callee M n) (ho : am_obj σ a ci = some fs) (hc : vwCl[ci]? = some q) (hcq : q.1 = M.1.cls)
    (hl : Cond.methodLink own index M.1 ∈ am_W ∨ ∃ host, va_Nw (.methodLinkNest own index M.1 host) s) (hin : Cond.instanceMethod M.1 ∈ am_W) (hsel : Cond.selects M.1.cls M.1 M.1 ∈ am_W) (hn : As.length = n) (hsz : ls.size = nL) (hst : st0 = As.reverse ++ .ref a :: rest) (hW : (rest.map fun v => v.category).sum ≤ 8) (hfr : R.frames = d + 1) (hlo : R.locals = 64 * (d + 1))
    (hdg : decode cc pc = .ok (.invokevirtual index, 3)) (hf : cells + (σ'.1 - σ.1) ≤ R.cells ∧ slots + (σ'.2.2 - σ.2.2) ≤ R.slots)
    (kk : ∀ (H1 : Heap) (locs1 : List Loc), am_R D B s σ' H1 → am_Sv B σ0 σ' s H1 locs1 → W p l e R s m args below meth c H1 locs1 (cells + (σ'.1 - σ.1)) (slots + (σ'.2.2 - σ.2.2)) Q (F0 m (pc + 3) ls (v.toList ++ rest))) : W p l e R s m args below meth c H locs cells slots Q (F0 m pc ls st0) := by
  obtain ⟨r, h1, h2, cell, q1, q2, q3, q4⟩ := am_objat hR ho
  cases h1.symm.trans hc
  have hKn := (hK.1.1 ci _ hc).2.1
  have hroom : d + 1 ≤ R.frames ∧ 8 + (M.2.2.1 + 11) + 64 * d ≤ R.locals := ⟨by rw [hfr]; exact Nat.le_refl _, by rw [hlo]; have := hce.2.2.2; omega⟩
  rcases hl with hl | ⟨host, hl⟩
  · exact am_w_run (ar := (Value.ref a :: As).toArray) (va_runV (C := M.1.cls) (b := a) (As := As) (rest := rest) (n := n) ⟨hexec, hb, hml, hown, hts⟩ hM ⟨callB_of n hts (am_goodIn hce) rfl rfl rfl (hts _ hce.2.1) (hts _ hl) hce.2.2.1 hroom, hts _ hin, hts _ hsel⟩ ⟨am_blind, ⟨cell, q1, by rw [q3]; rfl, by rw [← hcq, q2]; exact hKn⟩, fun U hU hWm => ⟨rfl, am_pre_at hR hK hS.S hU hWm⟩⟩ rfl hn hsz hst (lv_room hW) hdg hf) hS hle kk
  · exact am_w_run (ar := (Value.ref a :: As).toArray) (va_runVN (C := M.1.cls) (b := a) (As := As) (rest := rest) (n := n) ⟨hexec, hb, hml, hown, hts⟩ hM ⟨va_cnB n hts (am_goodIn hce) rfl rfl rfl hl (hts _ hce.2.1) hce.2.2.1 hroom, hts _ hin, hts _ hsel⟩ ⟨am_blind, ⟨cell, q1, by rw [q3]; rfl, by rw [← hcq, q2]; exact hKn⟩, fun U hU hWm => ⟨rfl, am_pre_at hR hK hS.S hU hWm⟩⟩ rfl hn hsz hst (lv_room hW) hdg hf) hS hle kk
theorem am_w_callS (hexec : p.tables.exec = Jvm.exec) (hb : c.code = cc) {nL : Nat} (hml : c.maxLocals = nL) (hown : s.vm.findClass own = some m.cls) (hts : ∀ w ∈ am_W, w.before args s = true) (hK : am_K D B sa s) (hR : am_R D B s σ H) (hS : am_Sv B σ0 σ s H locs) (hle : am_le σ σ')
    {M : am_M} {n d index : Nat} {As : List Value} {v : Option Value} (hM : am_Ct l D B sa M d As σ v σ') (hce : am_callee M n)
    (hl : Cond.methodLink own index M.1 ∈ am_W ∨ ∃ host, va_Nw (.methodLinkNest own index M.1 host) s) (hst1 : Cond.static M.1 ∈ am_W) (hn : As.length = n) (hsz : ls.size = nL) (hst : st0 = As.reverse ++ rest) (hW : (rest.map fun v => v.category).sum ≤ 8) (hfr : R.frames = d + 1) (hlo : R.locals = 64 * (d + 1))
    (hdg : decode cc pc = .ok (.invokestatic index, 3)) (hf : cells + (σ'.1 - σ.1) ≤ R.cells ∧ slots + (σ'.2.2 - σ.2.2) ≤ R.slots)
    (kk : ∀ (H1 : Heap) (locs1 : List Loc), am_R D B s σ' H1 → am_Sv B σ0 σ' s H1 locs1 → W p l e R s m args below meth c H1 locs1 (cells + (σ'.1 - σ.1)) (slots + (σ'.2.2 - σ.2.2)) Q (F0 m (pc + 3) ls (v.toList ++ rest))) : W p l e R s m args below meth c H locs cells slots Q (F0 m pc ls st0) := by
  have hroom : d + 1 ≤ R.frames ∧ 8 + (M.2.2.1 + 11) + 64 * d ≤ R.locals := ⟨by rw [hfr]; exact Nat.le_refl _, by rw [hlo]; have := hce.2.2.2; omega⟩
  rcases hl with hl | ⟨host, hl⟩
  · exact am_w_run (ar := As.toArray) (va_runS (As := As) (rest := rest) (n := n) ⟨hexec, hb, hml, hown, hts⟩ hM ⟨callB_of n hts (am_goodIn hce) rfl rfl rfl (hts _ hce.2.1) (hts _ hl) hce.2.2.1 hroom, hts _ hst1⟩ ⟨am_blind, fun U hU hWm => ⟨rfl, am_pre_at hR hK hS.S hU hWm⟩⟩ rfl hn hsz hst (lv_room hW) hdg hf) hS hle kk
  · exact am_w_run (ar := As.toArray) (va_runSN (As := As) (rest := rest) (n := n) ⟨hexec, hb, hml, hown, hts⟩ hM ⟨va_cnB n hts (am_goodIn hce) rfl rfl rfl hl (hts _ hce.2.1) hce.2.2.1 hroom, hts _ hst1, trivial⟩ ⟨am_blind, fun U hU hWm => ⟨rfl, am_pre_at hR hK hS.S hU hWm⟩⟩ rfl hn hsz hst (lv_room hW) hdg hf) hS hle kk
theorem am_w_callI (hexec : p.tables.exec = Jvm.exec) (hb : c.code = cc) {nL : Nat} (hml : c.maxLocals = nL) (hown : s.vm.findClass own = some m.cls) (hts : ∀ w ∈ am_W, w.before args s = true) (hK : am_K D B sa s) (hR : am_R D B s σ H) (hS : am_Sv B σ0 σ s H locs) (hle : am_le σ σ')
    {M : am_M} {n d index : Nat} {As : List Value} {v : Option Value} (hM : am_Ct l D B sa M d (.ref a :: As) σ v σ') (hce : am_callee M n) (hret : M.2.2.2.1 = none)
    (hl : Cond.methodLink own index M.1 ∈ am_W) (hin : Cond.instanceMethod M.1 ∈ am_W) (hnm : M.1.name = "<init>") (hn : As.length = n) (hsz : ls.size = nL) (hst : st0 = As.reverse ++ .ref a :: rest) (hW : (rest.map fun v => v.category).sum ≤ 8) (hfr : R.frames = d + 1) (hlo : R.locals = 64 * (d + 1))
    (hdg : decode cc pc = .ok (.invokespecial index, 3)) (hf : cells + (σ'.1 - σ.1) ≤ R.cells ∧ slots + (σ'.2.2 - σ.2.2) ≤ R.slots)
    (kk : ∀ (H1 : Heap) (locs1 : List Loc), am_R D B s σ' H1 → am_Sv B σ0 σ' s H1 locs1 → W p l e R s m args below meth c H1 locs1 (cells + (σ'.1 - σ.1)) (slots + (σ'.2.2 - σ.2.2)) Q (F0 m (pc + 3) ls (v.toList ++ rest))) : W p l e R s m args below meth c H locs cells slots Q (F0 m pc ls st0) := by
  have hroom : d + 1 ≤ R.frames ∧ 8 + (M.2.2.1 + 11) + 64 * d ≤ R.locals := ⟨by rw [hfr]; exact Nat.le_refl _, by rw [hlo]; have := hce.2.2.2; omega⟩
  have hg := am_goodIn hce
  unfold am_Ct at hM
  rw [hret] at hM hg
  exact am_w_run (ar := (Value.ref a :: As).toArray) (va_runI (b := a) (As := As) (rest := rest) (n := n) ⟨hexec, hb, hml, hown, hts⟩ hM (cwI n hts hg rfl rfl rfl (hts _ hce.2.1) (hts _ hl) (hts _ hin) hnm hce.2.2.1 hroom) ⟨am_blind, fun U hU hWm => ⟨rfl, am_pre_at hR hK hS.S hU hWm⟩⟩ rfl hn hsz hst (lv_room hW) hdg hf) hS hle kk
end AMC
