/-! THE LAW: its world and its calls -/
/-- what holds at every place of the law -/
def LZ (p : Program) (l : Launch) (s : State) (m : MethodId) (meth : Method) (c : Code) (b L : Nat) (xs : Nat → Int32) (D : va_G) (sa q : Nat → Nat) : Prop :=
  (p.tables.exec = Jvm.exec ∧ c.code = code ∧ meth.sig.returnType = ret ∧ c.maxLocals = 7 ∧ s.vm.findClass RL = some m.cls ∧ meth.locks = false) ∧ (∀ w ∈ am_W, w.before #[Value.ref b] s = true) ∧ (va_X b L xs s s.heap ∧ b < s.heap.size) ∧ am_K D s.heap.size sa s ∧ xt_K s.heap.size q s ∧ l.stackTraces = false ∧ L ≤ 2560
/-- the heap at a place of the law -/
def LH (D : va_G) (sa : Nat → Nat) (s : State) (h0 : Nat → Option am_C) (ρ : hp_L) (P : hp_P) (oa : Nat) (v : Int64) (H : Heap) (locs : List Loc) : Prop :=
  am_R D s.heap.size s (hp_S sa ρ P) H ∧ am_Sv s.heap.size (s.heap.size, h0, 0) (hp_S sa ρ P) s H locs ∧ (s.heap.size ≤ oa ∧ oa < ρ.2.2.2.1 ∧ (hp_S sa ρ P).2.1 oa = none) ∧ lo_at oa v s H
/-- what stands after j calls, and what it has cost -/
def LI (sa : Nat → Nat) (B j : Nat) (ρ : hp_L) (P : hp_P) (cells slots : Nat) : Prop :=
  ∃ S A ws flt eu, tI B sa S A ws flt ρ P ∧ mI S A ws flt P ∧ aI S A ∧ aMu A + ws.length ≤ j ∧ eu + ws.length ≤ 3 * j ∧ cells + 1472 ≤ 78 + hp_len P + eu ∧ slots + 2944 ≤ 731000 + 2 * hp_len P + 8 * eu
section LAW
variable {p : Program} {l : Launch} {e : Env} {R : Room} {s : State} {m : MethodId} {args : Array Value} {below : List Frame} {meth : Method} {c : Code} {H H1 : Heap} {locs LL : List Loc} {cells slots : Nat} {Q : State → Prop}
variable {b L : Nat} {xs : Nat → Int32} {D : va_G} {sa q : Nat → Nat} {h0 : Nat → Option am_C} {ρ ρ' : hp_L} {P P' : hp_P} {oa : Nat} {v v' : Int64} {pc : Nat} {ls : Array Slot} {rest st0 : List Value} {σ σ' σ0 : am_S} {B : Nat}
theorem lc_run {mc ms : Nat} {ar : Array Value} {v : Option Value} (hr : va_Run p l e R s m args below meth c H locs cells slots mc ms (F0 m pc ls st0) rest (am_Post D B σ σ' v ar) (am_A B σ)) (hS : am_Sv B σ0 σ s H locs) (hle : am_le σ σ')
    (kk : ∀ (H1 : Heap) (locs1 : List Loc), am_R D B s σ' H1 → am_Sv B σ0 σ' s H1 locs1 → (∀ z : Nat, z < H.size → ¬ am_A B σ z → H1[z]? = H[z]?) → W p l e R s m args below meth c H1 locs1 (cells + mc) (slots + ms) Q (F0 m (pc + 3) ls (v.toList ++ rest))) : W p l e R s m args below meth c H locs cells slots Q (F0 m pc ls st0) := by
  intro T hT X
  obtain ⟨v', st₀, t, T', L, h0, X', hL, e1, e2, ⟨ho, hR1, hz, hk⟩, st⟩ := hr T hT X
  cases ho
  rw [h0] at hz hk
  have hal : s.vm.Alike t.vm := by rw [← e2]; exact X'.warmed.alike
  obtain ⟨t2, a1, b1⟩ := kk T'.heap (locs ++ L) (by rw [e1]; exact hR1.moved hal.symm)
    ⟨⟨Nat.le_trans hS.1.1 (by rw [e1]; exact hz), fun q h1 h2 => by rw [e1, hk q (Nat.lt_of_lt_of_le h1 hS.1.1) (fun z => h2 (am_A.up hS.2 z))]; exact hS.1.2.1 q h1 h2, fun q hq => by
      rcases List.mem_append.mp hq with h | h
      · exact hS.1.2.2 q h
      · exact am_A.up hS.2 (hL q h)⟩, hS.2.tr hle⟩ (fun z y1 y2 => by rw [e1]; exact hk z y1 y2) T' rfl X'
  exact ⟨t2, st t2 a1, b1⟩
/-- a call of a method of the table -/
theorem lc_V (Z : LZ p l s m meth c b L xs D sa q) (h : LH D sa s h0 ρ P oa v H locs) {F d mi n ci a index : Nat} {As fs : List Value} {r : Option Value} {M : am_M} {qv : vw_C} (hc : am_call s.heap.size sa am_dfl am_tb F d mi (.ref a :: As) (hp_S sa ρ P) = some (r, hp_S sa ρ' P')) (hM : am_tb mi = some M) (hhd : am_hd mi = some (n, false)) (hnm : M.1.name ≠ "<init>") (ho : am_obj (hp_S sa ρ P) a ci = some fs) (hcl : vwCl[ci]? = some qv) (hcq : qv.1 = M.1.cls)
    (hlink : Cond.methodLink RL index M.1 ∈ am_W) (hn : As.length = n) (hsz : ls.size = 7) (hst : st0 = As.reverse ++ .ref a :: rest) (hW : (rest.map fun v => v.category).sum ≤ 8) (hd : d ≤ 1000) (hdg : decode code pc = .ok (.invokevirtual index, 3)) (hc1 : cells + (ρ'.2.2.2.1 - ρ.2.2.2.1) ≤ 601024) (hc2 : slots + (ρ'.2.2.2.2 - ρ.2.2.2.2) ≤ 7293034)
    (kk : ∀ (H1 : Heap) (locs1 : List Loc), LH D sa s h0 ρ' P' oa v H1 locs1 → W p l e room_1 s m #[Value.ref b] below meth c H1 locs1 (cells + (ρ'.2.2.2.1 - ρ.2.2.2.1)) (slots + (ρ'.2.2.2.2 - ρ.2.2.2.2)) Q (F0 m (pc + 3) ls (r.toList ++ rest))) : W p l e room_1 s m #[Value.ref b] below meth c H locs cells slots Q (F0 m pc ls st0) := by
  obtain ⟨⟨hexec, hb, -, hml, hown, -⟩, hts, -, hK, -⟩ := Z
  obtain ⟨hR, hS, ⟨o1, o2, o3⟩, hlo⟩ := h
  obtain ⟨hce, -, hin, hsel⟩ := am_cal_all mi M n false hM hhd
  obtain ⟨r1, h1, h2, cell, q1, q2, q3, q4⟩ := am_objat hR ho
  cases h1.symm.trans hcl
  have hKn := (hK.1.1 ci _ hcl).2.1
  have hroom : d + 1 ≤ room_1.frames ∧ 8 + (M.2.2.1 + 11) + 64 * d ≤ room_1.locals := ⟨by show d + 1 ≤ 2048; omega, by show 8 + (M.2.2.1 + 11) + 64 * d ≤ 84000; have := hce.2.2.2; omega⟩
  have hle := am_call_mono d mi _ _ _ _ hc
  have hA : ¬ am_A s.heap.size (hp_S sa ρ P) oa := fun z => z.2.elim (fun y => by have : ρ.2.2.2.1 ≤ oa := y; omega) (fun y => y o3)
  refine lc_run (ar := (Value.ref a :: As).toArray) (va_runV (C := M.1.cls) (b := a) (As := As) (rest := rest) (n := n) ⟨hexec, hb, hml, hown, hts⟩ (am_call_ok l D s.heap.size sa am_tb am_ok_all F d mi _ _ _ _ hc M hM) ⟨callB_of n hts (am_goodIn hce) rfl rfl rfl (hts _ hce.2.1) (hts _ hlink) hce.2.2.1 hroom, hts _ (hin rfl), hts _ (hsel rfl hnm)⟩ ⟨am_blind, ⟨cell, q1, by rw [q3]; rfl, by rw [← hcq, q2]; exact hKn⟩, fun U hU hWm => ⟨rfl, am_pre_at hR hK hS.S hU hWm⟩⟩ rfl hn hsz hst (lv_room hW) hdg ⟨hc1, hc2⟩) hS hle (fun H1 locs1 hR1 hS1 hk1 => kk H1 locs1 ⟨hR1, hS1, ⟨o1, Nat.lt_of_lt_of_le o2 hle.1, hle.non o2 o3⟩, hlo.kept (hk1 oa hlo.lt hA)⟩)
/-- a call of one of the law's wrappers -/
theorem lc_W (Z : LZ p l s m meth c b L xs D sa q) {d n mc ms idx maxL : Nat} {As : List Value} {y : MethodName} {bytes : ByteArray} {hh : List (Nat × Nat × Nat × Nat)} {Pre G : State → Prop} {k : Int32} {A : Nat → Prop}
    (hM : Met l y (.codeWith y bytes maxL (some .int) hh :: am_W) { frames := d, cells := mc, slots := ms, locals := 64 * d } (va_Pc As Pre) (fun _ st oc t => oc = .returned (some (.int k)) ∧ G t ∧ va_F A st t) mc ms A) (hbl : FrameBlind (va_Pc As Pre)) (hpre : ∀ U : State, U.heap = H → s.WarmedH U.vm → Pre U) (hw : Cond.methodLink RL idx y ∈ am_W ∧ Cond.static y ∈ am_W ∧ Cond.codeWith y bytes maxL (some .int) hh ∈ am_W) (hcls : y.cls = RL) (hdesc : (parseMethodDescriptor y.desc).map (fun d => d.parameters.length) = some n) (hmx : maxL ≤ 40) (hd : d ≤ 1000) (hn : As.length = n) (hsz : ls.size = 7) (hst : st0 = As.reverse ++ rest) (hW : (rest.map fun v => v.category).sum ≤ 8) (hdg : decode code pc = .ok (.invokestatic idx, 3)) (hc1 : cells + mc ≤ 601024) (hc2 : slots + ms ≤ 7293034)
    (kk : ∀ (t : State) (H1 : Heap) (LL : List Loc), t.heap = H1 → s.vm.Alike t.vm → G t → H.size ≤ H1.size → (∀ z : Nat, z < H.size → ¬ A z → H1[z]? = H[z]?) → (∀ z ∈ LL, A z.base) → W p l e room_1 s m #[Value.ref b] below meth c H1 (locs ++ LL) (cells + mc) (slots + ms) Q (F0 m (pc + 3) ls (.int k :: rest))) : W p l e room_1 s m #[Value.ref b] below meth c H locs cells slots Q (F0 m pc ls st0) := by
  obtain ⟨⟨hexec, hb, -, hml, hown, -⟩, hts, -, hK, -⟩ := Z
  have hgood : GoodIn am_W (va_wsS RL idx y (.codeWith y bytes maxL (some .int) hh :: am_W)) := by
    intro w hw'
    have : w ∈ am_W := by
      rcases List.mem_append.mp hw' with h | h
      · simp only [List.mem_cons, List.not_mem_nil, or_false] at h
        rcases h with rfl | rfl | rfl
        · exact hw.1
        · exact hw.2.1
        · rw [hcls]; exact lk_RL
      · rcases List.mem_cons.mp h with rfl | h
        · exact hw.2.2
        · exact h
    exact ⟨this, good_of_word (am_W_good this)⟩
  have hr := vx_runSW (p := p) (e := e) (R := room_1) (s := s) (m := m) (args := #[Value.ref b]) (below := below) (meth := meth) (c := c) (H := H) (locs := locs) (cells := cells) (slots := slots) (g := F0 m pc ls st0) (As := As) (rest := rest) (n := n) ⟨hexec, hb, hml, hown, hts⟩ hM (vx_cwSW n hts hgood rfl rfl rfl ⟨by rw [hcls]; decide, by rw [hcls]; decide, hdesc⟩ ⟨by show d + 1 ≤ 2048; omega, by show 8 + (maxL + 11) + 64 * d ≤ 84000; omega⟩) ⟨hbl, fun U hU hWm => ⟨rfl, hpre U hU hWm⟩⟩ rfl hn hsz hst (lv_room hW) hdg ⟨hc1, hc2⟩
  intro T hT X
  obtain ⟨v, st₀, t, T', L', h0, X', hL, e1, e2, ⟨ho, hG, hz, hk⟩, st⟩ := hr T hT X
  cases ho
  rw [h0] at hz hk
  obtain ⟨t2, a1, b1⟩ := kk t T'.heap L' e1.symm (by rw [← e2]; exact X'.warmed.alike) hG (by rw [e1]; exact hz) (fun z y1 y2 => by rw [e1]; exact hk z y1 y2) hL T' rfl X'
  exact ⟨t2, st t2 a1, b1⟩
theorem LH.nA (h : LH D sa s h0 ρ P oa v H locs) : ¬ am_A s.heap.size (hp_S sa ρ P) oa := fun z => z.2.elim (fun y => by have := h.2.2.1.2.1; have : ρ.2.2.2.1 ≤ oa := y; omega) (fun y => y h.2.2.1.2.2)
theorem LH.nx {A : Nat → Prop} (h : LH D sa s h0 ρ P oa v H locs) (hle : am_le (hp_S sa ρ P) (hp_S sa ρ' P')) (hR : am_R D s.heap.size s (hp_S sa ρ' P') H1) (hA : ∀ z, A z → am_A s.heap.size (hp_S sa ρ P) z ∨ z = oa) (hz : H.size ≤ H1.size) (hk : ∀ z : Nat, z < H.size → ¬ A z → H1[z]? = H[z]?) (hL : ∀ z ∈ LL, A z.base) (hlo : lo_at oa v' s H1) : LH D sa s h0 ρ' P' oa v' H1 (locs ++ LL) := by
  obtain ⟨-, hS, ⟨o1, o2, o3⟩, -⟩ := h
  refine ⟨hR, ⟨⟨Nat.le_trans hS.1.1 hz, fun z y1 y2 => ?_, fun z y => ?_⟩, hS.2.tr hle⟩, ⟨o1, Nat.lt_of_lt_of_le o2 hle.1, hle.non o2 o3⟩, hlo⟩
  · rw [hk z (Nat.lt_of_lt_of_le y1 hS.1.1) fun y => (hA z y).elim (fun x => y2 (am_A.up hS.2 x)) fun x => by omega]
    exact hS.1.2.1 z y1 y2
  · rcases List.mem_append.mp y with x | x
    · exact hS.1.2.2 z x
    · rcases hA _ (hL z x) with x | x
      · exact am_A.up hS.2 x
      · rw [x]
        exact ⟨o1, Or.inl o1⟩
theorem LH.up (h : LH D sa s h0 ρ P oa v H locs) (hR : am_R D s.heap.size s (H1.size, (hp_S sa ρ P).2.1, (hp_S sa ρ P).2.2) H1) (hz : H.size ≤ H1.size) (hk : ∀ z : Nat, z < H.size → ¬ am_A s.heap.size (hp_S sa ρ P) z → H1[z]? = H[z]?) (hL : ∀ z ∈ LL, am_A s.heap.size (hp_S sa ρ P) z.base) : LH D sa s h0 (hp_up ρ H1.size ρ.2.2.2.2) P oa v H1 (locs ++ LL) ∧ ρ.2.2.2.1 ≤ H1.size := by
  have hsz : ρ.2.2.2.1 ≤ H1.size := by
    have : H.size = ρ.2.2.2.1 := h.1.1
    omega
  exact ⟨h.nx (ρ' := hp_up ρ H1.size ρ.2.2.2.2) (P' := P) ⟨hsz, Nat.le_refl _, fun a y => Or.inr y⟩ hR (fun z y => Or.inl y) hz hk hL (h.2.2.2.kept (hk oa h.2.2.2.lt h.nA)), hsz⟩
theorem LH.pre (Z : LZ p l s m meth c b L xs D sa q) (h : LH D sa s h0 ρ P oa v H locs) : ∀ U : State, U.heap = H → s.WarmedH U.vm → lx_Pre D s.heap.size sa (hp_S sa ρ P) q U := fun U hU hW => lx_at h.1 Z.2.2.2.1 Z.2.2.2.2.1 h.2.1.S hU hW
theorem LH.pre2 (Z : LZ p l s m meth c b L xs D sa q) (h : LH D sa s h0 ρ P oa v H locs) : ∀ U : State, U.heap = H → s.WarmedH U.vm → lo_Pre D s.heap.size sa (hp_S sa ρ P) q oa U := fun U hU hW => ⟨h.pre Z U hU hW, v, by rw [hU]; exact h.2.2.2.moved hW.alike⟩
/-- a number of the script -/
theorem la_arg (Z : LZ p l s m meth c b L xs D sa q) (h : LH D sa s h0 ρ P oa v H locs) {j k k0 k4 : Nat} {n : Int} {lv : List (Nat × Value)} (hl : lv_has ls 7 lv) (g0 : lv[k0]? = some (0, .ref b)) (g4 : lv[k4]? = some (4, .int (nI (5 * j)))) (hj : 5 * j + 5 ≤ L) (hk : k < 5) (hn : Int32.ofInt n = nI k)
    (e1 : decode code pc = .ok (.aload_n 0, 1)) (e2 : decode code (pc + 1) = .ok (.iload 4, 2)) (e3 : decode code (pc + 3) = .ok (.iconst n, 1)) (e4 : decode code (pc + 4) = .ok (.iadd, 1)) (e5 : decode code (pc + 5) = .ok (.iaload, 1))
    (kk : W p l e room_1 s m #[Value.ref b] below meth c H locs cells slots Q (F0 m (pc + 6) ls (.int (xs (5 * j + k)) :: rest))) : W p l e room_1 s m #[Value.ref b] below meth c H locs cells slots Q (F0 m pc ls rest) := by
  obtain ⟨⟨hexec, hb, -⟩, -, ⟨hX, hbl⟩, -, -, -, hL⟩ := Z
  refine lv_aload_n hexec hb e1 rfl (lv_at hl k0 g0) ?_
  refine lv_iload hexec hb e2 (lv_at hl k4 g4) ?_
  refine lv_iconst (v := nI k) hexec hb e3 hn ?_
  refine lv_iadd hexec hb e4 ?_
  rw [nI_add]
  refine va_sld (A := fun z => s.heap.size ≤ z) hexec hb hX hbl (Nat.not_le.mpr hbl) h.2.1.S (vp_in_nI (by omega) (by omega)) e5 ?_
  rw [nI_clamp (by omega)]
  exact kk
end LAW
