/-! THROWS over the machine -/
/-- what a throw takes as given beside the tables' good words -/
def xt_K (B : Nat) (q : Nat → Nat) (U : State) : Prop :=
  (∀ w ∈ tw_B, va_Nw w U) ∧ (va_Nc (tw_E 2) (tw_E 0) U ∧ va_Nc (tw_E 1) (tw_E 0) U ∧ va_Nc (tw_E 1) (tw_E 2) U) ∧ (∀ i x, tw_T i = some x → vk_R RX8 x.1 x.2 (q i) U) ∧ vx_Zq Bundle.tN "UNASSIGNED_STACK" Bundle.steD (fun a => B ≤ a) U U.heap ∧ vx_Zq Bundle.tN "SUPPRESSED_SENTINEL" Bundle.listD (fun a => B ≤ a) U U.heap
theorem tw_on : ∀ w ∈ tw_B, w.onTables = true := by decide
theorem tw_Nw {w : Cond} (h : w ∈ tw_B) {s U : State} (hW : s.WarmedH U.vm) (k : va_Nw w s) : va_Nw w U := by
  simp only [tw_B, List.mem_cons, List.not_mem_nil, or_false] at h
  rcases h with rfl | rfl | rfl | rfl | rfl | rfl
  · exact va_Nw.warmD hW k
  · exact va_Nw.warmD hW k
  · exact va_Nw.warmD hW k
  · exact va_Nw.warmC hW k
  · exact va_Nw.warmC hW k
  · exact va_Nw.warmC hW k
section XT
variable {D : va_G} {B : Nat} {sa q : Nat → Nat} {σ σ0 : am_S} {s u U : State} {H : Heap} {locs : List Loc} {as : List Value}
theorem xt_K.same (h : u.vm = U.vm) (hh : u.heap = U.heap) (k : xt_K B q u) : xt_K B q U := by
  have hal : u.vm.Alike U.vm := h ▸ Vm.Alike.refl _
  refine ⟨fun w hw => va_Nw.same (tw_on w hw) h (k.1 w hw), ⟨k.2.1.1.moved hal, k.2.1.2.1.moved hal, k.2.1.2.2.moved hal⟩, fun i x hx => vk_R.same h.symm (k.2.2.1 i x hx), ?_, ?_⟩
  · rw [← hh]; exact k.2.2.2.1.moved hal
  · rw [← hh]; exact k.2.2.2.2.moved hal
theorem xt_K.warm (hU : U.heap = H) (hW : s.WarmedH U.vm) (hS : va_S (fun q => B ≤ q) s.heap H locs) (k : xt_K B q s) : xt_K B q U := by
  refine ⟨fun w hw => tw_Nw hw hW (k.1 w hw), ⟨k.2.1.1.moved hW.alike, k.2.1.2.1.moved hW.alike, k.2.1.2.2.moved hW.alike⟩, fun i x hx => vk_R.warm hW (k.2.2.1 i x hx), ?_, ?_⟩
  · rw [hU]; exact (vx_Zq.moved hW.alike k.2.2.2.1).kept hS.2.1
  · rw [hU]; exact (vx_Zq.moved hW.alike k.2.2.2.2).kept hS.2.1
def lx_Pre (D : va_G) (B : Nat) (sa : Nat → Nat) (σ : am_S) (q : Nat → Nat) (U : State) : Prop := am_Pre D B sa σ U ∧ xt_K B q U
theorem lx_same (h : u.vm = U.vm) (hh : u.heap = U.heap) (k : lx_Pre D B sa σ q u) : lx_Pre D B sa σ q U :=
  ⟨⟨by rw [← hh]; exact am_R.moved (h ▸ Vm.Alike.refl _) k.1.1, am_K.same h hh k.1.2⟩, xt_K.same h hh k.2⟩
theorem lx_blind : FrameBlind (va_Pc as (lx_Pre D B sa σ q)) := fun a U g mk h => ⟨h.1, lx_same (u := U) rfl rfl h.2⟩
theorem lx_at (hR : am_R D B s σ H) (hK : am_K D B sa s) (hX : xt_K B q s) (hS : va_S (fun q => B ≤ q) s.heap H locs) (hU : U.heap = H) (hW : s.WarmedH U.vm) : lx_Pre D B sa σ q U := ⟨am_pre_at hR hK hS hU hW, hX.warm hU hW hS⟩
/-- where a method has thrown: nothing that it knew has changed -/
def tw_X (D : va_G) (B : Nat) (σ : am_S) (E : String) : String → State → State → Prop := fun E' st t => E' = E ∧ am_R D B t (t.heap.size, σ.2.1, σ.2.2) t.heap ∧ va_F (am_A B σ) st t
theorem tw_met (l : Launch) (hl : l.stackTraces = false) (D : va_G) (B : Nat) (sa q : Nat → Nat) {F d mi pc k i : Nat} {M : am_M} {as : List Value} {σ : am_S} {tx : Nat × String} (hM : am_tb mi = some M) (hlen : (lg_sl as).length ≤ M.2.2.1) (hx : am_exec B sa am_dfl (am_call B sa am_dfl am_tb F d) M.2.2.2.2 F 0 (lv_args 0 as) [] σ = some (pc, [], σ)) (hcls : M.1.cls = RX8) (hk : k < 3) (hi : tw_T i = some tx) (hd : 6 ≤ d)
    (d0 : decode M.2.1 pc = .ok (.new (tw_I k), 3)) (d3 : decode M.2.1 (pc + 3) = .ok (.dup, 1)) (d4 : decode M.2.1 (pc + 4) = .ok (.ldc tx.1, 2)) (d6 : decode M.2.1 (pc + 6) = .ok (.invokespecial (tw_C k), 3)) (d9 : decode M.2.1 (pc + 9) = .ok (.athrow, 1)) :
    vx_Met l M.1 (.code M.1 M.2.1 M.2.2.1 M.2.2.2.1 :: am_W) { frames := d + 1, cells := 1, slots := 6, locals := 64 * (d + 1) } (va_Pc as (lx_Pre D B sa σ q)) (fun _ _ _ _ => False) (tw_X D B σ (tw_E k)) 1 6 (am_A B σ) := by
  obtain ⟨hgood, hterm, hch, hfirst, hplain⟩ := am_ok_all mi M hM
  refine vx_ofW (cc := M.2.1) (maxL := M.2.2.1) (ret := M.2.2.2.1) hplain rfl ?_
  intro p e s m args below meth c s₁ Bd hml htab hv
  obtain ⟨rfl, ⟨hR, hK⟩, hxt⟩ := hv
  have hexec := Bd.exec
  have hb := Bd.bytes
  have hlocks := Bd.notSynchronized
  have hts0 := atoms_spec (ws := .code M.1 M.2.1 M.2.2.1 M.2.2.2.1 :: am_W) Bd.pre
  have hts : ∀ w ∈ am_W, w.before as.toArray s = true := fun w hw => hts0 w (List.mem_cons_of_mem _ hw)
  have hown : s.vm.findClass M.1.cls = some m.cls := findClass_of_methodNamed Bd.named
  have hnm : meth.name = M.1.name := (name_of_methodNamed Bd.named Bd.method).1
  have X : am_X p l (headSpec (.code M.1 M.2.1 M.2.2.1 M.2.2.2.1 :: am_W) { frames := d + 1, cells := 1, slots := 6, locals := 64 * (d + 1) }).room s m as.toArray meth c D B sa M.2.1 M.2.2.1 d M.1.cls M.1.name σ (σ.1 + 1, σ.2.1, σ.2.2 + 6) am_tb (am_call B sa am_dfl am_tb F d) :=
    ⟨⟨hexec, hb, hml, hown, hnm⟩, hts, hK, ⟨rfl, rfl, by show 1 = σ.1 + 1 - σ.1; omega, by show 6 = σ.2.2 + 6 - σ.2.2; omega⟩, fun mi as σ v σ' h => ⟨am_call_mono d mi as σ v σ' h, am_call_ok l D B sa am_tb am_ok_all F d mi as σ v σ' h⟩⟩
  have hl0 := lv_entry as (n := M.2.2.1) hlen
  rw [lg_entry_eq]
  have hG := am_exec_ok (e := e) (below := below) (Q := vx_MQ below (fun _ _ _ _ => False) (tw_X D B σ (tw_E k)) as.toArray s 1 6 (am_A B σ)) X hgood hch (pc, [], σ) ?_ F 0 (lv_args 0 as) [] σ hfirst hx
  · have := hG.2 s.heap [] _ hR ⟨va_S.rf, am_le.rf⟩ hl0 (Nat.le_refl _) (Nat.le_refl _)
    rw [Nat.sub_self, Nat.sub_self] at this
    exact this
  · intro L'
    refine ⟨⟨Nat.le_succ _, Nat.le_add_right _ _⟩, fun H locs ls hR1 hS1 hls h1 h2 => ?_⟩
    dsimp only at hR1 hS1
    dsimp only
    rw [Nat.sub_self, Nat.sub_self]
    obtain ⟨w1, w2, w3, ⟨w4, w5⟩, w6⟩ := tw_ok hk
    rw [hcls] at hown
    have hat : ∀ w ∈ vx_atS RX8 (tw_C k) (tw_E k) tw_N, w.before as.toArray s = true := vx_hat (B := tw_B) (fun w hw => hts w (w1 w hw)) w2 (fun w hw => va_Nw.use (tw_on w hw) (hxt.1 w hw))
    refine vx_throwS (A := fun a => B ≤ a) (text := tx.2) (sa := q i) (names := tw_N) hexec hb hl hown w6 xf_N (hts _ w4) (hts _ w5) (hxt.2.2.1 i tx hi) hat w3 hxt.2.2.2.1 hxt.2.2.2.2 hS1.S (hls.1.trans hml.symm) d0 d3 d4 d6 d9 (fun x hx => (htab x hx).elim) ?_ ?_ (Nat.le_refl _) (Nat.le_refl _) hlocks (fun t hal hz hq => ⟨rfl, ⟨rfl, ?_, fun a c hc => ((hR1.2.2 a c hc).kept (hq a (hR1.2.2 a c hc).lt)).moved hal⟩, Nat.le_trans hS1.1.1 hz, fun z g1 g2 => (hq z (Nat.lt_of_lt_of_le g1 hS1.1.1)).trans (hS1.1.2.1 z g1 g2)⟩) hS1.1.2.2 (Nat.le_refl _) (Nat.le_refl _)
    · show 2 + 3 < d + 1
      omega
    · show 0 + (13 * (2 + 1) + 43) ≤ 64 * (d + 1)
      omega
    · show B ≤ t.heap.size
      have a1 := hR1.1
      have a2 := hR1.2.1
      omega
end XT
section XC
variable {p : Program} {l : Launch} {e : Env} {R : Room} {s : State} {m : MethodId} {args : Array Value} {below : List Frame} {meth : Method} {c : Code} {H : Heap} {locs : List Loc} {cells slots : Nat} {Q : State → Prop}
variable {cc : ByteArray} {pc : Nat} {ls : Array Slot} {rest st0 : List Value} {D : va_G} {B : Nat} {sa q : Nat → Nat} {a : Nat} {σ σ0 : am_S} {own : String}
/-- a call of a method that throws -/
theorem tw_w (hexec : p.tables.exec = Jvm.exec) (hb : c.code = cc) {nL : Nat} (hml : c.maxLocals = nL) (hown : s.vm.findClass own = some m.cls) (hts : ∀ w ∈ am_W, w.before args s = true) (hK : am_K D B sa s) (hX : xt_K B q s) (hR : am_R D B s σ H) (hS : am_Sv B σ0 σ s H locs)
    {M : am_M} {n d ci index : Nat} {As fs : List Value} {E : String} {qv : vw_C} (hM : vx_Met l M.1 (.code M.1 M.2.1 M.2.2.1 M.2.2.2.1 :: am_W) { frames := d, cells := 1, slots := 6, locals := 64 * d } (va_Pc (.ref a :: As) (lx_Pre D B sa σ q)) (fun _ _ _ _ => False) (tw_X D B σ E) 1 6 (am_A B σ)) (hce : am_callee M n) (ho : am_obj σ a ci = some fs) (hc : vwCl[ci]? = some qv) (hcq : qv.1 = M.1.cls)
    (hl : Cond.methodLink own index M.1 ∈ am_W) (hin : Cond.instanceMethod M.1 ∈ am_W) (hsel : Cond.selects M.1.cls M.1 M.1 ∈ am_W) (hn : As.length = n) (hsz : ls.size = nL) (hst : st0 = As.reverse ++ .ref a :: rest) (hW : (rest.map fun v => v.category).sum ≤ 8) (hfr : R.frames = d + 1) (hlo : R.locals = 64 * (d + 1))
    (hdg : decode cc pc = .ok (.invokevirtual index, 3)) (hf : cells + 1 ≤ R.cells ∧ slots + 6 ≤ R.slots)
    (kx : ∀ (H1 : Heap) (locs1 : List Loc) (q9 : Addr) (ce : Cell), am_R D B s (H1.size, σ.2.1, σ.2.2) H1 → va_S (am_A B σ0) s.heap H1 locs1 → H1[q9]? = some ce → ce.vm = .none → s.vm.findClass E = some ce.cls → vx_W p l e R s m args below meth c H1 locs1 (cells + 1) (slots + 6) Q (F0 m pc ls rest) q9) : W p l e R s m args below meth c H locs cells slots Q (F0 m pc ls st0) := by
  obtain ⟨r, h1, h2, cell, q1, q2, q3, q4⟩ := am_objat hR ho
  cases h1.symm.trans hc
  have hKn := (hK.1.1 ci _ hc).2.1
  have hroom : d + 1 ≤ R.frames ∧ 8 + (M.2.2.1 + 11) + 64 * d ≤ R.locals := ⟨by rw [hfr]; exact Nat.le_refl _, by rw [hlo]; have := hce.2.2.2; omega⟩
  have hr : vx_Run p l e R s m args below meth c H locs cells slots 1 6 (F0 m pc ls st0) rest (fun _ _ _ => False) (tw_X D B σ E) (am_A B σ) := vx_runV (C := M.1.cls) (b := a) (As := As) (rest := rest) (n := n) ⟨hexec, hb, hml, hown, hts⟩ hM ⟨callB_of n hts (am_goodIn hce) rfl rfl rfl (hts _ hce.2.1) (hts _ hl) hce.2.2.1 hroom, hts _ hin, hts _ hsel⟩ ⟨lx_blind, ⟨cell, q1, by rw [q3]; rfl, by rw [← hcq, q2]; exact hKn⟩, fun U hU hWm => ⟨rfl, lx_at hR hK hX hS.S hU hWm⟩⟩ rfl hn hsz hst (lv_room hW) hdg hf
  intro T hT X
  rcases hr T hT X with ⟨v, st₀, t, T', L, h0, X', hL, e1, e2, hq, st⟩ | ⟨q9, st₀, t, T', L, E', ce, h0, X', hL, e1, e2, ⟨hE, hRt, hz, hk⟩, hcl, hcv, hcc, st⟩
  · exact hq.elim
  · have hal : s.vm.Alike t.vm := by rw [← e2]; exact X'.warmed.alike
    rw [h0] at hz hk
    rw [hE] at hcc
    obtain ⟨t2, a1, b1⟩ := kx T'.heap (locs ++ L) q9 ce (by rw [e1]; exact hRt.moved hal.symm) ⟨Nat.le_trans hS.1.1 (by rw [e1]; exact hz), fun z g1 g2 => by rw [e1, hk z (Nat.lt_of_lt_of_le g1 hS.1.1) (fun y => g2 (am_A.up hS.2 y))]; exact hS.1.2.1 z g1 g2, fun z hz => by
      rcases List.mem_append.mp hz with h | h
      · exact hS.1.2.2 z h
      · exact am_A.up hS.2 (hL z h)⟩ (by rw [e1]; exact hcl) hcv hcc T' rfl X'
    exact ⟨t2, st.trans a1, b1⟩
end XC
