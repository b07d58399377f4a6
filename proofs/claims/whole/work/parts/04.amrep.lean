/-! what the abstract machine's states are in the machine's heap -/
def am_at (D : va_G) (B : Nat) (U : State) (a : Nat) (c : am_C) (H : Heap) : Prop := match c with
  | .inl x => (B ≤ a ∧ ∃ cA : ClassId, ArrOfT U cA .int ∧ H[a]? = some (vp_cell cA (x.1, .inl x.2))) ∨
      (a < B ∧ ∃ cell : Cell, H[a]? = some cell ∧ U.isArrayOf cell .int ∧ cell.vm ≠ .unknown ∧ x.1 ≤ cell.slots.size ∧ cell.slots.size.toInt32 = Int32.ofNat x.1 ∧ ∀ j, j < x.1 → cell.slots[j]? = some (.int (x.2 j)))
  | .inr o => ∃ r : vw_C, vwCl[o.1]? = some r ∧ o.2.length = r.2.2 ∧ t_OB a (D.1 o.1) r.2.2 (D.2 o.1) H (vp_V o.2)
theorem am_at.kept {D : va_G} {B a : Nat} {U : State} {c : am_C} {H H1 : Heap} (h : am_at D B U a c H) (hq : H1[a]? = H[a]?) : am_at D B U a c H1 := by
  cases c with
  | inl x =>
    rcases h with ⟨h1, cA, h2, h3⟩ | ⟨h1, cell, h2, h3⟩
    · exact Or.inl ⟨h1, cA, h2, by rw [hq]; exact h3⟩
    · exact Or.inr ⟨h1, cell, by rw [hq]; exact h2, h3⟩
  | inr o =>
    obtain ⟨r, h1, h2, cell, h3, h4⟩ := h
    exact ⟨r, h1, h2, cell, by rw [hq]; exact h3, h4⟩
theorem am_at.moved {D : va_G} {B a : Nat} {u U : State} {c : am_C} {H : Heap} (hvm : u.vm.Alike U.vm) (h : am_at D B u a c H) : am_at D B U a c H := by
  cases c with
  | inl x =>
    rcases h with ⟨h1, cA, h2, h3⟩ | ⟨h1, cell, h2, h3, h4⟩
    · exact Or.inl ⟨h1, cA, arrOfT_moved hvm h2, h3⟩
    · exact Or.inr ⟨h1, cell, h2, State.isArrayOf_alike hvm h3, h4⟩
  | inr o => exact h
theorem am_at.lt {D : va_G} {B a : Nat} {U : State} {c : am_C} {H : Heap} (h : am_at D B U a c H) : a < H.size := by
  cases c with
  | inl x =>
    rcases h with ⟨h1, cA, h2, h3⟩ | ⟨h1, cell, h2, h3, h4⟩
    · exact (Array.getElem?_eq_some_iff.mp h3).1
    · exact (Array.getElem?_eq_some_iff.mp h2).1
  | inr o =>
    obtain ⟨r, h1, h2, cell, h3, h4⟩ := h
    exact (Array.getElem?_eq_some_iff.mp h3).1
def am_R (D : va_G) (B : Nat) (U : State) (σ : am_S) (H : Heap) : Prop := H.size = σ.1 ∧ B ≤ σ.1 ∧ ∀ (a : Nat) (c : am_C), σ.2.1 a = some c → am_at D B U a c H
theorem am_R.moved {D : va_G} {B : Nat} {u U : State} {σ : am_S} {H : Heap} (hvm : u.vm.Alike U.vm) (h : am_R D B u σ H) : am_R D B U σ H := ⟨h.1, h.2.1, fun a c hc => (h.2.2 a c hc).moved hvm⟩
theorem am_R.set {D : va_G} {B a n : Nat} {U : State} {σ : am_S} {H H1 : Heap} {c : am_C} (h : am_R D B U σ H) (z : H1.size = H.size) (oq : ∀ q : Nat, q ≠ a → H1[q]? = H[q]?) (ha : am_at D B U a c H1) : am_R D B U (σ.1, am_upd σ.2.1 a c, n) H1 := by
  refine ⟨z.trans h.1, h.2.1, fun q x hx => ?_⟩
  by_cases e : q = a
  · subst e
    simp only [am_upd, if_true] at hx
    cases hx
    exact ha
  · simp only [am_upd, if_neg e] at hx
    exact (h.2.2 q x hx).kept (oq q e)
theorem am_R.push {D : va_G} {B n : Nat} {U : State} {σ : am_S} {H H1 : Heap} {c : am_C} (h : am_R D B U σ H) (z : H1.size = H.size + 1) (oq : ∀ q : Nat, q < H.size → H1[q]? = H[q]?) (ha : am_at D B U H.size c H1) : am_R D B U (σ.1 + 1, am_upd σ.2.1 σ.1 c, n) H1 := by
  refine ⟨by rw [z, h.1], Nat.le_succ_of_le h.2.1, fun q x hx => ?_⟩
  by_cases e : q = σ.1
  · subst e
    simp only [am_upd, if_true] at hx
    cases hx
    rw [← h.1]
    exact ha
  · simp only [am_upd, if_neg e] at hx
    have h1 := h.2.2 q x hx
    exact h1.kept (oq q h1.lt)
/-- the heap only grows, and no cell comes to be known but the new ones -/
def am_le (σ σ' : am_S) : Prop := σ.1 ≤ σ'.1 ∧ σ.2.2 ≤ σ'.2.2 ∧ ∀ a, σ'.2.1 a ≠ none → σ.1 ≤ a ∨ σ.2.1 a ≠ none
theorem am_le.rf {σ : am_S} : am_le σ σ := ⟨Nat.le_refl _, Nat.le_refl _, fun _ h => Or.inr h⟩
theorem am_le.tr {a b c : am_S} (h : am_le a b) (k : am_le b c) : am_le a c := ⟨Nat.le_trans h.1 k.1, Nat.le_trans h.2.1 k.2.1, fun q hq => (k.2.2 q hq).elim (fun z => Or.inl (Nat.le_trans h.1 z)) (h.2.2 q)⟩
theorem am_le.upd {σ : am_S} {a : Nat} {c : am_C} (hk : σ.2.1 a ≠ none) : am_le σ (σ.1, am_upd σ.2.1 a c, σ.2.2) := ⟨Nat.le_refl _, Nat.le_refl _, fun q hq => by
  by_cases e : q = a
  · rw [e]; exact Or.inr hk
  · simp only [am_upd, if_neg e] at hq
    exact Or.inr hq⟩
theorem am_le.push {σ : am_S} {c : am_C} {n : Nat} : am_le σ (σ.1 + 1, am_upd σ.2.1 σ.1 c, σ.2.2 + n) := ⟨Nat.le_succ _, Nat.le_add_right _ _, fun q hq => by
  by_cases e : q = σ.1
  · rw [e]; exact Or.inl (Nat.le_refl _)
  · simp only [am_upd, if_neg e] at hq
    exact Or.inr hq⟩
theorem am_obj_kn {σ : am_S} {a ci : Nat} {fs : List Value} (h : am_obj σ a ci = some fs) : σ.2.1 a ≠ none := fun z => by
  unfold am_obj at h
  rw [z] at h
  cases h
theorem am_arr_kn {σ : am_S} {a : Nat} {x : Nat × (Nat → Int32)} (h : am_arr σ a = some x) : σ.2.1 a ≠ none := fun z => by
  unfold am_arr at h
  rw [z] at h
  cases h
/-- the cells that a method may change: those that are known, and the new ones -/
def am_A (B : Nat) (σ : am_S) : Nat → Prop := fun q => B ≤ q ∧ (σ.1 ≤ q ∨ σ.2.1 q ≠ none)
theorem am_A.up {B q : Nat} {σ0 σ : am_S} (h : am_le σ0 σ) (k : am_A B σ q) : am_A B σ0 q := ⟨k.1, k.2.elim (fun z => Or.inl (Nat.le_trans h.1 z)) (h.2.2 q)⟩
def am_Sv (B : Nat) (σ0 σ : am_S) (s : State) (H : Heap) (locs : List Loc) : Prop := va_S (am_A B σ0) s.heap H locs ∧ am_le σ0 σ
theorem am_Sv.S {B : Nat} {σ0 σ : am_S} {s : State} {H : Heap} {locs : List Loc} (h : am_Sv B σ0 σ s H locs) : va_S (fun q => B ≤ q) s.heap H locs := ⟨h.1.1, fun q h1 h2 => h.1.2.1 q h1 fun z => h2 z.1, fun q hq => (h.1.2.2 q hq).1⟩
theorem am_Sv.put {B a k : Nat} {σ0 σ : am_S} {s : State} {H H1 : Heap} {locs : List Loc} {c : am_C} (h : am_Sv B σ0 σ s H locs) (z : H1.size = H.size) (oq : ∀ q : Nat, q ≠ a → H1[q]? = H[q]?) (ha : B ≤ a) (hk : σ.2.1 a ≠ none) : am_Sv B σ0 (σ.1, am_upd σ.2.1 a c, σ.2.2) s H1 (locs ++ [⟨a, k⟩]) :=
  ⟨h.1.put z oq (am_A.up h.2 ⟨ha, Or.inr hk⟩), h.2.tr (am_le.upd hk)⟩
theorem am_Sv.new {B : Nat} {σ0 σ σ' : am_S} {s : State} {H H1 : Heap} {locs : List Loc} (h : am_Sv B σ0 σ s H locs) (hle : am_le σ σ') (z : H.size ≤ H1.size) (oq : ∀ q : Nat, q < H.size → H1[q]? = H[q]?) : am_Sv B σ0 σ' s H1 locs :=
  ⟨⟨Nat.le_trans h.1.1 z, fun q h1 h2 => (oq q (Nat.lt_of_lt_of_le h1 h.1.1)).trans (h.1.2.1 q h1 h2), h.1.2.2⟩, h.2.tr hle⟩
/-- what a method takes as given beside its cells -/
def am_K (D : va_G) (B : Nat) (sa : Nat → Nat) (U : State) : Prop := va_K D vwCl [] U ∧ (∀ q ∈ am_NF, va_Nw (.fieldLinkNest q.1 q.2.1 q.2.2.1 q.2.2.2.1 q.2.2.2.2.1 q.2.2.2.2.2) U) ∧ (∀ q ∈ am_NM, va_Nw (.methodLinkNest q.1 q.2.1 q.2.2.1 q.2.2.2) U) ∧ ∀ (j : Nat) (q : String × String × String), am_SF j = some q → va_Z q.1 q.2.1 q.2.2 (.ref (sa j)) (fun a => B ≤ a) U U.heap
theorem am_K.same {D : va_G} {B : Nat} {sa : Nat → Nat} {u U : State} (h : u.vm = U.vm) (hh : u.heap = U.heap) (hK : am_K D B sa u) : am_K D B sa U := by
  have hal : u.vm.Alike U.vm := h ▸ Vm.Alike.refl _
  refine ⟨hK.1.moved hal, fun q hq => va_Nw.same rfl h (hK.2.1 q hq), fun q hq => va_Nw.same rfl h (hK.2.2.1 q hq), fun j q hj => ?_⟩
  have := (hK.2.2.2 j q hj).moved hal
  rw [hh] at this
  exact this
theorem am_K.warm {D : va_G} {B : Nat} {sa : Nat → Nat} {s U : State} {H : Heap} {locs : List Loc} (hU : U.heap = H) (hW : s.WarmedH U.vm) (hS : va_S (fun q => B ≤ q) s.heap H locs) (hK : am_K D B sa s) : am_K D B sa U := by
  refine ⟨hK.1.moved hW.alike, fun q hq => va_Nw.warmF hW (hK.2.1 q hq), fun q hq => va_Nw.warmM hW (hK.2.2.1 q hq), fun j q hj => ?_⟩
  rw [hU]
  exact ((hK.2.2.2 j q hj).moved hW.alike).kept hS.2.1
def am_Pre (D : va_G) (B : Nat) (sa : Nat → Nat) (σ : am_S) (U : State) : Prop := am_R D B U σ U.heap ∧ am_K D B sa U
def am_Post (D : va_G) (B : Nat) (σ0 σ : am_S) (v : Option Value) : Array Value → State → Outcome → State → Prop := fun _ st oc t => oc = .returned v ∧ am_R D B t σ t.heap ∧ va_F (am_A B σ0) st t
theorem am_blind {D : va_G} {B : Nat} {sa : Nat → Nat} {σ : am_S} {as : List Value} : FrameBlind (va_Pc as (am_Pre D B sa σ)) := by
  intro a U g mk h
  exact ⟨h.1, am_R.moved (Vm.Alike.refl U.vm) h.2.1, am_K.same (u := U) rfl rfl h.2.2⟩
theorem am_pre_at {D : va_G} {B : Nat} {sa : Nat → Nat} {σ : am_S} {s U : State} {H : Heap} {locs : List Loc} (hR : am_R D B s σ H) (hK : am_K D B sa s) (hS : va_S (fun q => B ≤ q) s.heap H locs) (hU : U.heap = H) (hW : s.WarmedH U.vm) : am_Pre D B sa σ U := ⟨by rw [hU]; exact hR.moved hW.alike, hK.warm hU hW hS⟩
theorem am_cls {x : Nat} {q : vw_C} (h : vwCl[x]? = some q) : (∀ w ∈ u_ws q.1 q.2.1 q.2.2, w ∈ am_W) ∧ (∃ ty : Nat → FieldType, ∀ k, k < q.2.2 → parseFieldDescriptor (q.2.1 k).2.2.1 = some (ty k)) ∧ (∀ a, a < q.2.2 → ∀ b, b < q.2.2 → a ≠ b → (q.2.1 a).2.1 ≠ (q.2.1 b).2.1) := by
  match x, h with
  | 0, h => cases h; exact ⟨am_in0, ⟨_, tyX0_ok⟩, nmX0⟩
  | 1, h => cases h; exact ⟨am_in1, ⟨_, tyX1_ok⟩, nmX1⟩
  | 2, h => cases h; exact ⟨am_in2, ⟨_, tyX2_ok⟩, nmX2⟩
  | 3, h => cases h; exact ⟨am_in3, ⟨_, tyX3_ok⟩, nmX3⟩
  | 4, h => cases h; exact ⟨am_in4, ⟨_, tyX4_ok⟩, nmX4⟩
  | 5, h => cases h; exact ⟨am_in5, ⟨_, tyX5_ok⟩, nmX5⟩
  | 6, h => cases h; exact ⟨am_in6, ⟨_, tyX6_ok⟩, nmX6⟩
  | 7, h => cases h; exact ⟨am_in7, ⟨_, tyX7_ok⟩, nmX7⟩
  | 8, h => cases h; exact ⟨am_in8, ⟨_, tyX8_ok⟩, nmX8⟩
  | 9, h => cases h; exact ⟨am_in9, ⟨_, tyX9_ok⟩, nmX9⟩
  | k + 10, h => simp [vwCl] at h
section AMR
variable {p : Program} {l : Launch} {e : Env} {R : Room} {s : State} {m : MethodId} {args : Array Value} {below : List Frame} {meth : Method} {c : Code} {H : Heap} {locs : List Loc} {cells slots : Nat} {Q : State → Prop}
variable {cc : ByteArray} {pc : Nat} {ls : Array Slot} {rest : List Value} {D : va_G} {B : Nat} {a : Nat} {σ σ0 : am_S} {own : String}
theorem am_objat (hR : am_R D B s σ H) {ci : Nat} {fs : List Value} (ho : am_obj σ a ci = some fs) : ∃ r : vw_C, vwCl[ci]? = some r ∧ fs.length = r.2.2 ∧ t_OB a (D.1 ci) r.2.2 (D.2 ci) H (vp_V fs) := by
  unfold am_obj at ho
  split at ho
  · rename_i x hx
    split at ho
    · rename_i hc
      cases ho
      have := hR.2.2 a _ hx
      rw [← hc]
      exact this
    · cases ho
  · cases ho
theorem am_arrat (hR : am_R D B s σ H) {x : Nat × (Nat → Int32)} (ho : am_arr σ a = some x) : am_at D B s a (.inl x) H := by
  unfold am_arr at ho
  split at ho
  · rename_i y hy
    cases ho
    exact hR.2.2 a _ hy
  · cases ho
/-- any field of an object -/
theorem am_w_get (hexec : p.tables.exec = Jvm.exec) (hb : c.code = cc) (hts : ∀ w ∈ am_W, w.before args s = true) (hown : s.vm.findClass own = some m.cls) (hK : va_K D vwCl [] s) (hR : am_R D B s σ H) {ci k index : Nat} {fs : List Value} {v : Value} {q : vw_C} (ho : am_obj σ a ci = some fs) (hv : fs[k]? = some v) (hc : vwCl[ci]? = some q) (hk : k < q.2.2)
    (hlink : Cond.fieldLink own index (q.2.1 k).1 (q.2.1 k).2.1 (q.2.1 k).2.2.1 ∈ am_W ∨ ∃ host, va_Nw (.fieldLinkNest own index (q.2.1 k).1 (q.2.1 k).2.1 (q.2.1 k).2.2.1 host) s) (hdg : decode cc pc = .ok (.getfield index, 3))
    (kk : W p l e R s m args below meth c H locs cells slots Q (F0 m (pc + 3) ls (v :: rest))) : W p l e R s m args below meth c H locs cells slots Q (F0 m pc ls (.ref a :: rest)) := by
  obtain ⟨r, h1, h2, cell, q1, q2, q3, q4⟩ := am_objat hR ho
  cases h1.symm.trans hc
  obtain ⟨hin, -, -⟩ := am_cls hc
  obtain ⟨hS, hfc, kC, hkC, hkind⟩ := hK.1 ci _ hc
  obtain ⟨cf, kf, fi, f, hi, hsl⟩ := hS k hk
  have hval : cell.slots[f.slot]? = some v := by
    rw [hsl, q4 k hk]
    simp [vp_V, hv]
  rcases hlink with hl | ⟨host, hl⟩
  · exact W.getf hexec hb hown (hts _ hl) hi (u_facts hfc hkC (u_lays hts hin hk) hi).1 q1 (by rw [q3]; exact fun h => by cases h) hval rfl rfl hdg kk
  · exact va_Wgetf hexec hb hown (va_Nw.use rfl hl) hi (u_facts hfc hkC (u_lays hts hin hk) hi).1 q1 (by rw [q3]; exact fun h => by cases h) hval rfl rfl hdg kk
/-- a store into a field -/
theorem am_w_put (hexec : p.tables.exec = Jvm.exec) (hb : c.code = cc) (hts : ∀ w ∈ am_W, w.before args s = true) (hown : s.vm.findClass own = some m.cls) (hK : va_K D vwCl [] s) (hR : am_R D B s σ H) (hS0 : am_Sv B σ0 σ s H locs) {ci k index : Nat} {fs : List Value} {v : Value} {q : vw_C} {ty : FieldType} (ho : am_obj σ a ci = some fs) (hBa : B ≤ a) (hk : k < fs.length) (hc : vwCl[ci]? = some q)
    (hd : parseFieldDescriptor (q.2.1 k).2.2.1 = some ty) (hn : narrow ty v = v) (hfit : fits ty v = true)
    (hlink : ((q.2.1 k).2.2.2 = false ∧ (Cond.fieldLink own index (q.2.1 k).1 (q.2.1 k).2.1 (q.2.1 k).2.2.1 ∈ am_W ∨ ∃ host, va_Nw (.fieldLinkNest own index (q.2.1 k).1 (q.2.1 k).2.1 (q.2.1 k).2.2.1 host) s)) ∨ ((q.2.1 k).2.2.2 = true ∧ meth.name = "<init>" ∧ (q.2.1 k).1 = own ∧ Cond.fieldLink own index (q.2.1 k).1 (q.2.1 k).2.1 (q.2.1 k).2.2.1 ∈ am_W))
    (hdg : decode cc pc = .ok (.putfield index, 3))
    (kk : ∀ (H1 : Heap) (locs1 : List Loc), am_R D B s (σ.1, am_upd σ.2.1 a (.inr (ci, fs.set k v)), σ.2.2) H1 → am_Sv B σ0 (σ.1, am_upd σ.2.1 a (.inr (ci, fs.set k v)), σ.2.2) s H1 locs1 → W p l e R s m args below meth c H1 locs1 cells slots Q (F0 m (pc + 3) ls rest)) : W p l e R s m args below meth c H locs cells slots Q (F0 m pc ls (v :: .ref a :: rest)) := by
  obtain ⟨r, h1, h2, cell, q1, q2, q3, q4⟩ := am_objat hR ho
  cases h1.symm.trans hc
  obtain ⟨hin, ⟨ty0, hty⟩, hnm⟩ := am_cls hc
  have hkN : k < q.2.2 := by rw [← h2]; exact hk
  have hap := va_apart (own := own) (D := D) hts hin ty0 hty hnm hK hc
  obtain ⟨hS, hfc, kC, hkC, hkind⟩ := hK.1 ci _ hc
  obtain ⟨cf, kf, fi, f, hi, hsl⟩ := hS k hkN
  have hlay := hts _ (hin _ (u_in_lay hkN))
  unfold u_lay at hlay
  have hst := (u_facts hfc hkC (u_lays hts hin hkN) hi).1
  have fin : ∀ (H' : Heap), H'[a]? = some (cell.setSlot f.slot v) → H'.size = H.size → (∀ q : Nat, q ≠ a → H'[q]? = H[q]?) → W p l e R s m args below meth c H' (locs ++ [⟨a, f.slot⟩]) cells slots Q (F0 m (pc + 3) ls rest) := by
    intro H' e1 e2 e3
    rw [hsl] at e1 ⊢
    refine kk H' _ (hR.set e2 e3 ⟨_, hc, by rw [List.length_set]; exact h2, ?_⟩) (hS0.put e2 e3 hBa (am_obj_kn ho))
    exact t_OB.to (V := updV (vp_V fs) k v) ⟨_, e1, q2, q3, t_set q4 hap hkN v⟩ (fun j _ => vp_updV_set hk v j)
  rcases hlink with ⟨hf, hl⟩ | ⟨hf, hin2, hdecl, hl⟩
  · rw [if_neg (by rw [hf]; decide)] at hlay
    have h6 := u_store hfc hkC hkind hlay hi hd hn hfit
    rcases hl with hl | ⟨host, hl⟩
    · exact W.putK hexec hb (f := f) ⟨hown, hts _ hl, ⟨_, _, _, hi⟩, hst⟩ (by rw [q2]; exact h6) q1 q3 (by rw [hsl]; exact k2_hasslot (q4 k hkN)) rfl rfl hdg fin
    · exact va_WputK hexec hb hown (va_Nw.use rfl hl) hi hst (by rw [q2]; exact h6) q1 q3 (by rw [hsl]; exact k2_hasslot (q4 k hkN)) rfl rfl hdg fin
  · rw [if_pos hf] at hlay
    have hcf : m.cls = cf := by
      obtain ⟨_, _, c', _, _, _, -, -, hf', -, -, -, hown2, -⟩ := Cond.laysFinal_spec hlay
      have e1 : c' = cf := by have := hi.symm.trans hf'; simp at this; exact this.1.symm
      rw [hdecl] at hown2
      rw [← e1]; exact Option.some.inj (hown.symm.trans hown2)
    have h6 := u_fits hfc hkC hkind (Or.inr hlay) hi hd hn hfit
    exact W.putFinK hexec hb hown (hts _ hl) hi hst hcf hin2 (by rw [q2]; exact h6) q1 q3 (by rw [hsl]; exact k2_hasslot (q4 k hkN)) rfl rfl hdg fin
theorem am_w_iald (hexec : p.tables.exec = Jvm.exec) (hb : c.code = cc) (hR : am_R D B s σ H) {x : Nat × (Nat → Int32)} (ho : am_arr σ a = some x) {i : Int32} (hin : ¬ (i < 0 ∨ x.1 ≤ i.toNatClampNeg)) (hdg : decode cc pc = .ok (.iaload, 1))
    (kk : W p l e R s m args below meth c H locs cells slots Q (F0 m (pc + 1) ls (.int (x.2 i.toNatClampNeg) :: rest))) : W p l e R s m args below meth c H locs cells slots Q (F0 m pc ls (.int i :: .ref a :: rest)) := by
  have hlt : i.toNatClampNeg < x.1 := Nat.not_le.mp fun q => hin (Or.inr q)
  rcases am_arrat hR ho with ⟨h1, cA, h2, h3⟩ | ⟨h1, cell, h2, h3, h4, h5, h6, h7⟩
  · exact W.iald (v := .int (x.2 i.toNatClampNeg)) hexec hb h3 (h2 x.1 (fun j => .int (x.2 j))) (fun q => by cases q) (by show ¬ (i < 0 ∨ (arrV _ _ _).slots.size ≤ _); rw [arrV_size]; exact hin) (by show (arrV _ _ _).slots[_]? = _; rw [arrV_read _ _ hlt]) rfl rfl hdg kk
  · exact W.iald (v := .int (x.2 i.toNatClampNeg)) hexec hb h2 h3 h4 (fun h => h.elim (fun z => hin (Or.inl z)) (fun z => by omega)) (h7 _ hlt) rfl rfl hdg kk
theorem am_w_alen (hexec : p.tables.exec = Jvm.exec) (hb : c.code = cc) (hR : am_R D B s σ H) {x : Nat × (Nat → Int32)} (ho : am_arr σ a = some x) (hdg : decode cc pc = .ok (.arraylength, 1))
    (kk : W p l e R s m args below meth c H locs cells slots Q (F0 m (pc + 1) ls (.int (Int32.ofNat x.1) :: rest))) : W p l e R s m args below meth c H locs cells slots Q (F0 m pc ls (.ref a :: rest)) := by
  rcases am_arrat hR ho with ⟨h1, cA, h2, h3⟩ | ⟨h1, cell, h2, h3, h4, h5, h6, h7⟩
  · exact W.alen (n := Int32.ofNat x.1) hexec hb h3 (h2 x.1 (fun j => .int (x.2 j))) (by rw [vp_cell_i, arrV_size] <;> rfl) rfl rfl hdg kk
  · exact W.alen (n := Int32.ofNat x.1) hexec hb h2 h3 h6 rfl rfl hdg kk
theorem am_w_iast (hexec : p.tables.exec = Jvm.exec) (hb : c.code = cc) (hR : am_R D B s σ H) (hS : am_Sv B σ0 σ s H locs) {y : Nat × (Nat → Int32)} (ho : am_arr σ a = some y) (hBa : B ≤ a) {i x : Int32} (hin : ¬ (i < 0 ∨ y.1 ≤ i.toNatClampNeg)) (hdg : decode cc pc = .ok (.iastore, 1))
    (kk : ∀ (H1 : Heap) (locs1 : List Loc), am_R D B s (σ.1, am_upd σ.2.1 a (.inl (y.1, upd y.2 i.toNatClampNeg x)), σ.2.2) H1 → am_Sv B σ0 (σ.1, am_upd σ.2.1 a (.inl (y.1, upd y.2 i.toNatClampNeg x)), σ.2.2) s H1 locs1 → W p l e R s m args below meth c H1 locs1 cells slots Q (F0 m (pc + 1) ls rest)) : W p l e R s m args below meth c H locs cells slots Q (F0 m pc ls (.int x :: .int i :: .ref a :: rest)) := by
  rcases am_arrat hR ho with ⟨h1, cA, h2, h3⟩ | ⟨h1, -⟩
  · refine W.iast hexec hb h3 (h2 y.1 (fun j => .int (y.2 j))) (fun q => by cases q) (by show ¬ (i < 0 ∨ (arrV _ _ _).slots.size ≤ _); rw [arrV_size]; exact hin) rfl rfl hdg fun H1 e z oq => ?_
    refine kk H1 _ (hR.set z oq (Or.inl ⟨h1, cA, h2, ?_⟩)) (hS.put z oq hBa (am_arr_kn ho))
    rw [e]
    rw [vp_cell_i, vp_cell_i, arrV_store]
    congr 2
    funext q
    by_cases hq : q = i.toNatClampNeg
    · subst hq
      simp [updV, upd]
    · simp [updV, upd, hq]
  · omega
theorem am_w_newa (hexec : p.tables.exec = Jvm.exec) (hb : c.code = cc) (hts : ∀ w ∈ am_W, w.before args s = true) (harr : Cond.arrayClass .int ∈ am_W) (hR : am_R D B s σ H) (hS : am_Sv B σ0 σ s H locs) {n : Int32} (hn : ¬ n < 0) (hn2 : n.toNatClampNeg ≤ 100000) (hcells : cells + 1 ≤ R.cells) (hslots : slots + n.toNatClampNeg ≤ R.slots) (hdg : decode cc pc = .ok (.newarray .int, 2))
    (kk : ∀ (H1 : Heap) (locs1 : List Loc), am_R D B s (am_nwa σ n.toNatClampNeg) H1 → am_Sv B σ0 (am_nwa σ n.toNatClampNeg) s H1 locs1 → W p l e R s m args below meth c H1 locs1 (cells + 1) (slots + n.toNatClampNeg) Q (F0 m (pc + 2) ls (.ref σ.1 :: rest))) : W p l e R s m args below meth c H locs cells slots Q (F0 m pc ls (.int n :: rest)) := by
  refine va_newaK hexec hb (atype := .int) (hts _ harr) rfl hdg rfl hn rfl (by show n.toNatClampNeg * componentBytes .int ≤ 536870912; simp [componentBytes]; omega) hcells hslots hR.1 fun H1 cA e1 z1 o1 hAr hNm => ?_
  refine kk H1 locs (hR.push (by rw [z1, hR.1]) (fun q hq => o1 q (by rw [← hR.1]; exact hq)) (Or.inl ⟨by rw [hR.1]; exact hR.2.1, cA, hAr, by rw [hR.1]; exact e1⟩)) (hS.new am_le.push (by rw [z1, hR.1]; exact Nat.le_succ _) (fun q hq => o1 q (by rw [← hR.1]; exact hq)))
theorem am_w_new (hexec : p.tables.exec = Jvm.exec) (hb : c.code = cc) (hts : ∀ w ∈ am_W, w.before args s = true) (hown : s.vm.findClass own = some m.cls) (hK : va_K D vwCl [] s) (hR : am_R D B s σ H) (hS : am_Sv B σ0 σ s H locs) {ci index : Nat} {q : vw_C} {fs : List Value} (hc : vwCl[ci]? = some q) (hcl : Cond.classLink own index q.1 ∈ am_W) (hinst : Cond.instantiable q.1 q.2.2 ∈ am_W) (hini : Cond.initialized q.1 ∈ am_W)
    (hlen : fs.length = q.2.2) (hfs : ∀ j, j < q.2.2 → (parseFieldDescriptor (q.2.1 j).2.2.1).map defaultValue = some (vp_V fs j)) (hcells : cells + 1 ≤ R.cells) (hslots : slots + fs.length ≤ R.slots) (hdg : decode cc pc = .ok (.new index, 3))
    (kk : ∀ (H1 : Heap) (locs1 : List Loc), am_R D B s (am_new σ ci fs) H1 → am_Sv B σ0 (am_new σ ci fs) s H1 locs1 → W p l e R s m args below meth c H1 locs1 (cells + 1) (slots + fs.length) Q (F0 m (pc + 3) ls (.ref σ.1 :: rest))) : W p l e R s m args below meth c H locs cells slots Q (F0 m pc ls rest) := by
  have hKn := hK.1 ci _ hc
  obtain ⟨hin, ⟨ty, hty⟩, -⟩ := am_cls hc
  rw [hlen] at hslots kk
  refine W.newcK hexec hb hown (hts _ hcl) (hts _ hinst) (hts _ hini) rfl hdg hcells hslots hKn.2.1 hR.1 fun H1 kC hkC e1 z1 o1 => ?_
  refine kk H1 locs (hR.push (by rw [z1, hR.1]) (fun q hq => o1 q (by rw [← hR.1]; exact hq)) ⟨q, hc, hlen, ?_⟩) (hS.new am_le.push (by rw [z1, hR.1]; exact Nat.le_succ _) (fun q hq => o1 q (by rw [← hR.1]; exact hq)))
  rw [hR.1]
  refine (u_born ty hts hin hKn hkC e1 hty).to fun j hj => ?_
  have := hfs j hj
  rw [hty j hj] at this
  exact Option.some.inj this
end AMR
