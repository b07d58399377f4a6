/-! one row of the abstract machine is one instruction of the machine -/
/-- what is checked of a row -/
def am_good (tb : Nat → Option am_M) (own nm : String) (nL : Nat) (cc : ByteArray) (r : am_I) : Prop :=
  decode cc r.1 = .ok (r.2.1, r.2.2.1) ∧ match r.2.1 with
  | .bipush _ => r.2.2.1 = 2
  | .iload _ => r.2.2.1 = 2
  | .aload _ => r.2.2.1 = 2
  | .sipush _ => r.2.2.1 = 3
  | .istore_n k => r.2.2.1 = 1 ∧ k.val < nL
  | .astore_n k => r.2.2.1 = 1 ∧ k.val < nL
  | .istore k => r.2.2.1 = 2 ∧ k < nL
  | .astore k => r.2.2.1 = 2 ∧ k < nL
  | .iinc k _ => r.2.2.1 = 3 ∧ k < nL
  | .ldc i => r.2.2.1 = 2 ∧ Cond.constant own i (Int32.ofNat r.2.2.2.2.1) ∈ am_W
  | .ldc_w i => r.2.2.1 = 3 ∧ Cond.constant own i (Int32.ofNat r.2.2.2.2.1) ∈ am_W
  | .goto o => r.2.2.1 = 3 ∧ (r.1 : Int) + o = (r.2.2.2.2.1 : Int)
  | .if_icmp _ o => r.2.2.1 = 3 ∧ (r.1 : Int) + o = (r.2.2.2.2.1 : Int)
  | .ifCond _ o => r.2.2.1 = 3 ∧ (r.1 : Int) + o = (r.2.2.2.2.1 : Int)
  | .ifnull o => r.2.2.1 = 3 ∧ (r.1 : Int) + o = (r.2.2.2.2.1 : Int)
  | .ifnonnull o => r.2.2.1 = 3 ∧ (r.1 : Int) + o = (r.2.2.2.2.1 : Int)
  | .tableswitch dflt lo hi offs => hi = lo + offs.size - 1 ∧ 0 ≤ (r.1 : Int) + dflt ∧ ∀ o ∈ offs.toList, 0 ≤ (r.1 : Int) + o
  | .getfield i => r.2.2.1 = 3 ∧ ∃ q : vw_C, vwCl[r.2.2.2.2.1]? = some q ∧ r.2.2.2.2.2.1 < q.2.2 ∧ (Cond.fieldLink own i (q.2.1 r.2.2.2.2.2.1).1 (q.2.1 r.2.2.2.2.2.1).2.1 (q.2.1 r.2.2.2.2.2.1).2.2.1 ∈ am_W ∨ ∃ host, (own, i, (q.2.1 r.2.2.2.2.2.1).1, (q.2.1 r.2.2.2.2.2.1).2.1, (q.2.1 r.2.2.2.2.2.1).2.2.1, host) ∈ am_NF)
  | .putfield i => r.2.2.1 = 3 ∧ ∃ (q : vw_C) (ty : FieldType), vwCl[r.2.2.2.2.1]? = some q ∧ parseFieldDescriptor (q.2.1 r.2.2.2.2.2.1).2.2.1 = some ty ∧ (r.2.2.2.2.2.2 % 3 = 0 → ty = .int) ∧ (r.2.2.2.2.2.2 % 3 = 2 → ty = .boolean) ∧ (r.2.2.2.2.2.2 % 3 = 1 → (∃ n, ty = .object n) ∨ ∃ t, ty = .array t) ∧
      (((q.2.1 r.2.2.2.2.2.1).2.2.2 = false ∧ (Cond.fieldLink own i (q.2.1 r.2.2.2.2.2.1).1 (q.2.1 r.2.2.2.2.2.1).2.1 (q.2.1 r.2.2.2.2.2.1).2.2.1 ∈ am_W ∨ ∃ host, (own, i, (q.2.1 r.2.2.2.2.2.1).1, (q.2.1 r.2.2.2.2.2.1).2.1, (q.2.1 r.2.2.2.2.2.1).2.2.1, host) ∈ am_NF)) ∨
       ((q.2.1 r.2.2.2.2.2.1).2.2.2 = true ∧ nm = "<init>" ∧ (q.2.1 r.2.2.2.2.2.1).1 = own ∧ Cond.fieldLink own i (q.2.1 r.2.2.2.2.2.1).1 (q.2.1 r.2.2.2.2.2.1).2.1 (q.2.1 r.2.2.2.2.2.1).2.2.1 ∈ am_W))
  | .getstatic i => r.2.2.1 = 3 ∧ ∃ q : String × String × String, am_SF r.2.2.2.2.1 = some q ∧ Cond.fieldLink own i q.1 q.2.1 q.2.2 ∈ am_W
  | .newarray .int => r.2.2.1 = 2 ∧ Cond.arrayClass .int ∈ am_W
  | .new i => r.2.2.1 = 3 ∧ ∃ q : vw_C, vwCl[r.2.2.2.2.1]? = some q ∧ Cond.classLink own i q.1 ∈ am_W ∧ Cond.instantiable q.1 q.2.2 ∈ am_W ∧ Cond.initialized q.1 ∈ am_W ∧ (am_dfl r.2.2.2.2.1).length = q.2.2 ∧ ∀ j, j < q.2.2 → (parseFieldDescriptor (q.2.1 j).2.2.1).map defaultValue = some (vp_V (am_dfl r.2.2.2.2.1) j)
  | .invokespecial i => r.2.2.1 = 3 ∧ (r.2.2.2.2.2.2 = 0 → Cond.methodLink own i objectInit ∈ am_W ∧ Cond.instanceMethod objectInit ∈ am_W ∧ Cond.code objectInit ⟨#[0xb1]⟩ 1 none ∈ am_W) ∧ (r.2.2.2.2.2.2 ≠ 0 → ∃ M, tb r.2.2.2.2.1 = some M ∧ am_callee M r.2.2.2.2.2.1 ∧ M.2.2.2.1 = none ∧ Cond.methodLink own i M.1 ∈ am_W ∧ Cond.instanceMethod M.1 ∈ am_W ∧ M.1.name = "<init>")
  | .invokevirtual i => r.2.2.1 = 3 ∧ ∃ M, tb r.2.2.2.2.1 = some M ∧ am_callee M r.2.2.2.2.2.1 ∧ (∃ q, vwCl[r.2.2.2.2.2.2 / 100]? = some q ∧ q.1 = M.1.cls) ∧ (Cond.methodLink own i M.1 ∈ am_W ∨ ∃ host, (own, i, M.1, host) ∈ am_NM) ∧ Cond.instanceMethod M.1 ∈ am_W ∧ Cond.selects M.1.cls M.1 M.1 ∈ am_W
  | .invokestatic i => r.2.2.1 = 3 ∧
      (r.2.2.2.2.2.2 = 5 → Cond.methodLink own i Lib.Math.max.name ∈ am_W ∧ Cond.static Lib.Math.max.name ∈ am_W ∧ Cond.initialized "java/lang/Math" ∈ am_W ∧ Cond.code Lib.Math.max.name Lib.Math.max.code 2 (some .int) ∈ am_W) ∧
      (r.2.2.2.2.2.2 = 6 → Cond.methodLink own i Lib.Math.min.name ∈ am_W ∧ Cond.static Lib.Math.min.name ∈ am_W ∧ Cond.initialized "java/lang/Math" ∈ am_W ∧ Cond.code Lib.Math.min.name Lib.Math.min.code 2 (some .int) ∈ am_W) ∧
      (r.2.2.2.2.2.2 = 7 → Cond.methodLink own i arraycopyName ∈ am_W ∧ Cond.native arraycopyName ∈ am_W ∧ Cond.static arraycopyName ∈ am_W ∧ Cond.initialized "java/lang/System" ∈ am_W) ∧
      (r.2.2.2.2.2.2 ≠ 5 → r.2.2.2.2.2.2 ≠ 6 → r.2.2.2.2.2.2 ≠ 7 → ∃ M, tb r.2.2.2.2.1 = some M ∧ am_callee M r.2.2.2.2.2.1 ∧ Cond.static M.1 ∈ am_W ∧ (Cond.methodLink own i M.1 ∈ am_W ∨ ∃ host, (own, i, M.1, host) ∈ am_NM))
  | _ => r.2.2.1 = 1
theorem am_lk_mem : ∀ {L : am_L} {i : Nat} {v : Value}, am_lk L i = some v → (i, v) ∈ L
  | [], _, _, h => by cases h
  | q :: L, i, v, h => by
    unfold am_lk at h
    split at h
    · rename_i e
      cases h
      exact e ▸ List.mem_cons_self
    · exact List.mem_cons_of_mem _ (am_lk_mem h)
theorem am_lk_has {ls : Array Slot} {nL : Nat} {L : am_L} {i : Nat} {v : Value} (hl : lv_has ls nL L) (h : am_lk L i = some v) : ls[i]? = some (.val v) := hl.2.2 (i, v) (am_lk_mem h)
section AMT
variable {p : Program} {l : Launch} {e : Env} {R : Room} {s : State} {m : MethodId} {args : Array Value} {below : List Frame} {meth : Method} {c : Code} {Q : State → Prop} {D : va_G} {B : Nat} {sa : Nat → Nat} {cc : ByteArray} {nL d : Nat} {own nm : String} {σ0 σF : am_S} {tb : Nat → Option am_M} {cl : am_F}
/-- the method that runs, its room, its callees -/
def am_X (p : Program) (l : Launch) (R : Room) (s : State) (m : MethodId) (args : Array Value) (meth : Method) (c : Code) (D : va_G) (B : Nat) (sa : Nat → Nat) (cc : ByteArray) (nL d : Nat) (own nm : String) (σ0 σF : am_S) (tb : Nat → Option am_M) (cl : am_F) : Prop :=
  (p.tables.exec = Jvm.exec ∧ c.code = cc ∧ c.maxLocals = nL ∧ s.vm.findClass own = some m.cls ∧ meth.name = nm) ∧ (∀ w ∈ am_W, w.before args s = true) ∧ am_K D B sa s ∧ (R.frames = d + 1 ∧ R.locals = 64 * (d + 1) ∧ R.cells = σF.1 - σ0.1 ∧ R.slots = σF.2.2 - σ0.2.2) ∧
  ∀ (mi : Nat) (as : List Value) (σ : am_S) (v : Option Value) (σ' : am_S), cl mi as σ = some (v, σ') → am_le σ σ' ∧ ∀ M, tb mi = some M → am_Ct l D B sa M d as σ v σ'
def am_Wat (p : Program) (l : Launch) (e : Env) (R : Room) (s : State) (m : MethodId) (args : Array Value) (below : List Frame) (meth : Method) (c : Code) (Q : State → Prop) (D : va_G) (B nL : Nat) (σ0 : am_S) (pc : Nat) (L : am_L) (st : List Value) (σ : am_S) : Prop :=
  ∀ (H : Heap) (locs : List Loc) (ls : Array Slot), am_R D B s σ H → am_Sv B σ0 σ s H locs → lv_has ls nL L → σ0.1 ≤ σ.1 → σ0.2.2 ≤ σ.2.2 → W p l e R s m args below meth c H locs (σ.1 - σ0.1) (σ.2.2 - σ0.2.2) Q (F0 m pc ls st)
def am_Gd (p : Program) (l : Launch) (e : Env) (R : Room) (s : State) (m : MethodId) (args : Array Value) (below : List Frame) (meth : Method) (c : Code) (Q : State → Prop) (D : va_G) (B nL : Nat) (σ0 σF : am_S) (pc : Nat) (L : am_L) (st : List Value) (σ : am_S) : Prop :=
  (σ.1 ≤ σF.1 ∧ σ.2.2 ≤ σF.2.2) ∧ am_Wat p l e R s m args below meth c Q D B nL σ0 pc L st σ
theorem am_sw_ok {α : Type} {v : Int} {P : Option α → Prop} (dflt : Option α) (jp : Int → Option α) : ∀ (os : List Int) (lo : Int), P (am_sw v dflt jp os lo) → ((v < lo ∨ lo + os.length ≤ v) ∧ P dflt) ∨ ∃ (i : Nat) (o : Int), v = lo + i ∧ os[i]? = some o ∧ P (jp o)
  | [], lo, h => Or.inl ⟨by simp only [List.length_nil]; omega, h⟩
  | o :: os, lo, h => by
    unfold am_sw at h
    split at h
    · rename_i e
      exact Or.inr ⟨0, o, by simpa using e, rfl, h⟩
    · rename_i e
      rcases am_sw_ok dflt jp os (lo + 1) h with ⟨h1, h2⟩ | ⟨i, o', h1, h2, h3⟩
      · refine Or.inl ⟨?_, h2⟩
        simp only [List.length_cons]
        omega
      · exact Or.inr ⟨i + 1, o', by rw [h1]; simp only [Int.natCast_add, Int.natCast_one]; omega, by simpa using h2, h3⟩
theorem am_back_ok {α : Type} {kind : Nat} {r : Option (Option Value × am_S)} {rest : List Value} {nx : List Value → am_S → Option α} {o : α} (h : am_back kind r rest nx = some o) : ∃ (v : Option Value) (σ' : am_S), r = some (v, σ') ∧ nx (v.toList ++ rest) σ' = some o := by
  unfold am_back at h
  split at h
  · cases r with
    | none => cases h
    | some q =>
      obtain ⟨v, σ'⟩ := q
      simp only [Option.bind_some] at h
      split at h
      · exact ⟨none, σ', rfl, h⟩
      · cases h
  · cases r with
    | none => cases h
    | some q =>
      obtain ⟨v, σ'⟩ := q
      simp only [Option.bind_some] at h
      split at h
      · exact ⟨_, σ', rfl, h⟩
      · cases h
  · cases r with
    | none => cases h
    | some q =>
      obtain ⟨v, σ'⟩ := q
      simp only [Option.bind_some] at h
      split at h
      · exact ⟨_, σ', rfl, h⟩
      · exact ⟨_, σ', rfl, h⟩
      · cases h
theorem am_take {n : Nat} {st : List Value} : st = ((st.take n).reverse).reverse ++ st.drop n := by simp
end AMT
