/-! a program that checks a method's rows -/
def am_lw (w : Nat × Nat) (c : Cond) : Bool := decide (am_wd w = some c) && goodWord c
theorem am_lw_ok {w : Nat × Nat} {c : Cond} (h : am_lw w c = true) : c ∈ am_W := by
  unfold am_lw at h
  rw [Bool.and_eq_true] at h
  exact am_in (of_decide_eq_true h.1) h.2
/-- a link to a field: a word of the tables, or of the nest's -/
def am_lf (own : String) (i : Nat) (f : String × String × String × Bool) (w : Nat × Nat) : Bool :=
  if w.1 = 99 then (match am_NF[w.2]? with
    | some q => decide (q = (own, i, f.1, f.2.1, f.2.2.1, q.2.2.2.2.2))
    | none => false)
  else am_lw w (.fieldLink own i f.1 f.2.1 f.2.2.1)
theorem am_lf_ok {own : String} {i : Nat} {f : String × String × String × Bool} {w : Nat × Nat} (h : am_lf own i f w = true) : Cond.fieldLink own i f.1 f.2.1 f.2.2.1 ∈ am_W ∨ ∃ host, (own, i, f.1, f.2.1, f.2.2.1, host) ∈ am_NF := by
  unfold am_lf at h
  split at h
  · split at h
    · rename_i q hq
      have := of_decide_eq_true h
      refine Or.inr ⟨q.2.2.2.2.2, ?_⟩
      rw [← this]
      exact List.mem_of_getElem? hq
    · cases h
  · exact Or.inl (am_lw_ok h)
/-- a callee, by the places of its words: code, initialized, instanceMethod or static, selects (or any of them again) -/
def am_cal (M : am_M) (n : Nat) (isS : Bool) : Prop := am_callee M n ∧ (isS = true → Cond.static M.1 ∈ am_W) ∧ (isS = false → Cond.instanceMethod M.1 ∈ am_W) ∧ (isS = false → M.1.name ≠ "<init>" → Cond.selects M.1.cls M.1 M.1 ∈ am_W)
def am_ckc (M : am_M) (n : Nat) (isS : Bool) (w1 w2 w3 w4 : Nat × Nat) : Bool :=
  am_lw w1 (.code M.1 M.2.1 M.2.2.1 M.2.2.2.1) && am_lw w2 (.initialized M.1.cls) && decide (M.1.cls ≠ "java/lang/invoke/MethodHandle") && decide (M.1.cls ≠ "java/lang/invoke/VarHandle") && decide ((parseMethodDescriptor M.1.desc).map (fun d => d.parameters.length) = some n) && decide (M.2.2.1 ≤ 40) &&
  (if isS then am_lw w3 (.static M.1) else am_lw w3 (.instanceMethod M.1) && (decide (M.1.name = "<init>") || am_lw w4 (.selects M.1.cls M.1 M.1)))
theorem am_ckc_ok {M : am_M} {n : Nat} {isS : Bool} {w1 w2 w3 w4 : Nat × Nat} (h : am_ckc M n isS w1 w2 w3 w4 = true) : am_cal M n isS := by
  unfold am_ckc at h
  simp only [Bool.and_eq_true, decide_eq_true_eq] at h
  obtain ⟨⟨⟨⟨⟨⟨h1, h2⟩, h3⟩, h4⟩, h5⟩, h6⟩, h7⟩ := h
  refine ⟨⟨am_lw_ok h1, am_lw_ok h2, ⟨h3, h4, h5⟩, h6⟩, fun e => ?_, fun e => ?_, fun e hn => ?_⟩
  · rw [if_pos e] at h7
    exact am_lw_ok h7
  · rw [e] at h7
    simp only [Bool.false_eq_true, if_false, Bool.and_eq_true] at h7
    exact am_lw_ok h7.1
  · rw [e] at h7
    simp only [Bool.false_eq_true, if_false, Bool.and_eq_true, Bool.or_eq_true, decide_eq_true_eq] at h7
    exact am_lw_ok (h7.2.resolve_left hn)
/-- the words that are the same at every use -/
def am_base : Prop := (Cond.instanceMethod objectInit ∈ am_W ∧ Cond.code objectInit ⟨#[0xb1]⟩ 1 none ∈ am_W ∧ Cond.arrayClass .int ∈ am_W) ∧
  (Cond.static Lib.Math.max.name ∈ am_W ∧ Cond.initialized "java/lang/Math" ∈ am_W ∧ Cond.code Lib.Math.max.name Lib.Math.max.code 2 (some .int) ∈ am_W) ∧
  (Cond.static Lib.Math.min.name ∈ am_W ∧ Cond.code Lib.Math.min.name Lib.Math.min.code 2 (some .int) ∈ am_W) ∧
  (Cond.native arraycopyName ∈ am_W ∧ Cond.static arraycopyName ∈ am_W ∧ Cond.initialized "java/lang/System" ∈ am_W) ∧
  ∀ (x : Nat) (q : vw_C), vwCl[x]? = some q → Cond.instantiable q.1 q.2.2 ∈ am_W ∧ Cond.initialized q.1 ∈ am_W ∧ (am_dfl x).length = q.2.2 ∧ ∀ j, j < q.2.2 → (parseFieldDescriptor (q.2.1 j).2.2.1).map defaultValue = some (vp_V (am_dfl x) j)
/-- the methods' heads: number of arguments, static or not -/
abbrev am_Hd : Type := Nat → Option (Nat × Bool)
def am_ck (tb : Nat → Option am_M) (hd : am_Hd) (own nm : String) (nL : Nat) (cc : ByteArray) (r : am_I) (w : Nat × Nat) : Bool :=
  decide (decode cc r.1 = .ok (r.2.1, r.2.2.1)) && match r.2.1 with
  | .bipush _ => decide (r.2.2.1 = 2)
  | .iload _ => decide (r.2.2.1 = 2)
  | .aload _ => decide (r.2.2.1 = 2)
  | .sipush _ => decide (r.2.2.1 = 3)
  | .istore_n k => decide (r.2.2.1 = 1 ∧ k.val < nL)
  | .astore_n k => decide (r.2.2.1 = 1 ∧ k.val < nL)
  | .istore k => decide (r.2.2.1 = 2 ∧ k < nL)
  | .astore k => decide (r.2.2.1 = 2 ∧ k < nL)
  | .iinc k _ => decide (r.2.2.1 = 3 ∧ k < nL)
  | .ldc i => decide (r.2.2.1 = 2) && am_lw w (.constant own i (Int32.ofNat r.2.2.2.2.1))
  | .ldc_w i => decide (r.2.2.1 = 3) && am_lw w (.constant own i (Int32.ofNat r.2.2.2.2.1))
  | .goto o => decide (r.2.2.1 = 3 ∧ (r.1 : Int) + o = (r.2.2.2.2.1 : Int))
  | .if_icmp _ o => decide (r.2.2.1 = 3 ∧ (r.1 : Int) + o = (r.2.2.2.2.1 : Int))
  | .ifCond _ o => decide (r.2.2.1 = 3 ∧ (r.1 : Int) + o = (r.2.2.2.2.1 : Int))
  | .ifnull o => decide (r.2.2.1 = 3 ∧ (r.1 : Int) + o = (r.2.2.2.2.1 : Int))
  | .ifnonnull o => decide (r.2.2.1 = 3 ∧ (r.1 : Int) + o = (r.2.2.2.2.1 : Int))
  | .tableswitch dflt lo hi offs => decide (hi = lo + offs.size - 1 ∧ 0 ≤ (r.1 : Int) + dflt ∧ ∀ o ∈ offs.toList, 0 ≤ (r.1 : Int) + o)
  | .getfield i => decide (r.2.2.1 = 3) && (match vwCl[r.2.2.2.2.1]? with
    | some q => decide (r.2.2.2.2.2.1 < q.2.2) && am_lf own i (q.2.1 r.2.2.2.2.2.1) w
    | none => false)
  | .putfield i => decide (r.2.2.1 = 3) && (match vwCl[r.2.2.2.2.1]? with
    | some q => (match parseFieldDescriptor (q.2.1 r.2.2.2.2.2.1).2.2.1 with
      | some ty => (if r.2.2.2.2.2.2 % 3 = 0 then decide (ty = .int) else if r.2.2.2.2.2.2 % 3 = 2 then decide (ty = .boolean) else (match ty with
          | .object _ => true
          | .array _ => true
          | _ => false)) && (if (q.2.1 r.2.2.2.2.2.1).2.2.2 then decide (nm = "<init>" ∧ (q.2.1 r.2.2.2.2.2.1).1 = own) && am_lw w (.fieldLink own i (q.2.1 r.2.2.2.2.2.1).1 (q.2.1 r.2.2.2.2.2.1).2.1 (q.2.1 r.2.2.2.2.2.1).2.2.1) else am_lf own i (q.2.1 r.2.2.2.2.2.1) w)
      | none => false)
    | none => false)
  | .getstatic i => decide (r.2.2.1 = 3) && (match am_SF r.2.2.2.2.1 with
    | some q => am_lw w (.fieldLink own i q.1 q.2.1 q.2.2)
    | none => false)
  | .newarray .int => decide (r.2.2.1 = 2)
  | .new i => decide (r.2.2.1 = 3) && (match vwCl[r.2.2.2.2.1]? with
    | some q => am_lw w (.classLink own i q.1)
    | none => false)
  | .invokespecial i => decide (r.2.2.1 = 3) && (if r.2.2.2.2.2.2 = 0 then am_lw w (.methodLink own i objectInit) else (match tb r.2.2.2.2.1 with
    | some M => decide (hd r.2.2.2.2.1 = some (r.2.2.2.2.2.1, false)) && decide (M.2.2.2.1 = none) && am_lw w (.methodLink own i M.1) && decide (M.1.name = "<init>")
    | none => false))
  | .invokevirtual i => decide (r.2.2.1 = 3) && (match tb r.2.2.2.2.1, vwCl[r.2.2.2.2.2.2 / 100]? with
    | some M, some q => decide (hd r.2.2.2.2.1 = some (r.2.2.2.2.2.1, false)) && decide (q.1 = M.1.cls) && decide (M.1.name ≠ "<init>") && (if w.1 = 99 then (match am_NM[w.2]? with
        | some q => decide (q = (own, i, M.1, q.2.2.2))
        | none => false) else am_lw w (.methodLink own i M.1))
    | _, _ => false)
  | .invokestatic i => decide (r.2.2.1 = 3) && (if r.2.2.2.2.2.2 = 5 then am_lw w (.methodLink own i Lib.Math.max.name) else if r.2.2.2.2.2.2 = 6 then am_lw w (.methodLink own i Lib.Math.min.name) else if r.2.2.2.2.2.2 = 7 then am_lw w (.methodLink own i arraycopyName) else (match tb r.2.2.2.2.1 with
    | some M => decide (hd r.2.2.2.2.1 = some (r.2.2.2.2.2.1, true)) && (if w.1 = 99 then (match am_NM[w.2]? with
        | some q => decide (q = (own, i, M.1, q.2.2.2))
        | none => false) else am_lw w (.methodLink own i M.1))
    | none => false))
  | _ => decide (r.2.2.1 = 1)
set_option maxHeartbeats 4000000 in
theorem am_ck_ok {tb : Nat → Option am_M} {hd : am_Hd} (hb : am_base) (hcal : ∀ x M n isS, tb x = some M → hd x = some (n, isS) → am_cal M n isS) {own nm : String} {nL : Nat} {cc : ByteArray} {r : am_I} {w : Nat × Nat} (h : am_ck tb hd own nm nL cc r w = true) : am_good tb own nm nL cc r := by
  unfold am_ck at h
  rw [Bool.and_eq_true] at h
  obtain ⟨h0, h⟩ := h
  refine ⟨of_decide_eq_true h0, ?_⟩
  obtain ⟨pc, ins, len, stop, x, y, z⟩ := r
  obtain ⟨⟨b1, b2, b3⟩, ⟨b4, b5, b6⟩, ⟨b7, b8⟩, ⟨b9, b10, b11⟩, bC⟩ := hb
  dsimp only at h ⊢
  cases ins with
  | ldc i => rw [Bool.and_eq_true] at h; exact ⟨of_decide_eq_true h.1, am_lw_ok h.2⟩
  | ldc_w i => rw [Bool.and_eq_true] at h; exact ⟨of_decide_eq_true h.1, am_lw_ok h.2⟩
  | getfield i =>
    rw [Bool.and_eq_true] at h
    obtain ⟨h1, h⟩ := h
    split at h
    · rename_i q hq
      rw [Bool.and_eq_true] at h
      exact ⟨of_decide_eq_true h1, q, hq, of_decide_eq_true h.1, am_lf_ok h.2⟩
    · cases h
  | putfield i =>
    rw [Bool.and_eq_true] at h
    obtain ⟨h1, h⟩ := h
    split at h
    · rename_i q hq
      split at h
      · rename_i ty hty
        rw [Bool.and_eq_true] at h
        obtain ⟨h2, h3⟩ := h
        refine ⟨of_decide_eq_true h1, q, ty, hq, hty, fun e => ?_, fun e => ?_, fun e => ?_, ?_⟩
        · rw [if_pos e] at h2
          exact of_decide_eq_true h2
        · rw [if_neg (by omega), if_pos e] at h2
          exact of_decide_eq_true h2
        · rw [if_neg (by omega), if_neg (by omega)] at h2
          split at h2
          · exact Or.inl ⟨_, rfl⟩
          · exact Or.inr ⟨_, rfl⟩
          · cases h2
        · split at h3
          · rename_i hf
            rw [Bool.and_eq_true] at h3
            obtain ⟨h4, h5⟩ := h3
            have := of_decide_eq_true h4
            exact Or.inr ⟨hf, this.1, this.2, am_lw_ok h5⟩
          · rename_i hf
            exact Or.inl ⟨by simpa using hf, am_lf_ok h3⟩
      · cases h
    · cases h
  | getstatic i =>
    rw [Bool.and_eq_true] at h
    obtain ⟨h1, h⟩ := h
    split at h
    · rename_i q hq
      exact ⟨of_decide_eq_true h1, q, hq, am_lw_ok h⟩
    · cases h
  | newarray ty =>
    cases ty with
    | int => exact ⟨of_decide_eq_true h, b3⟩
    | _ => exact of_decide_eq_true h
  | new i =>
    rw [Bool.and_eq_true] at h
    obtain ⟨h1, h⟩ := h
    split at h
    · rename_i q hq
      obtain ⟨c1, c2, c3, c4⟩ := bC _ _ hq
      exact ⟨of_decide_eq_true h1, q, hq, am_lw_ok h, c1, c2, c3, c4⟩
    · cases h
  | invokespecial i =>
    rw [Bool.and_eq_true] at h
    obtain ⟨h1, h⟩ := h
    refine ⟨of_decide_eq_true h1, fun e => ?_, fun e => ?_⟩
    · rw [if_pos e] at h
      exact ⟨am_lw_ok h, b1, b2⟩
    · rw [if_neg e] at h
      split at h
      · rename_i M hM
        simp only [Bool.and_eq_true, decide_eq_true_eq] at h
        obtain ⟨⟨⟨h2, h3⟩, h4⟩, h5⟩ := h
        obtain ⟨c1, c2, c3, c4⟩ := hcal _ _ _ _ hM h2
        exact ⟨M, hM, c1, h3, am_lw_ok h4, c3 rfl, h5⟩
      · cases h
  | invokevirtual i =>
    rw [Bool.and_eq_true] at h
    obtain ⟨h1, h⟩ := h
    split at h
    · rename_i M q hM hq
      simp only [Bool.and_eq_true, decide_eq_true_eq] at h
      obtain ⟨⟨⟨h2, h3⟩, h4⟩, h5⟩ := h
      obtain ⟨c1, c2, c3, c4⟩ := hcal _ _ _ _ hM h2
      refine ⟨of_decide_eq_true h1, M, hM, c1, ⟨q, hq, h3⟩, ?_, c3 rfl, c4 rfl h4⟩
      split at h5
      · split at h5
        · rename_i q' hq'
          have := of_decide_eq_true h5
          refine Or.inr ⟨q'.2.2.2, ?_⟩
          rw [← this]
          exact List.mem_of_getElem? hq'
        · cases h5
      · exact Or.inl (am_lw_ok h5)
    · cases h
  | invokestatic i =>
    rw [Bool.and_eq_true] at h
    obtain ⟨h1, h⟩ := h
    refine ⟨of_decide_eq_true h1, fun e => ?_, fun e => ?_, fun e => ?_, fun e5 e6 e7 => ?_⟩
    · rw [if_pos e] at h
      exact ⟨am_lw_ok h, b4, b5, b6⟩
    · rw [if_neg (by omega), if_pos e] at h
      exact ⟨am_lw_ok h, b7, b5, b8⟩
    · rw [if_neg (by omega), if_neg (by omega), if_pos e] at h
      exact ⟨am_lw_ok h, b9, b10, b11⟩
    · rw [if_neg e5, if_neg e6, if_neg e7] at h
      split at h
      · rename_i M hM
        rw [Bool.and_eq_true] at h
        obtain ⟨h2, h3⟩ := h
        obtain ⟨c1, c2, c3, c4⟩ := hcal _ _ _ _ hM (of_decide_eq_true h2)
        refine ⟨M, hM, c1, c2 rfl, ?_⟩
        split at h3
        · split at h3
          · rename_i q hq
            have := of_decide_eq_true h3
            refine Or.inr ⟨q.2.2.2, ?_⟩
            rw [← this]
            exact List.mem_of_getElem? hq
          · cases h3
        · exact Or.inl (am_lw_ok h3)
      · cases h
  | _ => exact of_decide_eq_true h
def am_ckt (cc : ByteArray) (ret : Option FieldType) (r : am_I) : Bool := match r.2.1 with
  | .ireturn => decide (decode cc r.1 = .ok (.ireturn, 1)) && (if r.2.2.2.2.1 = 0 then decide (ret = some .int) else decide (ret = some .boolean))
  | .areturn => decide (decode cc r.1 = .ok (.areturn, 1)) && (match ret with
    | some (.object _) => true
    | some (.array _) => true
    | _ => false)
  | .return_ => decide (decode cc r.1 = .ok (.return_, 1)) && decide (ret = none)
  | _ => true
theorem am_ckt_ok {cc : ByteArray} {ret : Option FieldType} {r : am_I} (h : am_ckt cc ret r = true) : am_term cc ret r := by
  obtain ⟨pc, ins, len, stop, x, y, z⟩ := r
  unfold am_ckt at h
  unfold am_term
  dsimp only at h ⊢
  cases ins with
  | ireturn =>
    rw [Bool.and_eq_true] at h
    refine ⟨of_decide_eq_true h.1, fun e => ?_, fun e => ?_⟩
    · have := h.2
      rw [if_pos e] at this
      exact of_decide_eq_true this
    · have := h.2
      rw [if_neg e] at this
      exact of_decide_eq_true this
  | areturn =>
    rw [Bool.and_eq_true] at h
    obtain ⟨h1, h2⟩ := h
    refine ⟨of_decide_eq_true h1, ?_⟩
    split at h2
    · exact ⟨_, rfl, Or.inl ⟨_, rfl⟩⟩
    · exact ⟨_, rfl, Or.inr ⟨_, rfl⟩⟩
    · cases h2
  | return_ =>
    rw [Bool.and_eq_true] at h
    exact ⟨of_decide_eq_true h.1, of_decide_eq_true h.2⟩
  | _ => trivial
def am_ckch : List am_I → Bool
  | [] => true
  | [_] => true
  | e :: e' :: r => (decide (e.2.2.2.1 = 1) || decide (e'.1 = e.1 + e.2.2.1)) && am_ckch (e' :: r)
theorem am_ckch_ok : ∀ {l : List am_I}, am_ckch l = true → am_chain l
  | [], _ => trivial
  | [_], _ => trivial
  | e :: e' :: r, h => by
    unfold am_ckch at h
    simp only [Bool.and_eq_true, Bool.or_eq_true, decide_eq_true_eq] at h
    exact ⟨h.1, am_ckch_ok h.2⟩
def am_ckrs (tb : Nat → Option am_M) (hd : am_Hd) (own nm : String) (nL : Nat) (cc : ByteArray) (ret : Option FieldType) : List am_I → List (Nat × Nat) → Bool
  | [], _ => true
  | r :: rs, w :: ws => (if r.2.2.2.1 = 1 then am_ckt cc ret r else am_ck tb hd own nm nL cc r w) && am_ckrs tb hd own nm nL cc ret rs ws
  | _ :: _, [] => false
theorem am_ckrs_ok {tb : Nat → Option am_M} {hd : am_Hd} (hb : am_base) (hcal : ∀ x M n isS, tb x = some M → hd x = some (n, isS) → am_cal M n isS) {own nm : String} {nL : Nat} {cc : ByteArray} {ret : Option FieldType} : ∀ (rs : List am_I) (ws : List (Nat × Nat)), am_ckrs tb hd own nm nL cc ret rs ws = true → (∀ r ∈ rs, r.2.2.2.1 ≠ 1 → am_good tb own nm nL cc r) ∧ (∀ r ∈ rs, r.2.2.2.1 = 1 → am_term cc ret r)
  | [], _, _ => ⟨fun _ h => absurd h List.not_mem_nil, fun _ h => absurd h List.not_mem_nil⟩
  | r :: rs, w :: ws, h => by
    unfold am_ckrs at h
    rw [Bool.and_eq_true] at h
    obtain ⟨i1, i2⟩ := am_ckrs_ok hb hcal rs ws h.2
    refine ⟨fun q hq hn => ?_, fun q hq hn => ?_⟩
    · rcases List.mem_cons.mp hq with rfl | hq
      · have := h.1
        rw [if_neg hn] at this
        exact am_ck_ok hb hcal this
      · exact i1 q hq hn
    · rcases List.mem_cons.mp hq with rfl | hq
      · have := h.1
        rw [if_pos hn] at this
        exact am_ckt_ok this
      · exact i2 q hq hn
  | _ :: _, [], h => by unfold am_ckrs at h; cases h
/-- the whole check of a method -/
def am_ckM (tb : Nat → Option am_M) (hd : am_Hd) (M : am_M) (ws : List (Nat × Nat)) : Bool :=
  am_ckrs tb hd M.1.cls M.1.name M.2.2.1 M.2.1 M.2.2.2.1 M.2.2.2.2 ws && am_ckch M.2.2.2.2 && (match M.2.2.2.2 with
    | [] => false
    | e :: _ => decide (e.1 = 0 ∧ e.2.2.2.1 ≠ 1)) && plainName M.1.cls
theorem am_ckM_ok {tb : Nat → Option am_M} {hd : am_Hd} (hb : am_base) (hcal : ∀ x M n isS, tb x = some M → hd x = some (n, isS) → am_cal M n isS) {M : am_M} {ws : List (Nat × Nat)} (h : am_ckM tb hd M ws = true) : am_okM tb M := by
  unfold am_ckM at h
  simp only [Bool.and_eq_true] at h
  obtain ⟨⟨⟨h1, h2⟩, h3⟩, h4⟩ := h
  obtain ⟨i1, i2⟩ := am_ckrs_ok hb hcal _ _ h1
  refine ⟨i1, i2, am_ckch_ok h2, fun e r hd => ?_, h4⟩
  split at h3
  · cases h3
  · rename_i e9 r9 hM
    have := of_decide_eq_true h3
    rw [hM, List.dropWhile_cons, if_neg (by simp [this.1])] at hd
    cases hd
    exact this.2
