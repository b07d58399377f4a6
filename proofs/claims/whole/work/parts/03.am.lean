/-! THE ABSTRACT MACHINE: a pure function that runs resolved rows of bytecode over a heap of int arrays and objects at absolute addresses. -/
abbrev am_C : Type := (Nat × (Nat → Int32)) ⊕ (Nat × List Value)
/-- the heap's size, its known cells, the slots made so far -/
abbrev am_S : Type := Nat × (Nat → Option am_C) × Nat
abbrev am_L : Type := List (Nat × Value)
/-- a row: pc, instruction, length, stop (0 none, 1 an end, m + 2 a head that keeps the locals of the mask m), three resolved numbers -/
abbrev am_I : Type := Nat × Instr × Nat × Nat × Nat × Nat × Nat
/-- where a run stopped: pc, locals, stack, state -/
abbrev am_O : Type := Nat × am_L × List Value × am_S
/-- a method: name, bytes, locals, answer, rows -/
abbrev am_M : Type := MethodName × ByteArray × Nat × Option FieldType × List am_I
abbrev am_F : Type := Nat → List Value → am_S → Option (Option Value × am_S)
def am_upd (h : Nat → Option am_C) (a : Nat) (c : am_C) : Nat → Option am_C := fun x => if x = a then some c else h x
def am_arr (σ : am_S) (a : Nat) : Option (Nat × (Nat → Int32)) := match σ.2.1 a with
  | some (.inl x) => some x
  | _ => none
def am_obj (σ : am_S) (a ci : Nat) : Option (List Value) := match σ.2.1 a with
  | some (.inr x) => if x.1 = ci then some x.2 else none
  | _ => none
def am_iald (σ : am_S) (a : Nat) (i : Int32) : Option Int32 := (am_arr σ a).bind fun x => if i < 0 ∨ x.1 ≤ i.toNatClampNeg then none else some (x.2 i.toNatClampNeg)
def am_alen (σ : am_S) (a : Nat) : Option Int32 := (am_arr σ a).bind fun x => some (Int32.ofNat x.1)
def am_iast (B : Nat) (σ : am_S) (a : Nat) (i x : Int32) : Option am_S := (am_arr σ a).bind fun y => if a < B ∨ i < 0 ∨ y.1 ≤ i.toNatClampNeg then none else some (σ.1, am_upd σ.2.1 a (.inl (y.1, upd y.2 i.toNatClampNeg x)), σ.2.2)
def am_geti (σ : am_S) (a ci k : Nat) : Option Int32 := (am_obj σ a ci).bind fun fs => match fs[k]? with
  | some (.int x) => some x
  | _ => none
def am_getr (σ : am_S) (a ci k : Nat) : Option Nat := (am_obj σ a ci).bind fun fs => match fs[k]? with
  | some (.ref x) => some x
  | _ => none
def am_put (B : Nat) (σ : am_S) (a ci k : Nat) (v : Value) : Option am_S := (am_obj σ a ci).bind fun fs => if a < B ∨ fs.length ≤ k then none else some (σ.1, am_upd σ.2.1 a (.inr (ci, fs.set k v)), σ.2.2)
def am_new (σ : am_S) (ci : Nat) (fs : List Value) : am_S := (σ.1 + 1, am_upd σ.2.1 σ.1 (.inr (ci, fs)), σ.2.2 + fs.length)
def am_nwa (σ : am_S) (n : Nat) : am_S := (σ.1 + 1, am_upd σ.2.1 σ.1 (.inl (n, fun _ => 0)), σ.2.2 + n)
/-- System.arraycopy of n ints from place sp of a0 to place dp of a -/
def am_cpy (B : Nat) (σ : am_S) (a0 : Nat) (sp : Int32) (a : Nat) (dp n : Int32) : Option am_S :=
  (am_arr σ a0).bind fun x => (am_arr σ a).bind fun y =>
    if a0 < B ∨ a < B ∨ sp < 0 ∨ dp < 0 ∨ n < 0 ∨ x.1 < sp.toNatClampNeg + n.toNatClampNeg ∨ y.1 < dp.toNatClampNeg + n.toNatClampNeg then none
    else some (σ.1, am_upd σ.2.1 a (.inl (y.1, va_cpy x.2 y.2 sp.toNatClampNeg dp.toNatClampNeg n.toNatClampNeg)), σ.2.2)
def am_sto (L : am_L) (i : Nat) (v : Value) : am_L := (i, v) :: L.filter (fun q => !(q.1 == i) && !(q.1 + 1 == i && q.2.category == 2))
def am_lk : am_L → Nat → Option Value
  | [], _ => none
  | q :: L, i => if q.1 = i then some q.2 else am_lk L i
/-- the locals that a mask names, in their order -/
def am_keep (L : am_L) : Nat → Nat → Nat → Option am_L
  | _, 0, _ => some []
  | i, n + 1, m => if m % 2 = 0 then am_keep L (i + 1) n (m / 2) else (am_lk L i).bind fun v => (am_keep L (i + 1) n (m / 2)).bind fun r => some ((i, v) :: r)
def am_small (st : List Value) : Bool := decide ((st.map fun v => v.category).sum ≤ 8)
def am_sw {α : Type} (v : Int) (dflt : α) (jp : Int → α) : List Int → Int → α
  | [], _ => dflt
  | o :: os, lo => if v = lo then jp o else am_sw v dflt jp os (lo + 1)
/-- what a call gives back, by its kind: 0 nothing, 1 an int, 2 a reference or null -/
def am_back {α : Type} (kind : Nat) (r : Option (Option Value × am_S)) (rest : List Value) (nx : List Value → am_S → Option α) : Option α := match kind with
  | 0 => r.bind fun q => match q.1 with
    | none => nx rest q.2
    | _ => none
  | 1 => r.bind fun q => match q.1 with
    | some (.int x) => nx (.int x :: rest) q.2
    | _ => none
  | _ => r.bind fun q => match q.1 with
    | some (.ref a) => nx (.ref a :: rest) q.2
    | some .null => nx (.null :: rest) q.2
    | _ => none
/-- a compare; by choice, so that no program runs into its numbers -/
noncomputable def am_cond (c : Jvm.ClassFile.Cond) (x y : Int32) : Bool := match c with
  | .eq => @decide (x = y) (Classical.propDecidable _)
  | .ne => @decide (x ≠ y) (Classical.propDecidable _)
  | .lt => @decide (x < y) (Classical.propDecidable _)
  | .ge => @decide (y ≤ x) (Classical.propDecidable _)
  | .gt => @decide (y < x) (Classical.propDecidable _)
  | .le => @decide (x ≤ y) (Classical.propDecidable _)
/-- a call of a method of the table -/
def am_inv {α : Type} (cl : am_F) (x n ret : Nat) (st : List Value) (σ : am_S) (nx : List Value → am_S → Option α) : Option α :=
  if st.length < n then none else if am_small (st.drop n) then am_back ret (cl x (st.take n).reverse σ) (st.drop n) nx else none
/-- the same of a constructor -/
def am_invI {α : Type} (cl : am_F) (x n : Nat) (st : List Value) (σ : am_S) (nx : List Value → am_S → Option α) : Option α :=
  if st.length < n then none else if am_small (st.drop n) then (match (st.take n).reverse with
    | .ref b :: as => am_back 0 (cl x (.ref b :: as) σ) (st.drop n) nx
    | _ => none) else none
/-- the same of an object's method: the receiver is an object of that class -/
def am_invV {α : Type} (cl : am_F) (x n ret ci : Nat) (st : List Value) (σ : am_S) (nx : List Value → am_S → Option α) : Option α :=
  if st.length < n then none else if am_small (st.drop n) then (match (st.take n).reverse with
    | .ref b :: as => (am_obj σ b ci).bind fun _ => am_back ret (cl x (.ref b :: as) σ) (st.drop n) nx
    | _ => none) else none
/-- one row: nx is the next row, jp the row at a pc -/
noncomputable def am_step {α : Type} (B : Nat) (sa : Nat → Nat) (dfl : Nat → List Value) (cl : am_F) (e : am_I) (L : am_L) (st : List Value) (σ : am_S) (nx : am_L → List Value → am_S → Option α) (jp : Nat → am_L → List Value → am_S → Option α) : Option α :=
  match e.2.1 with
  | .iconst n => nx L (.int (Int32.ofInt n) :: st) σ
  | .bipush n => nx L (.int (Int8.ofInt n).toInt32 :: st) σ
  | .sipush n => nx L (.int (Int16.ofInt n).toInt32 :: st) σ
  | .ldc _ => nx L (.int (Int32.ofNat e.2.2.2.2.1) :: st) σ
  | .ldc_w _ => nx L (.int (Int32.ofNat e.2.2.2.2.1) :: st) σ
  | .aconst_null => nx L (.null :: st) σ
  | .iload_n k => match am_lk L k.val with
    | some (.int v) => nx L (.int v :: st) σ
    | _ => none
  | .iload k => match am_lk L k with
    | some (.int v) => nx L (.int v :: st) σ
    | _ => none
  | .aload_n k => match am_lk L k.val with
    | some (.ref v) => nx L (.ref v :: st) σ
    | some .null => nx L (.null :: st) σ
    | _ => none
  | .aload k => match am_lk L k with
    | some (.ref v) => nx L (.ref v :: st) σ
    | some .null => nx L (.null :: st) σ
    | _ => none
  | .istore_n k => match st with
    | .int v :: r => nx (am_sto L k.val (.int v)) r σ
    | _ => none
  | .istore k => match st with
    | .int v :: r => nx (am_sto L k (.int v)) r σ
    | _ => none
  | .astore_n k => match st with
    | .ref v :: r => nx (am_sto L k.val (.ref v)) r σ
    | .null :: r => nx (am_sto L k.val .null) r σ
    | _ => none
  | .astore k => match st with
    | .ref v :: r => nx (am_sto L k (.ref v)) r σ
    | .null :: r => nx (am_sto L k .null) r σ
    | _ => none
  | .iinc k n => match am_lk L k with
    | some (.int v) => nx (am_sto L k (.int (v + Int32.ofInt n))) st σ
    | _ => none
  | .iadd => match st with
    | .int y :: .int x :: r => nx L (.int (x + y) :: r) σ
    | _ => none
  | .isub => match st with
    | .int y :: .int x :: r => nx L (.int (x - y) :: r) σ
    | _ => none
  | .imul => match st with
    | .int y :: .int x :: r => nx L (.int (x * y) :: r) σ
    | _ => none
  | .iand => match st with
    | .int y :: .int x :: r => nx L (.int (x &&& y) :: r) σ
    | _ => none
  | .ixor => match st with
    | .int y :: .int x :: r => nx L (.int (x ^^^ y) :: r) σ
    | _ => none
  | .iushr => match st with
    | .int y :: .int x :: r => nx L (.int (x.toUInt32 >>> (y.toUInt32 &&& Int32.toUInt32 31)).toInt32 :: r) σ
    | _ => none
  | .idiv => match st with
    | .int y :: .int x :: r => if y = 0 then none else nx L (.int (x / y) :: r) σ
    | _ => none
  | .irem => match st with
    | .int y :: .int x :: r => if y = 0 then none else nx L (.int (x - x / y * y) :: r) σ
    | _ => none
  | .ineg => match st with
    | .int x :: r => nx L (.int (-x) :: r) σ
    | _ => none
  | .dup => match st with
    | .int x :: r => nx L (.int x :: .int x :: r) σ
    | .ref x :: r => nx L (.ref x :: .ref x :: r) σ
    | _ => none
  | .dup2 => match st with
    | .int y :: .ref x :: r => nx L (.int y :: .ref x :: .int y :: .ref x :: r) σ
    | _ => none
  | .pop => match st with
    | .int _ :: r => nx L r σ
    | .ref _ :: r => nx L r σ
    | _ => none
  | .goto _ => jp e.2.2.2.2.1 L st σ
  | .if_icmp c _ => match st with
    | .int y :: .int x :: r => if am_cond c x y = true then jp e.2.2.2.2.1 L r σ else nx L r σ
    | _ => none
  | .ifCond c _ => match st with
    | .int x :: r => if am_cond c x 0 = true then jp e.2.2.2.2.1 L r σ else nx L r σ
    | _ => none
  | .ifnull _ => match st with
    | .null :: r => jp e.2.2.2.2.1 L r σ
    | .ref _ :: r => nx L r σ
    | _ => none
  | .ifnonnull _ => match st with
    | .null :: r => nx L r σ
    | .ref _ :: r => jp e.2.2.2.2.1 L r σ
    | _ => none
  | .tableswitch dflt lo _ offs => match st with
    | .int x :: r => am_sw x.toInt (jp ((e.1 : Int) + dflt).toNat L r σ) (fun o => jp ((e.1 : Int) + o).toNat L r σ) offs.toList lo
    | _ => none
  | .getfield _ => match st with
    | .ref a :: r => if e.2.2.2.2.2.2 % 2 = 0 then (am_geti σ a e.2.2.2.2.1 e.2.2.2.2.2.1).bind fun v => nx L (.int v :: r) σ else (am_getr σ a e.2.2.2.2.1 e.2.2.2.2.2.1).bind fun v => nx L (.ref v :: r) σ
    | _ => none
  | .putfield _ => match st with
    | .int v :: .ref a :: r => if e.2.2.2.2.2.2 % 3 = 0 then (am_put B σ a e.2.2.2.2.1 e.2.2.2.2.2.1 (.int v)).bind fun σ' => nx L r σ'
        else if e.2.2.2.2.2.2 % 3 = 2 then (if v = 0 ∨ v = 1 then (am_put B σ a e.2.2.2.2.1 e.2.2.2.2.2.1 (.int v)).bind fun σ' => nx L r σ' else none) else none
    | .ref v :: .ref a :: r => if e.2.2.2.2.2.2 % 3 = 1 then (am_put B σ a e.2.2.2.2.1 e.2.2.2.2.2.1 (.ref v)).bind fun σ' => nx L r σ' else none
    | _ => none
  | .getstatic _ => nx L (.ref (sa e.2.2.2.2.1) :: st) σ
  | .iaload => match st with
    | .int i :: .ref a :: r => (am_iald σ a i).bind fun v => nx L (.int v :: r) σ
    | _ => none
  | .iastore => match st with
    | .int x :: .int i :: .ref a :: r => (am_iast B σ a i x).bind fun σ' => nx L r σ'
    | _ => none
  | .arraylength => match st with
    | .ref a :: r => (am_alen σ a).bind fun v => nx L (.int v :: r) σ
    | _ => none
  | .newarray .int => match st with
    | .int n :: r => if n < 0 ∨ 100000 < n then none else nx L (.ref σ.1 :: r) (am_nwa σ n.toNatClampNeg)
    | _ => none
  | .new _ => nx L (.ref σ.1 :: st) (am_new σ e.2.2.2.2.1 (dfl e.2.2.2.2.1))
  | .invokespecial _ => if e.2.2.2.2.2.2 = 0 then (match st with
    | .ref _ :: r => if am_small r then nx L r σ else none
    | _ => none) else am_invI cl e.2.2.2.2.1 (e.2.2.2.2.2.1 + 1) st σ (nx L)
  | .invokevirtual _ => am_invV cl e.2.2.2.2.1 (e.2.2.2.2.2.1 + 1) (e.2.2.2.2.2.2 / 10 % 10) (e.2.2.2.2.2.2 / 100) st σ (nx L)
  | .invokestatic _ => if e.2.2.2.2.2.2 = 5 then (match st with
    | .int y :: .int x :: r => if am_small r then nx L (.int (if x < y then y else x) :: r) σ else none
    | _ => none) else if e.2.2.2.2.2.2 = 6 then (match st with
    | .int y :: .int x :: r => if am_small r then nx L (.int (if y < x then y else x) :: r) σ else none
    | _ => none) else if e.2.2.2.2.2.2 = 7 then (match st with
    | .int n :: .int dp :: .ref a :: .int sp :: .ref a0 :: r => if am_small r then (am_cpy B σ a0 sp a dp n).bind fun σ' => nx L r σ' else none
    | _ => none) else am_inv cl e.2.2.2.2.1 e.2.2.2.2.2.1 (e.2.2.2.2.2.2 / 10 % 10) st σ (nx L)
  | _ => none
/-- a stretch: from the row at the head of cur on, up to the first row that stops -/
noncomputable def am_blk (B : Nat) (sa : Nat → Nat) (dfl : Nat → List Value) (cl : am_F) (code : List am_I) : Nat → List am_I → am_L → List Value → am_S → Option am_O
  | 0, _, _, _, _ => none
  | _ + 1, [], _, _, _ => none
  | g + 1, e :: rest, L, st, σ => am_step B sa dfl cl e L st σ
      (fun L st σ => match rest with
        | [] => none
        | e' :: _ => if e'.2.2.2.1 = 0 then am_blk B sa dfl cl code g rest L st σ else some (e'.1, L, st, σ))
      (fun pc L st σ => match code.dropWhile (fun e' => e'.1 != pc) with
        | [] => none
        | e' :: r => if e'.2.2.2.1 = 0 then am_blk B sa dfl cl code g (e' :: r) L st σ else some (e'.1, L, st, σ))
/-- stretch after stretch, up to an end: its pc, stack, state -/
noncomputable def am_exec (B : Nat) (sa : Nat → Nat) (dfl : Nat → List Value) (cl : am_F) (code : List am_I) : Nat → Nat → am_L → List Value → am_S → Option (Nat × List Value × am_S)
  | 0, _, _, _, _ => none
  | f + 1, pc, L, st, σ => (am_blk B sa dfl cl code code.length (code.dropWhile (fun e' => e'.1 != pc)) L st σ).bind fun o =>
      match code.dropWhile (fun e' => e'.1 != o.1) with
      | [] => none
      | e' :: _ => if e'.2.2.2.1 = 1 then some (o.1, o.2.2.1, o.2.2.2) else (am_keep o.2.1 0 16 (e'.2.2.2.1 - 2)).bind fun L' => am_exec B sa dfl cl code f o.1 L' o.2.2.1 o.2.2.2
/-- an end that returns: the answer -/
def am_end (code : List am_I) (o : Nat × List Value × am_S) : Option (Option Value × am_S) := match code.dropWhile (fun e' => e'.1 != o.1) with
  | [] => none
  | e' :: _ => match e'.2.1, o.2.1 with
    | .ireturn, [.int v] => if e'.2.2.2.2.1 = 0 ∨ v = 0 ∨ v = 1 then some (some (.int v), o.2.2) else none
    | .areturn, [.ref a] => some (some (.ref a), o.2.2)
    | .areturn, [.null] => some (some .null, o.2.2)
    | .return_, [] => some (none, o.2.2)
    | _, _ => none
/-- a method of the table at its arguments: d calls deep at most, f stretches long at most in each -/
noncomputable def am_call (B : Nat) (sa : Nat → Nat) (dfl : Nat → List Value) (tb : Nat → Option am_M) (f : Nat) : Nat → am_F
  | 0, _, _, _ => none
  | d + 1, mi, as, σ => (tb mi).bind fun M => if M.2.2.1 < (lg_sl as).length then none else (am_exec B sa dfl (am_call B sa dfl tb f d) M.2.2.2.2 f 0 (lv_args 0 as) [] σ).bind fun o => am_end M.2.2.2.2 o
