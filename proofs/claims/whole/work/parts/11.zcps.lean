/-! stretches with what comes behind them: the equations of a method's code -/
noncomputable def am_bk {α : Type} (B : Nat) (sa : Nat → Nat) (dfl : Nat → List Value) (cl : am_F) (code : List am_I) (k : Nat → am_L → List Value → am_S → Option α) : Nat → List am_I → am_L → List Value → am_S → Option α
  | 0, _, _, _, _ => none
  | _ + 1, [], _, _, _ => none
  | g + 1, e :: rest, L, st, σ => am_step B sa dfl cl e L st σ
      (fun L st σ => match rest with
        | [] => none
        | e' :: _ => if e'.2.2.2.1 = 0 then am_bk B sa dfl cl code k g rest L st σ else k e'.1 L st σ)
      (fun pc L st σ => match code.dropWhile (fun e' => e'.1 != pc) with
        | [] => none
        | e' :: r => if e'.2.2.2.1 = 0 then am_bk B sa dfl cl code k g (e' :: r) L st σ else k e'.1 L st σ)
section AMB
variable {B : Nat} {sa : Nat → Nat} {dfl : Nat → List Value} {cl : am_F}
theorem am_sw_bind {α β : Type} {v : Int} {K : α → Option β} (dflt : Option α) (jp : Int → Option α) : ∀ (os : List Int) (lo : Int), am_sw v (dflt.bind K) (fun o => (jp o).bind K) os lo = (am_sw v dflt jp os lo).bind K
  | [], _ => rfl
  | o :: os, lo => by
    unfold am_sw
    split
    · rfl
    · exact am_sw_bind dflt jp os (lo + 1)
theorem am_back_bind {α β : Type} {kind : Nat} {r : Option (Option Value × am_S)} {rest : List Value} {nx : List Value → am_S → Option α} {K : α → Option β} : am_back kind r rest (fun st σ => (nx st σ).bind K) = (am_back kind r rest nx).bind K := by
  unfold am_back
  cases r with
  | none => split <;> rfl
  | some q =>
    split <;> simp only [Option.bind_some]
    · split <;> rfl
    · split <;> rfl
    · split <;> rfl
set_option maxHeartbeats 4000000 in
theorem am_step_bind {α β : Type} {r : am_I} {L : am_L} {st : List Value} {σ : am_S} {nx : am_L → List Value → am_S → Option α} {jp : Nat → am_L → List Value → am_S → Option α} {K : α → Option β} :
    am_step B sa dfl cl r L st σ (fun L st σ => (nx L st σ).bind K) (fun pc L st σ => (jp pc L st σ).bind K) = (am_step B sa dfl cl r L st σ nx jp).bind K := by
  obtain ⟨pc, ins, len, stop, x, y, z⟩ := r
  cases ins with
  | tableswitch dflt lo hi offs =>
    unfold am_step
    dsimp only
    split
    · exact am_sw_bind _ _ _ _
    · rfl
  | invokevirtual i =>
    unfold am_step am_invV
    dsimp only
    split
    · rfl
    · split
      · split
        · rw [Option.bind_assoc]
          congr 1
          funext q
          exact am_back_bind
        · rfl
      · rfl
  | invokespecial i =>
    unfold am_step am_invI
    dsimp only
    repeat' (first | rfl | exact am_back_bind | split)
  | invokestatic i =>
    unfold am_step am_inv
    dsimp only
    repeat' (first | rfl | exact am_back_bind | (rw [Option.bind_assoc]; done) | split)
  | newarray ty =>
    unfold am_step
    dsimp only
    cases ty <;> dsimp only <;> repeat' (first | rfl | split)
  | _ =>
    unfold am_step
    dsimp only
    repeat' (first | rfl | (rw [Option.bind_assoc]; done) | split)
theorem am_bk_eq {α : Type} {code : List am_I} {k : Nat → am_L → List Value → am_S → Option α} : ∀ (g : Nat) (cur : List am_I) (L : am_L) (st : List Value) (σ : am_S), am_bk B sa dfl cl code k g cur L st σ = (am_blk B sa dfl cl code g cur L st σ).bind fun o => k o.1 o.2.1 o.2.2.1 o.2.2.2 := by
  intro g
  induction g with
  | zero => intro cur L st σ; rfl
  | succ g ih =>
    intro cur L st σ
    cases cur with
    | nil => rfl
    | cons e rest =>
      unfold am_bk am_blk
      rw [← am_step_bind]
      congr 1
      · funext L st σ
        cases rest with
        | nil => rfl
        | cons e' r =>
          dsimp only
          split
          · exact ih _ _ _ _
          · rfl
      · funext pc L st σ
        cases hd : code.dropWhile (fun e' => e'.1 != pc) with
        | nil => rfl
        | cons e' r =>
          dsimp only
          split
          · exact ih _ _ _ _
          · rfl
end AMB
/-- a run from a pc to its answer -/
noncomputable def am_go (B : Nat) (sa : Nat → Nat) (dfl : Nat → List Value) (cl : am_F) (code : List am_I) (f pc : Nat) (L : am_L) (st : List Value) (σ : am_S) : Option (Option Value × am_S) := (am_exec B sa dfl cl code f pc L st σ).bind fun o => am_end code o
/-- behind a stretch -/
noncomputable def am_nx (B : Nat) (sa : Nat → Nat) (dfl : Nat → List Value) (cl : am_F) (code : List am_I) (f : Nat) (pc : Nat) (L : am_L) (st : List Value) (σ : am_S) : Option (Option Value × am_S) := match code.dropWhile (fun e' => e'.1 != pc) with
  | [] => none
  | e' :: _ => if e'.2.2.2.1 = 1 then am_end code (pc, st, σ) else (am_keep L 0 16 (e'.2.2.2.1 - 2)).bind fun L' => am_go B sa dfl cl code f pc L' st σ
theorem am_go_succ {B : Nat} {sa : Nat → Nat} {dfl : Nat → List Value} {cl : am_F} {code : List am_I} {f pc : Nat} {L : am_L} {st : List Value} {σ : am_S} :
    am_go B sa dfl cl code (f + 1) pc L st σ = am_bk B sa dfl cl code (am_nx B sa dfl cl code f) code.length (code.dropWhile (fun e' => e'.1 != pc)) L st σ := by
  rw [am_bk_eq]
  unfold am_go am_exec
  rw [Option.bind_assoc]
  congr 1
  funext o
  unfold am_nx
  cases hd : code.dropWhile (fun e' => e'.1 != o.1) with
  | nil => rfl
  | cons e' r =>
    dsimp only
    split
    · rfl
    · rw [Option.bind_assoc]
      rfl
theorem am_call_succ {B : Nat} {sa : Nat → Nat} {dfl : Nat → List Value} {tb : Nat → Option am_M} {f d mi : Nat} {as : List Value} {σ : am_S} {M : am_M} (hM : tb mi = some M) (hl : (lg_sl as).length ≤ M.2.2.1) :
    am_call B sa dfl tb f (d + 1) mi as σ = am_go B sa dfl (am_call B sa dfl tb f d) M.2.2.2.2 f 0 (lv_args 0 as) [] σ := by
  unfold am_call
  rw [hM]
  simp only [Option.bind_some]
  rw [if_neg (Nat.not_lt.mpr hl)]
  rfl
/-- the answer of a boolean method -/
def am_rz (v : Int32) (σ : am_S) : Option (Option Value × am_S) := if (1 : Nat) = 0 ∨ v = 0 ∨ v = 1 then some (some (.int v), σ) else none
/-- what a call gave back -/
def am_v {α : Type} (r : Option (Option Value × am_S)) (k : am_S → Option α) : Option α := r.bind fun q => match q.1 with
  | none => k q.2
  | _ => none
def am_i {α : Type} (r : Option (Option Value × am_S)) (k : Int32 → am_S → Option α) : Option α := r.bind fun q => match q.1 with
  | some (.int x) => k x q.2
  | _ => none
def am_p {α : Type} (r : Option (Option Value × am_S)) (k : Nat → am_S → Option α) (kn : am_S → Option α) : Option α := r.bind fun q => match q.1 with
  | some (.ref a) => k a q.2
  | some .null => kn q.2
  | _ => none
