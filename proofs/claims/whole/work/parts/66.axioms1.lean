/-! AXIOMS of the class, 1: what a formula comes to -/
/-- whether two types are the same -/
def q_beq : qT → qT → Bool
  | .leaf _, .leaf _ => true
  | .branch c l r, .branch c' l' r' => c == c' && q_beq l l' && q_beq r r'
  | _, _ => false
theorem q_beq_eq : ∀ {a b : qT}, q_beq a b = true → a = b
  | .leaf _, .leaf _, _ => rfl
  | .leaf _, .branch _ _ _, h => by cases h
  | .branch _ _ _, .leaf _, h => by cases h
  | .branch c l r, .branch c' l' r', h => by
    simp only [q_beq, Bool.and_eq_true, beq_iff_eq] at h
    rw [h.1.1, q_beq_eq h.1.2, q_beq_eq h.2]
/-- a type is of those that may be made -/
def q_inl (Gl : List qT) (t : qT) : Bool := Gl.any fun u => q_beq u t
theorem q_inl_mem {Gl : List qT} {t : qT} (h : q_inl Gl t = true) : t ∈ Gl := by
  obtain ⟨u, u1, u2⟩ := List.any_eq_true.mp h
  rw [← q_beq_eq u2]
  exact u1
/-- the part of a function's type -/
def q_ans : qT → Option (qT × qT)
  | .branch 2 a (.branch c l r) => some (a, .branch c l r)
  | _ => none
theorem q_ans_eq {t a q : qT} (h : q_ans t = some (a, q)) : t = qF a q ∧ q ≠ qE := by
  unfold q_ans at h
  split at h
  · obtain ⟨h1, h2⟩ := Prod.mk.inj (Option.some.inj h)
    rw [← h1, ← h2]
    exact ⟨rfl, fun z => by cases z⟩
  · cases h
section AX1
variable (Gl : List qT) (tO : Nat → Option qT) (F : List Nat)
/-- the type of the formula at a place -/
def ax_t : Nat → Nat → Option qT
  | 0, _ => none
  | g + 1, at' => match F[at']? with
    | none => none
    | some c => if c < 5 then tO c else if c = 10 then (ax_t g (at' + 1)).bind fun t => (q_ans t).map fun x => x.2
      else if c = 11 then (ax_t g (at' + 1)).bind fun a => (ax_t g (at' + 2)).bind fun q => if q_inl Gl (qF a q) = true then some (qF a q) else none
      else some qB
/-- where formulas end that are still to come, so many -/
def ax_e : Nat → Nat → Nat → Option Nat
  | 0, _, _ => none
  | g + 1, at', k => if k = 0 then some at' else match F[at']? with
    | none => some at'
    | some c => if c < 5 then ax_e g (at' + 1) (k - 1) else ax_e g (at' + 1) (k + 1)
/-- what stands before the sides of an equation, if it may -/
def ax_q (t : qT) : Option (List qS) := if q_inl Gl (qF t qB) = true ∧ q_inl Gl (qF t (qF t qB)) = true then some (w_eq t) else none
abbrev axB : Type := Nat → Option Nat
abbrev axR : Type := Option (List qS × axB)
def ax_then (x : axR) (k : axB → axR) : axR := x.bind fun p => (k p.2).map fun q => (p.1 ++ q.1, q.2)
def ax_put (l : List qS) (b : axB) : axR := some (l, b)
/-- what is written of a formula, and what is bound then -/
def ax_b (rec : Nat → Nat → axB → axR) (v p : Nat) (t : qT) (bn : Nat) (b : axB) : axR :=
  match F[v]? with
    | none => none
    | some c => if c < 5 then ax_then (ax_put [((-2 : Int32), t)] (fun y => if y = c then some bn else b y)) (rec p (bn + 1)) else none
def ax_all (rec : Nat → Nat → axB → axR) (g v p bn : Nat) (b : axB) : axR :=
  (ax_t Gl tO F g v).bind fun a => if q_inl Gl (qF a qB) = true then (ax_q Gl (qF a qB)).bind fun e =>
    ax_then (ax_put e b) fun b => ax_then (ax_b F rec v p (qF a qB) bn b) fun b => ax_then (ax_put [((-2 : Int32), qF a qB)] b) (rec (F.length - 7) (bn + 1)) else none
def ax_ex (rec : Nat → Nat → axB → axR) (g v p bn : Nat) (b : axB) : axR :=
  (ax_t Gl tO F g v).bind fun a => if q_inl Gl (qF a qB) = true ∧ q_inl Gl (qF (qF a qB) a) = true ∧ q_beq a qE = false then
    ax_then (ax_put [((-1 : Int32), qB)] b) fun b => ax_then (ax_b F rec v p (qF a qB) bn b) fun b => ax_then (ax_put [((-1 : Int32), a), (6, qF (qF a qB) a)] b) (ax_b F rec v p (qF a qB) bn) else none
def ax_o2 : qT := qF qB (qF qB qB)
def ax_and (rec : Nat → Nat → axB → axR) (p q bn : Nat) (b : axB) : axR :=
  if q_inl Gl (qF qB qB) = true ∧ q_inl Gl ax_o2 = true ∧ q_inl Gl (qF ax_o2 qB) = true then (ax_q Gl (qF ax_o2 qB)).bind fun e =>
    ax_then (ax_put (e ++ [((-2 : Int32), qF ax_o2 qB), ((-1 : Int32), qB), ((-1 : Int32), qF qB qB), ((0 : Int32), ax_o2)]) b) fun b => ax_then (rec p (bn + 1) b) fun b => ax_then (rec q (bn + 1) b) fun b =>
    ax_then (ax_put [((-2 : Int32), qF ax_o2 qB), ((-1 : Int32), qB), ((-1 : Int32), qF qB qB), ((0 : Int32), ax_o2)] b) fun b => ax_then (rec (F.length - 7) (bn + 1) b) fun b => rec (F.length - 7) (bn + 1) b else none
/-- what a name is where nothing binds it -/
def ax_u (c : Nat) : Nat := if c = 2 then 5 else if c = 4 then 6 else 1
def ax_n (c bn : Nat) (b : axB) : axR := (tO c).bind fun t => match b c with
  | none => ax_put [(nI (ax_u c), t)] b
  | some k => if k + 1 ≤ bn then ax_put [(4 * nI (bn - 1 - k), t)] b else none
def ax_w : Nat → Nat → Nat → axB → axR
  | 0, _, _, _ => none
  | g + 1, at', bn, b => match F[at']? with
    | none => none
    | some c => (ax_e F (g + 1) (at' + 1) 1).bind fun sec =>
      if c = 10 then (ax_t Gl tO F g at').bind fun t => ax_then (ax_put [((-1 : Int32), t)] b) fun b => ax_then (ax_w g (at' + 1) bn b) (ax_w g sec bn)
      else if c = 11 then (ax_t Gl tO F g at').bind fun t => ax_b F (ax_w g) (at' + 1) sec t bn b
      else if c = 12 then (ax_t Gl tO F g (at' + 1)).bind fun t => (ax_q Gl t).bind fun e => ax_then (ax_put e b) fun b => ax_then (ax_w g (at' + 1) bn b) (ax_w g sec bn)
      else if c = 13 then ax_and Gl F (ax_w g) (at' + 1) sec bn b
      else if c = 14 then (ax_q Gl qB).bind fun e => ax_then (ax_put e b) fun b => ax_then (ax_and Gl F (ax_w g) (at' + 1) sec bn b) (ax_w g (at' + 1) bn)
      else if c = 15 then ax_all Gl tO F (ax_w g) g (at' + 1) sec bn b
      else if c = 16 then ax_ex Gl tO F (ax_w g) g (at' + 1) sec bn b
      else if c < 5 then ax_n tO c bn b else none
end AX1
def ax_F0 : List Nat := [12, 11, 0, 10, 2, 0, 2, 12, 11, 3, 3, 11, 3, 3]
def ax_F1 : List Nat := [14, 10, 2, 0, 10, 2, 10, 4, 2, 12, 11, 3, 3, 11, 3, 3]
def ax_F2 : List Nat := [16, 2, 13, 15, 0, 15, 1, 14, 12, 10, 2, 0, 10, 2, 1, 12, 0, 1, 16, 1, 15, 0, 14, 12, 1, 10, 2, 0, 15, 3, 3, 12, 11, 3, 3, 11, 3, 3]
