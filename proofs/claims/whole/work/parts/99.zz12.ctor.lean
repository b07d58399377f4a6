/-! CONSTRUCTORS, 1: cells made one behind another -/
/-- the heap h0 below n0, the cells cs from there on -/
def wS (n0 : Nat) (h0 : Nat → Option am_C) (cs : List am_C) (k : Nat) : am_S := (n0 + cs.length, fun a => if a < n0 then h0 a else cs[a - n0]?, k)
def l_obj (cs : List am_C) (i ci : Nat) : Option (List Value) := match cs[i]? with
  | some (.inr x) => if x.1 = ci then some x.2 else none
  | _ => none
def l_arr (cs : List am_C) (i : Nat) : Option (Nat × (Nat → Int32)) := match cs[i]? with
  | some (.inl x) => some x
  | _ => none
section WS
variable {n0 k B i ci j : Nat} {h0 : Nat → Option am_C} {cs : List am_C}
theorem wS_at : (wS n0 h0 cs k).2.1 (n0 + i) = cs[i]? := by
  show (if n0 + i < n0 then _ else cs[n0 + i - n0]?) = _
  rw [if_neg (by omega), Nat.add_sub_cancel_left]
theorem wS_1 : (wS n0 h0 cs k).1 = n0 + cs.length := rfl
theorem wS_push {c : am_C} {m : Nat} : ((wS n0 h0 cs k).1 + 1, am_upd (wS n0 h0 cs k).2.1 (wS n0 h0 cs k).1 c, (wS n0 h0 cs k).2.2 + m) = wS n0 h0 (cs ++ [c]) (k + m) := by
  refine Prod.ext ?_ (Prod.ext (funext fun a => ?_) rfl)
  · show n0 + cs.length + 1 = n0 + (cs ++ [c]).length
    rw [List.length_append]; rfl
  · show (if a = n0 + cs.length then some c else if a < n0 then h0 a else cs[a - n0]?) = if a < n0 then h0 a else (cs ++ [c])[a - n0]?
    by_cases h : a < n0
    · rw [if_neg (by omega), if_pos h, if_pos h]
    · rw [if_neg h, if_neg h]
      by_cases e : a = n0 + cs.length
      · rw [if_pos e, e, Nat.add_sub_cancel_left, List.getElem?_append_right (Nat.le_refl _), Nat.sub_self]; rfl
      · rw [if_neg e]
        by_cases z : a - n0 < cs.length
        · rw [List.getElem?_append_left z]
        · rw [List.getElem?_eq_none (by omega), List.getElem?_eq_none (by rw [List.length_append]; show cs.length + 1 ≤ _; omega)]
theorem wS_new {fs : List Value} : am_new (wS n0 h0 cs k) ci fs = wS n0 h0 (cs ++ [.inr (ci, fs)]) (k + fs.length) := wS_push
theorem wS_nwa {m : Nat} : am_nwa (wS n0 h0 cs k) m = wS n0 h0 (cs ++ [(Sum.inl (m, fun _ => 0) : am_C)]) (k + m) := wS_push
theorem wS_obj : am_obj (wS n0 h0 cs k) (n0 + i) ci = l_obj cs i ci := by
  unfold am_obj l_obj
  rw [wS_at]
  rfl
theorem wS_arr : am_arr (wS n0 h0 cs k) (n0 + i) = l_arr cs i := by
  unfold am_arr l_arr
  rw [wS_at]
  rfl
theorem l_obj_lt {fs : List Value} (h : l_obj cs i ci = some fs) : i < cs.length := by
  unfold l_obj at h
  split at h
  · rename_i x hx; exact (List.getElem?_eq_some_iff.mp hx).1
  · cases h
theorem l_arr_lt {x : Nat × (Nat → Int32)} (h : l_arr cs i = some x) : i < cs.length := by
  unfold l_arr at h
  split at h
  · rename_i x hx; exact (List.getElem?_eq_some_iff.mp hx).1
  · cases h
theorem wS_set {c : am_C} (hi : i < cs.length) : ((wS n0 h0 cs k).1, am_upd (wS n0 h0 cs k).2.1 (n0 + i) c, (wS n0 h0 cs k).2.2) = wS n0 h0 (cs.set i c) k := by
  refine Prod.ext ?_ (Prod.ext (funext fun a => ?_) rfl)
  · show n0 + cs.length = n0 + (cs.set i c).length
    rw [List.length_set]
  · show (if a = n0 + i then some c else if a < n0 then h0 a else cs[a - n0]?) = if a < n0 then h0 a else (cs.set i c)[a - n0]?
    by_cases h : a < n0
    · rw [if_neg (by omega), if_pos h, if_pos h]
    · rw [if_neg h, if_neg h, List.getElem?_set]
      by_cases e : a = n0 + i
      · rw [if_pos e, if_pos (by omega), if_pos (by omega)]
      · rw [if_neg e, if_neg (by omega)]
theorem wS_put {kf : Nat} {v : Value} (hB : B ≤ n0) : am_put B (wS n0 h0 cs k) (n0 + i) ci kf v = (l_obj cs i ci).bind fun fs => if fs.length ≤ kf then none else some (wS n0 h0 (cs.set i (.inr (ci, fs.set kf v))) k) := by
  unfold am_put
  rw [wS_obj]
  cases h : l_obj cs i ci with
  | none => rfl
  | some fs =>
    show (if n0 + i < B ∨ fs.length ≤ kf then none else some _) = if fs.length ≤ kf then none else some _
    by_cases z : fs.length ≤ kf
    · rw [if_pos (Or.inr z), if_pos z]
    · rw [if_neg (by omega), if_neg z, wS_set (l_obj_lt h)]
theorem wS_getr {kf : Nat} : am_getr (wS n0 h0 cs k) (n0 + i) ci kf = (l_obj cs i ci).bind fun fs => match fs[kf]? with
  | some (.ref x) => some x
  | _ => none := by
  unfold am_getr
  rw [wS_obj]
  rfl
theorem wS_geti {kf : Nat} : am_geti (wS n0 h0 cs k) (n0 + i) ci kf = (l_obj cs i ci).bind fun fs => match fs[kf]? with
  | some (.int x) => some x
  | _ => none := by
  unfold am_geti
  rw [wS_obj]
  rfl
theorem wS_iast {x v : Int32} (hB : B ≤ n0) : am_iast B (wS n0 h0 cs k) (n0 + i) x v = (l_arr cs i).bind fun y => if x < 0 ∨ y.1 ≤ x.toNatClampNeg then none else some (wS n0 h0 (cs.set i (.inl (y.1, upd y.2 x.toNatClampNeg v))) k) := by
  unfold am_iast
  rw [wS_arr]
  cases h : l_arr cs i with
  | none => rfl
  | some y =>
    show (if n0 + i < B ∨ x < 0 ∨ y.1 ≤ x.toNatClampNeg then none else some _) = if x < 0 ∨ y.1 ≤ x.toNatClampNeg then none else some _
    by_cases z : x < 0 ∨ y.1 ≤ x.toNatClampNeg
    · rw [if_pos (Or.inr z), if_pos z]
    · rw [if_neg (fun w => w.elim (fun w => by omega) z), if_neg z, wS_set (l_arr_lt h)]
theorem wS_iald {x : Int32} : am_iald (wS n0 h0 cs k) (n0 + i) x = (l_arr cs i).bind fun y => if x < 0 ∨ y.1 ≤ x.toNatClampNeg then none else some (y.2 x.toNatClampNeg) := by
  unfold am_iald
  rw [wS_arr]
theorem wS_alen : am_alen (wS n0 h0 cs k) (n0 + i) = (l_arr cs i).bind fun y => some (Int32.ofNat y.1) := by
  unfold am_alen
  rw [wS_arr]
end WS
section CSR
variable {n0 k B i ci kf m : Nat} {h0 : Nat → Option am_C} {cs : List am_C} {fs : List Value} {v : Value}
theorem cs_b {α β : Type} {x : Option α} {a : α} {F : α → Option β} {r : Option β} (h : x = some a) (q : F a = r) : x.bind F = r := by rw [h]; exact q
theorem cs_v {β : Type} {x : Option (Option Value × am_S)} {σ : am_S} {F : am_S → Option β} {r : Option β} (h : x = some (none, σ)) (q : F σ = r) : am_v x F = r := by rw [h]; exact q
theorem cs_i {β : Type} {x : Option (Option Value × am_S)} {y : Int32} {σ : am_S} {F : Int32 → am_S → Option β} {r : Option β} (h : x = some (some (.int y), σ)) (q : F y σ = r) : am_i x F = r := by rw [h]; exact q
theorem cs_n {β : Type} {c : Prop} [Decidable c] {y r : Option β} (h : ¬ c) (q : y = r) : (if c then none else y) = r := by rw [if_neg h]; exact q
theorem cs_y {β : Type} {c : Prop} [Decidable c] {x y r : Option β} (h : c) (q : x = r) : (if c then x else y) = r := by rw [if_pos h]; exact q
theorem w_put (hB : B ≤ n0) (h : l_obj cs i ci = some fs) (hk : kf < fs.length) : am_put B (wS n0 h0 cs k) (n0 + i) ci kf v = some (wS n0 h0 (cs.set i (.inr (ci, fs.set kf v))) k) := by
  rw [wS_put hB, h]
  show (if fs.length ≤ kf then none else some _) = _
  rw [if_neg (by omega)]
theorem w_alp (hB : B ≤ n0) (h : l_obj (cs ++ [(Sum.inl (m, fun _ => 0) : am_C)]) i ci = some fs) (hk : kf < fs.length) : am_put B (am_nwa (wS n0 h0 cs k) m) (n0 + i) ci kf v = some (wS n0 h0 ((cs ++ [(Sum.inl (m, fun _ => 0) : am_C)]).set i (.inr (ci, fs.set kf v))) (k + m)) := by
  rw [wS_nwa]
  exact w_put hB h hk
theorem w_getr {x : Nat} (h : l_obj cs i ci = some fs) (hv : fs[kf]? = some (.ref x)) : am_getr (wS n0 h0 cs k) (n0 + i) ci kf = some x := by
  rw [wS_getr, h]
  show (match fs[kf]? with | some (.ref x) => some x | _ => none) = _
  rw [hv]
theorem w_geti {x : Int32} (h : l_obj cs i ci = some fs) (hv : fs[kf]? = some (.int x)) : am_geti (wS n0 h0 cs k) (n0 + i) ci kf = some x := by
  rw [wS_geti, h]
  show (match fs[kf]? with | some (.int x) => some x | _ => none) = _
  rw [hv]
theorem w_obj (h : l_obj cs i ci = some fs) : am_obj (wS n0 h0 cs k) (n0 + i) ci = some fs := by rw [wS_obj, h]
theorem w_iast {j : Nat} {g : Nat → Int32} {x : Int32} (hB : B ≤ n0) (h : l_arr cs i = some (m, g)) (hj : j < m) (hm : m < 2 ^ 31) : am_iast B (wS n0 h0 cs k) (n0 + i) (nI j) x = some (wS n0 h0 (cs.set i (.inl (m, upd g j x))) k) := by
  rw [wS_iast hB, h]
  show (if nI j < 0 ∨ m ≤ (nI j).toNatClampNeg then none else some (wS n0 h0 (cs.set i (.inl (m, upd g (nI j).toNatClampNeg x))) k)) = _
  rw [if_neg (by rw [nI_clamp (by omega)]; exact fun z => z.elim (nI_pos (by omega)) (fun z => by omega)), nI_clamp (by omega)]
end CSR
