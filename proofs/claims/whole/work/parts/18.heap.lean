/-! A HEAP BUILT FROM A LAYOUT AND A PURE STATE. Roles: 100 * class + field. Every class but Equation has one object; every array field its own array. -/
/-- where things lie: objects by class, arrays by role, all other cells, the heap's size, the slots made -/
abbrev hp_L : Type := (Nat → Nat) × (Nat → Nat) × (Nat → Option am_C) × Nat × Nat
/-- what they hold: ints by role, arrays by role -/
abbrev hp_P : Type := (Nat → Int32) × (Nat → Nat × (Nat → Int32))
def hp_cs : List Nat := [0, 1, 3, 4, 5, 6, 7, 8, 9]
def hp_rs : List Nat := [3, 4, 102, 104, 105, 106, 107, 108, 109, 110, 112, 113, 301, 302, 304, 307, 405, 406, 407, 408, 500, 501, 700, 701, 702, 703, 704, 705, 706, 707, 807, 902, 905, 906, 907, 908, 909, 910, 911, 912, 914, 916, 918, 919, 920, 921, 922, 923, 924, 925, 926, 927, 930, 931, 935, 936, 937, 938, 939, 940, 941, 942, 943, 947, 948, 950, 952]
/-- the fields of the object of a class -/
def hp_f (sa : Nat → Nat) (ρ : hp_L) (P : hp_P) : Nat → List Value := fun c => match c with
  | 0 => [.ref (ρ.1 7), .ref (ρ.1 3), .ref (sa (P.1 2).toNatClampNeg), .ref (ρ.2.1 3), .ref (ρ.2.1 4)]
  | 1 => [.ref (ρ.1 7), .ref (ρ.1 5), .ref (ρ.2.1 102), .int (P.1 103), .ref (ρ.2.1 104), .ref (ρ.2.1 105), .ref (ρ.2.1 106), .ref (ρ.2.1 107), .ref (ρ.2.1 108), .ref (ρ.2.1 109), .ref (ρ.2.1 110), .int (P.1 111), .ref (ρ.2.1 112), .ref (ρ.2.1 113)]
  | 3 => [.ref (ρ.1 7), .ref (ρ.2.1 301), .ref (ρ.2.1 302), .int (P.1 303), .ref (ρ.2.1 304), .int (P.1 305), .int (P.1 306), .ref (ρ.2.1 307)]
  | 4 => [.ref (ρ.1 7), .ref (ρ.1 1), .ref (ρ.1 3), .int (P.1 403), .int (P.1 404), .ref (ρ.2.1 405), .ref (ρ.2.1 406), .ref (ρ.2.1 407), .ref (ρ.2.1 408)]
  | 5 => [.ref (ρ.2.1 500), .ref (ρ.2.1 501), .int (P.1 502), .int (P.1 503), .int (P.1 504), .int (P.1 505)]
  | 6 => [.ref (ρ.1 7), .ref (ρ.1 5), .ref (ρ.1 1), .ref (ρ.1 3), .ref (ρ.1 4)]
  | 7 => [.ref (ρ.2.1 700), .ref (ρ.2.1 701), .ref (ρ.2.1 702), .ref (ρ.2.1 703), .ref (ρ.2.1 704), .ref (ρ.2.1 705), .ref (ρ.2.1 706), .ref (ρ.2.1 707), .int (P.1 708)]
  | 8 => [.ref (ρ.1 7), .ref (ρ.1 5), .ref (ρ.1 1), .ref (ρ.1 3), .ref (ρ.1 4), .ref (ρ.1 6), .ref (ρ.1 0), .ref (ρ.2.1 807), .int (P.1 808), .int (P.1 809)]
  | 9 => [.int (P.1 900), .int (P.1 901), .ref (ρ.2.1 902), .int (P.1 903), .int (P.1 904), .ref (ρ.2.1 905), .ref (ρ.2.1 906), .ref (ρ.2.1 907), .ref (ρ.2.1 908), .ref (ρ.2.1 909), .ref (ρ.2.1 910), .ref (ρ.2.1 911), .ref (ρ.2.1 912), .int (P.1 913), .ref (ρ.2.1 914), .int (P.1 915), .ref (ρ.2.1 916), .int (P.1 917), .ref (ρ.2.1 918), .ref (ρ.2.1 919), .ref (ρ.2.1 920), .ref (ρ.2.1 921), .ref (ρ.2.1 922), .ref (ρ.2.1 923), .ref (ρ.2.1 924), .ref (ρ.2.1 925), .ref (ρ.2.1 926), .ref (ρ.2.1 927), .int (P.1 928), .int (P.1 929), .ref (ρ.2.1 930), .ref (ρ.2.1 931), .int (P.1 932), .int (P.1 933), .int (P.1 934), .ref (ρ.2.1 935), .ref (ρ.2.1 936), .ref (ρ.2.1 937), .ref (ρ.2.1 938), .ref (ρ.2.1 939), .ref (ρ.2.1 940), .ref (ρ.2.1 941), .ref (ρ.2.1 942), .ref (ρ.2.1 943), .int (P.1 944), .int (P.1 945), .int (P.1 946), .ref (ρ.2.1 947), .ref (ρ.2.1 948), .int (P.1 949), .ref (ρ.2.1 950), .int (P.1 951), .ref (ρ.2.1 952)]
  | _ => []
def hp_h (sa : Nat → Nat) (ρ : hp_L) (P : hp_P) : Nat → Option am_C := fun a => match hp_cs.find? (fun c => decide (ρ.1 c = a)) with
  | some c => some (.inr (c, hp_f sa ρ P c))
  | none => match hp_rs.find? (fun r => decide (ρ.2.1 r = a)) with
    | some r => some (.inl (P.2 r))
    | none => ρ.2.2.1 a
def hp_S (sa : Nat → Nat) (ρ : hp_L) (P : hp_P) : am_S := (ρ.2.2.2.1, hp_h sa ρ P, ρ.2.2.2.2)
/-- the layout is one: all apart, in the heap, beyond what was there before -/
def hp_w (B : Nat) (ρ : hp_L) : Prop := (∀ c ∈ hp_cs, ∀ c' ∈ hp_cs, ρ.1 c = ρ.1 c' → c = c') ∧ (∀ r ∈ hp_rs, ∀ r' ∈ hp_rs, ρ.2.1 r = ρ.2.1 r' → r = r') ∧ (∀ c ∈ hp_cs, ∀ r ∈ hp_rs, ρ.1 c ≠ ρ.2.1 r) ∧ (∀ c ∈ hp_cs, B ≤ ρ.1 c ∧ ρ.1 c < ρ.2.2.2.1) ∧ (∀ r ∈ hp_rs, B ≤ ρ.2.1 r ∧ ρ.2.1 r < ρ.2.2.2.1) ∧ ∀ a, ρ.2.2.2.1 ≤ a → ρ.2.2.1 a = none
theorem hp_find {l : List Nat} {f : Nat → Nat} {x a : Nat} (hi : ∀ c ∈ l, ∀ c' ∈ l, f c = f c' → c = c') (hx : x ∈ l) (ha : f x = a) : l.find? (fun c => decide (f c = a)) = some x := by
  cases h : l.find? (fun c => decide (f c = a)) with
  | none =>
    have := List.find?_eq_none.mp h x hx
    simp [ha] at this
  | some y =>
    have h1 := List.find?_some h
    have h2 := List.mem_of_find?_eq_some h
    rw [hi y h2 x hx ((of_decide_eq_true h1).trans ha.symm)]
theorem hp_nofind {l : List Nat} {f : Nat → Nat} {a : Nat} (h : ∀ c ∈ l, f c ≠ a) : l.find? (fun c => decide (f c = a)) = none := List.find?_eq_none.mpr fun c hc => by simp [h c hc]
theorem hp_h_o {sa : Nat → Nat} {B c : Nat} {ρ : hp_L} {P : hp_P} (w : hp_w B ρ) (hc : c ∈ hp_cs) : hp_h sa ρ P (ρ.1 c) = some (.inr (c, hp_f sa ρ P c)) := by
  unfold hp_h
  rw [hp_find w.1 hc rfl]
theorem hp_h_a {sa : Nat → Nat} {B r : Nat} {ρ : hp_L} {P : hp_P} (w : hp_w B ρ) (hr : r ∈ hp_rs) : hp_h sa ρ P (ρ.2.1 r) = some (.inl (P.2 r)) := by
  unfold hp_h
  rw [hp_nofind (fun c hc => w.2.2.1 c hc r hr), hp_find w.2.1 hr rfl]
theorem hp_h_j {sa : Nat → Nat} {a : Nat} {ρ : hp_L} {P : hp_P} (h1 : ∀ c ∈ hp_cs, ρ.1 c ≠ a) (h2 : ∀ r ∈ hp_rs, ρ.2.1 r ≠ a) : hp_h sa ρ P a = ρ.2.2.1 a := by
  unfold hp_h
  rw [hp_nofind h1, hp_nofind h2]
theorem hp_obj {sa : Nat → Nat} {B c : Nat} {ρ : hp_L} {P : hp_P} (w : hp_w B ρ) (hc : c ∈ hp_cs) : am_obj (hp_S sa ρ P) (ρ.1 c) c = some (hp_f sa ρ P c) := by
  unfold am_obj
  rw [show (hp_S sa ρ P).2.1 (ρ.1 c) = _ from hp_h_o w hc]
  simp
theorem hp_arr {sa : Nat → Nat} {B r : Nat} {ρ : hp_L} {P : hp_P} (w : hp_w B ρ) (hr : r ∈ hp_rs) : am_arr (hp_S sa ρ P) (ρ.2.1 r) = some (P.2 r) := by
  unfold am_arr
  rw [show (hp_S sa ρ P).2.1 (ρ.2.1 r) = _ from hp_h_a w hr]
/-- a place of an array -/
def hp_rd (P : hp_P) (r : Nat) (i : Int32) : Option Int32 := if i < 0 ∨ (P.2 r).1 ≤ i.toNatClampNeg then none else some ((P.2 r).2 i.toNatClampNeg)
def hp_sI (P : hp_P) (r : Nat) (v : Int32) : hp_P := (fun x => if x = r then v else P.1 x, P.2)
def hp_sA (P : hp_P) (r : Nat) (i : Int32) (v : Int32) : hp_P := (P.1, fun x => if x = r then ((P.2 r).1, upd (P.2 r).2 i.toNatClampNeg v) else P.2 x)
/-- a place is in an array -/
def hp_ck (P : hp_P) (r : Nat) (i : Int32) : Option Unit := if i < 0 ∨ (P.2 r).1 ≤ i.toNatClampNeg then none else some ()
theorem hp_iald {sa : Nat → Nat} {B r : Nat} {ρ : hp_L} {P : hp_P} {i : Int32} (w : hp_w B ρ) (hr : r ∈ hp_rs) : am_iald (hp_S sa ρ P) (ρ.2.1 r) i = hp_rd P r i := by
  unfold am_iald
  rw [hp_arr w hr]
  rfl
theorem hp_alen {sa : Nat → Nat} {B r : Nat} {ρ : hp_L} {P : hp_P} (w : hp_w B ρ) (hr : r ∈ hp_rs) : am_alen (hp_S sa ρ P) (ρ.2.1 r) = some (Int32.ofNat (P.2 r).1) := by
  unfold am_alen
  rw [hp_arr w hr]
  rfl
theorem hp_f_sA {sa : Nat → Nat} {ρ : hp_L} {P : hp_P} {r c : Nat} {i v : Int32} : hp_f sa ρ (hp_sA P r i v) c = hp_f sa ρ P c := by
  unfold hp_f hp_sA
  split <;> rfl
theorem hp_iast {sa : Nat → Nat} {B r : Nat} {ρ : hp_L} {P : hp_P} {i v : Int32} (w : hp_w B ρ) (hr : r ∈ hp_rs) : am_iast B (hp_S sa ρ P) (ρ.2.1 r) i v = (hp_ck P r i).bind fun _ => some (hp_S sa ρ (hp_sA P r i v)) := by
  unfold am_iast hp_ck
  rw [hp_arr w hr]
  simp only [Option.bind_some]
  have hB : ¬ ρ.2.1 r < B := Nat.not_lt.mpr (w.2.2.2.2.1 r hr).1
  by_cases h : i < 0 ∨ (P.2 r).1 ≤ i.toNatClampNeg
  · rw [if_pos h, if_pos (Or.inr h)]
    rfl
  · rw [if_neg h, if_neg (fun z => z.elim hB h)]
    simp only [Option.bind_some]
    refine congrArg some (Prod.ext rfl (Prod.ext ?_ rfl))
    funext a
    show am_upd (hp_h sa ρ P) (ρ.2.1 r) _ a = hp_h sa ρ (hp_sA P r i v) a
    unfold am_upd
    split
    · rename_i e
      rw [e, hp_h_a w hr]
      simp [hp_sA]
    · rename_i e
      unfold hp_h
      split
      · rw [hp_f_sA]
      · split
        · rename_i r' hr'
          have h0 := List.find?_some hr'
          have h1 := of_decide_eq_true h0
          have : r' ≠ r := fun z => e (by rw [← h1, z])
          simp [hp_sA, this]
        · rfl
theorem hp_put {sa : Nat → Nat} {B c k r : Nat} {ρ : hp_L} {P : hp_P} {v : Int32} (w : hp_w B ρ) (hc : c ∈ hp_cs) (hk : k < (hp_f sa ρ P c).length) (h1 : (hp_f sa ρ P c).set k (.int v) = hp_f sa ρ (hp_sI P r v) c) (h2 : ∀ c' ∈ hp_cs, c' ≠ c → hp_f sa ρ (hp_sI P r v) c' = hp_f sa ρ P c') : am_put B (hp_S sa ρ P) (ρ.1 c) c k (.int v) = some (hp_S sa ρ (hp_sI P r v)) := by
  unfold am_put
  rw [hp_obj w hc]
  simp only [Option.bind_some]
  have hB : ¬ ρ.1 c < B := Nat.not_lt.mpr (w.2.2.2.1 c hc).1
  rw [if_neg (fun z => z.elim hB (fun z => by omega))]
  refine congrArg some (Prod.ext rfl (Prod.ext ?_ rfl))
  funext a
  show am_upd (hp_h sa ρ P) (ρ.1 c) _ a = hp_h sa ρ (hp_sI P r v) a
  unfold am_upd
  split
  · rename_i e
    rw [e, hp_h_o w hc, h1]
  · rename_i e
    unfold hp_h
    split
    · rename_i c' hc'
      have h0 := List.find?_some hc'
      have h3 := of_decide_eq_true h0
      rw [h2 c' (List.mem_of_find?_eq_some hc') (fun z => e (by rw [← h3, z]))]
    · rfl
theorem hI_eq {P : hp_P} {r : Nat} {v : Int32} : (hp_sI P r v).1 r = v := by simp [hp_sI]
theorem hI_ne {P : hp_P} {r x : Nat} {v : Int32} (h : x ≠ r) : (hp_sI P r v).1 x = P.1 x := by simp [hp_sI, h]
theorem hI_A {P : hp_P} {r : Nat} {v : Int32} : (hp_sI P r v).2 = P.2 := rfl
theorem hA_I {P : hp_P} {r : Nat} {i v : Int32} : (hp_sA P r i v).1 = P.1 := rfl
theorem hA_ne {P : hp_P} {r x : Nat} {i v : Int32} (h : x ≠ r) : (hp_sA P r i v).2 x = P.2 x := by simp [hp_sA, h]
theorem hA_eq {P : hp_P} {r : Nat} {i v : Int32} : (hp_sA P r i v).2 r = ((P.2 r).1, upd (P.2 r).2 i.toNatClampNeg v) := by simp [hp_sA]
theorem hA_len {P : hp_P} {r x : Nat} {i v : Int32} : ((hp_sA P r i v).2 x).1 = (P.2 x).1 := by
  by_cases h : x = r
  · rw [h, hA_eq]
  · rw [hA_ne h]
theorem hp_rd_nI {P : hp_P} {r j : Nat} (h : j < (P.2 r).1) (hj : j < 2 ^ 31) : hp_rd P r (nI j) = some ((P.2 r).2 j) := by
  unfold hp_rd
  rw [nI_clamp hj, if_neg (fun z => z.elim (nI_pos hj) (fun z => by omega))]
theorem hp_ck_nI {P : hp_P} {r j : Nat} (h : j < (P.2 r).1) (hj : j < 2 ^ 31) : hp_ck P r (nI j) = some () := by
  unfold hp_ck
  rw [nI_clamp hj, if_neg (fun z => z.elim (nI_pos hj) (fun z => by omega))]
theorem am_c_eq {x y : Int32} : (am_cond .eq x y = true) = (x = y) := by simp [am_cond]
theorem am_c_ne {x y : Int32} : (am_cond .ne x y = true) = (x ≠ y) := by simp [am_cond]
theorem am_c_lt {x y : Int32} : (am_cond .lt x y = true) = (x < y) := by simp [am_cond]
theorem am_c_ge {x y : Int32} : (am_cond .ge x y = true) = (y ≤ x) := by simp [am_cond]
theorem am_c_gt {x y : Int32} : (am_cond .gt x y = true) = (y < x) := by simp [am_cond]
theorem am_c_le {x y : Int32} : (am_cond .le x y = true) = (x ≤ y) := by simp [am_cond]
theorem am_i_some {α : Type} {x : Int32} {σ : am_S} {k : Int32 → am_S → Option α} : am_i (some (some (.int x), σ)) k = k x σ := rfl
theorem am_v_some {α : Type} {σ : am_S} {k : am_S → Option α} : am_v (some (none, σ)) k = k σ := rfl
theorem am_p_some {α : Type} {a : Nat} {σ : am_S} {k : Nat → am_S → Option α} {kn : am_S → Option α} : am_p (some (some (.ref a), σ)) k kn = k a σ := rfl
theorem am_p_null {α : Type} {σ : am_S} {k : Nat → am_S → Option α} {kn : am_S → Option α} : am_p (some (some .null, σ)) k kn = kn σ := rfl
theorem am_rz_0 {σ : am_S} : am_rz 0 σ = some (some (.int 0), σ) := by simp [am_rz]
theorem am_rz_1 {σ : am_S} : am_rz 1 σ = some (some (.int 1), σ) := by simp [am_rz]
theorem hg_103 {sa : Nat → Nat} {B : Nat} {ρ : hp_L} {P : hp_P} (w : hp_w B ρ) : am_geti (hp_S sa ρ P) (ρ.1 1) 1 3 = some (P.1 103) := by
  unfold am_geti
  rw [hp_obj w (by decide)]
  rfl
theorem hs_103 {sa : Nat → Nat} {B : Nat} {ρ : hp_L} {P : hp_P} {v : Int32} (w : hp_w B ρ) : am_put B (hp_S sa ρ P) (ρ.1 1) 1 3 (.int v) = some (hp_S sa ρ (hp_sI P 103 v)) := hp_put w (by decide) (Nat.le_of_ble_eq_true rfl) rfl fun c hc hne => by
  simp only [hp_cs, List.mem_cons, List.not_mem_nil, or_false] at hc
  rcases hc with rfl | rfl | rfl | rfl | rfl | rfl | rfl | rfl | rfl <;> first | rfl | exact absurd rfl hne
theorem hg_111 {sa : Nat → Nat} {B : Nat} {ρ : hp_L} {P : hp_P} (w : hp_w B ρ) : am_geti (hp_S sa ρ P) (ρ.1 1) 1 11 = some (P.1 111) := by
  unfold am_geti
  rw [hp_obj w (by decide)]
  rfl
theorem hs_111 {sa : Nat → Nat} {B : Nat} {ρ : hp_L} {P : hp_P} {v : Int32} (w : hp_w B ρ) : am_put B (hp_S sa ρ P) (ρ.1 1) 1 11 (.int v) = some (hp_S sa ρ (hp_sI P 111 v)) := hp_put w (by decide) (Nat.le_of_ble_eq_true rfl) rfl fun c hc hne => by
  simp only [hp_cs, List.mem_cons, List.not_mem_nil, or_false] at hc
  rcases hc with rfl | rfl | rfl | rfl | rfl | rfl | rfl | rfl | rfl <;> first | rfl | exact absurd rfl hne
theorem hg_303 {sa : Nat → Nat} {B : Nat} {ρ : hp_L} {P : hp_P} (w : hp_w B ρ) : am_geti (hp_S sa ρ P) (ρ.1 3) 3 3 = some (P.1 303) := by
  unfold am_geti
  rw [hp_obj w (by decide)]
  rfl
theorem hs_303 {sa : Nat → Nat} {B : Nat} {ρ : hp_L} {P : hp_P} {v : Int32} (w : hp_w B ρ) : am_put B (hp_S sa ρ P) (ρ.1 3) 3 3 (.int v) = some (hp_S sa ρ (hp_sI P 303 v)) := hp_put w (by decide) (Nat.le_of_ble_eq_true rfl) rfl fun c hc hne => by
  simp only [hp_cs, List.mem_cons, List.not_mem_nil, or_false] at hc
  rcases hc with rfl | rfl | rfl | rfl | rfl | rfl | rfl | rfl | rfl <;> first | rfl | exact absurd rfl hne
theorem hg_305 {sa : Nat → Nat} {B : Nat} {ρ : hp_L} {P : hp_P} (w : hp_w B ρ) : am_geti (hp_S sa ρ P) (ρ.1 3) 3 5 = some (P.1 305) := by
  unfold am_geti
  rw [hp_obj w (by decide)]
  rfl
theorem hs_305 {sa : Nat → Nat} {B : Nat} {ρ : hp_L} {P : hp_P} {v : Int32} (w : hp_w B ρ) : am_put B (hp_S sa ρ P) (ρ.1 3) 3 5 (.int v) = some (hp_S sa ρ (hp_sI P 305 v)) := hp_put w (by decide) (Nat.le_of_ble_eq_true rfl) rfl fun c hc hne => by
  simp only [hp_cs, List.mem_cons, List.not_mem_nil, or_false] at hc
  rcases hc with rfl | rfl | rfl | rfl | rfl | rfl | rfl | rfl | rfl <;> first | rfl | exact absurd rfl hne
theorem hg_306 {sa : Nat → Nat} {B : Nat} {ρ : hp_L} {P : hp_P} (w : hp_w B ρ) : am_geti (hp_S sa ρ P) (ρ.1 3) 3 6 = some (P.1 306) := by
  unfold am_geti
  rw [hp_obj w (by decide)]
  rfl
theorem hs_306 {sa : Nat → Nat} {B : Nat} {ρ : hp_L} {P : hp_P} {v : Int32} (w : hp_w B ρ) : am_put B (hp_S sa ρ P) (ρ.1 3) 3 6 (.int v) = some (hp_S sa ρ (hp_sI P 306 v)) := hp_put w (by decide) (Nat.le_of_ble_eq_true rfl) rfl fun c hc hne => by
  simp only [hp_cs, List.mem_cons, List.not_mem_nil, or_false] at hc
  rcases hc with rfl | rfl | rfl | rfl | rfl | rfl | rfl | rfl | rfl <;> first | rfl | exact absurd rfl hne
theorem hg_403 {sa : Nat → Nat} {B : Nat} {ρ : hp_L} {P : hp_P} (w : hp_w B ρ) : am_geti (hp_S sa ρ P) (ρ.1 4) 4 3 = some (P.1 403) := by
  unfold am_geti
  rw [hp_obj w (by decide)]
  rfl
theorem hs_403 {sa : Nat → Nat} {B : Nat} {ρ : hp_L} {P : hp_P} {v : Int32} (w : hp_w B ρ) : am_put B (hp_S sa ρ P) (ρ.1 4) 4 3 (.int v) = some (hp_S sa ρ (hp_sI P 403 v)) := hp_put w (by decide) (Nat.le_of_ble_eq_true rfl) rfl fun c hc hne => by
  simp only [hp_cs, List.mem_cons, List.not_mem_nil, or_false] at hc
  rcases hc with rfl | rfl | rfl | rfl | rfl | rfl | rfl | rfl | rfl <;> first | rfl | exact absurd rfl hne
theorem hg_404 {sa : Nat → Nat} {B : Nat} {ρ : hp_L} {P : hp_P} (w : hp_w B ρ) : am_geti (hp_S sa ρ P) (ρ.1 4) 4 4 = some (P.1 404) := by
  unfold am_geti
  rw [hp_obj w (by decide)]
  rfl
theorem hs_404 {sa : Nat → Nat} {B : Nat} {ρ : hp_L} {P : hp_P} {v : Int32} (w : hp_w B ρ) : am_put B (hp_S sa ρ P) (ρ.1 4) 4 4 (.int v) = some (hp_S sa ρ (hp_sI P 404 v)) := hp_put w (by decide) (Nat.le_of_ble_eq_true rfl) rfl fun c hc hne => by
  simp only [hp_cs, List.mem_cons, List.not_mem_nil, or_false] at hc
  rcases hc with rfl | rfl | rfl | rfl | rfl | rfl | rfl | rfl | rfl <;> first | rfl | exact absurd rfl hne
theorem hg_502 {sa : Nat → Nat} {B : Nat} {ρ : hp_L} {P : hp_P} (w : hp_w B ρ) : am_geti (hp_S sa ρ P) (ρ.1 5) 5 2 = some (P.1 502) := by
  unfold am_geti
  rw [hp_obj w (by decide)]
  rfl
theorem hs_502 {sa : Nat → Nat} {B : Nat} {ρ : hp_L} {P : hp_P} {v : Int32} (w : hp_w B ρ) : am_put B (hp_S sa ρ P) (ρ.1 5) 5 2 (.int v) = some (hp_S sa ρ (hp_sI P 502 v)) := hp_put w (by decide) (Nat.le_of_ble_eq_true rfl) rfl fun c hc hne => by
  simp only [hp_cs, List.mem_cons, List.not_mem_nil, or_false] at hc
  rcases hc with rfl | rfl | rfl | rfl | rfl | rfl | rfl | rfl | rfl <;> first | rfl | exact absurd rfl hne
theorem hg_503 {sa : Nat → Nat} {B : Nat} {ρ : hp_L} {P : hp_P} (w : hp_w B ρ) : am_geti (hp_S sa ρ P) (ρ.1 5) 5 3 = some (P.1 503) := by
  unfold am_geti
  rw [hp_obj w (by decide)]
  rfl
theorem hs_503 {sa : Nat → Nat} {B : Nat} {ρ : hp_L} {P : hp_P} {v : Int32} (w : hp_w B ρ) : am_put B (hp_S sa ρ P) (ρ.1 5) 5 3 (.int v) = some (hp_S sa ρ (hp_sI P 503 v)) := hp_put w (by decide) (Nat.le_of_ble_eq_true rfl) rfl fun c hc hne => by
  simp only [hp_cs, List.mem_cons, List.not_mem_nil, or_false] at hc
  rcases hc with rfl | rfl | rfl | rfl | rfl | rfl | rfl | rfl | rfl <;> first | rfl | exact absurd rfl hne
theorem hg_504 {sa : Nat → Nat} {B : Nat} {ρ : hp_L} {P : hp_P} (w : hp_w B ρ) : am_geti (hp_S sa ρ P) (ρ.1 5) 5 4 = some (P.1 504) := by
  unfold am_geti
  rw [hp_obj w (by decide)]
  rfl
theorem hs_504 {sa : Nat → Nat} {B : Nat} {ρ : hp_L} {P : hp_P} {v : Int32} (w : hp_w B ρ) : am_put B (hp_S sa ρ P) (ρ.1 5) 5 4 (.int v) = some (hp_S sa ρ (hp_sI P 504 v)) := hp_put w (by decide) (Nat.le_of_ble_eq_true rfl) rfl fun c hc hne => by
  simp only [hp_cs, List.mem_cons, List.not_mem_nil, or_false] at hc
  rcases hc with rfl | rfl | rfl | rfl | rfl | rfl | rfl | rfl | rfl <;> first | rfl | exact absurd rfl hne
theorem hg_505 {sa : Nat → Nat} {B : Nat} {ρ : hp_L} {P : hp_P} (w : hp_w B ρ) : am_geti (hp_S sa ρ P) (ρ.1 5) 5 5 = some (P.1 505) := by
  unfold am_geti
  rw [hp_obj w (by decide)]
  rfl
theorem hs_505 {sa : Nat → Nat} {B : Nat} {ρ : hp_L} {P : hp_P} {v : Int32} (w : hp_w B ρ) : am_put B (hp_S sa ρ P) (ρ.1 5) 5 5 (.int v) = some (hp_S sa ρ (hp_sI P 505 v)) := hp_put w (by decide) (Nat.le_of_ble_eq_true rfl) rfl fun c hc hne => by
  simp only [hp_cs, List.mem_cons, List.not_mem_nil, or_false] at hc
  rcases hc with rfl | rfl | rfl | rfl | rfl | rfl | rfl | rfl | rfl <;> first | rfl | exact absurd rfl hne
theorem hg_708 {sa : Nat → Nat} {B : Nat} {ρ : hp_L} {P : hp_P} (w : hp_w B ρ) : am_geti (hp_S sa ρ P) (ρ.1 7) 7 8 = some (P.1 708) := by
  unfold am_geti
  rw [hp_obj w (by decide)]
  rfl
theorem hs_708 {sa : Nat → Nat} {B : Nat} {ρ : hp_L} {P : hp_P} {v : Int32} (w : hp_w B ρ) : am_put B (hp_S sa ρ P) (ρ.1 7) 7 8 (.int v) = some (hp_S sa ρ (hp_sI P 708 v)) := hp_put w (by decide) (Nat.le_of_ble_eq_true rfl) rfl fun c hc hne => by
  simp only [hp_cs, List.mem_cons, List.not_mem_nil, or_false] at hc
  rcases hc with rfl | rfl | rfl | rfl | rfl | rfl | rfl | rfl | rfl <;> first | rfl | exact absurd rfl hne
theorem hg_808 {sa : Nat → Nat} {B : Nat} {ρ : hp_L} {P : hp_P} (w : hp_w B ρ) : am_geti (hp_S sa ρ P) (ρ.1 8) 8 8 = some (P.1 808) := by
  unfold am_geti
  rw [hp_obj w (by decide)]
  rfl
theorem hs_808 {sa : Nat → Nat} {B : Nat} {ρ : hp_L} {P : hp_P} {v : Int32} (w : hp_w B ρ) : am_put B (hp_S sa ρ P) (ρ.1 8) 8 8 (.int v) = some (hp_S sa ρ (hp_sI P 808 v)) := hp_put w (by decide) (Nat.le_of_ble_eq_true rfl) rfl fun c hc hne => by
  simp only [hp_cs, List.mem_cons, List.not_mem_nil, or_false] at hc
  rcases hc with rfl | rfl | rfl | rfl | rfl | rfl | rfl | rfl | rfl <;> first | rfl | exact absurd rfl hne
theorem hg_809 {sa : Nat → Nat} {B : Nat} {ρ : hp_L} {P : hp_P} (w : hp_w B ρ) : am_geti (hp_S sa ρ P) (ρ.1 8) 8 9 = some (P.1 809) := by
  unfold am_geti
  rw [hp_obj w (by decide)]
  rfl
theorem hs_809 {sa : Nat → Nat} {B : Nat} {ρ : hp_L} {P : hp_P} {v : Int32} (w : hp_w B ρ) : am_put B (hp_S sa ρ P) (ρ.1 8) 8 9 (.int v) = some (hp_S sa ρ (hp_sI P 809 v)) := hp_put w (by decide) (Nat.le_of_ble_eq_true rfl) rfl fun c hc hne => by
  simp only [hp_cs, List.mem_cons, List.not_mem_nil, or_false] at hc
  rcases hc with rfl | rfl | rfl | rfl | rfl | rfl | rfl | rfl | rfl <;> first | rfl | exact absurd rfl hne
theorem hg_900 {sa : Nat → Nat} {B : Nat} {ρ : hp_L} {P : hp_P} (w : hp_w B ρ) : am_geti (hp_S sa ρ P) (ρ.1 9) 9 0 = some (P.1 900) := by
  unfold am_geti
  rw [hp_obj w (by decide)]
  rfl
theorem hs_900 {sa : Nat → Nat} {B : Nat} {ρ : hp_L} {P : hp_P} {v : Int32} (w : hp_w B ρ) : am_put B (hp_S sa ρ P) (ρ.1 9) 9 0 (.int v) = some (hp_S sa ρ (hp_sI P 900 v)) := hp_put w (by decide) (Nat.le_of_ble_eq_true rfl) rfl fun c hc hne => by
  simp only [hp_cs, List.mem_cons, List.not_mem_nil, or_false] at hc
  rcases hc with rfl | rfl | rfl | rfl | rfl | rfl | rfl | rfl | rfl <;> first | rfl | exact absurd rfl hne
theorem hg_901 {sa : Nat → Nat} {B : Nat} {ρ : hp_L} {P : hp_P} (w : hp_w B ρ) : am_geti (hp_S sa ρ P) (ρ.1 9) 9 1 = some (P.1 901) := by
  unfold am_geti
  rw [hp_obj w (by decide)]
  rfl
theorem hs_901 {sa : Nat → Nat} {B : Nat} {ρ : hp_L} {P : hp_P} {v : Int32} (w : hp_w B ρ) : am_put B (hp_S sa ρ P) (ρ.1 9) 9 1 (.int v) = some (hp_S sa ρ (hp_sI P 901 v)) := hp_put w (by decide) (Nat.le_of_ble_eq_true rfl) rfl fun c hc hne => by
  simp only [hp_cs, List.mem_cons, List.not_mem_nil, or_false] at hc
  rcases hc with rfl | rfl | rfl | rfl | rfl | rfl | rfl | rfl | rfl <;> first | rfl | exact absurd rfl hne
theorem hg_903 {sa : Nat → Nat} {B : Nat} {ρ : hp_L} {P : hp_P} (w : hp_w B ρ) : am_geti (hp_S sa ρ P) (ρ.1 9) 9 3 = some (P.1 903) := by
  unfold am_geti
  rw [hp_obj w (by decide)]
  rfl
theorem hs_903 {sa : Nat → Nat} {B : Nat} {ρ : hp_L} {P : hp_P} {v : Int32} (w : hp_w B ρ) : am_put B (hp_S sa ρ P) (ρ.1 9) 9 3 (.int v) = some (hp_S sa ρ (hp_sI P 903 v)) := hp_put w (by decide) (Nat.le_of_ble_eq_true rfl) rfl fun c hc hne => by
  simp only [hp_cs, List.mem_cons, List.not_mem_nil, or_false] at hc
  rcases hc with rfl | rfl | rfl | rfl | rfl | rfl | rfl | rfl | rfl <;> first | rfl | exact absurd rfl hne
theorem hg_904 {sa : Nat → Nat} {B : Nat} {ρ : hp_L} {P : hp_P} (w : hp_w B ρ) : am_geti (hp_S sa ρ P) (ρ.1 9) 9 4 = some (P.1 904) := by
  unfold am_geti
  rw [hp_obj w (by decide)]
  rfl
theorem hs_904 {sa : Nat → Nat} {B : Nat} {ρ : hp_L} {P : hp_P} {v : Int32} (w : hp_w B ρ) : am_put B (hp_S sa ρ P) (ρ.1 9) 9 4 (.int v) = some (hp_S sa ρ (hp_sI P 904 v)) := hp_put w (by decide) (Nat.le_of_ble_eq_true rfl) rfl fun c hc hne => by
  simp only [hp_cs, List.mem_cons, List.not_mem_nil, or_false] at hc
  rcases hc with rfl | rfl | rfl | rfl | rfl | rfl | rfl | rfl | rfl <;> first | rfl | exact absurd rfl hne
theorem hg_913 {sa : Nat → Nat} {B : Nat} {ρ : hp_L} {P : hp_P} (w : hp_w B ρ) : am_geti (hp_S sa ρ P) (ρ.1 9) 9 13 = some (P.1 913) := by
  unfold am_geti
  rw [hp_obj w (by decide)]
  rfl
theorem hs_913 {sa : Nat → Nat} {B : Nat} {ρ : hp_L} {P : hp_P} {v : Int32} (w : hp_w B ρ) : am_put B (hp_S sa ρ P) (ρ.1 9) 9 13 (.int v) = some (hp_S sa ρ (hp_sI P 913 v)) := hp_put w (by decide) (Nat.le_of_ble_eq_true rfl) rfl fun c hc hne => by
  simp only [hp_cs, List.mem_cons, List.not_mem_nil, or_false] at hc
  rcases hc with rfl | rfl | rfl | rfl | rfl | rfl | rfl | rfl | rfl <;> first | rfl | exact absurd rfl hne
theorem hg_915 {sa : Nat → Nat} {B : Nat} {ρ : hp_L} {P : hp_P} (w : hp_w B ρ) : am_geti (hp_S sa ρ P) (ρ.1 9) 9 15 = some (P.1 915) := by
  unfold am_geti
  rw [hp_obj w (by decide)]
  rfl
theorem hs_915 {sa : Nat → Nat} {B : Nat} {ρ : hp_L} {P : hp_P} {v : Int32} (w : hp_w B ρ) : am_put B (hp_S sa ρ P) (ρ.1 9) 9 15 (.int v) = some (hp_S sa ρ (hp_sI P 915 v)) := hp_put w (by decide) (Nat.le_of_ble_eq_true rfl) rfl fun c hc hne => by
  simp only [hp_cs, List.mem_cons, List.not_mem_nil, or_false] at hc
  rcases hc with rfl | rfl | rfl | rfl | rfl | rfl | rfl | rfl | rfl <;> first | rfl | exact absurd rfl hne
theorem hg_917 {sa : Nat → Nat} {B : Nat} {ρ : hp_L} {P : hp_P} (w : hp_w B ρ) : am_geti (hp_S sa ρ P) (ρ.1 9) 9 17 = some (P.1 917) := by
  unfold am_geti
  rw [hp_obj w (by decide)]
  rfl
theorem hs_917 {sa : Nat → Nat} {B : Nat} {ρ : hp_L} {P : hp_P} {v : Int32} (w : hp_w B ρ) : am_put B (hp_S sa ρ P) (ρ.1 9) 9 17 (.int v) = some (hp_S sa ρ (hp_sI P 917 v)) := hp_put w (by decide) (Nat.le_of_ble_eq_true rfl) rfl fun c hc hne => by
  simp only [hp_cs, List.mem_cons, List.not_mem_nil, or_false] at hc
  rcases hc with rfl | rfl | rfl | rfl | rfl | rfl | rfl | rfl | rfl <;> first | rfl | exact absurd rfl hne
theorem hg_928 {sa : Nat → Nat} {B : Nat} {ρ : hp_L} {P : hp_P} (w : hp_w B ρ) : am_geti (hp_S sa ρ P) (ρ.1 9) 9 28 = some (P.1 928) := by
  unfold am_geti
  rw [hp_obj w (by decide)]
  rfl
theorem hs_928 {sa : Nat → Nat} {B : Nat} {ρ : hp_L} {P : hp_P} {v : Int32} (w : hp_w B ρ) : am_put B (hp_S sa ρ P) (ρ.1 9) 9 28 (.int v) = some (hp_S sa ρ (hp_sI P 928 v)) := hp_put w (by decide) (Nat.le_of_ble_eq_true rfl) rfl fun c hc hne => by
  simp only [hp_cs, List.mem_cons, List.not_mem_nil, or_false] at hc
  rcases hc with rfl | rfl | rfl | rfl | rfl | rfl | rfl | rfl | rfl <;> first | rfl | exact absurd rfl hne
theorem hg_929 {sa : Nat → Nat} {B : Nat} {ρ : hp_L} {P : hp_P} (w : hp_w B ρ) : am_geti (hp_S sa ρ P) (ρ.1 9) 9 29 = some (P.1 929) := by
  unfold am_geti
  rw [hp_obj w (by decide)]
  rfl
theorem hs_929 {sa : Nat → Nat} {B : Nat} {ρ : hp_L} {P : hp_P} {v : Int32} (w : hp_w B ρ) : am_put B (hp_S sa ρ P) (ρ.1 9) 9 29 (.int v) = some (hp_S sa ρ (hp_sI P 929 v)) := hp_put w (by decide) (Nat.le_of_ble_eq_true rfl) rfl fun c hc hne => by
  simp only [hp_cs, List.mem_cons, List.not_mem_nil, or_false] at hc
  rcases hc with rfl | rfl | rfl | rfl | rfl | rfl | rfl | rfl | rfl <;> first | rfl | exact absurd rfl hne
theorem hg_932 {sa : Nat → Nat} {B : Nat} {ρ : hp_L} {P : hp_P} (w : hp_w B ρ) : am_geti (hp_S sa ρ P) (ρ.1 9) 9 32 = some (P.1 932) := by
  unfold am_geti
  rw [hp_obj w (by decide)]
  rfl
theorem hs_932 {sa : Nat → Nat} {B : Nat} {ρ : hp_L} {P : hp_P} {v : Int32} (w : hp_w B ρ) : am_put B (hp_S sa ρ P) (ρ.1 9) 9 32 (.int v) = some (hp_S sa ρ (hp_sI P 932 v)) := hp_put w (by decide) (Nat.le_of_ble_eq_true rfl) rfl fun c hc hne => by
  simp only [hp_cs, List.mem_cons, List.not_mem_nil, or_false] at hc
  rcases hc with rfl | rfl | rfl | rfl | rfl | rfl | rfl | rfl | rfl <;> first | rfl | exact absurd rfl hne
theorem hg_933 {sa : Nat → Nat} {B : Nat} {ρ : hp_L} {P : hp_P} (w : hp_w B ρ) : am_geti (hp_S sa ρ P) (ρ.1 9) 9 33 = some (P.1 933) := by
  unfold am_geti
  rw [hp_obj w (by decide)]
  rfl
theorem hs_933 {sa : Nat → Nat} {B : Nat} {ρ : hp_L} {P : hp_P} {v : Int32} (w : hp_w B ρ) : am_put B (hp_S sa ρ P) (ρ.1 9) 9 33 (.int v) = some (hp_S sa ρ (hp_sI P 933 v)) := hp_put w (by decide) (Nat.le_of_ble_eq_true rfl) rfl fun c hc hne => by
  simp only [hp_cs, List.mem_cons, List.not_mem_nil, or_false] at hc
  rcases hc with rfl | rfl | rfl | rfl | rfl | rfl | rfl | rfl | rfl <;> first | rfl | exact absurd rfl hne
theorem hg_934 {sa : Nat → Nat} {B : Nat} {ρ : hp_L} {P : hp_P} (w : hp_w B ρ) : am_geti (hp_S sa ρ P) (ρ.1 9) 9 34 = some (P.1 934) := by
  unfold am_geti
  rw [hp_obj w (by decide)]
  rfl
theorem hs_934 {sa : Nat → Nat} {B : Nat} {ρ : hp_L} {P : hp_P} {v : Int32} (w : hp_w B ρ) : am_put B (hp_S sa ρ P) (ρ.1 9) 9 34 (.int v) = some (hp_S sa ρ (hp_sI P 934 v)) := hp_put w (by decide) (Nat.le_of_ble_eq_true rfl) rfl fun c hc hne => by
  simp only [hp_cs, List.mem_cons, List.not_mem_nil, or_false] at hc
  rcases hc with rfl | rfl | rfl | rfl | rfl | rfl | rfl | rfl | rfl <;> first | rfl | exact absurd rfl hne
theorem hg_944 {sa : Nat → Nat} {B : Nat} {ρ : hp_L} {P : hp_P} (w : hp_w B ρ) : am_geti (hp_S sa ρ P) (ρ.1 9) 9 44 = some (P.1 944) := by
  unfold am_geti
  rw [hp_obj w (by decide)]
  rfl
theorem hs_944 {sa : Nat → Nat} {B : Nat} {ρ : hp_L} {P : hp_P} {v : Int32} (w : hp_w B ρ) : am_put B (hp_S sa ρ P) (ρ.1 9) 9 44 (.int v) = some (hp_S sa ρ (hp_sI P 944 v)) := hp_put w (by decide) (Nat.le_of_ble_eq_true rfl) rfl fun c hc hne => by
  simp only [hp_cs, List.mem_cons, List.not_mem_nil, or_false] at hc
  rcases hc with rfl | rfl | rfl | rfl | rfl | rfl | rfl | rfl | rfl <;> first | rfl | exact absurd rfl hne
theorem hg_945 {sa : Nat → Nat} {B : Nat} {ρ : hp_L} {P : hp_P} (w : hp_w B ρ) : am_geti (hp_S sa ρ P) (ρ.1 9) 9 45 = some (P.1 945) := by
  unfold am_geti
  rw [hp_obj w (by decide)]
  rfl
theorem hs_945 {sa : Nat → Nat} {B : Nat} {ρ : hp_L} {P : hp_P} {v : Int32} (w : hp_w B ρ) : am_put B (hp_S sa ρ P) (ρ.1 9) 9 45 (.int v) = some (hp_S sa ρ (hp_sI P 945 v)) := hp_put w (by decide) (Nat.le_of_ble_eq_true rfl) rfl fun c hc hne => by
  simp only [hp_cs, List.mem_cons, List.not_mem_nil, or_false] at hc
  rcases hc with rfl | rfl | rfl | rfl | rfl | rfl | rfl | rfl | rfl <;> first | rfl | exact absurd rfl hne
theorem hg_946 {sa : Nat → Nat} {B : Nat} {ρ : hp_L} {P : hp_P} (w : hp_w B ρ) : am_geti (hp_S sa ρ P) (ρ.1 9) 9 46 = some (P.1 946) := by
  unfold am_geti
  rw [hp_obj w (by decide)]
  rfl
theorem hs_946 {sa : Nat → Nat} {B : Nat} {ρ : hp_L} {P : hp_P} {v : Int32} (w : hp_w B ρ) : am_put B (hp_S sa ρ P) (ρ.1 9) 9 46 (.int v) = some (hp_S sa ρ (hp_sI P 946 v)) := hp_put w (by decide) (Nat.le_of_ble_eq_true rfl) rfl fun c hc hne => by
  simp only [hp_cs, List.mem_cons, List.not_mem_nil, or_false] at hc
  rcases hc with rfl | rfl | rfl | rfl | rfl | rfl | rfl | rfl | rfl <;> first | rfl | exact absurd rfl hne
theorem hg_949 {sa : Nat → Nat} {B : Nat} {ρ : hp_L} {P : hp_P} (w : hp_w B ρ) : am_geti (hp_S sa ρ P) (ρ.1 9) 9 49 = some (P.1 949) := by
  unfold am_geti
  rw [hp_obj w (by decide)]
  rfl
theorem hs_949 {sa : Nat → Nat} {B : Nat} {ρ : hp_L} {P : hp_P} {v : Int32} (w : hp_w B ρ) : am_put B (hp_S sa ρ P) (ρ.1 9) 9 49 (.int v) = some (hp_S sa ρ (hp_sI P 949 v)) := hp_put w (by decide) (Nat.le_of_ble_eq_true rfl) rfl fun c hc hne => by
  simp only [hp_cs, List.mem_cons, List.not_mem_nil, or_false] at hc
  rcases hc with rfl | rfl | rfl | rfl | rfl | rfl | rfl | rfl | rfl <;> first | rfl | exact absurd rfl hne
theorem hg_951 {sa : Nat → Nat} {B : Nat} {ρ : hp_L} {P : hp_P} (w : hp_w B ρ) : am_geti (hp_S sa ρ P) (ρ.1 9) 9 51 = some (P.1 951) := by
  unfold am_geti
  rw [hp_obj w (by decide)]
  rfl
theorem hs_951 {sa : Nat → Nat} {B : Nat} {ρ : hp_L} {P : hp_P} {v : Int32} (w : hp_w B ρ) : am_put B (hp_S sa ρ P) (ρ.1 9) 9 51 (.int v) = some (hp_S sa ρ (hp_sI P 951 v)) := hp_put w (by decide) (Nat.le_of_ble_eq_true rfl) rfl fun c hc hne => by
  simp only [hp_cs, List.mem_cons, List.not_mem_nil, or_false] at hc
  rcases hc with rfl | rfl | rfl | rfl | rfl | rfl | rfl | rfl | rfl <;> first | rfl | exact absurd rfl hne
theorem hr_3 {sa : Nat → Nat} {B : Nat} {ρ : hp_L} {P : hp_P} (w : hp_w B ρ) : am_getr (hp_S sa ρ P) (ρ.1 0) 0 3 = some (ρ.2.1 3) := by
  unfold am_getr
  rw [hp_obj w (by decide)]
  rfl
theorem hl_3 {sa : Nat → Nat} {B : Nat} {ρ : hp_L} {P : hp_P} {i : Int32} (w : hp_w B ρ) : am_iald (hp_S sa ρ P) (ρ.2.1 3) i = hp_rd P 3 i := hp_iald w (by decide)
theorem ht_3 {sa : Nat → Nat} {B : Nat} {ρ : hp_L} {P : hp_P} {i v : Int32} (w : hp_w B ρ) : am_iast B (hp_S sa ρ P) (ρ.2.1 3) i v = (hp_ck P 3 i).bind fun _ => some (hp_S sa ρ (hp_sA P 3 i v)) := hp_iast w (by decide)
theorem hr_4 {sa : Nat → Nat} {B : Nat} {ρ : hp_L} {P : hp_P} (w : hp_w B ρ) : am_getr (hp_S sa ρ P) (ρ.1 0) 0 4 = some (ρ.2.1 4) := by
  unfold am_getr
  rw [hp_obj w (by decide)]
  rfl
theorem hl_4 {sa : Nat → Nat} {B : Nat} {ρ : hp_L} {P : hp_P} {i : Int32} (w : hp_w B ρ) : am_iald (hp_S sa ρ P) (ρ.2.1 4) i = hp_rd P 4 i := hp_iald w (by decide)
theorem ht_4 {sa : Nat → Nat} {B : Nat} {ρ : hp_L} {P : hp_P} {i v : Int32} (w : hp_w B ρ) : am_iast B (hp_S sa ρ P) (ρ.2.1 4) i v = (hp_ck P 4 i).bind fun _ => some (hp_S sa ρ (hp_sA P 4 i v)) := hp_iast w (by decide)
theorem hr_102 {sa : Nat → Nat} {B : Nat} {ρ : hp_L} {P : hp_P} (w : hp_w B ρ) : am_getr (hp_S sa ρ P) (ρ.1 1) 1 2 = some (ρ.2.1 102) := by
  unfold am_getr
  rw [hp_obj w (by decide)]
  rfl
theorem hl_102 {sa : Nat → Nat} {B : Nat} {ρ : hp_L} {P : hp_P} {i : Int32} (w : hp_w B ρ) : am_iald (hp_S sa ρ P) (ρ.2.1 102) i = hp_rd P 102 i := hp_iald w (by decide)
theorem ht_102 {sa : Nat → Nat} {B : Nat} {ρ : hp_L} {P : hp_P} {i v : Int32} (w : hp_w B ρ) : am_iast B (hp_S sa ρ P) (ρ.2.1 102) i v = (hp_ck P 102 i).bind fun _ => some (hp_S sa ρ (hp_sA P 102 i v)) := hp_iast w (by decide)
theorem hr_104 {sa : Nat → Nat} {B : Nat} {ρ : hp_L} {P : hp_P} (w : hp_w B ρ) : am_getr (hp_S sa ρ P) (ρ.1 1) 1 4 = some (ρ.2.1 104) := by
  unfold am_getr
  rw [hp_obj w (by decide)]
  rfl
theorem hl_104 {sa : Nat → Nat} {B : Nat} {ρ : hp_L} {P : hp_P} {i : Int32} (w : hp_w B ρ) : am_iald (hp_S sa ρ P) (ρ.2.1 104) i = hp_rd P 104 i := hp_iald w (by decide)
theorem ht_104 {sa : Nat → Nat} {B : Nat} {ρ : hp_L} {P : hp_P} {i v : Int32} (w : hp_w B ρ) : am_iast B (hp_S sa ρ P) (ρ.2.1 104) i v = (hp_ck P 104 i).bind fun _ => some (hp_S sa ρ (hp_sA P 104 i v)) := hp_iast w (by decide)
theorem hr_105 {sa : Nat → Nat} {B : Nat} {ρ : hp_L} {P : hp_P} (w : hp_w B ρ) : am_getr (hp_S sa ρ P) (ρ.1 1) 1 5 = some (ρ.2.1 105) := by
  unfold am_getr
  rw [hp_obj w (by decide)]
  rfl
theorem hl_105 {sa : Nat → Nat} {B : Nat} {ρ : hp_L} {P : hp_P} {i : Int32} (w : hp_w B ρ) : am_iald (hp_S sa ρ P) (ρ.2.1 105) i = hp_rd P 105 i := hp_iald w (by decide)
theorem ht_105 {sa : Nat → Nat} {B : Nat} {ρ : hp_L} {P : hp_P} {i v : Int32} (w : hp_w B ρ) : am_iast B (hp_S sa ρ P) (ρ.2.1 105) i v = (hp_ck P 105 i).bind fun _ => some (hp_S sa ρ (hp_sA P 105 i v)) := hp_iast w (by decide)
theorem hr_106 {sa : Nat → Nat} {B : Nat} {ρ : hp_L} {P : hp_P} (w : hp_w B ρ) : am_getr (hp_S sa ρ P) (ρ.1 1) 1 6 = some (ρ.2.1 106) := by
  unfold am_getr
  rw [hp_obj w (by decide)]
  rfl
theorem hl_106 {sa : Nat → Nat} {B : Nat} {ρ : hp_L} {P : hp_P} {i : Int32} (w : hp_w B ρ) : am_iald (hp_S sa ρ P) (ρ.2.1 106) i = hp_rd P 106 i := hp_iald w (by decide)
theorem ht_106 {sa : Nat → Nat} {B : Nat} {ρ : hp_L} {P : hp_P} {i v : Int32} (w : hp_w B ρ) : am_iast B (hp_S sa ρ P) (ρ.2.1 106) i v = (hp_ck P 106 i).bind fun _ => some (hp_S sa ρ (hp_sA P 106 i v)) := hp_iast w (by decide)
theorem hr_107 {sa : Nat → Nat} {B : Nat} {ρ : hp_L} {P : hp_P} (w : hp_w B ρ) : am_getr (hp_S sa ρ P) (ρ.1 1) 1 7 = some (ρ.2.1 107) := by
  unfold am_getr
  rw [hp_obj w (by decide)]
  rfl
theorem hl_107 {sa : Nat → Nat} {B : Nat} {ρ : hp_L} {P : hp_P} {i : Int32} (w : hp_w B ρ) : am_iald (hp_S sa ρ P) (ρ.2.1 107) i = hp_rd P 107 i := hp_iald w (by decide)
theorem ht_107 {sa : Nat → Nat} {B : Nat} {ρ : hp_L} {P : hp_P} {i v : Int32} (w : hp_w B ρ) : am_iast B (hp_S sa ρ P) (ρ.2.1 107) i v = (hp_ck P 107 i).bind fun _ => some (hp_S sa ρ (hp_sA P 107 i v)) := hp_iast w (by decide)
theorem hr_108 {sa : Nat → Nat} {B : Nat} {ρ : hp_L} {P : hp_P} (w : hp_w B ρ) : am_getr (hp_S sa ρ P) (ρ.1 1) 1 8 = some (ρ.2.1 108) := by
  unfold am_getr
  rw [hp_obj w (by decide)]
  rfl
theorem hl_108 {sa : Nat → Nat} {B : Nat} {ρ : hp_L} {P : hp_P} {i : Int32} (w : hp_w B ρ) : am_iald (hp_S sa ρ P) (ρ.2.1 108) i = hp_rd P 108 i := hp_iald w (by decide)
theorem ht_108 {sa : Nat → Nat} {B : Nat} {ρ : hp_L} {P : hp_P} {i v : Int32} (w : hp_w B ρ) : am_iast B (hp_S sa ρ P) (ρ.2.1 108) i v = (hp_ck P 108 i).bind fun _ => some (hp_S sa ρ (hp_sA P 108 i v)) := hp_iast w (by decide)
theorem hr_109 {sa : Nat → Nat} {B : Nat} {ρ : hp_L} {P : hp_P} (w : hp_w B ρ) : am_getr (hp_S sa ρ P) (ρ.1 1) 1 9 = some (ρ.2.1 109) := by
  unfold am_getr
  rw [hp_obj w (by decide)]
  rfl
theorem hl_109 {sa : Nat → Nat} {B : Nat} {ρ : hp_L} {P : hp_P} {i : Int32} (w : hp_w B ρ) : am_iald (hp_S sa ρ P) (ρ.2.1 109) i = hp_rd P 109 i := hp_iald w (by decide)
theorem ht_109 {sa : Nat → Nat} {B : Nat} {ρ : hp_L} {P : hp_P} {i v : Int32} (w : hp_w B ρ) : am_iast B (hp_S sa ρ P) (ρ.2.1 109) i v = (hp_ck P 109 i).bind fun _ => some (hp_S sa ρ (hp_sA P 109 i v)) := hp_iast w (by decide)
theorem hr_110 {sa : Nat → Nat} {B : Nat} {ρ : hp_L} {P : hp_P} (w : hp_w B ρ) : am_getr (hp_S sa ρ P) (ρ.1 1) 1 10 = some (ρ.2.1 110) := by
  unfold am_getr
  rw [hp_obj w (by decide)]
  rfl
theorem hl_110 {sa : Nat → Nat} {B : Nat} {ρ : hp_L} {P : hp_P} {i : Int32} (w : hp_w B ρ) : am_iald (hp_S sa ρ P) (ρ.2.1 110) i = hp_rd P 110 i := hp_iald w (by decide)
theorem ht_110 {sa : Nat → Nat} {B : Nat} {ρ : hp_L} {P : hp_P} {i v : Int32} (w : hp_w B ρ) : am_iast B (hp_S sa ρ P) (ρ.2.1 110) i v = (hp_ck P 110 i).bind fun _ => some (hp_S sa ρ (hp_sA P 110 i v)) := hp_iast w (by decide)
theorem hr_112 {sa : Nat → Nat} {B : Nat} {ρ : hp_L} {P : hp_P} (w : hp_w B ρ) : am_getr (hp_S sa ρ P) (ρ.1 1) 1 12 = some (ρ.2.1 112) := by
  unfold am_getr
  rw [hp_obj w (by decide)]
  rfl
theorem hl_112 {sa : Nat → Nat} {B : Nat} {ρ : hp_L} {P : hp_P} {i : Int32} (w : hp_w B ρ) : am_iald (hp_S sa ρ P) (ρ.2.1 112) i = hp_rd P 112 i := hp_iald w (by decide)
theorem ht_112 {sa : Nat → Nat} {B : Nat} {ρ : hp_L} {P : hp_P} {i v : Int32} (w : hp_w B ρ) : am_iast B (hp_S sa ρ P) (ρ.2.1 112) i v = (hp_ck P 112 i).bind fun _ => some (hp_S sa ρ (hp_sA P 112 i v)) := hp_iast w (by decide)
theorem hr_113 {sa : Nat → Nat} {B : Nat} {ρ : hp_L} {P : hp_P} (w : hp_w B ρ) : am_getr (hp_S sa ρ P) (ρ.1 1) 1 13 = some (ρ.2.1 113) := by
  unfold am_getr
  rw [hp_obj w (by decide)]
  rfl
theorem hl_113 {sa : Nat → Nat} {B : Nat} {ρ : hp_L} {P : hp_P} {i : Int32} (w : hp_w B ρ) : am_iald (hp_S sa ρ P) (ρ.2.1 113) i = hp_rd P 113 i := hp_iald w (by decide)
theorem ht_113 {sa : Nat → Nat} {B : Nat} {ρ : hp_L} {P : hp_P} {i v : Int32} (w : hp_w B ρ) : am_iast B (hp_S sa ρ P) (ρ.2.1 113) i v = (hp_ck P 113 i).bind fun _ => some (hp_S sa ρ (hp_sA P 113 i v)) := hp_iast w (by decide)
theorem hr_301 {sa : Nat → Nat} {B : Nat} {ρ : hp_L} {P : hp_P} (w : hp_w B ρ) : am_getr (hp_S sa ρ P) (ρ.1 3) 3 1 = some (ρ.2.1 301) := by
  unfold am_getr
  rw [hp_obj w (by decide)]
  rfl
theorem hl_301 {sa : Nat → Nat} {B : Nat} {ρ : hp_L} {P : hp_P} {i : Int32} (w : hp_w B ρ) : am_iald (hp_S sa ρ P) (ρ.2.1 301) i = hp_rd P 301 i := hp_iald w (by decide)
theorem ht_301 {sa : Nat → Nat} {B : Nat} {ρ : hp_L} {P : hp_P} {i v : Int32} (w : hp_w B ρ) : am_iast B (hp_S sa ρ P) (ρ.2.1 301) i v = (hp_ck P 301 i).bind fun _ => some (hp_S sa ρ (hp_sA P 301 i v)) := hp_iast w (by decide)
theorem hr_302 {sa : Nat → Nat} {B : Nat} {ρ : hp_L} {P : hp_P} (w : hp_w B ρ) : am_getr (hp_S sa ρ P) (ρ.1 3) 3 2 = some (ρ.2.1 302) := by
  unfold am_getr
  rw [hp_obj w (by decide)]
  rfl
theorem hl_302 {sa : Nat → Nat} {B : Nat} {ρ : hp_L} {P : hp_P} {i : Int32} (w : hp_w B ρ) : am_iald (hp_S sa ρ P) (ρ.2.1 302) i = hp_rd P 302 i := hp_iald w (by decide)
theorem ht_302 {sa : Nat → Nat} {B : Nat} {ρ : hp_L} {P : hp_P} {i v : Int32} (w : hp_w B ρ) : am_iast B (hp_S sa ρ P) (ρ.2.1 302) i v = (hp_ck P 302 i).bind fun _ => some (hp_S sa ρ (hp_sA P 302 i v)) := hp_iast w (by decide)
theorem hr_304 {sa : Nat → Nat} {B : Nat} {ρ : hp_L} {P : hp_P} (w : hp_w B ρ) : am_getr (hp_S sa ρ P) (ρ.1 3) 3 4 = some (ρ.2.1 304) := by
  unfold am_getr
  rw [hp_obj w (by decide)]
  rfl
theorem hl_304 {sa : Nat → Nat} {B : Nat} {ρ : hp_L} {P : hp_P} {i : Int32} (w : hp_w B ρ) : am_iald (hp_S sa ρ P) (ρ.2.1 304) i = hp_rd P 304 i := hp_iald w (by decide)
theorem ht_304 {sa : Nat → Nat} {B : Nat} {ρ : hp_L} {P : hp_P} {i v : Int32} (w : hp_w B ρ) : am_iast B (hp_S sa ρ P) (ρ.2.1 304) i v = (hp_ck P 304 i).bind fun _ => some (hp_S sa ρ (hp_sA P 304 i v)) := hp_iast w (by decide)
theorem hr_307 {sa : Nat → Nat} {B : Nat} {ρ : hp_L} {P : hp_P} (w : hp_w B ρ) : am_getr (hp_S sa ρ P) (ρ.1 3) 3 7 = some (ρ.2.1 307) := by
  unfold am_getr
  rw [hp_obj w (by decide)]
  rfl
theorem hl_307 {sa : Nat → Nat} {B : Nat} {ρ : hp_L} {P : hp_P} {i : Int32} (w : hp_w B ρ) : am_iald (hp_S sa ρ P) (ρ.2.1 307) i = hp_rd P 307 i := hp_iald w (by decide)
theorem ht_307 {sa : Nat → Nat} {B : Nat} {ρ : hp_L} {P : hp_P} {i v : Int32} (w : hp_w B ρ) : am_iast B (hp_S sa ρ P) (ρ.2.1 307) i v = (hp_ck P 307 i).bind fun _ => some (hp_S sa ρ (hp_sA P 307 i v)) := hp_iast w (by decide)
theorem hr_405 {sa : Nat → Nat} {B : Nat} {ρ : hp_L} {P : hp_P} (w : hp_w B ρ) : am_getr (hp_S sa ρ P) (ρ.1 4) 4 5 = some (ρ.2.1 405) := by
  unfold am_getr
  rw [hp_obj w (by decide)]
  rfl
theorem hl_405 {sa : Nat → Nat} {B : Nat} {ρ : hp_L} {P : hp_P} {i : Int32} (w : hp_w B ρ) : am_iald (hp_S sa ρ P) (ρ.2.1 405) i = hp_rd P 405 i := hp_iald w (by decide)
theorem ht_405 {sa : Nat → Nat} {B : Nat} {ρ : hp_L} {P : hp_P} {i v : Int32} (w : hp_w B ρ) : am_iast B (hp_S sa ρ P) (ρ.2.1 405) i v = (hp_ck P 405 i).bind fun _ => some (hp_S sa ρ (hp_sA P 405 i v)) := hp_iast w (by decide)
theorem hr_406 {sa : Nat → Nat} {B : Nat} {ρ : hp_L} {P : hp_P} (w : hp_w B ρ) : am_getr (hp_S sa ρ P) (ρ.1 4) 4 6 = some (ρ.2.1 406) := by
  unfold am_getr
  rw [hp_obj w (by decide)]
  rfl
theorem hl_406 {sa : Nat → Nat} {B : Nat} {ρ : hp_L} {P : hp_P} {i : Int32} (w : hp_w B ρ) : am_iald (hp_S sa ρ P) (ρ.2.1 406) i = hp_rd P 406 i := hp_iald w (by decide)
theorem ht_406 {sa : Nat → Nat} {B : Nat} {ρ : hp_L} {P : hp_P} {i v : Int32} (w : hp_w B ρ) : am_iast B (hp_S sa ρ P) (ρ.2.1 406) i v = (hp_ck P 406 i).bind fun _ => some (hp_S sa ρ (hp_sA P 406 i v)) := hp_iast w (by decide)
theorem hr_407 {sa : Nat → Nat} {B : Nat} {ρ : hp_L} {P : hp_P} (w : hp_w B ρ) : am_getr (hp_S sa ρ P) (ρ.1 4) 4 7 = some (ρ.2.1 407) := by
  unfold am_getr
  rw [hp_obj w (by decide)]
  rfl
theorem hl_407 {sa : Nat → Nat} {B : Nat} {ρ : hp_L} {P : hp_P} {i : Int32} (w : hp_w B ρ) : am_iald (hp_S sa ρ P) (ρ.2.1 407) i = hp_rd P 407 i := hp_iald w (by decide)
theorem ht_407 {sa : Nat → Nat} {B : Nat} {ρ : hp_L} {P : hp_P} {i v : Int32} (w : hp_w B ρ) : am_iast B (hp_S sa ρ P) (ρ.2.1 407) i v = (hp_ck P 407 i).bind fun _ => some (hp_S sa ρ (hp_sA P 407 i v)) := hp_iast w (by decide)
theorem hr_408 {sa : Nat → Nat} {B : Nat} {ρ : hp_L} {P : hp_P} (w : hp_w B ρ) : am_getr (hp_S sa ρ P) (ρ.1 4) 4 8 = some (ρ.2.1 408) := by
  unfold am_getr
  rw [hp_obj w (by decide)]
  rfl
theorem hl_408 {sa : Nat → Nat} {B : Nat} {ρ : hp_L} {P : hp_P} {i : Int32} (w : hp_w B ρ) : am_iald (hp_S sa ρ P) (ρ.2.1 408) i = hp_rd P 408 i := hp_iald w (by decide)
theorem ht_408 {sa : Nat → Nat} {B : Nat} {ρ : hp_L} {P : hp_P} {i v : Int32} (w : hp_w B ρ) : am_iast B (hp_S sa ρ P) (ρ.2.1 408) i v = (hp_ck P 408 i).bind fun _ => some (hp_S sa ρ (hp_sA P 408 i v)) := hp_iast w (by decide)
theorem hr_500 {sa : Nat → Nat} {B : Nat} {ρ : hp_L} {P : hp_P} (w : hp_w B ρ) : am_getr (hp_S sa ρ P) (ρ.1 5) 5 0 = some (ρ.2.1 500) := by
  unfold am_getr
  rw [hp_obj w (by decide)]
  rfl
theorem hl_500 {sa : Nat → Nat} {B : Nat} {ρ : hp_L} {P : hp_P} {i : Int32} (w : hp_w B ρ) : am_iald (hp_S sa ρ P) (ρ.2.1 500) i = hp_rd P 500 i := hp_iald w (by decide)
theorem ht_500 {sa : Nat → Nat} {B : Nat} {ρ : hp_L} {P : hp_P} {i v : Int32} (w : hp_w B ρ) : am_iast B (hp_S sa ρ P) (ρ.2.1 500) i v = (hp_ck P 500 i).bind fun _ => some (hp_S sa ρ (hp_sA P 500 i v)) := hp_iast w (by decide)
theorem hr_501 {sa : Nat → Nat} {B : Nat} {ρ : hp_L} {P : hp_P} (w : hp_w B ρ) : am_getr (hp_S sa ρ P) (ρ.1 5) 5 1 = some (ρ.2.1 501) := by
  unfold am_getr
  rw [hp_obj w (by decide)]
  rfl
theorem hl_501 {sa : Nat → Nat} {B : Nat} {ρ : hp_L} {P : hp_P} {i : Int32} (w : hp_w B ρ) : am_iald (hp_S sa ρ P) (ρ.2.1 501) i = hp_rd P 501 i := hp_iald w (by decide)
theorem ht_501 {sa : Nat → Nat} {B : Nat} {ρ : hp_L} {P : hp_P} {i v : Int32} (w : hp_w B ρ) : am_iast B (hp_S sa ρ P) (ρ.2.1 501) i v = (hp_ck P 501 i).bind fun _ => some (hp_S sa ρ (hp_sA P 501 i v)) := hp_iast w (by decide)
theorem hr_700 {sa : Nat → Nat} {B : Nat} {ρ : hp_L} {P : hp_P} (w : hp_w B ρ) : am_getr (hp_S sa ρ P) (ρ.1 7) 7 0 = some (ρ.2.1 700) := by
  unfold am_getr
  rw [hp_obj w (by decide)]
  rfl
theorem hl_700 {sa : Nat → Nat} {B : Nat} {ρ : hp_L} {P : hp_P} {i : Int32} (w : hp_w B ρ) : am_iald (hp_S sa ρ P) (ρ.2.1 700) i = hp_rd P 700 i := hp_iald w (by decide)
theorem ht_700 {sa : Nat → Nat} {B : Nat} {ρ : hp_L} {P : hp_P} {i v : Int32} (w : hp_w B ρ) : am_iast B (hp_S sa ρ P) (ρ.2.1 700) i v = (hp_ck P 700 i).bind fun _ => some (hp_S sa ρ (hp_sA P 700 i v)) := hp_iast w (by decide)
theorem hr_701 {sa : Nat → Nat} {B : Nat} {ρ : hp_L} {P : hp_P} (w : hp_w B ρ) : am_getr (hp_S sa ρ P) (ρ.1 7) 7 1 = some (ρ.2.1 701) := by
  unfold am_getr
  rw [hp_obj w (by decide)]
  rfl
theorem hl_701 {sa : Nat → Nat} {B : Nat} {ρ : hp_L} {P : hp_P} {i : Int32} (w : hp_w B ρ) : am_iald (hp_S sa ρ P) (ρ.2.1 701) i = hp_rd P 701 i := hp_iald w (by decide)
theorem ht_701 {sa : Nat → Nat} {B : Nat} {ρ : hp_L} {P : hp_P} {i v : Int32} (w : hp_w B ρ) : am_iast B (hp_S sa ρ P) (ρ.2.1 701) i v = (hp_ck P 701 i).bind fun _ => some (hp_S sa ρ (hp_sA P 701 i v)) := hp_iast w (by decide)
theorem hr_702 {sa : Nat → Nat} {B : Nat} {ρ : hp_L} {P : hp_P} (w : hp_w B ρ) : am_getr (hp_S sa ρ P) (ρ.1 7) 7 2 = some (ρ.2.1 702) := by
  unfold am_getr
  rw [hp_obj w (by decide)]
  rfl
theorem hl_702 {sa : Nat → Nat} {B : Nat} {ρ : hp_L} {P : hp_P} {i : Int32} (w : hp_w B ρ) : am_iald (hp_S sa ρ P) (ρ.2.1 702) i = hp_rd P 702 i := hp_iald w (by decide)
theorem ht_702 {sa : Nat → Nat} {B : Nat} {ρ : hp_L} {P : hp_P} {i v : Int32} (w : hp_w B ρ) : am_iast B (hp_S sa ρ P) (ρ.2.1 702) i v = (hp_ck P 702 i).bind fun _ => some (hp_S sa ρ (hp_sA P 702 i v)) := hp_iast w (by decide)
theorem hr_703 {sa : Nat → Nat} {B : Nat} {ρ : hp_L} {P : hp_P} (w : hp_w B ρ) : am_getr (hp_S sa ρ P) (ρ.1 7) 7 3 = some (ρ.2.1 703) := by
  unfold am_getr
  rw [hp_obj w (by decide)]
  rfl
theorem hl_703 {sa : Nat → Nat} {B : Nat} {ρ : hp_L} {P : hp_P} {i : Int32} (w : hp_w B ρ) : am_iald (hp_S sa ρ P) (ρ.2.1 703) i = hp_rd P 703 i := hp_iald w (by decide)
theorem ht_703 {sa : Nat → Nat} {B : Nat} {ρ : hp_L} {P : hp_P} {i v : Int32} (w : hp_w B ρ) : am_iast B (hp_S sa ρ P) (ρ.2.1 703) i v = (hp_ck P 703 i).bind fun _ => some (hp_S sa ρ (hp_sA P 703 i v)) := hp_iast w (by decide)
theorem hr_704 {sa : Nat → Nat} {B : Nat} {ρ : hp_L} {P : hp_P} (w : hp_w B ρ) : am_getr (hp_S sa ρ P) (ρ.1 7) 7 4 = some (ρ.2.1 704) := by
  unfold am_getr
  rw [hp_obj w (by decide)]
  rfl
theorem hl_704 {sa : Nat → Nat} {B : Nat} {ρ : hp_L} {P : hp_P} {i : Int32} (w : hp_w B ρ) : am_iald (hp_S sa ρ P) (ρ.2.1 704) i = hp_rd P 704 i := hp_iald w (by decide)
theorem ht_704 {sa : Nat → Nat} {B : Nat} {ρ : hp_L} {P : hp_P} {i v : Int32} (w : hp_w B ρ) : am_iast B (hp_S sa ρ P) (ρ.2.1 704) i v = (hp_ck P 704 i).bind fun _ => some (hp_S sa ρ (hp_sA P 704 i v)) := hp_iast w (by decide)
theorem hr_705 {sa : Nat → Nat} {B : Nat} {ρ : hp_L} {P : hp_P} (w : hp_w B ρ) : am_getr (hp_S sa ρ P) (ρ.1 7) 7 5 = some (ρ.2.1 705) := by
  unfold am_getr
  rw [hp_obj w (by decide)]
  rfl
theorem hl_705 {sa : Nat → Nat} {B : Nat} {ρ : hp_L} {P : hp_P} {i : Int32} (w : hp_w B ρ) : am_iald (hp_S sa ρ P) (ρ.2.1 705) i = hp_rd P 705 i := hp_iald w (by decide)
theorem ht_705 {sa : Nat → Nat} {B : Nat} {ρ : hp_L} {P : hp_P} {i v : Int32} (w : hp_w B ρ) : am_iast B (hp_S sa ρ P) (ρ.2.1 705) i v = (hp_ck P 705 i).bind fun _ => some (hp_S sa ρ (hp_sA P 705 i v)) := hp_iast w (by decide)
theorem hr_706 {sa : Nat → Nat} {B : Nat} {ρ : hp_L} {P : hp_P} (w : hp_w B ρ) : am_getr (hp_S sa ρ P) (ρ.1 7) 7 6 = some (ρ.2.1 706) := by
  unfold am_getr
  rw [hp_obj w (by decide)]
  rfl
theorem hl_706 {sa : Nat → Nat} {B : Nat} {ρ : hp_L} {P : hp_P} {i : Int32} (w : hp_w B ρ) : am_iald (hp_S sa ρ P) (ρ.2.1 706) i = hp_rd P 706 i := hp_iald w (by decide)
theorem ht_706 {sa : Nat → Nat} {B : Nat} {ρ : hp_L} {P : hp_P} {i v : Int32} (w : hp_w B ρ) : am_iast B (hp_S sa ρ P) (ρ.2.1 706) i v = (hp_ck P 706 i).bind fun _ => some (hp_S sa ρ (hp_sA P 706 i v)) := hp_iast w (by decide)
theorem hr_707 {sa : Nat → Nat} {B : Nat} {ρ : hp_L} {P : hp_P} (w : hp_w B ρ) : am_getr (hp_S sa ρ P) (ρ.1 7) 7 7 = some (ρ.2.1 707) := by
  unfold am_getr
  rw [hp_obj w (by decide)]
  rfl
theorem hl_707 {sa : Nat → Nat} {B : Nat} {ρ : hp_L} {P : hp_P} {i : Int32} (w : hp_w B ρ) : am_iald (hp_S sa ρ P) (ρ.2.1 707) i = hp_rd P 707 i := hp_iald w (by decide)
theorem ht_707 {sa : Nat → Nat} {B : Nat} {ρ : hp_L} {P : hp_P} {i v : Int32} (w : hp_w B ρ) : am_iast B (hp_S sa ρ P) (ρ.2.1 707) i v = (hp_ck P 707 i).bind fun _ => some (hp_S sa ρ (hp_sA P 707 i v)) := hp_iast w (by decide)
theorem hr_807 {sa : Nat → Nat} {B : Nat} {ρ : hp_L} {P : hp_P} (w : hp_w B ρ) : am_getr (hp_S sa ρ P) (ρ.1 8) 8 7 = some (ρ.2.1 807) := by
  unfold am_getr
  rw [hp_obj w (by decide)]
  rfl
theorem hl_807 {sa : Nat → Nat} {B : Nat} {ρ : hp_L} {P : hp_P} {i : Int32} (w : hp_w B ρ) : am_iald (hp_S sa ρ P) (ρ.2.1 807) i = hp_rd P 807 i := hp_iald w (by decide)
theorem ht_807 {sa : Nat → Nat} {B : Nat} {ρ : hp_L} {P : hp_P} {i v : Int32} (w : hp_w B ρ) : am_iast B (hp_S sa ρ P) (ρ.2.1 807) i v = (hp_ck P 807 i).bind fun _ => some (hp_S sa ρ (hp_sA P 807 i v)) := hp_iast w (by decide)
theorem hr_902 {sa : Nat → Nat} {B : Nat} {ρ : hp_L} {P : hp_P} (w : hp_w B ρ) : am_getr (hp_S sa ρ P) (ρ.1 9) 9 2 = some (ρ.2.1 902) := by
  unfold am_getr
  rw [hp_obj w (by decide)]
  rfl
theorem hl_902 {sa : Nat → Nat} {B : Nat} {ρ : hp_L} {P : hp_P} {i : Int32} (w : hp_w B ρ) : am_iald (hp_S sa ρ P) (ρ.2.1 902) i = hp_rd P 902 i := hp_iald w (by decide)
theorem ht_902 {sa : Nat → Nat} {B : Nat} {ρ : hp_L} {P : hp_P} {i v : Int32} (w : hp_w B ρ) : am_iast B (hp_S sa ρ P) (ρ.2.1 902) i v = (hp_ck P 902 i).bind fun _ => some (hp_S sa ρ (hp_sA P 902 i v)) := hp_iast w (by decide)
theorem hr_905 {sa : Nat → Nat} {B : Nat} {ρ : hp_L} {P : hp_P} (w : hp_w B ρ) : am_getr (hp_S sa ρ P) (ρ.1 9) 9 5 = some (ρ.2.1 905) := by
  unfold am_getr
  rw [hp_obj w (by decide)]
  rfl
theorem hl_905 {sa : Nat → Nat} {B : Nat} {ρ : hp_L} {P : hp_P} {i : Int32} (w : hp_w B ρ) : am_iald (hp_S sa ρ P) (ρ.2.1 905) i = hp_rd P 905 i := hp_iald w (by decide)
theorem ht_905 {sa : Nat → Nat} {B : Nat} {ρ : hp_L} {P : hp_P} {i v : Int32} (w : hp_w B ρ) : am_iast B (hp_S sa ρ P) (ρ.2.1 905) i v = (hp_ck P 905 i).bind fun _ => some (hp_S sa ρ (hp_sA P 905 i v)) := hp_iast w (by decide)
theorem hr_906 {sa : Nat → Nat} {B : Nat} {ρ : hp_L} {P : hp_P} (w : hp_w B ρ) : am_getr (hp_S sa ρ P) (ρ.1 9) 9 6 = some (ρ.2.1 906) := by
  unfold am_getr
  rw [hp_obj w (by decide)]
  rfl
theorem hl_906 {sa : Nat → Nat} {B : Nat} {ρ : hp_L} {P : hp_P} {i : Int32} (w : hp_w B ρ) : am_iald (hp_S sa ρ P) (ρ.2.1 906) i = hp_rd P 906 i := hp_iald w (by decide)
theorem ht_906 {sa : Nat → Nat} {B : Nat} {ρ : hp_L} {P : hp_P} {i v : Int32} (w : hp_w B ρ) : am_iast B (hp_S sa ρ P) (ρ.2.1 906) i v = (hp_ck P 906 i).bind fun _ => some (hp_S sa ρ (hp_sA P 906 i v)) := hp_iast w (by decide)
theorem hr_907 {sa : Nat → Nat} {B : Nat} {ρ : hp_L} {P : hp_P} (w : hp_w B ρ) : am_getr (hp_S sa ρ P) (ρ.1 9) 9 7 = some (ρ.2.1 907) := by
  unfold am_getr
  rw [hp_obj w (by decide)]
  rfl
theorem hl_907 {sa : Nat → Nat} {B : Nat} {ρ : hp_L} {P : hp_P} {i : Int32} (w : hp_w B ρ) : am_iald (hp_S sa ρ P) (ρ.2.1 907) i = hp_rd P 907 i := hp_iald w (by decide)
theorem ht_907 {sa : Nat → Nat} {B : Nat} {ρ : hp_L} {P : hp_P} {i v : Int32} (w : hp_w B ρ) : am_iast B (hp_S sa ρ P) (ρ.2.1 907) i v = (hp_ck P 907 i).bind fun _ => some (hp_S sa ρ (hp_sA P 907 i v)) := hp_iast w (by decide)
theorem hr_908 {sa : Nat → Nat} {B : Nat} {ρ : hp_L} {P : hp_P} (w : hp_w B ρ) : am_getr (hp_S sa ρ P) (ρ.1 9) 9 8 = some (ρ.2.1 908) := by
  unfold am_getr
  rw [hp_obj w (by decide)]
  rfl
theorem hl_908 {sa : Nat → Nat} {B : Nat} {ρ : hp_L} {P : hp_P} {i : Int32} (w : hp_w B ρ) : am_iald (hp_S sa ρ P) (ρ.2.1 908) i = hp_rd P 908 i := hp_iald w (by decide)
theorem ht_908 {sa : Nat → Nat} {B : Nat} {ρ : hp_L} {P : hp_P} {i v : Int32} (w : hp_w B ρ) : am_iast B (hp_S sa ρ P) (ρ.2.1 908) i v = (hp_ck P 908 i).bind fun _ => some (hp_S sa ρ (hp_sA P 908 i v)) := hp_iast w (by decide)
theorem hr_909 {sa : Nat → Nat} {B : Nat} {ρ : hp_L} {P : hp_P} (w : hp_w B ρ) : am_getr (hp_S sa ρ P) (ρ.1 9) 9 9 = some (ρ.2.1 909) := by
  unfold am_getr
  rw [hp_obj w (by decide)]
  rfl
theorem hl_909 {sa : Nat → Nat} {B : Nat} {ρ : hp_L} {P : hp_P} {i : Int32} (w : hp_w B ρ) : am_iald (hp_S sa ρ P) (ρ.2.1 909) i = hp_rd P 909 i := hp_iald w (by decide)
theorem ht_909 {sa : Nat → Nat} {B : Nat} {ρ : hp_L} {P : hp_P} {i v : Int32} (w : hp_w B ρ) : am_iast B (hp_S sa ρ P) (ρ.2.1 909) i v = (hp_ck P 909 i).bind fun _ => some (hp_S sa ρ (hp_sA P 909 i v)) := hp_iast w (by decide)
theorem hr_910 {sa : Nat → Nat} {B : Nat} {ρ : hp_L} {P : hp_P} (w : hp_w B ρ) : am_getr (hp_S sa ρ P) (ρ.1 9) 9 10 = some (ρ.2.1 910) := by
  unfold am_getr
  rw [hp_obj w (by decide)]
  rfl
theorem hl_910 {sa : Nat → Nat} {B : Nat} {ρ : hp_L} {P : hp_P} {i : Int32} (w : hp_w B ρ) : am_iald (hp_S sa ρ P) (ρ.2.1 910) i = hp_rd P 910 i := hp_iald w (by decide)
theorem ht_910 {sa : Nat → Nat} {B : Nat} {ρ : hp_L} {P : hp_P} {i v : Int32} (w : hp_w B ρ) : am_iast B (hp_S sa ρ P) (ρ.2.1 910) i v = (hp_ck P 910 i).bind fun _ => some (hp_S sa ρ (hp_sA P 910 i v)) := hp_iast w (by decide)
theorem hr_911 {sa : Nat → Nat} {B : Nat} {ρ : hp_L} {P : hp_P} (w : hp_w B ρ) : am_getr (hp_S sa ρ P) (ρ.1 9) 9 11 = some (ρ.2.1 911) := by
  unfold am_getr
  rw [hp_obj w (by decide)]
  rfl
theorem hl_911 {sa : Nat → Nat} {B : Nat} {ρ : hp_L} {P : hp_P} {i : Int32} (w : hp_w B ρ) : am_iald (hp_S sa ρ P) (ρ.2.1 911) i = hp_rd P 911 i := hp_iald w (by decide)
theorem ht_911 {sa : Nat → Nat} {B : Nat} {ρ : hp_L} {P : hp_P} {i v : Int32} (w : hp_w B ρ) : am_iast B (hp_S sa ρ P) (ρ.2.1 911) i v = (hp_ck P 911 i).bind fun _ => some (hp_S sa ρ (hp_sA P 911 i v)) := hp_iast w (by decide)
theorem hr_912 {sa : Nat → Nat} {B : Nat} {ρ : hp_L} {P : hp_P} (w : hp_w B ρ) : am_getr (hp_S sa ρ P) (ρ.1 9) 9 12 = some (ρ.2.1 912) := by
  unfold am_getr
  rw [hp_obj w (by decide)]
  rfl
theorem hl_912 {sa : Nat → Nat} {B : Nat} {ρ : hp_L} {P : hp_P} {i : Int32} (w : hp_w B ρ) : am_iald (hp_S sa ρ P) (ρ.2.1 912) i = hp_rd P 912 i := hp_iald w (by decide)
theorem ht_912 {sa : Nat → Nat} {B : Nat} {ρ : hp_L} {P : hp_P} {i v : Int32} (w : hp_w B ρ) : am_iast B (hp_S sa ρ P) (ρ.2.1 912) i v = (hp_ck P 912 i).bind fun _ => some (hp_S sa ρ (hp_sA P 912 i v)) := hp_iast w (by decide)
theorem hr_914 {sa : Nat → Nat} {B : Nat} {ρ : hp_L} {P : hp_P} (w : hp_w B ρ) : am_getr (hp_S sa ρ P) (ρ.1 9) 9 14 = some (ρ.2.1 914) := by
  unfold am_getr
  rw [hp_obj w (by decide)]
  rfl
theorem hl_914 {sa : Nat → Nat} {B : Nat} {ρ : hp_L} {P : hp_P} {i : Int32} (w : hp_w B ρ) : am_iald (hp_S sa ρ P) (ρ.2.1 914) i = hp_rd P 914 i := hp_iald w (by decide)
theorem ht_914 {sa : Nat → Nat} {B : Nat} {ρ : hp_L} {P : hp_P} {i v : Int32} (w : hp_w B ρ) : am_iast B (hp_S sa ρ P) (ρ.2.1 914) i v = (hp_ck P 914 i).bind fun _ => some (hp_S sa ρ (hp_sA P 914 i v)) := hp_iast w (by decide)
theorem hr_916 {sa : Nat → Nat} {B : Nat} {ρ : hp_L} {P : hp_P} (w : hp_w B ρ) : am_getr (hp_S sa ρ P) (ρ.1 9) 9 16 = some (ρ.2.1 916) := by
  unfold am_getr
  rw [hp_obj w (by decide)]
  rfl
theorem hl_916 {sa : Nat → Nat} {B : Nat} {ρ : hp_L} {P : hp_P} {i : Int32} (w : hp_w B ρ) : am_iald (hp_S sa ρ P) (ρ.2.1 916) i = hp_rd P 916 i := hp_iald w (by decide)
theorem ht_916 {sa : Nat → Nat} {B : Nat} {ρ : hp_L} {P : hp_P} {i v : Int32} (w : hp_w B ρ) : am_iast B (hp_S sa ρ P) (ρ.2.1 916) i v = (hp_ck P 916 i).bind fun _ => some (hp_S sa ρ (hp_sA P 916 i v)) := hp_iast w (by decide)
theorem hr_918 {sa : Nat → Nat} {B : Nat} {ρ : hp_L} {P : hp_P} (w : hp_w B ρ) : am_getr (hp_S sa ρ P) (ρ.1 9) 9 18 = some (ρ.2.1 918) := by
  unfold am_getr
  rw [hp_obj w (by decide)]
  rfl
theorem hl_918 {sa : Nat → Nat} {B : Nat} {ρ : hp_L} {P : hp_P} {i : Int32} (w : hp_w B ρ) : am_iald (hp_S sa ρ P) (ρ.2.1 918) i = hp_rd P 918 i := hp_iald w (by decide)
theorem ht_918 {sa : Nat → Nat} {B : Nat} {ρ : hp_L} {P : hp_P} {i v : Int32} (w : hp_w B ρ) : am_iast B (hp_S sa ρ P) (ρ.2.1 918) i v = (hp_ck P 918 i).bind fun _ => some (hp_S sa ρ (hp_sA P 918 i v)) := hp_iast w (by decide)
theorem hr_919 {sa : Nat → Nat} {B : Nat} {ρ : hp_L} {P : hp_P} (w : hp_w B ρ) : am_getr (hp_S sa ρ P) (ρ.1 9) 9 19 = some (ρ.2.1 919) := by
  unfold am_getr
  rw [hp_obj w (by decide)]
  rfl
theorem hl_919 {sa : Nat → Nat} {B : Nat} {ρ : hp_L} {P : hp_P} {i : Int32} (w : hp_w B ρ) : am_iald (hp_S sa ρ P) (ρ.2.1 919) i = hp_rd P 919 i := hp_iald w (by decide)
theorem ht_919 {sa : Nat → Nat} {B : Nat} {ρ : hp_L} {P : hp_P} {i v : Int32} (w : hp_w B ρ) : am_iast B (hp_S sa ρ P) (ρ.2.1 919) i v = (hp_ck P 919 i).bind fun _ => some (hp_S sa ρ (hp_sA P 919 i v)) := hp_iast w (by decide)
theorem hr_920 {sa : Nat → Nat} {B : Nat} {ρ : hp_L} {P : hp_P} (w : hp_w B ρ) : am_getr (hp_S sa ρ P) (ρ.1 9) 9 20 = some (ρ.2.1 920) := by
  unfold am_getr
  rw [hp_obj w (by decide)]
  rfl
theorem hl_920 {sa : Nat → Nat} {B : Nat} {ρ : hp_L} {P : hp_P} {i : Int32} (w : hp_w B ρ) : am_iald (hp_S sa ρ P) (ρ.2.1 920) i = hp_rd P 920 i := hp_iald w (by decide)
theorem ht_920 {sa : Nat → Nat} {B : Nat} {ρ : hp_L} {P : hp_P} {i v : Int32} (w : hp_w B ρ) : am_iast B (hp_S sa ρ P) (ρ.2.1 920) i v = (hp_ck P 920 i).bind fun _ => some (hp_S sa ρ (hp_sA P 920 i v)) := hp_iast w (by decide)
theorem hr_921 {sa : Nat → Nat} {B : Nat} {ρ : hp_L} {P : hp_P} (w : hp_w B ρ) : am_getr (hp_S sa ρ P) (ρ.1 9) 9 21 = some (ρ.2.1 921) := by
  unfold am_getr
  rw [hp_obj w (by decide)]
  rfl
theorem hl_921 {sa : Nat → Nat} {B : Nat} {ρ : hp_L} {P : hp_P} {i : Int32} (w : hp_w B ρ) : am_iald (hp_S sa ρ P) (ρ.2.1 921) i = hp_rd P 921 i := hp_iald w (by decide)
theorem ht_921 {sa : Nat → Nat} {B : Nat} {ρ : hp_L} {P : hp_P} {i v : Int32} (w : hp_w B ρ) : am_iast B (hp_S sa ρ P) (ρ.2.1 921) i v = (hp_ck P 921 i).bind fun _ => some (hp_S sa ρ (hp_sA P 921 i v)) := hp_iast w (by decide)
theorem hr_922 {sa : Nat → Nat} {B : Nat} {ρ : hp_L} {P : hp_P} (w : hp_w B ρ) : am_getr (hp_S sa ρ P) (ρ.1 9) 9 22 = some (ρ.2.1 922) := by
  unfold am_getr
  rw [hp_obj w (by decide)]
  rfl
theorem hl_922 {sa : Nat → Nat} {B : Nat} {ρ : hp_L} {P : hp_P} {i : Int32} (w : hp_w B ρ) : am_iald (hp_S sa ρ P) (ρ.2.1 922) i = hp_rd P 922 i := hp_iald w (by decide)
theorem ht_922 {sa : Nat → Nat} {B : Nat} {ρ : hp_L} {P : hp_P} {i v : Int32} (w : hp_w B ρ) : am_iast B (hp_S sa ρ P) (ρ.2.1 922) i v = (hp_ck P 922 i).bind fun _ => some (hp_S sa ρ (hp_sA P 922 i v)) := hp_iast w (by decide)
theorem hr_923 {sa : Nat → Nat} {B : Nat} {ρ : hp_L} {P : hp_P} (w : hp_w B ρ) : am_getr (hp_S sa ρ P) (ρ.1 9) 9 23 = some (ρ.2.1 923) := by
  unfold am_getr
  rw [hp_obj w (by decide)]
  rfl
theorem hl_923 {sa : Nat → Nat} {B : Nat} {ρ : hp_L} {P : hp_P} {i : Int32} (w : hp_w B ρ) : am_iald (hp_S sa ρ P) (ρ.2.1 923) i = hp_rd P 923 i := hp_iald w (by decide)
theorem ht_923 {sa : Nat → Nat} {B : Nat} {ρ : hp_L} {P : hp_P} {i v : Int32} (w : hp_w B ρ) : am_iast B (hp_S sa ρ P) (ρ.2.1 923) i v = (hp_ck P 923 i).bind fun _ => some (hp_S sa ρ (hp_sA P 923 i v)) := hp_iast w (by decide)
theorem hr_924 {sa : Nat → Nat} {B : Nat} {ρ : hp_L} {P : hp_P} (w : hp_w B ρ) : am_getr (hp_S sa ρ P) (ρ.1 9) 9 24 = some (ρ.2.1 924) := by
  unfold am_getr
  rw [hp_obj w (by decide)]
  rfl
theorem hl_924 {sa : Nat → Nat} {B : Nat} {ρ : hp_L} {P : hp_P} {i : Int32} (w : hp_w B ρ) : am_iald (hp_S sa ρ P) (ρ.2.1 924) i = hp_rd P 924 i := hp_iald w (by decide)
theorem ht_924 {sa : Nat → Nat} {B : Nat} {ρ : hp_L} {P : hp_P} {i v : Int32} (w : hp_w B ρ) : am_iast B (hp_S sa ρ P) (ρ.2.1 924) i v = (hp_ck P 924 i).bind fun _ => some (hp_S sa ρ (hp_sA P 924 i v)) := hp_iast w (by decide)
theorem hr_925 {sa : Nat → Nat} {B : Nat} {ρ : hp_L} {P : hp_P} (w : hp_w B ρ) : am_getr (hp_S sa ρ P) (ρ.1 9) 9 25 = some (ρ.2.1 925) := by
  unfold am_getr
  rw [hp_obj w (by decide)]
  rfl
theorem hl_925 {sa : Nat → Nat} {B : Nat} {ρ : hp_L} {P : hp_P} {i : Int32} (w : hp_w B ρ) : am_iald (hp_S sa ρ P) (ρ.2.1 925) i = hp_rd P 925 i := hp_iald w (by decide)
theorem ht_925 {sa : Nat → Nat} {B : Nat} {ρ : hp_L} {P : hp_P} {i v : Int32} (w : hp_w B ρ) : am_iast B (hp_S sa ρ P) (ρ.2.1 925) i v = (hp_ck P 925 i).bind fun _ => some (hp_S sa ρ (hp_sA P 925 i v)) := hp_iast w (by decide)
theorem hr_926 {sa : Nat → Nat} {B : Nat} {ρ : hp_L} {P : hp_P} (w : hp_w B ρ) : am_getr (hp_S sa ρ P) (ρ.1 9) 9 26 = some (ρ.2.1 926) := by
  unfold am_getr
  rw [hp_obj w (by decide)]
  rfl
theorem hl_926 {sa : Nat → Nat} {B : Nat} {ρ : hp_L} {P : hp_P} {i : Int32} (w : hp_w B ρ) : am_iald (hp_S sa ρ P) (ρ.2.1 926) i = hp_rd P 926 i := hp_iald w (by decide)
theorem ht_926 {sa : Nat → Nat} {B : Nat} {ρ : hp_L} {P : hp_P} {i v : Int32} (w : hp_w B ρ) : am_iast B (hp_S sa ρ P) (ρ.2.1 926) i v = (hp_ck P 926 i).bind fun _ => some (hp_S sa ρ (hp_sA P 926 i v)) := hp_iast w (by decide)
theorem hr_927 {sa : Nat → Nat} {B : Nat} {ρ : hp_L} {P : hp_P} (w : hp_w B ρ) : am_getr (hp_S sa ρ P) (ρ.1 9) 9 27 = some (ρ.2.1 927) := by
  unfold am_getr
  rw [hp_obj w (by decide)]
  rfl
theorem hl_927 {sa : Nat → Nat} {B : Nat} {ρ : hp_L} {P : hp_P} {i : Int32} (w : hp_w B ρ) : am_iald (hp_S sa ρ P) (ρ.2.1 927) i = hp_rd P 927 i := hp_iald w (by decide)
theorem ht_927 {sa : Nat → Nat} {B : Nat} {ρ : hp_L} {P : hp_P} {i v : Int32} (w : hp_w B ρ) : am_iast B (hp_S sa ρ P) (ρ.2.1 927) i v = (hp_ck P 927 i).bind fun _ => some (hp_S sa ρ (hp_sA P 927 i v)) := hp_iast w (by decide)
theorem hr_930 {sa : Nat → Nat} {B : Nat} {ρ : hp_L} {P : hp_P} (w : hp_w B ρ) : am_getr (hp_S sa ρ P) (ρ.1 9) 9 30 = some (ρ.2.1 930) := by
  unfold am_getr
  rw [hp_obj w (by decide)]
  rfl
theorem hl_930 {sa : Nat → Nat} {B : Nat} {ρ : hp_L} {P : hp_P} {i : Int32} (w : hp_w B ρ) : am_iald (hp_S sa ρ P) (ρ.2.1 930) i = hp_rd P 930 i := hp_iald w (by decide)
theorem ht_930 {sa : Nat → Nat} {B : Nat} {ρ : hp_L} {P : hp_P} {i v : Int32} (w : hp_w B ρ) : am_iast B (hp_S sa ρ P) (ρ.2.1 930) i v = (hp_ck P 930 i).bind fun _ => some (hp_S sa ρ (hp_sA P 930 i v)) := hp_iast w (by decide)
theorem hr_931 {sa : Nat → Nat} {B : Nat} {ρ : hp_L} {P : hp_P} (w : hp_w B ρ) : am_getr (hp_S sa ρ P) (ρ.1 9) 9 31 = some (ρ.2.1 931) := by
  unfold am_getr
  rw [hp_obj w (by decide)]
  rfl
theorem hl_931 {sa : Nat → Nat} {B : Nat} {ρ : hp_L} {P : hp_P} {i : Int32} (w : hp_w B ρ) : am_iald (hp_S sa ρ P) (ρ.2.1 931) i = hp_rd P 931 i := hp_iald w (by decide)
theorem ht_931 {sa : Nat → Nat} {B : Nat} {ρ : hp_L} {P : hp_P} {i v : Int32} (w : hp_w B ρ) : am_iast B (hp_S sa ρ P) (ρ.2.1 931) i v = (hp_ck P 931 i).bind fun _ => some (hp_S sa ρ (hp_sA P 931 i v)) := hp_iast w (by decide)
theorem hr_935 {sa : Nat → Nat} {B : Nat} {ρ : hp_L} {P : hp_P} (w : hp_w B ρ) : am_getr (hp_S sa ρ P) (ρ.1 9) 9 35 = some (ρ.2.1 935) := by
  unfold am_getr
  rw [hp_obj w (by decide)]
  rfl
theorem hl_935 {sa : Nat → Nat} {B : Nat} {ρ : hp_L} {P : hp_P} {i : Int32} (w : hp_w B ρ) : am_iald (hp_S sa ρ P) (ρ.2.1 935) i = hp_rd P 935 i := hp_iald w (by decide)
theorem ht_935 {sa : Nat → Nat} {B : Nat} {ρ : hp_L} {P : hp_P} {i v : Int32} (w : hp_w B ρ) : am_iast B (hp_S sa ρ P) (ρ.2.1 935) i v = (hp_ck P 935 i).bind fun _ => some (hp_S sa ρ (hp_sA P 935 i v)) := hp_iast w (by decide)
theorem hr_936 {sa : Nat → Nat} {B : Nat} {ρ : hp_L} {P : hp_P} (w : hp_w B ρ) : am_getr (hp_S sa ρ P) (ρ.1 9) 9 36 = some (ρ.2.1 936) := by
  unfold am_getr
  rw [hp_obj w (by decide)]
  rfl
theorem hl_936 {sa : Nat → Nat} {B : Nat} {ρ : hp_L} {P : hp_P} {i : Int32} (w : hp_w B ρ) : am_iald (hp_S sa ρ P) (ρ.2.1 936) i = hp_rd P 936 i := hp_iald w (by decide)
theorem ht_936 {sa : Nat → Nat} {B : Nat} {ρ : hp_L} {P : hp_P} {i v : Int32} (w : hp_w B ρ) : am_iast B (hp_S sa ρ P) (ρ.2.1 936) i v = (hp_ck P 936 i).bind fun _ => some (hp_S sa ρ (hp_sA P 936 i v)) := hp_iast w (by decide)
theorem hr_937 {sa : Nat → Nat} {B : Nat} {ρ : hp_L} {P : hp_P} (w : hp_w B ρ) : am_getr (hp_S sa ρ P) (ρ.1 9) 9 37 = some (ρ.2.1 937) := by
  unfold am_getr
  rw [hp_obj w (by decide)]
  rfl
theorem hl_937 {sa : Nat → Nat} {B : Nat} {ρ : hp_L} {P : hp_P} {i : Int32} (w : hp_w B ρ) : am_iald (hp_S sa ρ P) (ρ.2.1 937) i = hp_rd P 937 i := hp_iald w (by decide)
theorem ht_937 {sa : Nat → Nat} {B : Nat} {ρ : hp_L} {P : hp_P} {i v : Int32} (w : hp_w B ρ) : am_iast B (hp_S sa ρ P) (ρ.2.1 937) i v = (hp_ck P 937 i).bind fun _ => some (hp_S sa ρ (hp_sA P 937 i v)) := hp_iast w (by decide)
theorem hr_938 {sa : Nat → Nat} {B : Nat} {ρ : hp_L} {P : hp_P} (w : hp_w B ρ) : am_getr (hp_S sa ρ P) (ρ.1 9) 9 38 = some (ρ.2.1 938) := by
  unfold am_getr
  rw [hp_obj w (by decide)]
  rfl
theorem hl_938 {sa : Nat → Nat} {B : Nat} {ρ : hp_L} {P : hp_P} {i : Int32} (w : hp_w B ρ) : am_iald (hp_S sa ρ P) (ρ.2.1 938) i = hp_rd P 938 i := hp_iald w (by decide)
theorem ht_938 {sa : Nat → Nat} {B : Nat} {ρ : hp_L} {P : hp_P} {i v : Int32} (w : hp_w B ρ) : am_iast B (hp_S sa ρ P) (ρ.2.1 938) i v = (hp_ck P 938 i).bind fun _ => some (hp_S sa ρ (hp_sA P 938 i v)) := hp_iast w (by decide)
theorem hr_939 {sa : Nat → Nat} {B : Nat} {ρ : hp_L} {P : hp_P} (w : hp_w B ρ) : am_getr (hp_S sa ρ P) (ρ.1 9) 9 39 = some (ρ.2.1 939) := by
  unfold am_getr
  rw [hp_obj w (by decide)]
  rfl
theorem hl_939 {sa : Nat → Nat} {B : Nat} {ρ : hp_L} {P : hp_P} {i : Int32} (w : hp_w B ρ) : am_iald (hp_S sa ρ P) (ρ.2.1 939) i = hp_rd P 939 i := hp_iald w (by decide)
theorem ht_939 {sa : Nat → Nat} {B : Nat} {ρ : hp_L} {P : hp_P} {i v : Int32} (w : hp_w B ρ) : am_iast B (hp_S sa ρ P) (ρ.2.1 939) i v = (hp_ck P 939 i).bind fun _ => some (hp_S sa ρ (hp_sA P 939 i v)) := hp_iast w (by decide)
theorem hr_940 {sa : Nat → Nat} {B : Nat} {ρ : hp_L} {P : hp_P} (w : hp_w B ρ) : am_getr (hp_S sa ρ P) (ρ.1 9) 9 40 = some (ρ.2.1 940) := by
  unfold am_getr
  rw [hp_obj w (by decide)]
  rfl
theorem hl_940 {sa : Nat → Nat} {B : Nat} {ρ : hp_L} {P : hp_P} {i : Int32} (w : hp_w B ρ) : am_iald (hp_S sa ρ P) (ρ.2.1 940) i = hp_rd P 940 i := hp_iald w (by decide)
theorem ht_940 {sa : Nat → Nat} {B : Nat} {ρ : hp_L} {P : hp_P} {i v : Int32} (w : hp_w B ρ) : am_iast B (hp_S sa ρ P) (ρ.2.1 940) i v = (hp_ck P 940 i).bind fun _ => some (hp_S sa ρ (hp_sA P 940 i v)) := hp_iast w (by decide)
theorem hr_941 {sa : Nat → Nat} {B : Nat} {ρ : hp_L} {P : hp_P} (w : hp_w B ρ) : am_getr (hp_S sa ρ P) (ρ.1 9) 9 41 = some (ρ.2.1 941) := by
  unfold am_getr
  rw [hp_obj w (by decide)]
  rfl
theorem hl_941 {sa : Nat → Nat} {B : Nat} {ρ : hp_L} {P : hp_P} {i : Int32} (w : hp_w B ρ) : am_iald (hp_S sa ρ P) (ρ.2.1 941) i = hp_rd P 941 i := hp_iald w (by decide)
theorem ht_941 {sa : Nat → Nat} {B : Nat} {ρ : hp_L} {P : hp_P} {i v : Int32} (w : hp_w B ρ) : am_iast B (hp_S sa ρ P) (ρ.2.1 941) i v = (hp_ck P 941 i).bind fun _ => some (hp_S sa ρ (hp_sA P 941 i v)) := hp_iast w (by decide)
theorem hr_942 {sa : Nat → Nat} {B : Nat} {ρ : hp_L} {P : hp_P} (w : hp_w B ρ) : am_getr (hp_S sa ρ P) (ρ.1 9) 9 42 = some (ρ.2.1 942) := by
  unfold am_getr
  rw [hp_obj w (by decide)]
  rfl
theorem hl_942 {sa : Nat → Nat} {B : Nat} {ρ : hp_L} {P : hp_P} {i : Int32} (w : hp_w B ρ) : am_iald (hp_S sa ρ P) (ρ.2.1 942) i = hp_rd P 942 i := hp_iald w (by decide)
theorem ht_942 {sa : Nat → Nat} {B : Nat} {ρ : hp_L} {P : hp_P} {i v : Int32} (w : hp_w B ρ) : am_iast B (hp_S sa ρ P) (ρ.2.1 942) i v = (hp_ck P 942 i).bind fun _ => some (hp_S sa ρ (hp_sA P 942 i v)) := hp_iast w (by decide)
theorem hr_943 {sa : Nat → Nat} {B : Nat} {ρ : hp_L} {P : hp_P} (w : hp_w B ρ) : am_getr (hp_S sa ρ P) (ρ.1 9) 9 43 = some (ρ.2.1 943) := by
  unfold am_getr
  rw [hp_obj w (by decide)]
  rfl
theorem hl_943 {sa : Nat → Nat} {B : Nat} {ρ : hp_L} {P : hp_P} {i : Int32} (w : hp_w B ρ) : am_iald (hp_S sa ρ P) (ρ.2.1 943) i = hp_rd P 943 i := hp_iald w (by decide)
theorem ht_943 {sa : Nat → Nat} {B : Nat} {ρ : hp_L} {P : hp_P} {i v : Int32} (w : hp_w B ρ) : am_iast B (hp_S sa ρ P) (ρ.2.1 943) i v = (hp_ck P 943 i).bind fun _ => some (hp_S sa ρ (hp_sA P 943 i v)) := hp_iast w (by decide)
theorem hr_947 {sa : Nat → Nat} {B : Nat} {ρ : hp_L} {P : hp_P} (w : hp_w B ρ) : am_getr (hp_S sa ρ P) (ρ.1 9) 9 47 = some (ρ.2.1 947) := by
  unfold am_getr
  rw [hp_obj w (by decide)]
  rfl
theorem hl_947 {sa : Nat → Nat} {B : Nat} {ρ : hp_L} {P : hp_P} {i : Int32} (w : hp_w B ρ) : am_iald (hp_S sa ρ P) (ρ.2.1 947) i = hp_rd P 947 i := hp_iald w (by decide)
theorem ht_947 {sa : Nat → Nat} {B : Nat} {ρ : hp_L} {P : hp_P} {i v : Int32} (w : hp_w B ρ) : am_iast B (hp_S sa ρ P) (ρ.2.1 947) i v = (hp_ck P 947 i).bind fun _ => some (hp_S sa ρ (hp_sA P 947 i v)) := hp_iast w (by decide)
theorem hr_948 {sa : Nat → Nat} {B : Nat} {ρ : hp_L} {P : hp_P} (w : hp_w B ρ) : am_getr (hp_S sa ρ P) (ρ.1 9) 9 48 = some (ρ.2.1 948) := by
  unfold am_getr
  rw [hp_obj w (by decide)]
  rfl
theorem hl_948 {sa : Nat → Nat} {B : Nat} {ρ : hp_L} {P : hp_P} {i : Int32} (w : hp_w B ρ) : am_iald (hp_S sa ρ P) (ρ.2.1 948) i = hp_rd P 948 i := hp_iald w (by decide)
theorem ht_948 {sa : Nat → Nat} {B : Nat} {ρ : hp_L} {P : hp_P} {i v : Int32} (w : hp_w B ρ) : am_iast B (hp_S sa ρ P) (ρ.2.1 948) i v = (hp_ck P 948 i).bind fun _ => some (hp_S sa ρ (hp_sA P 948 i v)) := hp_iast w (by decide)
theorem hr_950 {sa : Nat → Nat} {B : Nat} {ρ : hp_L} {P : hp_P} (w : hp_w B ρ) : am_getr (hp_S sa ρ P) (ρ.1 9) 9 50 = some (ρ.2.1 950) := by
  unfold am_getr
  rw [hp_obj w (by decide)]
  rfl
theorem hl_950 {sa : Nat → Nat} {B : Nat} {ρ : hp_L} {P : hp_P} {i : Int32} (w : hp_w B ρ) : am_iald (hp_S sa ρ P) (ρ.2.1 950) i = hp_rd P 950 i := hp_iald w (by decide)
theorem ht_950 {sa : Nat → Nat} {B : Nat} {ρ : hp_L} {P : hp_P} {i v : Int32} (w : hp_w B ρ) : am_iast B (hp_S sa ρ P) (ρ.2.1 950) i v = (hp_ck P 950 i).bind fun _ => some (hp_S sa ρ (hp_sA P 950 i v)) := hp_iast w (by decide)
theorem hr_952 {sa : Nat → Nat} {B : Nat} {ρ : hp_L} {P : hp_P} (w : hp_w B ρ) : am_getr (hp_S sa ρ P) (ρ.1 9) 9 52 = some (ρ.2.1 952) := by
  unfold am_getr
  rw [hp_obj w (by decide)]
  rfl
theorem hl_952 {sa : Nat → Nat} {B : Nat} {ρ : hp_L} {P : hp_P} {i : Int32} (w : hp_w B ρ) : am_iald (hp_S sa ρ P) (ρ.2.1 952) i = hp_rd P 952 i := hp_iald w (by decide)
theorem ht_952 {sa : Nat → Nat} {B : Nat} {ρ : hp_L} {P : hp_P} {i v : Int32} (w : hp_w B ρ) : am_iast B (hp_S sa ρ P) (ρ.2.1 952) i v = (hp_ck P 952 i).bind fun _ => some (hp_S sa ρ (hp_sA P 952 i v)) := hp_iast w (by decide)
theorem ho_0 {sa : Nat → Nat} {B : Nat} {ρ : hp_L} {P : hp_P} (w : hp_w B ρ) : am_getr (hp_S sa ρ P) (ρ.1 0) 0 0 = some (ρ.1 7) := by
  unfold am_getr
  rw [hp_obj w (by decide)]
  rfl
theorem ho_1 {sa : Nat → Nat} {B : Nat} {ρ : hp_L} {P : hp_P} (w : hp_w B ρ) : am_getr (hp_S sa ρ P) (ρ.1 0) 0 1 = some (ρ.1 3) := by
  unfold am_getr
  rw [hp_obj w (by decide)]
  rfl
theorem ho_100 {sa : Nat → Nat} {B : Nat} {ρ : hp_L} {P : hp_P} (w : hp_w B ρ) : am_getr (hp_S sa ρ P) (ρ.1 1) 1 0 = some (ρ.1 7) := by
  unfold am_getr
  rw [hp_obj w (by decide)]
  rfl
theorem ho_101 {sa : Nat → Nat} {B : Nat} {ρ : hp_L} {P : hp_P} (w : hp_w B ρ) : am_getr (hp_S sa ρ P) (ρ.1 1) 1 1 = some (ρ.1 5) := by
  unfold am_getr
  rw [hp_obj w (by decide)]
  rfl
theorem ho_300 {sa : Nat → Nat} {B : Nat} {ρ : hp_L} {P : hp_P} (w : hp_w B ρ) : am_getr (hp_S sa ρ P) (ρ.1 3) 3 0 = some (ρ.1 7) := by
  unfold am_getr
  rw [hp_obj w (by decide)]
  rfl
theorem ho_400 {sa : Nat → Nat} {B : Nat} {ρ : hp_L} {P : hp_P} (w : hp_w B ρ) : am_getr (hp_S sa ρ P) (ρ.1 4) 4 0 = some (ρ.1 7) := by
  unfold am_getr
  rw [hp_obj w (by decide)]
  rfl
theorem ho_401 {sa : Nat → Nat} {B : Nat} {ρ : hp_L} {P : hp_P} (w : hp_w B ρ) : am_getr (hp_S sa ρ P) (ρ.1 4) 4 1 = some (ρ.1 1) := by
  unfold am_getr
  rw [hp_obj w (by decide)]
  rfl
theorem ho_402 {sa : Nat → Nat} {B : Nat} {ρ : hp_L} {P : hp_P} (w : hp_w B ρ) : am_getr (hp_S sa ρ P) (ρ.1 4) 4 2 = some (ρ.1 3) := by
  unfold am_getr
  rw [hp_obj w (by decide)]
  rfl
theorem ho_600 {sa : Nat → Nat} {B : Nat} {ρ : hp_L} {P : hp_P} (w : hp_w B ρ) : am_getr (hp_S sa ρ P) (ρ.1 6) 6 0 = some (ρ.1 7) := by
  unfold am_getr
  rw [hp_obj w (by decide)]
  rfl
theorem ho_601 {sa : Nat → Nat} {B : Nat} {ρ : hp_L} {P : hp_P} (w : hp_w B ρ) : am_getr (hp_S sa ρ P) (ρ.1 6) 6 1 = some (ρ.1 5) := by
  unfold am_getr
  rw [hp_obj w (by decide)]
  rfl
theorem ho_602 {sa : Nat → Nat} {B : Nat} {ρ : hp_L} {P : hp_P} (w : hp_w B ρ) : am_getr (hp_S sa ρ P) (ρ.1 6) 6 2 = some (ρ.1 1) := by
  unfold am_getr
  rw [hp_obj w (by decide)]
  rfl
theorem ho_603 {sa : Nat → Nat} {B : Nat} {ρ : hp_L} {P : hp_P} (w : hp_w B ρ) : am_getr (hp_S sa ρ P) (ρ.1 6) 6 3 = some (ρ.1 3) := by
  unfold am_getr
  rw [hp_obj w (by decide)]
  rfl
theorem ho_604 {sa : Nat → Nat} {B : Nat} {ρ : hp_L} {P : hp_P} (w : hp_w B ρ) : am_getr (hp_S sa ρ P) (ρ.1 6) 6 4 = some (ρ.1 4) := by
  unfold am_getr
  rw [hp_obj w (by decide)]
  rfl
theorem ho_800 {sa : Nat → Nat} {B : Nat} {ρ : hp_L} {P : hp_P} (w : hp_w B ρ) : am_getr (hp_S sa ρ P) (ρ.1 8) 8 0 = some (ρ.1 7) := by
  unfold am_getr
  rw [hp_obj w (by decide)]
  rfl
theorem ho_801 {sa : Nat → Nat} {B : Nat} {ρ : hp_L} {P : hp_P} (w : hp_w B ρ) : am_getr (hp_S sa ρ P) (ρ.1 8) 8 1 = some (ρ.1 5) := by
  unfold am_getr
  rw [hp_obj w (by decide)]
  rfl
theorem ho_802 {sa : Nat → Nat} {B : Nat} {ρ : hp_L} {P : hp_P} (w : hp_w B ρ) : am_getr (hp_S sa ρ P) (ρ.1 8) 8 2 = some (ρ.1 1) := by
  unfold am_getr
  rw [hp_obj w (by decide)]
  rfl
theorem ho_803 {sa : Nat → Nat} {B : Nat} {ρ : hp_L} {P : hp_P} (w : hp_w B ρ) : am_getr (hp_S sa ρ P) (ρ.1 8) 8 3 = some (ρ.1 3) := by
  unfold am_getr
  rw [hp_obj w (by decide)]
  rfl
theorem ho_804 {sa : Nat → Nat} {B : Nat} {ρ : hp_L} {P : hp_P} (w : hp_w B ρ) : am_getr (hp_S sa ρ P) (ρ.1 8) 8 4 = some (ρ.1 4) := by
  unfold am_getr
  rw [hp_obj w (by decide)]
  rfl
theorem ho_805 {sa : Nat → Nat} {B : Nat} {ρ : hp_L} {P : hp_P} (w : hp_w B ρ) : am_getr (hp_S sa ρ P) (ρ.1 8) 8 5 = some (ρ.1 6) := by
  unfold am_getr
  rw [hp_obj w (by decide)]
  rfl
theorem ho_806 {sa : Nat → Nat} {B : Nat} {ρ : hp_L} {P : hp_P} (w : hp_w B ρ) : am_getr (hp_S sa ρ P) (ρ.1 8) 8 6 = some (ρ.1 0) := by
  unfold am_getr
  rw [hp_obj w (by decide)]
  rfl
theorem hx_0 {sa : Nat → Nat} {B : Nat} {ρ : hp_L} {P : hp_P} (w : hp_w B ρ) : am_obj (hp_S sa ρ P) (ρ.1 0) 0 = some (hp_f sa ρ P 0) := hp_obj w (by decide)
theorem hx_1 {sa : Nat → Nat} {B : Nat} {ρ : hp_L} {P : hp_P} (w : hp_w B ρ) : am_obj (hp_S sa ρ P) (ρ.1 1) 1 = some (hp_f sa ρ P 1) := hp_obj w (by decide)
theorem hx_3 {sa : Nat → Nat} {B : Nat} {ρ : hp_L} {P : hp_P} (w : hp_w B ρ) : am_obj (hp_S sa ρ P) (ρ.1 3) 3 = some (hp_f sa ρ P 3) := hp_obj w (by decide)
theorem hx_4 {sa : Nat → Nat} {B : Nat} {ρ : hp_L} {P : hp_P} (w : hp_w B ρ) : am_obj (hp_S sa ρ P) (ρ.1 4) 4 = some (hp_f sa ρ P 4) := hp_obj w (by decide)
theorem hx_5 {sa : Nat → Nat} {B : Nat} {ρ : hp_L} {P : hp_P} (w : hp_w B ρ) : am_obj (hp_S sa ρ P) (ρ.1 5) 5 = some (hp_f sa ρ P 5) := hp_obj w (by decide)
theorem hx_6 {sa : Nat → Nat} {B : Nat} {ρ : hp_L} {P : hp_P} (w : hp_w B ρ) : am_obj (hp_S sa ρ P) (ρ.1 6) 6 = some (hp_f sa ρ P 6) := hp_obj w (by decide)
theorem hx_7 {sa : Nat → Nat} {B : Nat} {ρ : hp_L} {P : hp_P} (w : hp_w B ρ) : am_obj (hp_S sa ρ P) (ρ.1 7) 7 = some (hp_f sa ρ P 7) := hp_obj w (by decide)
theorem hx_8 {sa : Nat → Nat} {B : Nat} {ρ : hp_L} {P : hp_P} (w : hp_w B ρ) : am_obj (hp_S sa ρ P) (ρ.1 8) 8 = some (hp_f sa ρ P 8) := hp_obj w (by decide)
theorem hx_9 {sa : Nat → Nat} {B : Nat} {ρ : hp_L} {P : hp_P} (w : hp_w B ρ) : am_obj (hp_S sa ρ P) (ρ.1 9) 9 = some (hp_f sa ρ P 9) := hp_obj w (by decide)
