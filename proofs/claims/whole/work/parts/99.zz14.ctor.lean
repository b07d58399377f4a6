/-! CONSTRUCTORS, 3: Types and Signature made -/
section CTA
variable {n0 k k' B i ci kf m d f : Nat} {sa : Nat → Nat} {h0 : Nat → Option am_C} {cs : List am_C} {fs : List Value} {v : Value} {o8 : am_C}
theorem w_alc {c : Int32} (hB : B ≤ n0) (hc : c.toNatClampNeg = m) (h : l_obj (cs ++ [(Sum.inl (m, fun _ => 0) : am_C)]) i ci = some fs) (hk : kf < fs.length) (e : k + m = k') : am_put B (am_nwa (wS n0 h0 cs k) c.toNatClampNeg) (n0 + i) ci kf v = some (wS n0 h0 ((cs ++ [(Sum.inl (m, fun _ => 0) : am_C)]).set i (.inr (ci, fs.set kf v))) k') := by
  rw [hc, ← e]
  exact w_alp hB h hk
def aF0 : Nat → Nat → Int32
  | 7 => fun q => if q < 1024 then -1 else 0
  | _ => fun _ => 0
def aT2 : Nat → Nat → Int32 := tyn (tyn aF0 0 641 (-1, -1, -1) (1 + 0 + 0) (1 + (if (0 : Int32) < 0 then 0 else 0))) 1 964 (0, -1, -1) (1 + 0 + 0) (1 + (if (0 : Int32) < 0 then 0 else 0))
def aT3 : Nat → Nat → Int32 := tyn aT2 2 217 (2, 0, 1) (1 + 1 + 1) (1 + (if (1 : Int32) < 1 then 1 else 1))
def aT4 : Nat → Nat → Int32 := tyn aT3 3 350 (2, 0, 2) (1 + 1 + 3) (1 + (if (1 : Int32) < 2 then 2 else 1))
def aT5 : Nat → Nat → Int32 := tyn aT4 4 665 (2, 2, 0) (1 + 3 + 1) (1 + (if (2 : Int32) < 1 then 1 else 2))
set_option maxHeartbeats 4000000 in
theorem c_2 (hB : B ≤ n0) (hf : 2000 ≤ f) : am_call B sa am_dfl am_tb f (d + 4) 2 [.ref (n0 + 1)] (wS n0 h0 [o8, .inr (7, am_dfl 7)] k) = some (none, tyS n0 h0 o8 [] (k + 1472) 2 aT2) := by
  obtain ⟨f, rfl⟩ : ∃ g, f = g + 3 := ⟨f - 3, by omega⟩
  rw [am_c_2, am_s2_0]
  refine cs_n (by decide) (cs_b (w_alc (m := 64) (k' := k + 64) (i := 1) hB (by decide) rfl (Nat.le_of_ble_eq_true rfl) (by omega)) ?_)
  refine cs_n (by decide) (cs_b (w_alc (m := 64) (k' := k + 128) (i := 1) hB (by decide) rfl (Nat.le_of_ble_eq_true rfl) (by omega)) ?_)
  refine cs_n (by decide) (cs_b (w_alc (m := 64) (k' := k + 192) (i := 1) hB (by decide) rfl (Nat.le_of_ble_eq_true rfl) (by omega)) ?_)
  refine cs_n (by decide) (cs_b (w_alc (m := 64) (k' := k + 256) (i := 1) hB (by decide) rfl (Nat.le_of_ble_eq_true rfl) (by omega)) ?_)
  refine cs_n (by decide) (cs_b (w_alc (m := 64) (k' := k + 320) (i := 1) hB (by decide) rfl (Nat.le_of_ble_eq_true rfl) (by omega)) ?_)
  refine cs_n (by decide) (cs_b (w_alc (m := 64) (k' := k + 384) (i := 1) hB (by decide) rfl (Nat.le_of_ble_eq_true rfl) (by omega)) ?_)
  refine cs_n (by decide) (cs_b (w_alc (m := 64) (k' := k + 448) (i := 1) hB (by decide) rfl (Nat.le_of_ble_eq_true rfl) (by omega)) ?_)
  refine cs_n (by decide) (cs_b (w_alc (m := 1024) (k' := k + 1472) (i := 1) hB (by decide) rfl (Nat.le_of_ble_eq_true rfl) (by omega)) ?_)
  refine cs_b (w_put (i := 1) hB rfl (Nat.le_of_ble_eq_true rfl)) ?_
  refine cs_b (w_getr (i := 1) (x := n0 + 9) rfl rfl) ?_
  refine cs_v (c_fill (i := 9) (m := 1024) hB (by decide) rfl (by omega)) ?_
  refine cs_b (w_obj (i := 1) rfl) ?_
  have m1 := c_make (n0 := n0) (k := k + 1472) (B := B) (n := 0) (d := d) (f := f) (sa := sa) (h0 := h0) (o8 := o8) (rest := []) (a := aF0) (h := 641) (q := (-1, -1, -1)) (s1 := 0) (t1 := 0) (s2 := 0) (t2 := 0) hB (by decide) (by decide) (by decide) rfl (Or.inl ⟨rfl, rfl, rfl⟩) (Or.inl ⟨rfl, rfl, rfl⟩) (by decide) (by decide)
  refine cs_i m1 ?_
  refine cs_b tyS_o ?_
  have m2 := c_make (n0 := n0) (k := k + 1472) (B := B) (n := 1) (d := d) (f := f) (sa := sa) (h0 := h0) (o8 := o8) (rest := []) (a := tyn aF0 0 641 (-1, -1, -1) (1 + 0 + 0) (1 + (if (0 : Int32) < 0 then 0 else 0))) (h := 964) (q := (0, -1, -1)) (s1 := 0) (t1 := 0) (s2 := 0) (t2 := 0) hB (by decide) (by decide) (by decide) rfl (Or.inl ⟨rfl, rfl, rfl⟩) (Or.inl ⟨rfl, rfl, rfl⟩) (by decide) (by decide)
  exact cs_i m2 rfl
def sg0 : Nat → Int32 := upd (fun _ => 0) 2 2
def sg1 : Nat → Int32 := upd (upd (fun _ => 0) 0 (nI 3)) 1 (nI 4)
def sgO (n0 : Nat) : am_C := .inr (5, [.ref (n0 + 11), .ref (n0 + 12), .int 3, .int 2, .int 3, .int 2])
set_option maxHeartbeats 4000000 in
theorem c_22 (hB : B ≤ n0) (hf : 2000 ≤ f) : am_call B sa am_dfl am_tb f (d + 4) 22 [.ref (n0 + 10), .ref (n0 + 1)] (tyS n0 h0 o8 [.inr (5, am_dfl 5)] k 2 aT2) = some (none, tyS n0 h0 o8 [sgO n0, .inl (40, sg0), .inl (200, sg1)] (k + 240) 5 aT5) := by
  obtain ⟨f, rfl⟩ : ∃ g, f = g + 3 := ⟨f - 3, by omega⟩
  unfold tyS
  rw [am_c_22, am_s22_0]
  refine cs_n (by decide) (cs_b (w_alc (m := 40) (k' := k + 40) (i := 10) hB (by decide) rfl (Nat.le_of_ble_eq_true rfl) (by omega)) ?_)
  refine cs_n (by decide) (cs_b (w_alc (m := 200) (k' := k + 240) (i := 10) hB (by decide) rfl (Nat.le_of_ble_eq_true rfl) (by omega)) ?_)
  refine cs_b (w_put (i := 10) hB rfl (Nat.le_of_ble_eq_true rfl)) ?_
  refine cs_b (w_put (i := 10) hB rfl (Nat.le_of_ble_eq_true rfl)) ?_
  refine cs_b (w_put (i := 10) hB rfl (Nat.le_of_ble_eq_true rfl)) ?_
  refine cs_b (w_put (i := 10) hB rfl (Nat.le_of_ble_eq_true rfl)) ?_
  refine cs_b (w_getr (i := 10) (x := n0 + 11) rfl rfl) ?_
  refine cs_b (w_iast (i := 11) (j := 2) (m := 40) hB rfl (Nat.le_of_ble_eq_true rfl) (by decide)) ?_
  refine cs_b (w_obj (i := 1) rfl) ?_
  have m1 := c_make (n0 := n0) (k := k + 240) (B := B) (n := 2) (d := d) (f := f) (sa := sa) (h0 := h0) (o8 := o8) (rest := [sgO n0, .inl (40, sg0), .inl (200, fun _ => 0)]) (a := aT2) (h := 217) (q := (2, 0, 1)) (s1 := 1) (t1 := 1) (s2 := 1) (t2 := 1) hB (by decide) (by decide) (by decide) (by decide) (Or.inr ⟨0, by decide, rfl, by decide, by decide⟩) (Or.inr ⟨1, by decide, rfl, by decide, by decide⟩) (by decide) (by decide)
  refine cs_i m1 ?_
  unfold tyS
  refine cs_b (w_getr (i := 10) (x := n0 + 12) rfl rfl) ?_
  refine cs_b (w_obj (i := 1) rfl) ?_
  have m2 := c_make (n0 := n0) (k := k + 240) (B := B) (n := 3) (d := d) (f := f) (sa := sa) (h0 := h0) (o8 := o8) (rest := [sgO n0, .inl (40, sg0), .inl (200, fun _ => 0)]) (a := aT3) (h := 350) (q := (2, 0, 2)) (s1 := 1) (t1 := 1) (s2 := 3) (t2 := 2) hB (by decide) (by decide) (by decide) (by decide) (Or.inr ⟨0, by decide, rfl, by decide, by decide⟩) (Or.inr ⟨2, by decide, rfl, by decide, by decide⟩) (by decide) (by decide)
  refine cs_i m2 ?_
  unfold tyS
  refine cs_b (w_iast (i := 12) (j := 0) (m := 200) hB rfl (Nat.le_of_ble_eq_true rfl) (by decide)) ?_
  refine cs_b (w_getr (i := 10) (x := n0 + 12) rfl rfl) ?_
  refine cs_b (w_obj (i := 1) rfl) ?_
  have m3 := c_make (n0 := n0) (k := k + 240) (B := B) (n := 4) (d := d) (f := f) (sa := sa) (h0 := h0) (o8 := o8) (rest := [sgO n0, .inl (40, sg0), .inl (200, upd (fun _ => 0) 0 (nI 3))]) (a := aT4) (h := 665) (q := (2, 2, 0)) (s1 := 3) (t1 := 2) (s2 := 1) (t2 := 1) hB (by decide) (by decide) (by decide) (by decide) (Or.inr ⟨2, by decide, rfl, by decide, by decide⟩) (Or.inr ⟨0, by decide, rfl, by decide, by decide⟩) (by decide) (by decide)
  refine cs_i m3 ?_
  unfold tyS
  refine cs_b (w_iast (i := 12) (j := 1) (m := 200) hB rfl (Nat.le_of_ble_eq_true rfl) (by decide)) ?_
  rfl
end CTA
