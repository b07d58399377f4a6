/-! CONSTRUCTORS, 4: the class made -/
section CTB
variable {n0 k k' B d f q m kf ci j : Nat} {sa : Nat → Nat} {h0 : Nat → Option am_C} {o8 : am_C} {L as : List am_C} {fs : List Value} {v : Value}
theorem wS_newc {cs : List am_C} (hl : fs.length = m) (e : k + m = k') : am_new (wS n0 h0 cs k) ci fs = wS n0 h0 (cs ++ [.inr (ci, fs)]) k' := by
  rw [wS_new, hl, e]
theorem go_at (hq : L.length = q) : l_obj (L ++ .inr (ci, fs) :: as) q ci = some fs := by
  unfold l_obj
  rw [List.getElem?_append_right (Nat.le_of_eq hq), hq, Nat.sub_self]
  show (if ci = ci then some fs else none) = some fs
  rw [if_pos rfl]
theorem go_set {x c : am_C} {as : List am_C} : ∀ {L : List am_C} {q : Nat}, L.length = q → (L ++ x :: as).set q c = L ++ c :: as
  | [], _, h => by subst h; rfl
  | y :: L, _, h => by
    subst h
    show y :: (L ++ x :: as).set L.length c = y :: (L ++ c :: as)
    rw [go_set rfl]
theorem go_put (hB : B ≤ n0) (hq : L.length = q) (hk : kf < fs.length) : am_put B (wS n0 h0 (L ++ .inr (ci, fs) :: as) k) (n0 + q) ci kf v = some (wS n0 h0 (L ++ .inr (ci, fs.set kf v) :: as) k) := by
  rw [w_put hB (go_at hq) hk, go_set hq]
theorem go_getr {x : Nat} (hq : L.length = q) (hv : fs[kf]? = some (.ref x)) : am_getr (wS n0 h0 (L ++ .inr (ci, fs) :: as) k) (n0 + q) ci kf = some x := w_getr (go_at hq) hv
theorem go_al {c : Int32} (hB : B ≤ n0) (hq : L.length = q) (hj : as.length = j) (hc : c.toNatClampNeg = m) (hk : kf < fs.length) (e : k + m = k') : am_put B (am_nwa (wS n0 h0 (L ++ .inr (ci, fs) :: as) k) c.toNatClampNeg) (n0 + q) ci kf (.ref (wS n0 h0 (L ++ .inr (ci, fs) :: as) k).1) = some (wS n0 h0 (L ++ .inr (ci, fs.set kf (.ref (n0 + (q + (j + 1))))) :: (as ++ [.inl (m, fun _ => 0)])) k') := by
  rw [hc, wS_nwa, e, show (L ++ .inr (ci, fs) :: as) ++ [(Sum.inl (m, fun _ => 0) : am_C)] = L ++ .inr (ci, fs) :: (as ++ [.inl (m, fun _ => 0)]) by rw [List.append_assoc]; rfl, go_put hB hq hk, wS_1, List.length_append, List.length_cons, hq, hj]
def enL (n0 : Nat) : List am_C := [.inr (1, [.ref (n0 + 1), .ref (n0 + 10), .ref (n0 + 14), .int 0, .ref (n0 + 15), .ref (n0 + 16), .ref (n0 + 17), .ref (n0 + 18), .ref (n0 + 19), .ref (n0 + 20), .ref (n0 + 21), .int 0, .ref (n0 + 22), .ref (n0 + 23)]), .inl (64, fun _ => 0), .inl (64, fun _ => 0), .inl (64, fun _ => 0), .inl (64, fun _ => 0), .inl (64, fun _ => 0), .inl (64, fun _ => 0), .inl (64, fun _ => 0), .inl (64, fun _ => 0), .inl (122, fun _ => 0), .inl (122, fun _ => 0)]
def rwL (n0 : Nat) : List am_C := [.inr (3, [.ref (n0 + 1), .ref (n0 + 25), .ref (n0 + 26), .int 0, .ref (n0 + 27), .int 0, .int 0, .ref (n0 + 28)]), .inl (64, fun _ => 0), .inl (64, fun _ => 0), .inl (64, fun _ => 0), .inl (121, fun _ => 0)]
def sqL (n0 : Nat) : List am_C := [.inr (4, [.ref (n0 + 1), .ref (n0 + 13), .ref (n0 + 24), .int 0, .int 0, .ref (n0 + 30), .ref (n0 + 31), .ref (n0 + 32), .ref (n0 + 33)]), .inl (64, fun _ => 0), .inl (64, upd (fun _ => 0) 0 (nI 5)), .inl (64, fun _ => 0), .inl (64, fun _ => 0)]
def stL (n0 : Nat) : List am_C := [.inr (6, [.ref (n0 + 1), .ref (n0 + 10), .ref (n0 + 13), .ref (n0 + 24), .ref (n0 + 29)])]
def axL (n0 x : Nat) : List am_C := [.inr (0, [.ref (n0 + 1), .ref (n0 + 24), .ref x, .ref (n0 + 36), .ref (n0 + 37)]), .inl (5, fun _ => 0), .inl (5, fun _ => 0)]
def L13 (n0 : Nat) : List am_C := tyc n0 5 aT5 ++ [sgO n0, .inl (40, sg0), .inl (200, sg1)]
set_option maxRecDepth 100000 in
set_option maxHeartbeats 4000000 in
theorem c_29 (hB : B ≤ n0) (hf : 10 ≤ f) (hL : L.length = 13) : am_call B sa am_dfl am_tb f (d + 1) 29 [.ref (n0 + 13), .ref (n0 + 1), .ref (n0 + 10)] (wS n0 h0 (L ++ [.inr (1, am_dfl 1)]) k) = some (none, wS n0 h0 (L ++ enL n0) (k + 756)) := by
  obtain ⟨f, rfl⟩ : ∃ g, f = g + 1 := ⟨f - 1, by omega⟩
  rw [am_c_29, am_s29_0]
  refine cs_n (by decide) (cs_b (go_al (j := 0) (m := 64) (k' := k + 64) hB hL rfl (by decide) (Nat.le_of_ble_eq_true rfl) (by omega)) ?_)
  refine cs_b (go_put hB hL (Nat.le_of_ble_eq_true rfl)) ?_
  refine cs_n (by decide) (cs_b (go_al (j := 1) (m := 64) (k' := k + 128) hB hL rfl (by decide) (Nat.le_of_ble_eq_true rfl) (by omega)) ?_)
  refine cs_n (by decide) (cs_b (go_al (j := 2) (m := 64) (k' := k + 192) hB hL rfl (by decide) (Nat.le_of_ble_eq_true rfl) (by omega)) ?_)
  refine cs_n (by decide) (cs_b (go_al (j := 3) (m := 64) (k' := k + 256) hB hL rfl (by decide) (Nat.le_of_ble_eq_true rfl) (by omega)) ?_)
  refine cs_n (by decide) (cs_b (go_al (j := 4) (m := 64) (k' := k + 320) hB hL rfl (by decide) (Nat.le_of_ble_eq_true rfl) (by omega)) ?_)
  refine cs_n (by decide) (cs_b (go_al (j := 5) (m := 64) (k' := k + 384) hB hL rfl (by decide) (Nat.le_of_ble_eq_true rfl) (by omega)) ?_)
  refine cs_n (by decide) (cs_b (go_al (j := 6) (m := 64) (k' := k + 448) hB hL rfl (by decide) (Nat.le_of_ble_eq_true rfl) (by omega)) ?_)
  refine cs_n (by decide) (cs_b (go_al (j := 7) (m := 64) (k' := k + 512) hB hL rfl (by decide) (Nat.le_of_ble_eq_true rfl) (by omega)) ?_)
  refine cs_b (go_put hB hL (Nat.le_of_ble_eq_true rfl)) ?_
  refine cs_n (by decide) (cs_b (go_al (j := 8) (m := 122) (k' := k + 634) hB hL rfl (by decide) (Nat.le_of_ble_eq_true rfl) (by omega)) ?_)
  refine cs_n (by decide) (cs_b (go_al (j := 9) (m := 122) (k' := k + 756) hB hL rfl (by decide) (Nat.le_of_ble_eq_true rfl) (by omega)) ?_)
  refine cs_b (go_put hB hL (Nat.le_of_ble_eq_true rfl)) ?_
  refine cs_b (go_put hB hL (Nat.le_of_ble_eq_true rfl)) ?_
  rfl
set_option maxRecDepth 100000 in
set_option maxHeartbeats 4000000 in
theorem c_49 (hB : B ≤ n0) (hf : 10 ≤ f) (hL : L.length = 24) : am_call B sa am_dfl am_tb f (d + 1) 49 [.ref (n0 + 24), .ref (n0 + 1)] (wS n0 h0 (L ++ [.inr (3, am_dfl 3)]) k) = some (none, wS n0 h0 (L ++ rwL n0) (k + 313)) := by
  obtain ⟨f, rfl⟩ : ∃ g, f = g + 1 := ⟨f - 1, by omega⟩
  rw [am_c_49, am_s49_0]
  refine cs_n (by decide) (cs_b (go_al (j := 0) (m := 64) (k' := k + 64) hB hL rfl (by decide) (Nat.le_of_ble_eq_true rfl) (by omega)) ?_)
  refine cs_n (by decide) (cs_b (go_al (j := 1) (m := 64) (k' := k + 128) hB hL rfl (by decide) (Nat.le_of_ble_eq_true rfl) (by omega)) ?_)
  refine cs_b (go_put hB hL (Nat.le_of_ble_eq_true rfl)) ?_
  refine cs_n (by decide) (cs_b (go_al (j := 2) (m := 64) (k' := k + 192) hB hL rfl (by decide) (Nat.le_of_ble_eq_true rfl) (by omega)) ?_)
  refine cs_b (go_put hB hL (Nat.le_of_ble_eq_true rfl)) ?_
  refine cs_y (Or.inl rfl) ?_
  refine cs_b (go_put hB hL (Nat.le_of_ble_eq_true rfl)) ?_
  refine cs_n (by decide) (cs_b (go_al (j := 3) (m := 121) (k' := k + 313) hB hL rfl (by decide) (Nat.le_of_ble_eq_true rfl) (by omega)) ?_)
  refine cs_b (go_put hB hL (Nat.le_of_ble_eq_true rfl)) ?_
  rfl
theorem go_cnt {L as : List am_C} {fs : List Value} (h : L[1]? = some (.inr (7, fs))) {v : Int32} (hv : fs[8]? = some (.int v)) (hL : 1 < L.length) : am_geti (wS n0 h0 (L ++ as) k) (n0 + 1) 7 8 = some v := by
  refine w_geti (fs := fs) ?_ hv
  unfold l_obj
  rw [List.getElem?_append_left hL, h]
  rfl
theorem go_ar {L as : List am_C} {x y : am_C} {g : Nat → Int32} {m : Nat} {z : Int32} {i : Nat} (hB : B ≤ n0) (hq : L.length = q) (hj : i < m) (hm : m < 2 ^ 31) : am_iast B (wS n0 h0 (L ++ x :: y :: .inl (m, g) :: as) k) (n0 + (q + 2)) (nI i) z = some (wS n0 h0 (L ++ x :: y :: .inl (m, upd g i z) :: as) k) := by
  have e : l_arr (L ++ x :: y :: .inl (m, g) :: as) (q + 2) = some (m, g) := by
    unfold l_arr
    rw [List.getElem?_append_right (by omega), hq, Nat.add_sub_cancel_left]
    rfl
  rw [w_iast hB e hj hm]
  congr 2
  have := go_set (x := .inl (m, g)) (c := .inl (m, upd g i z)) (as := as) (L := L ++ [x, y]) (q := q + 2) (by rw [List.length_append, hq]; rfl)
  rw [List.append_assoc, List.append_assoc] at this
  exact this
set_option maxRecDepth 100000 in
set_option maxHeartbeats 4000000 in
theorem c_67 (hB : B ≤ n0) (hf : 10 ≤ f) (hL : L.length = 29) (h7 : ∃ fs, L[1]? = some (.inr (7, fs)) ∧ fs[8]? = some (.int (nI 5))) : am_call B sa am_dfl am_tb f (d + 1) 67 [.ref (n0 + 29), .ref (n0 + 1), .ref (n0 + 13), .ref (n0 + 24)] (wS n0 h0 (L ++ [.inr (4, am_dfl 4)]) k) = some (none, wS n0 h0 (L ++ sqL n0) (k + 256)) := by
  obtain ⟨f, rfl⟩ : ∃ g, f = g + 1 := ⟨f - 1, by omega⟩
  rw [am_c_67, am_s67_0]
  refine cs_b (go_put hB hL (Nat.le_of_ble_eq_true rfl)) ?_
  refine cs_b (go_put hB hL (Nat.le_of_ble_eq_true rfl)) ?_
  refine cs_n (by decide) (cs_b (go_al (j := 0) (m := 64) (k' := k + 64) hB hL rfl (by decide) (Nat.le_of_ble_eq_true rfl) (by omega)) ?_)
  refine cs_n (by decide) (cs_b (go_al (j := 1) (m := 64) (k' := k + 128) hB hL rfl (by decide) (Nat.le_of_ble_eq_true rfl) (by omega)) ?_)
  refine cs_n (by decide) (cs_b (go_al (j := 2) (m := 64) (k' := k + 192) hB hL rfl (by decide) (Nat.le_of_ble_eq_true rfl) (by omega)) ?_)
  refine cs_n (by decide) (cs_b (go_al (j := 3) (m := 64) (k' := k + 256) hB hL rfl (by decide) (Nat.le_of_ble_eq_true rfl) (by omega)) ?_)
  refine cs_b (go_put hB hL (Nat.le_of_ble_eq_true rfl)) ?_
  refine cs_b (go_put hB hL (Nat.le_of_ble_eq_true rfl)) ?_
  refine cs_b (go_put hB hL (Nat.le_of_ble_eq_true rfl)) ?_
  obtain ⟨fs7, h7, h8⟩ := h7
  refine cs_b (go_getr (x := n0 + 31) hL rfl) ?_
  refine cs_b (go_cnt h7 h8 (by omega)) ?_
  refine cs_b (go_ar (q := 29) (i := 0) (m := 64) hB hL (by decide) (by decide)) ?_
  rfl
set_option maxRecDepth 100000 in
set_option maxHeartbeats 4000000 in
theorem c_78 (hB : B ≤ n0) (hf : 10 ≤ f) (hL : L.length = 34) : am_call B sa am_dfl am_tb f (d + 1) 78 [.ref (n0 + 34), .ref (n0 + 1), .ref (n0 + 10), .ref (n0 + 13), .ref (n0 + 24), .ref (n0 + 29)] (wS n0 h0 (L ++ [.inr (6, am_dfl 6)]) k) = some (none, wS n0 h0 (L ++ stL n0) (k + 0)) := by
  obtain ⟨f, rfl⟩ : ∃ g, f = g + 1 := ⟨f - 1, by omega⟩
  rw [am_c_78, am_s78_0]
  refine cs_b (go_put hB hL (Nat.le_of_ble_eq_true rfl)) ?_
  refine cs_b (go_put hB hL (Nat.le_of_ble_eq_true rfl)) ?_
  refine cs_b (go_put hB hL (Nat.le_of_ble_eq_true rfl)) ?_
  refine cs_b (go_put hB hL (Nat.le_of_ble_eq_true rfl)) ?_
  refine cs_b (go_put hB hL (Nat.le_of_ble_eq_true rfl)) ?_
  rfl
set_option maxRecDepth 100000 in
set_option maxHeartbeats 4000000 in
theorem c_96 (hB : B ≤ n0) (hf : 10 ≤ f) (hL : L.length = 35) : am_call B sa am_dfl am_tb f (d + 1) 96 [.ref (n0 + 35), .ref (n0 + 1), .ref (n0 + 24)] (wS n0 h0 (L ++ [.inr (0, am_dfl 0)]) k) = some (none, wS n0 h0 (L ++ axL n0 (sa 0)) (k + 10)) := by
  obtain ⟨f, rfl⟩ : ∃ g, f = g + 1 := ⟨f - 1, by omega⟩
  rw [am_c_96, am_s96_0]
  refine cs_b (go_put hB hL (Nat.le_of_ble_eq_true rfl)) ?_
  refine cs_n (by decide) (cs_b (go_al (j := 0) (m := 5) (k' := k + 5) hB hL rfl (by decide) (Nat.le_of_ble_eq_true rfl) (by omega)) ?_)
  refine cs_n (by decide) (cs_b (go_al (j := 1) (m := 5) (k' := k + 10) hB hL rfl (by decide) (Nat.le_of_ble_eq_true rfl) (by omega)) ?_)
  refine cs_b (go_put hB hL (Nat.le_of_ble_eq_true rfl)) ?_
  refine cs_b (go_put hB hL (Nat.le_of_ble_eq_true rfl)) ?_
  rfl
def o8E (n0 : Nat) : am_C := .inr (8, [.ref (n0 + 1), .ref (n0 + 10), .ref (n0 + 13), .ref (n0 + 24), .ref (n0 + 29), .ref (n0 + 34), .ref (n0 + 35), .ref (n0 + 38), .int 0, .int (-1)])
def clsL (n0 x : Nat) : List am_C := o8E n0 :: (L13 n0 ++ enL n0 ++ rwL n0 ++ sqL n0 ++ stL n0 ++ axL n0 x ++ [.inl (64, fun _ => 0)])
end CTB
