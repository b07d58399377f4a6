/-! CONSTRUCTORS, 2: the types -/
def au (a : Nat → Nat → Int32) (r : Nat) (f : Nat → Int32) : Nat → Nat → Int32 := fun x => if x = r then f else a x
def tyc (n0 n : Nat) (a : Nat → Nat → Int32) : List am_C := [.inr (7, [.ref (n0 + 2), .ref (n0 + 3), .ref (n0 + 4), .ref (n0 + 5), .ref (n0 + 6), .ref (n0 + 7), .ref (n0 + 8), .ref (n0 + 9), .int (nI n)]), .inl (64, a 0), .inl (64, a 1), .inl (64, a 2), .inl (64, a 3), .inl (64, a 4), .inl (64, a 5), .inl (64, a 6), .inl (1024, a 7)]
def tyS (n0 : Nat) (h0 : Nat → Option am_C) (o8 : am_C) (rest : List am_C) (k n : Nat) (a : Nat → Nat → Int32) : am_S := wS n0 h0 (o8 :: (tyc n0 n a ++ rest)) k
section TS
variable {n0 k B n j d f : Nat} {sa : Nat → Nat} {h0 : Nat → Option am_C} {o8 : am_C} {rest cs : List am_C} {a : Nat → Nat → Int32}
theorem l_arr_set {x : Nat × (Nat → Int32)} {i : Nat} (h : i < cs.length) : l_arr (cs.set i (.inl x)) i = some x := by
  unfold l_arr
  rw [List.getElem?_set_self h]
/-- a row filled -/
theorem c_fill_loop {m i : Nat} {v : Int32} {cl : am_F} (hB : B ≤ n0) (hm : m < 100000) : ∀ (t j f : Nat) (cs : List am_C) (fn : Nat → Int32), m - j = t → j ≤ m → l_arr cs i = some (m, fn) → t + 1 ≤ f →
    am_go B sa am_dfl cl am_r0 f 5 [(0, .ref (n0 + i)), (1, .int v), (2, .int (nI j)), (3, .int (nI m))] [] (wS n0 h0 cs k) = some (none, wS n0 h0 (cs.set i (.inl (m, fun q => if j ≤ q ∧ q < m then v else fn q))) k) := by
  intro t
  induction t with
  | zero =>
    intro j f cs fn ht hj h hf
    obtain ⟨f, rfl⟩ : ∃ g, f = g + 1 := ⟨f - 1, by omega⟩
    rw [am_s0_5]
    simp only [am_c_ge]
    rw [if_pos (nI_le (by omega) (by omega))]
    have hi := l_arr_lt h
    have e : (fun q => if j ≤ q ∧ q < m then v else fn q) = fn := funext fun q => if_neg (by omega)
    rw [e]
    have : cs.set i (.inl (m, fn)) = cs := by
      refine List.ext_getElem? fun q => ?_
      rw [List.getElem?_set]
      by_cases z : i = q
      · rw [if_pos z, if_pos hi]
        unfold l_arr at h
        split at h
        · rename_i x hx; rw [← z, hx]; rw [Option.some.inj h]
        · cases h
      · rw [if_neg z]
    rw [this]
  | succ t ih =>
    intro j f cs fn ht hj h hf
    obtain ⟨f, rfl⟩ : ∃ g, f = g + 1 := ⟨f - 1, by omega⟩
    have hi := l_arr_lt h
    rw [am_s0_5]
    simp only [am_c_ge]
    rw [if_neg (nI_ge (by omega) (by omega)), wS_iast hB, h]
    simp only [Option.bind_some]
    rw [if_neg (by rw [nI_clamp (by omega)]; exact fun z => z.elim (nI_pos (by omega)) (fun z => by omega)), nI_clamp (by omega)]
    simp only [Option.bind_some, nI_1]
    rw [ih (j + 1) f _ (upd fn j v) (by omega) (by omega) (l_arr_set hi) (by omega), List.set_set]
    congr 5
    refine Prod.ext rfl (funext fun q => ?_)
    show (if j + 1 ≤ q ∧ q < m then v else upd fn j v q) = if j ≤ q ∧ q < m then v else fn q
    by_cases e : q = j
    · rw [if_neg (by omega), if_pos (by omega), e, pk_us]
    · rw [pk_un e]
      by_cases z : j ≤ q ∧ q < m
      · rw [if_pos (by omega), if_pos z]
      · rw [if_neg (by omega), if_neg z]
theorem c_fill {m i : Nat} {v : Int32} {fn : Nat → Int32} (hB : B ≤ n0) (hm : m < 100000) (h : l_arr cs i = some (m, fn)) (hf : m + 2 ≤ f) : am_call B sa am_dfl am_tb f (d + 1) 0 [.ref (n0 + i), .int v] (wS n0 h0 cs k) = some (none, wS n0 h0 (cs.set i (.inl (m, fun q => if q < m then v else fn q))) k) := by
  obtain ⟨f, rfl⟩ : ∃ g, f = g + 1 := ⟨f - 1, by omega⟩
  rw [am_c_0, am_s0_0, wS_alen, h]
  simp only [Option.bind_some]
  rw [show (0 : Int32) = nI 0 from rfl, show Int32.ofNat m = nI m from rfl, c_fill_loop hB hm m 0 f cs fn (Nat.sub_zero _) (Nat.zero_le _) h (by omega)]
  congr 5
  refine Prod.ext rfl (funext fun q => ?_)
  show (if 0 ≤ q ∧ q < m then v else fn q) = if q < m then v else fn q
  by_cases z : q < m
  · rw [if_pos (by omega), if_pos z]
  · rw [if_neg (by omega), if_neg z]
theorem tyS_r0 : am_getr (tyS n0 h0 o8 rest k n a) (n0 + 1) 7 0 = some (n0 + 2) := by
  unfold tyS
  rw [wS_getr]; rfl
theorem tyS_r1 : am_getr (tyS n0 h0 o8 rest k n a) (n0 + 1) 7 1 = some (n0 + 3) := by
  unfold tyS
  rw [wS_getr]; rfl
theorem tyS_r2 : am_getr (tyS n0 h0 o8 rest k n a) (n0 + 1) 7 2 = some (n0 + 4) := by
  unfold tyS
  rw [wS_getr]; rfl
theorem tyS_r3 : am_getr (tyS n0 h0 o8 rest k n a) (n0 + 1) 7 3 = some (n0 + 5) := by
  unfold tyS
  rw [wS_getr]; rfl
theorem tyS_r4 : am_getr (tyS n0 h0 o8 rest k n a) (n0 + 1) 7 4 = some (n0 + 6) := by
  unfold tyS
  rw [wS_getr]; rfl
theorem tyS_r5 : am_getr (tyS n0 h0 o8 rest k n a) (n0 + 1) 7 5 = some (n0 + 7) := by
  unfold tyS
  rw [wS_getr]; rfl
theorem tyS_r6 : am_getr (tyS n0 h0 o8 rest k n a) (n0 + 1) 7 6 = some (n0 + 8) := by
  unfold tyS
  rw [wS_getr]; rfl
theorem tyS_r7 : am_getr (tyS n0 h0 o8 rest k n a) (n0 + 1) 7 7 = some (n0 + 9) := by
  unfold tyS
  rw [wS_getr]; rfl
theorem tyS_n : am_geti (tyS n0 h0 o8 rest k n a) (n0 + 1) 7 8 = some (nI n) := by
  unfold tyS
  rw [wS_geti]; rfl
theorem tyS_o : am_obj (tyS n0 h0 o8 rest k n a) (n0 + 1) 7 = some [.ref (n0 + 2), .ref (n0 + 3), .ref (n0 + 4), .ref (n0 + 5), .ref (n0 + 6), .ref (n0 + 7), .ref (n0 + 8), .ref (n0 + 9), .int (nI n)] := by
  unfold tyS
  rw [wS_obj]; rfl
theorem tyS_l0 (hj : j < 64) : am_iald (tyS n0 h0 o8 rest k n a) (n0 + 2) (nI j) = some (a 0 j) := by
  unfold tyS
  rw [wS_iald, show l_arr (o8 :: (tyc n0 n a ++ rest)) 2 = some (64, a 0) from rfl]
  simp only [Option.bind_some]
  rw [if_neg (by rw [nI_clamp (by omega)]; exact fun z => z.elim (nI_pos (by omega)) (fun z => by omega)), nI_clamp (by omega)]
theorem tyS_t0 {v : Int32} (hB : B ≤ n0) (hj : j < 64) : am_iast B (tyS n0 h0 o8 rest k n a) (n0 + 2) (nI j) v = some (tyS n0 h0 o8 rest k n (au a 0 (upd (a 0) j v))) := by
  unfold tyS
  rw [wS_iast hB, show l_arr (o8 :: (tyc n0 n a ++ rest)) 2 = some (64, a 0) from rfl]
  simp only [Option.bind_some]
  rw [if_neg (by rw [nI_clamp (by omega)]; exact fun z => z.elim (nI_pos (by omega)) (fun z => by omega)), nI_clamp (by omega)]
  rfl
theorem tyS_l1 (hj : j < 64) : am_iald (tyS n0 h0 o8 rest k n a) (n0 + 3) (nI j) = some (a 1 j) := by
  unfold tyS
  rw [wS_iald, show l_arr (o8 :: (tyc n0 n a ++ rest)) 3 = some (64, a 1) from rfl]
  simp only [Option.bind_some]
  rw [if_neg (by rw [nI_clamp (by omega)]; exact fun z => z.elim (nI_pos (by omega)) (fun z => by omega)), nI_clamp (by omega)]
theorem tyS_t1 {v : Int32} (hB : B ≤ n0) (hj : j < 64) : am_iast B (tyS n0 h0 o8 rest k n a) (n0 + 3) (nI j) v = some (tyS n0 h0 o8 rest k n (au a 1 (upd (a 1) j v))) := by
  unfold tyS
  rw [wS_iast hB, show l_arr (o8 :: (tyc n0 n a ++ rest)) 3 = some (64, a 1) from rfl]
  simp only [Option.bind_some]
  rw [if_neg (by rw [nI_clamp (by omega)]; exact fun z => z.elim (nI_pos (by omega)) (fun z => by omega)), nI_clamp (by omega)]
  rfl
theorem tyS_l2 (hj : j < 64) : am_iald (tyS n0 h0 o8 rest k n a) (n0 + 4) (nI j) = some (a 2 j) := by
  unfold tyS
  rw [wS_iald, show l_arr (o8 :: (tyc n0 n a ++ rest)) 4 = some (64, a 2) from rfl]
  simp only [Option.bind_some]
  rw [if_neg (by rw [nI_clamp (by omega)]; exact fun z => z.elim (nI_pos (by omega)) (fun z => by omega)), nI_clamp (by omega)]
theorem tyS_t2 {v : Int32} (hB : B ≤ n0) (hj : j < 64) : am_iast B (tyS n0 h0 o8 rest k n a) (n0 + 4) (nI j) v = some (tyS n0 h0 o8 rest k n (au a 2 (upd (a 2) j v))) := by
  unfold tyS
  rw [wS_iast hB, show l_arr (o8 :: (tyc n0 n a ++ rest)) 4 = some (64, a 2) from rfl]
  simp only [Option.bind_some]
  rw [if_neg (by rw [nI_clamp (by omega)]; exact fun z => z.elim (nI_pos (by omega)) (fun z => by omega)), nI_clamp (by omega)]
  rfl
theorem tyS_l3 (hj : j < 64) : am_iald (tyS n0 h0 o8 rest k n a) (n0 + 5) (nI j) = some (a 3 j) := by
  unfold tyS
  rw [wS_iald, show l_arr (o8 :: (tyc n0 n a ++ rest)) 5 = some (64, a 3) from rfl]
  simp only [Option.bind_some]
  rw [if_neg (by rw [nI_clamp (by omega)]; exact fun z => z.elim (nI_pos (by omega)) (fun z => by omega)), nI_clamp (by omega)]
theorem tyS_t3 {v : Int32} (hB : B ≤ n0) (hj : j < 64) : am_iast B (tyS n0 h0 o8 rest k n a) (n0 + 5) (nI j) v = some (tyS n0 h0 o8 rest k n (au a 3 (upd (a 3) j v))) := by
  unfold tyS
  rw [wS_iast hB, show l_arr (o8 :: (tyc n0 n a ++ rest)) 5 = some (64, a 3) from rfl]
  simp only [Option.bind_some]
  rw [if_neg (by rw [nI_clamp (by omega)]; exact fun z => z.elim (nI_pos (by omega)) (fun z => by omega)), nI_clamp (by omega)]
  rfl
theorem tyS_l4 (hj : j < 64) : am_iald (tyS n0 h0 o8 rest k n a) (n0 + 6) (nI j) = some (a 4 j) := by
  unfold tyS
  rw [wS_iald, show l_arr (o8 :: (tyc n0 n a ++ rest)) 6 = some (64, a 4) from rfl]
  simp only [Option.bind_some]
  rw [if_neg (by rw [nI_clamp (by omega)]; exact fun z => z.elim (nI_pos (by omega)) (fun z => by omega)), nI_clamp (by omega)]
theorem tyS_t4 {v : Int32} (hB : B ≤ n0) (hj : j < 64) : am_iast B (tyS n0 h0 o8 rest k n a) (n0 + 6) (nI j) v = some (tyS n0 h0 o8 rest k n (au a 4 (upd (a 4) j v))) := by
  unfold tyS
  rw [wS_iast hB, show l_arr (o8 :: (tyc n0 n a ++ rest)) 6 = some (64, a 4) from rfl]
  simp only [Option.bind_some]
  rw [if_neg (by rw [nI_clamp (by omega)]; exact fun z => z.elim (nI_pos (by omega)) (fun z => by omega)), nI_clamp (by omega)]
  rfl
theorem tyS_l5 (hj : j < 64) : am_iald (tyS n0 h0 o8 rest k n a) (n0 + 7) (nI j) = some (a 5 j) := by
  unfold tyS
  rw [wS_iald, show l_arr (o8 :: (tyc n0 n a ++ rest)) 7 = some (64, a 5) from rfl]
  simp only [Option.bind_some]
  rw [if_neg (by rw [nI_clamp (by omega)]; exact fun z => z.elim (nI_pos (by omega)) (fun z => by omega)), nI_clamp (by omega)]
theorem tyS_t5 {v : Int32} (hB : B ≤ n0) (hj : j < 64) : am_iast B (tyS n0 h0 o8 rest k n a) (n0 + 7) (nI j) v = some (tyS n0 h0 o8 rest k n (au a 5 (upd (a 5) j v))) := by
  unfold tyS
  rw [wS_iast hB, show l_arr (o8 :: (tyc n0 n a ++ rest)) 7 = some (64, a 5) from rfl]
  simp only [Option.bind_some]
  rw [if_neg (by rw [nI_clamp (by omega)]; exact fun z => z.elim (nI_pos (by omega)) (fun z => by omega)), nI_clamp (by omega)]
  rfl
theorem tyS_l6 (hj : j < 64) : am_iald (tyS n0 h0 o8 rest k n a) (n0 + 8) (nI j) = some (a 6 j) := by
  unfold tyS
  rw [wS_iald, show l_arr (o8 :: (tyc n0 n a ++ rest)) 8 = some (64, a 6) from rfl]
  simp only [Option.bind_some]
  rw [if_neg (by rw [nI_clamp (by omega)]; exact fun z => z.elim (nI_pos (by omega)) (fun z => by omega)), nI_clamp (by omega)]
theorem tyS_t6 {v : Int32} (hB : B ≤ n0) (hj : j < 64) : am_iast B (tyS n0 h0 o8 rest k n a) (n0 + 8) (nI j) v = some (tyS n0 h0 o8 rest k n (au a 6 (upd (a 6) j v))) := by
  unfold tyS
  rw [wS_iast hB, show l_arr (o8 :: (tyc n0 n a ++ rest)) 8 = some (64, a 6) from rfl]
  simp only [Option.bind_some]
  rw [if_neg (by rw [nI_clamp (by omega)]; exact fun z => z.elim (nI_pos (by omega)) (fun z => by omega)), nI_clamp (by omega)]
  rfl
theorem tyS_l7 (hj : j < 1024) : am_iald (tyS n0 h0 o8 rest k n a) (n0 + 9) (nI j) = some (a 7 j) := by
  unfold tyS
  rw [wS_iald, show l_arr (o8 :: (tyc n0 n a ++ rest)) 9 = some (1024, a 7) from rfl]
  simp only [Option.bind_some]
  rw [if_neg (by rw [nI_clamp (by omega)]; exact fun z => z.elim (nI_pos (by omega)) (fun z => by omega)), nI_clamp (by omega)]
theorem tyS_t7 {v : Int32} (hB : B ≤ n0) (hj : j < 1024) : am_iast B (tyS n0 h0 o8 rest k n a) (n0 + 9) (nI j) v = some (tyS n0 h0 o8 rest k n (au a 7 (upd (a 7) j v))) := by
  unfold tyS
  rw [wS_iast hB, show l_arr (o8 :: (tyc n0 n a ++ rest)) 9 = some (1024, a 7) from rfl]
  simp only [Option.bind_some]
  rw [if_neg (by rw [nI_clamp (by omega)]; exact fun z => z.elim (nI_pos (by omega)) (fun z => by omega)), nI_clamp (by omega)]
  rfl
theorem tyS_len : am_alen (tyS n0 h0 o8 rest k n a) (n0 + 2) = some 64 := by
  unfold tyS
  rw [wS_alen]; rfl
theorem tyS_p {m : Nat} (hB : B ≤ n0) : am_put B (tyS n0 h0 o8 rest k n a) (n0 + 1) 7 8 (.int (nI m)) = some (tyS n0 h0 o8 rest k m a) := by
  unfold tyS
  rw [wS_put hB]; rfl
/-- what append leaves -/
def tyn (a : Nat → Nat → Int32) (n h : Nat) (q : Int32 × Int32 × Int32) (s t : Int32) : Nat → Nat → Int32 := au (au (au (au (au (au (au a 0 (upd (a 0) n q.1)) 1 (upd (a 1) n q.2.1)) 2 (upd (a 2) n q.2.2)) 3 (upd (a 3) n s)) 4 (upd (a 4) n t)) 5 (upd (a 5) n (a 7 h))) 7 (upd (a 7) h (nI n))
/-- a place of a type below n: size and height that are read there -/
def tyr (a : Nat → Nat → Int32) (n : Nat) (x s t : Int32) : Prop := (x = -1 ∧ s = 0 ∧ t = 0) ∨ ∃ j, j < n ∧ x = nI j ∧ a 3 j = s ∧ a 4 j = t
theorem c_at {m i : Nat} {x s : Int32} (hx : (x = -1 ∧ s = 0) ∨ (x ≠ -1 ∧ am_iald (tyS n0 h0 o8 rest k n a) (n0 + i) x = some s)) : am_call B sa am_dfl am_tb (f + 1) (d + 1) 119 [.ref (n0 + i), .int x] (tyS n0 h0 o8 rest k n a) = some (some (.int s), tyS n0 h0 o8 rest k n a) := by
  rw [am_c_119, am_s119_0]
  simp only [am_c_ne]
  rcases hx with ⟨z, y⟩ | ⟨z, y⟩
  · rw [if_neg (fun w => w z), y]
  · rw [if_pos z, y]; rfl
theorem tyr.ne2 {x s t : Int32} (h : tyr a n x s t) (hn : n < 64) : x ≠ -2 := by
  rcases h with ⟨z, -⟩ | ⟨j, hj, z, -⟩
  · rw [z]; decide
  · rw [z]; exact nI_ne_m2 (by omega)
theorem tyr.at {x s t : Int32} (h : tyr a n x s t) (hn : n < 64) : ((x = -1 ∧ s = 0) ∨ (x ≠ -1 ∧ am_iald (tyS n0 h0 o8 rest k n a) (n0 + 5) x = some s)) ∧ ((x = -1 ∧ t = 0) ∨ (x ≠ -1 ∧ am_iald (tyS n0 h0 o8 rest k n a) (n0 + 6) x = some t)) := by
  rcases h with ⟨z, y1, y2⟩ | ⟨j, hj, z, y1, y2⟩
  · exact ⟨Or.inl ⟨z, y1⟩, Or.inl ⟨z, y2⟩⟩
  · refine ⟨Or.inr ⟨by rw [z]; exact nI_ne_m1 (by omega), ?_⟩, Or.inr ⟨by rw [z]; exact nI_ne_m1 (by omega), ?_⟩⟩
    · rw [z, tyS_l3 (by omega), y1]
    · rw [z, tyS_l4 (by omega), y2]
set_option maxHeartbeats 2000000 in
/-- make, of a type that isn't there, where there is room -/
theorem c_make {h : Nat} {q : Int32 × Int32 × Int32} {s1 t1 s2 t2 : Int32} (hB : B ≤ n0) (hn : n < 64) (hh : h < 1024) (eh : ty_bk q = nI h) (e7 : a 7 h = -1) (r1 : tyr a n q.2.1 s1 t1) (r2 : tyr a n q.2.2 s2 t2) (hs : ¬ (200 : Int32) < 1 + s1 + s2) (ht : ¬ (24 : Int32) < 1 + (if t1 < t2 then t2 else t1)) :
    am_call B sa am_dfl am_tb (f + 3) (d + 3) 3 [.ref (n0 + 1), .int q.1, .int q.2.1, .int q.2.2] (tyS n0 h0 o8 rest k n a) = some (some (.int (nI n)), tyS n0 h0 o8 rest k (n + 1) (tyn a n h q (1 + s1 + s2) (1 + (if t1 < t2 then t2 else t1)))) := by
  have c6 : am_call B sa am_dfl am_tb (f + 3) (d + 2) 6 [.int q.1, .int q.2.1, .int q.2.2] (tyS n0 h0 o8 rest k n a) = some (some (.int (nI h)), tyS n0 h0 o8 rest k n a) := by
    rw [am_c_6, am_s6_0, ← eh]; rfl
  have c4 : am_call B sa am_dfl am_tb (f + 3) (d + 2) 4 [.ref (n0 + 1), .int (nI h), .int q.1, .int q.2.1, .int q.2.2] (tyS n0 h0 o8 rest k n a) = some (some (.int (-1)), tyS n0 h0 o8 rest k n a) := by
    rw [am_c_4, am_s4_0, tyS_r7]
    simp only [Option.bind_some]
    rw [tyS_l7 hh, e7]
    simp only [Option.bind_some]
    rw [am_s4_11]
    simp only [am_c_eq]
    rw [if_pos True.intro]
  have A1 := r1.at (n0 := n0) (h0 := h0) (o8 := o8) (rest := rest) (k := k) hn
  have A2 := r2.at (n0 := n0) (h0 := h0) (o8 := o8) (rest := rest) (k := k) hn
  have g1 := c_at (B := B) (sa := sa) (f := f + 2) (d := d) (m := 0) A1.1
  have g2 := c_at (B := B) (sa := sa) (f := f + 2) (d := d) (m := 0) A1.2
  have g3 := c_at (B := B) (sa := sa) (f := f + 2) (d := d) (m := 0) A2.1
  have g4 := c_at (B := B) (sa := sa) (f := f + 2) (d := d) (m := 0) A2.2
  have c5 : am_call B sa am_dfl am_tb (f + 3) (d + 2) 5 [.ref (n0 + 1), .int (nI h), .int q.1, .int q.2.1, .int q.2.2] (tyS n0 h0 o8 rest k n a) = some (some (.int (nI n)), tyS n0 h0 o8 rest k (n + 1) (tyn a n h q (1 + s1 + s2) (1 + (if t1 < t2 then t2 else t1)))) := by
    rw [am_c_5, am_s5_0, tyS_r3]
    simp only [Option.bind_some, g1, am_i_some, tyS_r3, g3, tyS_r4, g2, g4, am_c_gt, am_c_lt, am_c_ne, tyS_n, tyS_r0, tyS_len]
    rw [if_neg hs, if_neg ht, if_pos (show nI n < 8000 from nI_lt (b := 8000) (by omega) (by decide)), if_pos (show nI n ≠ 64 from fun z => by have := (nI_eq (a := n) (b := 64) (by omega) (by decide)).mp z; omega), am_s5_185]
    simp only [tyS_r0, tyS_n, Option.bind_some, tyS_t0 hB hn, tyS_r1, tyS_t1 hB hn, tyS_r2, tyS_t2 hB hn, tyS_r3, tyS_t3 hB hn, tyS_r4, tyS_t4 hB hn, tyS_r5, tyS_r7, tyS_l7 hh, tyS_t5 hB hn, tyS_t7 hB hh, nI_1, tyS_p hB, nI_pred]
    rfl
  rw [am_c_3, am_s3_0]
  simp only [am_c_eq, am_c_ne]
  rw [if_neg (r1.ne2 hn), if_pos (r2.ne2 hn), c6, am_i_some, tyS_o]
  simp only [Option.bind_some, c4, am_i_some, tyS_o, c5]
  rw [if_pos True.intro]
end TS
