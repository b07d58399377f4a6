/-! ROWS of the class, 6: endOf, sameRows, markTypes, equations -/
section RW6
variable {sa : Nat → Nat} {B : Nat} {ρ : hp_L} {P : hp_P} {Rs : List (List rwS)} {O : List rwS} {b : Bool} {n : Nat} {T : Nat → Int32 × Int32 × Int32} {Z : Prop} {G : qT → Prop} {D : List qS}
/-- a closed row, where it stands -/
theorem rw_row {j : Nat} {R : List rwS} (h : rwI P Rs O b) (hj : Rs[j]? = some R) :
    hp_rd P 304 (nI j) = some (nI (Rs.take j).flatten.length) ∧ hp_rd P 304 (nI (j + 1)) = some (nI ((Rs.take j).flatten.length + R.length)) ∧ (∃ W, Rs.flatten ++ O = (Rs.take j).flatten ++ (R ++ W)) ∧ j + 1 ≤ 20000 ∧ (Rs.take j).flatten.length + R.length ≤ 20000 := by
  have hc := h.2.2.2.1
  have hRl := rw_len_Rs h.2.2.2.2.2.2.2
  have h20 := h.2.2.2.2.2.1
  have hj' : j < Rs.length := (List.getElem?_eq_some_iff.mp hj).1
  have ht : Rs.take (j + 1) = Rs.take j ++ [R] := by rw [List.take_add_one, hj]; rfl
  have hl : (Rs.take (j + 1)).flatten.length = (Rs.take j).flatten.length + R.length := by rw [ht]; simp
  have hd : Rs = Rs.take (j + 1) ++ Rs.drop (j + 1) := (List.take_append_drop _ _).symm
  have hfl : Rs.flatten = (Rs.take j).flatten ++ (R ++ (Rs.drop (j + 1)).flatten) := by
    conv => lhs; rw [hd, ht]
    simp
  refine ⟨?_, ?_, ⟨(Rs.drop (j + 1)).flatten ++ O, by rw [hfl]; simp⟩, by omega, ?_⟩
  · rw [hp_rd_nI (by omega) (by omega), hc.2.2.2.2 j (by omega)]
  · rw [hp_rd_nI (by omega) (by omega), hc.2.2.2.2 (j + 1) (by omega), hl]
  · have : Rs.flatten.length = (Rs.take j).flatten.length + (R.length + (Rs.drop (j + 1)).flatten.length) := by
      conv => lhs; rw [hfl]
      simp only [List.length_append]
    omega
/-- Rows.sameRows -/
theorem rw_sameRows {f d i j : Nat} {R R' : List rwS} (w : hp_w B ρ) (h : rwI P Rs O b) (hf : 30001 ≤ f) (hi : Rs[i]? = some R) (hj : Rs[j]? = some R') :
    am_call B sa am_dfl am_tb f (d + 2) 61 [.ref (ρ.1 3), .int (nI i), .int (nI j)] (hp_S sa ρ P) = some (some (.int (if R = R' then 1 else 0)), hp_S sa ρ P) := by
  obtain ⟨a1, a2, ⟨W, a3⟩, a4, -⟩ := rw_row h hi
  obtain ⟨b1, b2, ⟨W', b3⟩, b4, -⟩ := rw_row h hj
  have hs := rw_same (sa := sa) (f := f) (d := d) w h (by omega) a3 b3 rfl rfl rfl rfl
  obtain ⟨f, rfl⟩ : ∃ g, f = g + 1 := ⟨f - 1, by omega⟩
  rw [am_c_61, am_s61_0]
  simp only [hr_304 w, hl_304 w, nI_1, a1, a2, b1, b2, Option.bind_some, hx_3 w, hs, am_i_some]
  split
  · rw [am_rz_1]
  · rw [am_rz_0]
/-- Rows.endOf of a term -/
theorem rw_endOf {f d : Nat} {M : qM} {L A W : List rwS} (w : hp_w B ρ) (h : rwI P Rs O b) (hf : 60000 ≤ f) (hX : Rs.flatten ++ O = A ++ (L ++ W)) (hM : m_wf M) (hL : L.map (rt T n) = m_fl M) {x : Int32} (hx : x = nI A.length) :
    am_call B sa am_dfl am_tb f (d + 1) 62 [.ref (ρ.1 3), .int x] (hp_S sa ρ P) = some (some (.int (nI (A.length + L.length))), hp_S sa ρ P) := by
  have hl := h.Xle
  rw [hX] at hl
  simp only [List.length_append] at hl
  obtain ⟨f1, hf1⟩ : ∃ g, f = (g + 1 + L.length) + 1 := ⟨f - 2 - L.length, by omega⟩
  rw [am_c_62, hx]
  conv => lhs; rw [hf1]
  rw [am_s62_0, show (1 : Int32) = nI (0 + 1) from rfl, rw_end_loop w h M hM L A W 0 (f1 + 1) hX hL (by omega), am_s62_4]
  simp only [am_c_le]
  rw [if_pos (by decide)]
/-- marks: of the types of a stretch, too -/
def ty_addL (R : List rwS) (M : Nat → Bool) : Nat → Bool := R.foldl (fun M s => ty_addm s.2 M) M
theorem rw_mark_loop {f0 d o : Nat} : ∀ (L A W : List rwS) (f : Nat) (P : hp_P) (M : Nat → Bool), hp_w B ρ → ρ.1 3 = o → tyI P n T → rwI P Rs O b → (∀ s ∈ L, rv n s) → Rs.flatten ++ O = A ++ (L ++ W) → ty_im P n M → L.length + 1 ≤ f →
    ∃ P', am_go B sa am_dfl (am_call B sa am_dfl am_tb (f0 + 1) (d + 1)) am_r66 f 2 [(0, .ref o), (2, .int (nI (A.length + L.length))), (3, .int (nI A.length))] [] (hp_S sa ρ P) = some (none, hp_S sa ρ P') ∧ ty_imo P P' ∧ ty_im P' n (ty_addL L M) := by
  intro L
  induction L with
  | nil =>
    intro A W f P M w ho y h hr hX hm hf
    obtain ⟨f, rfl⟩ : ∃ g, f = g + 1 := ⟨f - 1, by omega⟩
    refine ⟨P, ?_, ty_imo.rf, hm⟩
    rw [am_s66_2]
    simp only [List.length_nil, Nat.add_zero, am_c_ge, Int32.le_refl, if_true]
  | cons s L ih =>
    intro A W f P M w ho y h hr hX hm hf
    obtain ⟨f, rfl⟩ : ∃ g, f = g + 1 := ⟨f - 1, by omega⟩
    subst ho
    obtain ⟨r1, r2, hXl, hX', hge, hen, hA1⟩ := rw_seg h hX
    obtain ⟨a, ha, hs⟩ := hr s List.mem_cons_self
    have hn31 := y.n31
    have hk : ty_imo P (hp_sA P 706 (nI a) (nI a)) := ty_imo.sA
    have y' : tyI (hp_sA P 706 (nI a) (nI a)) n T := ⟨hk.okk y.1, y.2.1, by rw [hA_len]; exact y.2.2⟩
    obtain ⟨P', i1, i2, i3⟩ := ih (A ++ [s]) W f (hp_sA P 706 (nI a) (nI a)) (ty_addm (nI a) M) w rfl y' (h.cg fun r h1 h2 => ⟨rfl, hA_ne (by omega)⟩) (fun s hs => hr s (List.mem_cons_of_mem _ hs)) hX' (ty_im_mark hm ha hn31) (by simp only [List.length_cons] at hf; omega)
    refine ⟨P', ?_, hk.tr i2, ?_⟩
    · rw [am_s66_2]
      simp only [am_c_ge, hge, if_false, ho_300 w, hr_302 w, hl_302 w, r2, Option.bind_some, hx_7 w, hs, ty_mark w y.1 ha, am_v_some, nI_1]
      rw [hen, ← hA1]
      exact i1
    · show ty_im P' n (ty_addL L (ty_addm s.2 M))
      rw [hs]
      exact i3
/-- Rows.markTypes of a stretch -/
theorem rw_markTypes {f d : Nat} {L A W : List rwS} {M : Nat → Bool} (w : hp_w B ρ) (y : tyI P n T) (h : rwI P Rs O b) (hf : 30000 ≤ f) (hr : ∀ s ∈ L, rv n s) (hX : Rs.flatten ++ O = A ++ (L ++ W)) (hm : ty_im P n M) {x e : Int32} (hx : x = nI A.length) (hy : e = nI (A.length + L.length)) :
    ∃ P', am_call B sa am_dfl am_tb f (d + 2) 66 [.ref (ρ.1 3), .int x, .int e] (hp_S sa ρ P) = some (none, hp_S sa ρ P') ∧ ty_imo P P' ∧ ty_im P' n (ty_addL L M) := by
  have hl := h.Xle
  rw [hX] at hl
  simp only [List.length_append] at hl
  obtain ⟨f, rfl⟩ : ∃ g, f = g + 2 := ⟨f - 2, by omega⟩
  rw [am_c_66, am_s66_0, hx, hy]
  exact rw_mark_loop (f0 := f + 1) (d := d) L A W (f + 1) P M w rfl y h hr hX hm (by omega)
end RW6
/-- one more cell: an equation -/
def hp_po (ρ : hp_L) (fs : List Value) : hp_L := (ρ.1, ρ.2.1, fun a => if a = ρ.2.2.2.1 then some (.inr (2, fs)) else ρ.2.2.1 a, ρ.2.2.2.1 + 1, ρ.2.2.2.2 + 4)
section PO
variable {sa : Nat → Nat} {B : Nat} {ρ : hp_L} {P : hp_P}
theorem hp_w_po {fs : List Value} (w : hp_w B ρ) : hp_w B (hp_po ρ fs) := by
  obtain ⟨w1, w2, w3, w4, w5, w6⟩ := w
  refine ⟨w1, w2, w3, fun c hc => ⟨(w4 c hc).1, Nat.lt_succ_of_lt (w4 c hc).2⟩, fun r hr => ⟨(w5 r hr).1, Nat.lt_succ_of_lt (w5 r hr).2⟩, fun a ha => ?_⟩
  show (if a = ρ.2.2.2.1 then some (.inr (2, fs)) else ρ.2.2.1 a) = none
  have ha : ρ.2.2.2.1 + 1 ≤ a := ha
  rw [if_neg (by omega)]
  exact w6 a (by omega)
theorem hp_jk_po {fs : List Value} (w : hp_w B ρ) : hp_jk (hp_po ρ fs) ρ.2.2.2.1 (.inr (2, fs)) := ⟨fun c hc => hp_ap_o w c hc, fun r hr => hp_ap_a w r hr, by show (if _ then _ else _) = _; rw [if_pos rfl]⟩
theorem hp_fr_po {S : Nat → Bool} {fs : List Value} (w : hp_w B ρ) : hp_fr S 1 ρ P (hp_po ρ fs) P := by
  refine ⟨rfl, fun _ _ => ⟨rfl, rfl, rfl⟩, fun a c h => ⟨h.1, h.2.1, ?_⟩, ?_, ?_, fun _ => Nat.le_refl _⟩
  · show (if a = ρ.2.2.2.1 then some (.inr (2, fs)) else ρ.2.2.1 a) = some c
    have : a ≠ ρ.2.2.2.1 := fun e => by
      have := w.2.2.2.2.2 a (by omega)
      rw [h.2.2] at this
      cases this
    rw [if_neg this]
    exact h.2.2
  · show ρ.2.2.2.1 + 1 + _ ≤ _
    omega
  · show ρ.2.2.2.2 + 4 + _ ≤ _
    omega
theorem hp_h_po {fs : List Value} {a : Nat} (w : hp_w B ρ) : hp_h sa (hp_po ρ fs) P a = if a = ρ.2.2.2.1 then some (.inr (2, fs)) else hp_h sa ρ P a := by
  by_cases h : a = ρ.2.2.2.1
  · rw [if_pos h, h, hp_h_j (ρ := hp_po ρ fs) (a := ρ.2.2.2.1) (fun c hc => hp_ap_o w c hc) (fun r hr => hp_ap_a w r hr)]
    simp [hp_po]
  · rw [if_neg h]
    unfold hp_h
    show (match hp_cs.find? (fun c => decide (ρ.1 c = a)) with
      | some c => some (Sum.inr (c, hp_f sa (hp_po ρ fs) P c))
      | none => match hp_rs.find? (fun r => decide (ρ.2.1 r = a)) with
        | some r => some (Sum.inl (P.2 r))
        | none => (hp_po ρ fs).2.2.1 a) = _
    cases hcf : hp_cs.find? (fun c => decide (ρ.1 c = a)) with
    | some c => rfl
    | none =>
      dsimp only
      cases hrf : hp_rs.find? (fun r => decide (ρ.2.1 r = a)) with
      | some r => rfl
      | none => simp [hp_po, h]
theorem hp_new {fs : List Value} (hl : fs.length = 4) (w : hp_w B ρ) : am_new (hp_S sa ρ P) 2 fs = hp_S sa (hp_po ρ fs) P := by
  refine Prod.ext rfl (Prod.ext ?_ (by show ρ.2.2.2.2 + fs.length = _; rw [hl]; rfl))
  funext a
  show am_upd (hp_h sa ρ P) ρ.2.2.2.1 (.inr (2, fs)) a = hp_h sa (hp_po ρ fs) P a
  rw [hp_h_po w]
  rfl
theorem hp_put_po {fs : List Value} {k : Nat} {v : Value} (w : hp_w B ρ) (hk : k < fs.length) : am_put B (hp_S sa (hp_po ρ fs) P) ρ.2.2.2.1 2 k v = some (hp_S sa (hp_po ρ (fs.set k v)) P) := by
  unfold am_put am_obj
  have hB := hp_B w
  rw [show (hp_S sa (hp_po ρ fs) P).2.1 ρ.2.2.2.1 = hp_h sa (hp_po ρ fs) P ρ.2.2.2.1 from rfl, hp_h_po w, if_pos rfl]
  simp only [if_true, Option.bind_some]
  rw [if_neg (by omega)]
  refine congrArg some (Prod.ext rfl (Prod.ext ?_ rfl))
  funext a
  show am_upd (hp_h sa (hp_po ρ fs) P) ρ.2.2.2.1 _ a = hp_h sa (hp_po ρ _) P a
  rw [hp_h_po w]
  unfold am_upd
  rw [hp_h_po w]
  split <;> rfl
theorem hp_jk_get {a k : Nat} {fs : List Value} {v : Int32} (h : hp_jk ρ a (.inr (2, fs))) (hk : fs[k]? = some (.int v)) : am_geti (hp_S sa ρ P) a 2 k = some v := by
  unfold am_geti am_obj
  rw [show (hp_S sa ρ P).2.1 a = hp_h sa ρ P a from rfl, hp_h_j h.1 h.2.1, h.2.2]
  simp only [if_true, Option.bind_some, hk]
/-- Equation's constructor -/
theorem eq_init {f d : Nat} {x1 x2 x3 x4 y1 y2 y3 y4 : Int32} (w : hp_w B ρ) : am_call B sa am_dfl am_tb (f + 1) (d + 1) 48 [.ref ρ.2.2.2.1, .int x1, .int x2, .int x3, .int x4] (hp_S sa (hp_po ρ [.int y1, .int y2, .int y3, .int y4]) P) = some (none, hp_S sa (hp_po ρ [.int x1, .int x2, .int x3, .int x4]) P) := by
  rw [am_c_48, am_s48_0]
  rw [hp_put_po w (show 0 < 4 by decide), Option.bind_some, hp_put_po (k := 1) w (by simp), Option.bind_some, hp_put_po (k := 2) w (by simp), Option.bind_some, hp_put_po (k := 3) w (by simp), Option.bind_some]
  rfl
end PO
