/-! CUTTING of the class, 2: undo; cut -/
def c_cut (C : sC) (j a b : Nat) : sC := (C.1.take (sq_k C.2.1 j), C.2.1.take j, C.2.2.1, C.2.2.2.1, C.2.2.2.2.1, C.2.2.2.2.2.1, C.2.2.2.2.2.2.1.take a, C.2.2.2.2.2.2.2.take b)
section CUT2
variable {sa : Nat → Nat} {B : Nat} {ρ : hp_L} {P P' : hp_P} {n m : Nat} {T : Nat → Int32 × Int32 × Int32} {C : sC}
theorem sqA.pre {sq Q : List qQ} {fm : Nat} {th th' : Nat → Nat × Nat × Nat} (h : sqA P (sq ++ Q) fm th) (hf : fm ≤ sq.length) (e : ∀ j, j ≤ sq.length → th j = th' j) (k : P.1 403 = nI sq.length) : sqA P sq fm th' := by
  obtain ⟨a1, a2, a3, a4, ⟨len, l1, l2, l3, l4⟩, a5⟩ := h
  rw [List.length_append] at a4 l3
  refine ⟨k, a2, hf, by omega, ⟨len, l1, l2, by omega, l4⟩, fun j hj => ?_⟩
  have := a5 j (by rw [List.length_append]; omega)
  rw [List.take_append_of_le_length hj, e j hj] at this
  exact this
/-- what is left by a cut -/
theorem uI.cut {j a b : Nat} (h : uI B C ρ P n T) (hm : m ≤ n) (hj : j ≤ C.2.1.length) (ha : a ≤ C.2.2.2.2.2.2.1.length) (hb : b ≤ C.2.2.2.2.2.2.2.length) (hG : aG (ct_S T m) (C.2.1.take j) C.2.2.2.2.2.1 (C.2.2.2.2.2.2.1.take a) (C.2.2.2.2.2.2.2.take b)) (hE : ∀ M ∈ C.2.2.2.2.2.2.2.take b, ct_S T m (m_ty M))
    (p1 : tyJ P' m T) (p2 : P'.1 103 = nI a) (p3 : P'.1 111 = nI b) (p4 : ∀ r, 102 ≤ r → r ≤ 113 → P'.2 r = P.2 r) (p5 : P'.1 502 = nI C.2.2.2.2.1.length) (p6 : P'.1 503 = nI C.2.2.2.2.2.1.length) (l1 : 3 ≤ C.2.2.2.2.1.length) (l2 : C.2.2.2.2.1.length ≤ 40) (l3 : 2 ≤ C.2.2.2.2.2.1.length) (l4 : C.2.2.2.2.2.1.length ≤ 200) (p7 : P'.2 500 = P.2 500) (p8 : P'.2 501 = P.2 501) (p9 : sqA P' (C.2.1.take j) C.2.2.1 C.2.2.2.1) (p10 : rwI P' (C.1.take (sq_k C.2.1 j)) [] false) : cI B (c_cut C j a b) ρ P' m T := by
  obtain ⟨h1, h2, h3, h4, h5, h6, h7, h8⟩ := h
  have hw := h6.1.wf
  have hd := h6.1.2.1
  have hn := h6.1.n31
  obtain ⟨r1, r2⟩ := h5.cut (k := sq_k C.2.1 j) h8 hm hw hd hn (fun t ht => hG.2.2.2.2.2 t (by rw [sq_rows_take]; exact ht))
  rw [← sq_rows_take] at r1
  exact ⟨h1, h2.cut hm hw hd hn ha hb hG.2.2.2.1 hE p2 p3 p4, h3.cut hm hw hd hn hG.2.2.1 p5 p6 l1 l2 l3 l4 p7 p8, p9, r1, p1, p10, r2⟩
theorem sq_k_ap {sq Q : List qQ} {j : Nat} (hj : j ≤ sq.length) : sq_k (sq ++ Q) j = sq_k sq j := by unfold sq_k; rw [List.take_append_of_le_length hj]
theorem sq_k_rows {sq : List qQ} {j : Nat} : sq_k sq j ≤ (sq_rows sq).length := by
  have : sq_rows sq = sq_rows (sq.take j) ++ sq_rows (sq.drop j) := by rw [← sq_rows_ap, List.take_append_drop]
  rw [this, List.length_append]
  exact Nat.le_add_right _ _
theorem c_cut_all (h : rsI n T C.1 (sq_rows C.2.1)) : c_cut C C.2.1.length C.2.2.2.2.2.2.1.length C.2.2.2.2.2.2.2.length = C := by
  unfold c_cut
  rw [List.take_length, List.take_length, List.take_length, sq_k_len (Nat.le_refl _), ← h.len, List.take_length]
/-- shorten of the types, with what it leaves alone -/
theorem ty_short {f d : Nat} (w : hp_w B ρ) (y : tyJ P n T) (hm : m ≤ n) (h2 : 2 ≤ m) (hf : 10000 ≤ f) :
    ∃ P', am_call B sa am_dfl am_tb f (d + 2) 7 [.ref (ρ.1 7), .int (nI m)] (hp_S sa ρ P) = some (none, hp_S sa ρ P') ∧ tyJ P' m T ∧ hp_fr ty_S 0 ρ P ρ P' := by
  obtain ⟨P', a1, a2, a3, a4⟩ := ty_shorten (sa := sa) (f := f) (d := d) w y.1.1 hm hf
  exact ⟨P', a1, ⟨⟨a2, fun i j h1 h2 => y.1.2.1 i j h1 (by omega), by rw [a4 700 (by decide)]; exact y.1.2.2⟩, h2, y.2.2⟩, a3⟩
theorem hp_fr.yc {e : Nat} {ρ ρ' : hp_L} {P P' : hp_P} (h : hp_fr ty_S e ρ P ρ' P') : hp_fr cl_S e ρ P ρ' P' := h.weaken fun r h => wt_S_ty (st_S_w (cl_st h))
/-- undo -/
theorem u_undo {f d : Nat} (h : uI B C ρ P n T) (hm : m ≤ n) (h2 : 2 ≤ m) (hG : aG (ct_S T m) C.2.1 C.2.2.2.2.2.1 C.2.2.2.2.2.2.1 C.2.2.2.2.2.2.2) (hE : ∀ M ∈ C.2.2.2.2.2.2.2, ct_S T m (m_ty M)) (k4 : P.1 504 = nI C.2.2.2.2.1.length) (k5 : P.1 505 = nI C.2.2.2.2.2.1.length) (l1 : 3 ≤ C.2.2.2.2.1.length) (l2 : C.2.2.2.2.1.length ≤ 40) (l3 : 2 ≤ C.2.2.2.2.2.1.length) (l4 : C.2.2.2.2.2.1.length ≤ 200) (hfm : C.2.2.1 ≤ C.2.1.length) (hf : 10000 ≤ f) :
    ∃ P1 P2 P3, am_call B sa am_dfl am_tb f (d + 2) 73 [.ref (ρ.1 4), .int (nI C.2.1.length)] (hp_S sa ρ P) = some (none, hp_S sa ρ P1) ∧ am_call B sa am_dfl am_tb f (d + 2) 7 [.ref (ρ.1 7), .int (nI m)] (hp_S sa ρ P1) = some (none, hp_S sa ρ P2) ∧ am_call B sa am_dfl am_tb f (d + 2) 28 [.ref (ρ.1 5)] (hp_S sa ρ P2) = some (none, hp_S sa ρ P3) ∧ cI B C ρ P3 m T ∧ hp_fr cl_S 0 ρ P ρ P3 := by
  obtain ⟨f, rfl⟩ : ∃ g, f = g + 2 := ⟨f - 2, by omega⟩
  have h' := h
  obtain ⟨h1, he, hsw, ⟨Q, th, hs, hth⟩, hrs, y, ⟨R, O, b, hr⟩, hv⟩ := h
  have hkl : sq_k (C.2.1 ++ Q) C.2.1.length = C.1.length := by rw [sq_k_ap (Nat.le_refl _), sq_k_len (Nat.le_refl _), hrs.len]
  obtain ⟨P1, a1, a2, a3, a4, a5, a6⟩ := s_shorten (sa := sa) (f := f) (d := d) h1 hs hr (j := C.2.1.length) (by rw [List.length_append]; omega) hfm (by rw [hkl, List.length_append]; omega)
  rw [hkl, List.take_append_of_le_length (Nat.le_refl _), List.take_length] at a3
  rw [List.take_append_of_le_length (Nat.le_refl _), List.take_length] at a2
  have y1 : tyJ P1 n T := ⟨y.1.cg (a5 708 (by decide) (by decide)) fun r _ _ => by rw [a4], y.2⟩
  obtain ⟨P2, b1, b2, b3⟩ := ty_short (sa := sa) (f := f + 2) (d := d) h1 y1 hm h2 (by omega)
  have k2 : ∀ r, ty_S r = false → P2.1 r = P1.1 r ∧ P2.2 r = P1.2 r := fun r h => ⟨(b3.2.1 r h).1, (b3.2.1 r h).2.1⟩
  refine ⟨P1, P2, hp_sI (hp_sI P2 502 (P2.1 504)) 503 (P2.1 505), a1, b1, sg_undo (f := f + 1) (d := d + 1) h1, ?_, hp_fr.tr0 a6 (hp_fr.tr0 b3.yc (hp_fr.tr0 (hp_fr.sI (by decide)) (hp_fr.sI (by decide))))⟩
  have e4 : P2.1 504 = nI C.2.2.2.2.1.length := by rw [(k2 504 (by decide)).1, a5 504 (by decide) (by decide)]; exact k4
  have e5 : P2.1 505 = nI C.2.2.2.2.2.1.length := by rw [(k2 505 (by decide)).1, a5 505 (by decide) (by decide)]; exact k5
  rw [e4, e5]
  have ia : ∀ r, r ≠ 502 → r ≠ 503 → (hp_sI (hp_sI P2 502 (nI C.2.2.2.2.1.length)) 503 (nI C.2.2.2.2.2.1.length)).1 r = P2.1 r := fun r h1 h2 => by rw [hI_ne h2, hI_ne h1]
  have aa : ∀ r, ty_S r = false → (hp_sI (hp_sI P2 502 (nI C.2.2.2.2.1.length)) 503 (nI C.2.2.2.2.2.1.length)).2 r = P.2 r := fun r h => by
    rw [show (hp_sI (hp_sI P2 502 (nI C.2.2.2.2.1.length)) 503 (nI C.2.2.2.2.2.1.length)).2 r = P2.2 r from rfl, (k2 r h).2, a4]
  have i1 : ∀ r, r ≠ 502 → r ≠ 503 → r ≠ 403 → ty_S r = false → rw_S r = false → (hp_sI (hp_sI P2 502 (nI C.2.2.2.2.1.length)) 503 (nI C.2.2.2.2.2.1.length)).1 r = P.1 r := fun r h1 h2 h3 h4 h5 => by rw [ia r h1 h2, (k2 r h4).1, a5 r h3 h5]
  have fin := @uI.cut B ρ P (hp_sI (hp_sI P2 502 (nI C.2.2.2.2.1.length)) 503 (nI C.2.2.2.2.2.1.length)) n m T C C.2.1.length C.2.2.2.2.2.2.1.length C.2.2.2.2.2.2.2.length h' hm (Nat.le_refl _) (Nat.le_refl _) (Nat.le_refl _) (by rw [List.take_length, List.take_length, List.take_length]; exact hG) (by rw [List.take_length]; exact hE)
  rw [c_cut_all hrs] at fin
  refine fin ?_ ?_ ?_ (fun r p q => aa r (ty_S_en p q)) ?_ hI_eq l1 l2 l3 l4 (aa 500 (by decide)) (aa 501 (by decide)) ?_ ?_
  · exact ⟨b2.1.cg (ia 708 (by decide) (by decide)) fun r _ _ => rfl, b2.2⟩
  · rw [i1 103 (by decide) (by decide) (by decide) (by decide) (by decide)]; exact he.1.1
  · rw [i1 111 (by decide) (by decide) (by decide) (by decide) (by decide)]; exact he.2.1.1
  · rw [hI_ne (by decide), hI_eq]
  · rw [List.take_length]
    have := sqA.pre (Q := []) (th' := C.2.2.2.1) (by rw [List.append_nil]; exact a2) hfm hth a2.1
    exact this.cg fun r p q => ⟨by rw [ia r (by omega) (by omega), (k2 r (decide_eq_false (by omega))).1], by rw [aa r (decide_eq_false (by omega)), a4]⟩
  · rw [sq_k_len (Nat.le_refl _), ← hrs.len, List.take_length]
    exact a3.cg fun r p q => ⟨by rw [ia r (by omega) (by omega), (k2 r (decide_eq_false (by omega))).1], by rw [aa r (decide_eq_false (by omega)), a4]⟩
end CUT2
