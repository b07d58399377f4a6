/-! THROWS: where the methods of the class come to one -/
theorem am_exec_bk {B : Nat} {sa : Nat → Nat} {dfl : Nat → List Value} {cl : am_F} {code : List am_I} {f pc : Nat} {L : am_L} {st : List Value} {σ : am_S} : am_exec B sa dfl cl code (f + 1) pc L st σ = am_bk B sa dfl cl code (fun pc L st σ => match code.dropWhile (fun e' => e'.1 != pc) with
  | [] => none
  | e' :: _ => if e'.2.2.2.1 = 1 then some (pc, st, σ) else (am_keep L 0 16 (e'.2.2.2.1 - 2)).bind fun L' => am_exec B sa dfl cl code f pc L' st σ) code.length (code.dropWhile (fun e' => e'.1 != pc)) L st σ := by
  rw [am_bk_eq]
  conv => lhs; unfold am_exec
  congr 1
set_option maxRecDepth 100000 in
theorem ax_111 (B : Nat) (sa : Nat → Nat) (cl : am_F) (f : Nat) (a0 : Nat) (x1 : Int32) (σ : am_S) : am_exec B sa am_dfl cl am_r111 (f + 1) 0 [(0, .ref a0), (1, .int x1)] [] σ =
  (am_getr σ a0 8 4).bind fun p1 => (am_obj σ p1 4).bind fun _ => am_i (cl 68 [.ref p1, .int x1] σ) fun v2 g2 => if am_cond .ne v2 0 = true then ((am_getr g2 a0 8 4).bind fun p3 => (am_obj g2 p3 4).bind fun _ => am_i (cl 70 [.ref p3, .int x1] g2) fun v4 g4 => some (29, [.int v4], g4)) else (some (11, [], g2)) := am_exec_bk.trans rfl
set_option maxRecDepth 100000 in
theorem ax_112 (B : Nat) (sa : Nat → Nat) (cl : am_F) (f : Nat) (a0 : Nat) (x1 : Int32) (x2 : Int32) (x3 : Int32) (σ : am_S) : am_exec B sa am_dfl cl am_r112 (f + 1) 0 [(0, .ref a0), (1, .int x1), (2, .int x2), (3, .int x3)] [] σ =
  (am_getr σ a0 8 4).bind fun p1 => (am_obj σ p1 4).bind fun _ => am_i (cl 71 [.ref p1, .int x1, .int x2, .int x3] σ) fun v2 g2 => if am_cond .ne v2 (-1) = true then ((am_getr g2 a0 8 3).bind fun p3 => (am_getr g2 p3 3 1).bind fun p4 => (am_iald g2 p4 v2).bind fun v5 => some (38, [.int v5], g2)) else (some (18, [], g2)) := am_exec_bk.trans rfl
set_option maxRecDepth 100000 in
theorem ax_113 (B : Nat) (sa : Nat → Nat) (cl : am_F) (f : Nat) (a0 : Nat) (x1 : Int32) (x2 : Int32) (x3 : Int32) (x4 : Int32) (σ : am_S) : am_exec B sa am_dfl cl am_r113 (f + 1) 0 [(0, .ref a0), (1, .int x1), (2, .int x2), (3, .int x3), (4, .int x4)] [] σ =
  (am_getr σ a0 8 4).bind fun p1 => (am_obj σ p1 4).bind fun _ => am_i (cl 71 [.ref p1, .int x1, .int x2, .int x3] σ) fun v2 g2 => if am_cond .eq v2 (-1) = true then (some (46, [], g2)) else (if am_cond .lt x4 0 = true then (some (46, [], g2)) else ((am_getr g2 a0 8 0).bind fun p3 => (am_getr g2 p3 7 3).bind fun p4 => (am_getr g2 a0 8 3).bind fun p5 => (am_getr g2 p5 3 2).bind fun p6 => (am_iald g2 p6 v2).bind fun v7 => (am_iald g2 p4 v7).bind fun v8 => if am_cond .lt x4 v8 = true then ((am_getr g2 a0 8 0).bind fun p9 => (am_getr g2 a0 8 3).bind fun p10 => (am_getr g2 p10 3 2).bind fun p11 => (am_iald g2 p11 v2).bind fun v12 => (am_obj g2 p9 7).bind fun _ => am_i (cl 10 [.ref p9, .int v12, .int x4] g2) fun v13 g13 => some (75, [.int v13], g13)) else (some (46, [], g2)))) := am_exec_bk.trans rfl
set_option maxRecDepth 100000 in
theorem ax_114 (B : Nat) (sa : Nat → Nat) (cl : am_F) (f : Nat) (a0 : Nat) (x1 : Int32) (σ : am_S) : am_exec B sa am_dfl cl am_r114 (f + 1) 0 [(0, .ref a0), (1, .int x1)] [] σ =
  (am_getr σ a0 8 4).bind fun p1 => (am_obj σ p1 4).bind fun _ => am_i (cl 72 [.ref p1, .int x1] σ) fun v2 g2 => if am_cond .ne v2 0 = true then ((am_getr g2 a0 8 0).bind fun p3 => (am_getr g2 a0 8 4).bind fun p4 => (am_getr g2 p4 4 6).bind fun p5 => (am_iald g2 p5 x1).bind fun v6 => (am_obj g2 p3 7).bind fun _ => am_v (cl 7 [.ref p3, .int v6] g2) fun g7 => (am_getr g7 a0 8 2).bind fun p8 => (am_getr g7 a0 8 4).bind fun p9 => (am_getr g7 p9 4 7).bind fun p10 => (am_iald g7 p10 x1).bind fun v11 => (am_getr g7 a0 8 4).bind fun p12 => (am_getr g7 p12 4 8).bind fun p13 => (am_iald g7 p13 x1).bind fun v14 => (am_obj g7 p8 1).bind fun _ => am_v (cl 30 [.ref p8, .int v11, .int v14] g7) fun g15 => (am_getr g15 a0 8 4).bind fun p16 => (am_obj g15 p16 4).bind fun _ => am_v (cl 73 [.ref p16, .int x1] g15) fun g17 => some (70, [], g17)) else (some (11, [], g2)) := am_exec_bk.trans rfl
set_option maxRecDepth 100000 in
theorem ax_115 (B : Nat) (sa : Nat → Nat) (cl : am_F) (f : Nat) (a0 : Nat) (x1 : Int32) (x2 : Int32) (σ : am_S) : am_exec B sa am_dfl cl am_r115 (f + 1) 0 [(0, .ref a0), (1, .int x1), (2, .int x2)] [] σ =
  (am_getr σ a0 8 4).bind fun p1 => (am_obj σ p1 4).bind fun _ => am_i (cl 68 [.ref p1, .int x1] σ) fun v2 g2 => if am_cond .ne v2 0 = true then ((am_getr g2 a0 8 4).bind fun p3 => (am_obj g2 p3 4).bind fun _ => am_i (cl 70 [.ref p3, .int x1] g2) fun v4 g4 => if am_cond .le v4 0 = true then ((am_getr g4 a0 8 4).bind fun p5 => (am_obj g4 p5 4).bind fun _ => am_i (cl 72 [.ref p5, .int x2] g4) fun v6 g6 => if am_cond .eq v6 0 = true then (some (58, [], g6)) else (if am_cond .ge x1 x2 = true then ((am_getr g6 a0 8 3).bind fun p7 => (am_getr g6 p7 3 4).bind fun p8 => (am_getr g6 a0 8 4).bind fun p9 => (am_getr g6 p9 4 5).bind fun p10 => (am_iald g6 p10 x1).bind fun v11 => (am_iald g6 p8 v11).bind fun v12 => (am_getr g6 a0 8 3).bind fun p13 => (am_getr g6 p13 3 4).bind fun p14 => (am_getr g6 a0 8 4).bind fun p15 => (am_getr g6 p15 4 5).bind fun p16 => (am_iald g6 p16 (x1 + 1)).bind fun v17 => (am_iald g6 p14 v17).bind fun v18 => (am_getr g6 a0 8 0).bind fun p19 => (am_obj g6 p19 7).bind fun _ => am_v (cl 11 [.ref p19] g6) fun g20 => (am_getr g20 a0 8 3).bind fun p21 => (am_obj g20 p21 3).bind fun _ => am_v (cl 66 [.ref p21, .int v12, .int v18] g20) fun g22 => (am_getr g22 a0 8 0).bind fun p23 => (am_obj g22 p23 7).bind fun _ => am_v (cl 13 [.ref p23] g22) fun g24 => (am_getr g24 a0 8 0).bind fun p25 => (am_getr g24 a0 8 4).bind fun p26 => (am_getr g24 p26 4 6).bind fun p27 => (am_iald g24 p27 x2).bind fun v28 => (am_obj g24 p25 7).bind fun _ => am_v (cl 18 [.ref p25, .int v28] g24) fun g29 => (am_getr g29 a0 8 2).bind fun p30 => (am_getr g29 a0 8 4).bind fun p31 => (am_getr g29 p31 4 7).bind fun p32 => (am_iald g29 p32 x2).bind fun v33 => (am_getr g29 a0 8 4).bind fun p34 => (am_getr g29 p34 4 8).bind fun p35 => (am_iald g29 p35 x2).bind fun v36 => (am_obj g29 p30 1).bind fun _ => am_v (cl 30 [.ref p30, .int v33, .int v36] g29) fun g37 => (am_getr g37 a0 8 4).bind fun p38 => (am_obj g37 p38 4).bind fun _ => am_v (cl 73 [.ref p38, .int x2] g37) fun g39 => (am_getr g39 a0 8 3).bind fun p40 => (am_obj g39 p40 3).bind fun _ => am_v (cl 55 [.ref p40, .int v12, .int v18] g39) fun g41 => (am_getr g41 a0 8 4).bind fun p42 => (am_obj g41 p42 4).bind fun _ => am_i (cl 76 [.ref p42] g41) fun v43 g43 => some (198, [], g43)) else (some (58, [], g6)))) else (some (32, [], g4))) else (some (11, [], g2)) := am_exec_bk.trans rfl
theorem cs_e {β : Type} {c : Prop} [Decidable c] {x y r : Option β} (h : ¬ c) (q : y = r) : (if c then x else y) = r := by rw [if_neg h]; exact q
section TE
variable {sa : Nat → Nat} {B : Nat} {ρ : hp_L} {P : hp_P} {S : qT → Prop} {A : sV} {ws : List Int32} {flt : Int32}
theorem te_111 {f d : Nat} {a : Int32} (h : tI B sa S A ws flt ρ P) (ha : ¬ ∃ s, en_at A.1 a s) : am_exec B sa am_dfl (am_call B sa am_dfl am_tb (f + 1) (d + 1)) am_r111 (f + 1) 0 [(0, .ref (ρ.1 8)), (1, .int a)] [] (hp_S sa ρ P) = some (11, [], hp_S sa ρ P) := by
  have k := t_hyps_no (sa := sa) (f := f) (d := d) (a := a) h
  rw [bP_f ha] at k
  obtain ⟨C, n, T, h1, -⟩ := h
  have w := h1.w
  rw [ax_111]
  exact cs_b (ho_804 w) (cs_b (hx_4 w) (cs_i k (cs_e (by rw [am_c_ne]; exact fun z => z rfl) rfl)))
theorem te_112 {f d : Nat} {a i k : Int32} (h : tI B sa S A ws flt ρ P) (hf : 10 ≤ f) (hq : ∀ q, ¬ sy_at A.1 a i k q) : am_exec B sa am_dfl (am_call B sa am_dfl am_tb (f + 1) (d + 3)) am_r112 (f + 1) 0 [(0, .ref (ρ.1 8)), (1, .int a), (2, .int i), (3, .int k)] [] (hp_S sa ρ P) = some (18, [], hp_S sa ρ P) := by
  have kk := t_place_no (sa := sa) (f := f + 1) (d := d) h (by omega) hq
  obtain ⟨C, n, T, h1, -⟩ := h
  have w := h1.w
  rw [ax_112]
  exact cs_b (ho_804 w) (cs_b (hx_4 w) (cs_i kk (cs_e (by rw [am_c_ne]; exact fun z => z rfl) rfl)))
theorem te_113a {f d : Nat} {a i k x : Int32} (h : tI B sa S A ws flt ρ P) (hf : 10 ≤ f) (hq : ∀ q, ¬ sy_at A.1 a i k q) : am_exec B sa am_dfl (am_call B sa am_dfl am_tb (f + 1) (d + 3)) am_r113 (f + 1) 0 [(0, .ref (ρ.1 8)), (1, .int a), (2, .int i), (3, .int k), (4, .int x)] [] (hp_S sa ρ P) = some (46, [], hp_S sa ρ P) := by
  have kk := t_place_no (sa := sa) (f := f + 1) (d := d) h (by omega) hq
  obtain ⟨C, n, T, h1, -⟩ := h
  have w := h1.w
  rw [ax_113]
  exact cs_b (ho_804 w) (cs_b (hx_4 w) (cs_i kk (cs_y (by rw [am_c_eq]) rfl)))
theorem te_113b {f d : Nat} {a i k x : Int32} {q : qS} (h : tI B sa S A ws flt ρ P) (hI : aI S A) (hf : 300 ≤ f) (hq : sy_at A.1 a i k q) (hx : ¬ inR x (q_sz q.2)) : am_exec B sa am_dfl (am_call B sa am_dfl am_tb (f + 1) (d + 3)) am_r113 (f + 1) 0 [(0, .ref (ρ.1 8)), (1, .int a), (2, .int i), (3, .int k), (4, .int x)] [] (hp_S sa ρ P) = some (46, [], hp_S sa ρ P) := by
  obtain ⟨kk, v, a1, a2, a3, a4, a5, a6⟩ := t_place_ty (sa := sa) (f := f + 1) (d := d) h hI (by omega) hq
  obtain ⟨C, n, T, h1, -⟩ := h
  have w := h1.w
  rw [ax_113]
  refine cs_b (ho_804 w) (cs_b (hx_4 w) (cs_i a1 (cs_e (by rw [am_c_eq]; exact nI_ne_m1 (by omega)) ?_)))
  rcases pk_ix x (show q_sz q.2 < 2 ^ 31 by omega) with z | z | z
  · exact cs_y (by rw [am_c_lt]; exact z) rfl
  · by_cases y : x < 0
    · exact cs_y (by rw [am_c_lt]; exact y) rfl
    · refine cs_e (by rw [am_c_lt]; exact y) ?_
      refine cs_b (ho_800 w) (cs_b (hr_703 w) (cs_b (ho_803 w) (cs_b (hr_302 w) (cs_b ((hl_302 w).trans a3) (cs_b ((hl_703 w).trans a4) (cs_e (by rw [am_c_lt]; exact Int32.not_lt.mpr z) rfl))))))
  · exact absurd z hx
theorem te_114 {f d : Nat} {x : Int32} (h : tI B sa S A ws flt ρ P) (hx : ¬ ∃ j, x = nI j ∧ A.2.1 ≤ j ∧ j ≤ A.1.length) : am_exec B sa am_dfl (am_call B sa am_dfl am_tb (f + 1) (d + 1)) am_r114 (f + 1) 0 [(0, .ref (ρ.1 8)), (1, .int x)] [] (hp_S sa ρ P) = some (11, [], hp_S sa ρ P) := by
  have k := t_canEnd (sa := sa) (f := f) (d := d) (x := x) h
  rw [bP_f hx] at k
  obtain ⟨C, n, T, h1, -⟩ := h
  have w := h1.w
  rw [ax_114]
  exact cs_b (ho_804 w) (cs_b (hx_4 w) (cs_i k (cs_e (by rw [am_c_ne]; exact fun z => z rfl) rfl)))
theorem te_115a {f d : Nat} {a x : Int32} (h : tI B sa S A ws flt ρ P) (ha : ¬ ∃ s, en_at A.1 a s) : am_exec B sa am_dfl (am_call B sa am_dfl am_tb (f + 1) (d + 1)) am_r115 (f + 1) 0 [(0, .ref (ρ.1 8)), (1, .int a), (2, .int x)] [] (hp_S sa ρ P) = some (11, [], hp_S sa ρ P) := by
  have k := t_hyps_no (sa := sa) (f := f) (d := d) (a := a) h
  rw [bP_f ha] at k
  obtain ⟨C, n, T, h1, -⟩ := h
  have w := h1.w
  rw [ax_115]
  exact cs_b (ho_804 w) (cs_b (hx_4 w) (cs_i k (cs_e (by rw [am_c_ne]; exact fun z => z rfl) rfl)))
theorem te_hyp {f d a : Nat} {s : qQ} (h : tI B sa S A ws flt ρ P) (ha : A.1[a]? = some s) : am_call B sa am_dfl am_tb (f + 1) (d + 2) 70 [.ref (ρ.1 4), .int (nI a)] (hp_S sa ρ P) = some (some (.int (nI s.1.length)), hp_S sa ρ P) := by
  obtain ⟨C, n, T, h1, h2, h3, h4, h5, h6⟩ := h
  rw [h2] at ha
  exact sq_hyps (h1.s (Z := True) (G := fun _ => True) fun _ _ => True.intro) ha
theorem te_len {a : Nat} {s : qQ} (h : tI B sa S A ws flt ρ P) (ha : A.1[a]? = some s) : a < 2 ^ 31 ∧ s.1.length < 2 ^ 31 ∧ A.1.length ≤ 1000 := by
  obtain ⟨C, n, T, h1, h2, h3, h4, h5, h6⟩ := h
  rw [h2] at ha ⊢
  have ha : C.2.1[a]? = some s := ha
  have hl : C.2.1.length ≤ 1000 := h1.2.2.2.1.2.2.2.1
  have h2 := (List.getElem?_eq_some_iff.mp ha).1
  refine ⟨by omega, ?_, hl⟩
  have hm : s.1.length ≤ (sq_rows C.2.1).length := by
    obtain ⟨l1, l2, e⟩ := List.append_of_mem (List.mem_of_getElem? ha)
    unfold sq_rows
    rw [e, List.flatMap_append, List.flatMap_cons, List.length_append, List.length_append, List.length_append]
    omega
  have e := congrArg List.length h1.2.2.2.2.1.1
  rw [List.length_map, List.length_map] at e
  have := h1.2.2.2.2.2.2.1.2.2.2.1
  have h3 := this.2.1
  have h4 := this.2.2.2.1
  omega
theorem te_115b {f d a : Nat} {x : Int32} {s : qQ} (h : tI B sa S A ws flt ρ P) (ha : A.1[a]? = some s) (hs : s.1 ≠ []) : am_exec B sa am_dfl (am_call B sa am_dfl am_tb (f + 1) (d + 2)) am_r115 (f + 1) 0 [(0, .ref (ρ.1 8)), (1, .int (nI a)), (2, .int x)] [] (hp_S sa ρ P) = some (32, [], hp_S sa ρ P) := by
  obtain ⟨l1, l2, l3⟩ := te_len h ha
  have k := t_hyps_no (sa := sa) (f := f) (d := d + 1) (a := nI a) h
  rw [bP_t ⟨s, a, rfl, l1, ha⟩] at k
  have k2 := te_hyp (sa := sa) (f := f) (d := d) h ha
  obtain ⟨C, n, T, h1, -⟩ := h
  have w := h1.w
  rw [ax_115]
  refine cs_b (ho_804 w) (cs_b (hx_4 w) (cs_i k (cs_y (by rw [am_c_ne]; decide) ?_)))
  refine cs_b (ho_804 w) (cs_b (hx_4 w) (cs_i k2 (cs_e ?_ rfl)))
  rw [am_c_le]
  have : 0 < s.1.length := List.length_pos_iff.mpr hs
  exact nI_ge (a := 0) this l2
theorem te_115c {f d a : Nat} {x : Int32} {s : qQ} (h : tI B sa S A ws flt ρ P) (ha : A.1[a]? = some s) (hs : s.1 = []) (hx : ¬ ∃ j, x = nI j ∧ A.2.1 ≤ j ∧ j ≤ a) : am_exec B sa am_dfl (am_call B sa am_dfl am_tb (f + 1) (d + 2)) am_r115 (f + 1) 0 [(0, .ref (ρ.1 8)), (1, .int (nI a)), (2, .int x)] [] (hp_S sa ρ P) = some (58, [], hp_S sa ρ P) := by
  obtain ⟨l1, l2, l3⟩ := te_len h ha
  have k := t_hyps_no (sa := sa) (f := f) (d := d + 1) (a := nI a) h
  rw [bP_t ⟨s, a, rfl, l1, ha⟩] at k
  have k2 := te_hyp (sa := sa) (f := f) (d := d) h ha
  rw [hs] at k2
  have k3 := t_canEnd (sa := sa) (f := f) (d := d + 1) (x := x) h
  obtain ⟨C, n, T, h1, -⟩ := h
  have w := h1.w
  rw [ax_115]
  refine cs_b (ho_804 w) (cs_b (hx_4 w) (cs_i k (cs_y (by rw [am_c_ne]; decide) ?_)))
  refine cs_b (ho_804 w) (cs_b (hx_4 w) (cs_i k2 (cs_y (by rw [am_c_le]; decide) ?_)))
  refine cs_b (ho_804 w) (cs_b (hx_4 w) (cs_i k3 ?_))
  by_cases e : ∃ j, x = nI j ∧ A.2.1 ≤ j ∧ j ≤ A.1.length
  · refine cs_e (by rw [am_c_eq]; exact bP_y e) (cs_e ?_ rfl)
    obtain ⟨j, e1, e2, e3⟩ := e
    rw [am_c_ge, e1]
    refine nI_ge ?_ (by omega)
    exact Nat.lt_of_not_le fun z => hx ⟨j, e1, e2, z⟩
  · exact cs_y (by rw [am_c_eq]; exact bP_n e) rfl
end TE
