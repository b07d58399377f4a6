/-! SEQUENTS of the class, 2: addHypothesis, join -/
theorem rt_inj {n : Nat} {T : Nat → Int32 × Int32 × Int32} (hw : ty_wf T n) (hd : ty_di T n) (hn : n < 2 ^ 31) : ∀ {L L' : List rwS}, (∀ s ∈ L, rv n s) → (∀ s ∈ L', rv n s) → L.map (rt T n) = L'.map (rt T n) → L = L'
  | [], [], _, _, _ => rfl
  | [], _ :: _, _, _, h => by cases h
  | _ :: _, [], _, _, h => by cases h
  | s :: L, s' :: L', h1, h2, h => by
    rw [List.map_cons, List.map_cons] at h
    obtain ⟨e1, e2⟩ := List.cons.inj h
    obtain ⟨e3, e4⟩ := Prod.mk.inj e1
    have e5 : s.2 = s'.2 := ct_inj hw hd hn n _ _ (Nat.le_refl _) (h1 s List.mem_cons_self).In (h2 s' List.mem_cons_self).In e4
    rw [rt_inj hw hd hn (fun x hx => h1 x (List.mem_cons_of_mem _ hx)) (fun x hx => h2 x (List.mem_cons_of_mem _ hx)) e2, Prod.ext e3 e5]
/-- a hypothesis more, if it is not among them -/
noncomputable def hy_add (H : List qM) (M : qM) : List qM := @ite _ (M ∈ H) (Classical.propDecidable _) H (H ++ [M])
theorem hy_add_y {H : List qM} {M : qM} (h : M ∈ H) : hy_add H M = H := if_pos h
theorem hy_add_n {H : List qM} {M : qM} (h : ¬ M ∈ H) : hy_add H M = H ++ [M] := if_neg h
/-- more hypotheses, but for one -/
noncomputable def hy_join (e : Option qM) : List qM → List qM → List qM
  | H, [] => H
  | H, M :: L => hy_join e (@ite _ (e = some M) (Classical.propDecidable _) H (hy_add H M)) L
theorem hy_join_c {e : Option qM} {H L : List qM} {M : qM} : hy_join e H (M :: L) = hy_join e (@ite _ (e = some M) (Classical.propDecidable _) H (hy_add H M)) L := rfl
theorem hy_add_pre {H : List qM} {M : qM} : ∃ X, hy_add H M = H ++ X := by
  by_cases h : M ∈ H
  · exact ⟨[], by rw [hy_add_y h, List.append_nil]⟩
  · exact ⟨[M], hy_add_n h⟩
theorem hy_join_pre {e : Option qM} : ∀ {L H : List qM}, ∃ X, hy_join e H L = H ++ X
  | [], H => ⟨[], (List.append_nil _).symm⟩
  | M :: L, H => by
    rw [hy_join_c]
    by_cases h : e = some M
    · rw [if_pos h]; exact hy_join_pre
    · rw [if_neg h]
      obtain ⟨X, hX⟩ := hy_join_pre (e := e) (L := L) (H := hy_add H M)
      obtain ⟨Y, hY⟩ := hy_add_pre (H := H) (M := M)
      exact ⟨Y ++ X, by rw [hX, hY, List.append_assoc]⟩
/-- where a limit of the hypotheses is passed, the entry will not do -/
def zH (Z : Prop) (base : Nat) (H : List qM) : Prop := (60 < H.length → Z) ∧ (20000 < base + m_tot H → Z) ∧ ∀ M ∈ H, (4000 < (m_fl M).length → Z) ∧ (120 < m_ht M → Z)
theorem zH.pre {Z : Prop} {base : Nat} {H X : List qM} (h : zH Z base (H ++ X)) : zH Z base H := by
  refine ⟨fun z => h.1 (by rw [List.length_append]; omega), fun z => h.2.1 (by rw [m_tot_ap]; omega), fun M hM => h.2.2 M (List.mem_append.mpr (Or.inl hM))⟩
section SQ2
variable {sa : Nat → Nat} {B : Nat} {ρ : hp_L} {P : hp_P} {b : Bool} {n : Nat} {T : Nat → Int32 × Int32 × Int32} {Z : Prop} {G : qT → Prop} {C : sC} {H : List qM} {D : List qS}
theorem sqA.last {sq : List qQ} {fm : Nat} {th : Nat → Nat × Nat × Nat} (h : sqA P sq fm th) : hp_rd P 405 (nI sq.length) = some (nI (sq_rows sq).length) := by
  obtain ⟨a1, a2, a3, a4, ⟨len, l1, l2, l3, l4⟩, a6⟩ := h
  have hl := l4 405 (by decide) (by decide)
  rw [hp_rd_nI (by omega) (by omega), (a6 sq.length (Nat.le_refl _)).1, List.take_length]
/-- the search among the draft's hypotheses -/
theorem ah_loop {f0 d : Nat} {Rb Dr : List (List rwS)} {O : List rwS} (w : hp_w B ρ) (h : rwI P (Rb ++ Dr) O false) (hf0 : 30000 ≤ f0) : ∀ (Y X : List (List rwS)) (f : Nat), Dr = X ++ Y → (∀ r ∈ X, r ≠ O) → Y.length + 1 ≤ f →
    (O ∈ Y ∧ am_go B sa am_dfl (am_call B sa am_dfl am_tb f0 (d + 1)) am_r75 f 21 [(0, .ref (ρ.1 4)), (1, .int (nI (Rb.length + X.length)))] [] (hp_S sa ρ P) = am_v (am_call B sa am_dfl am_tb f0 (d + 1) 57 [.ref (ρ.1 3)] (hp_S sa ρ P)) fun g => some (none, g)) ∨
    (¬ O ∈ Y ∧ ∃ g, am_go B sa am_dfl (am_call B sa am_dfl am_tb f0 (d + 1)) am_r75 f 21 [(0, .ref (ρ.1 4)), (1, .int (nI (Rb.length + X.length)))] [] (hp_S sa ρ P) = am_go B sa am_dfl (am_call B sa am_dfl am_tb f0 (d + 1)) am_r75 (g + 1) 21 [(0, .ref (ρ.1 4)), (1, .int (nI (Rb.length + Dr.length)))] [] (hp_S sa ρ P)) := by
  intro Y
  induction Y with
  | nil =>
    intro X f hD hX hf
    obtain ⟨f, rfl⟩ : ∃ g, f = g + 1 := ⟨f - 1, by omega⟩
    refine Or.inr ⟨List.not_mem_nil, f, ?_⟩
    rw [hD, List.append_nil]
  | cons r Y ih =>
    intro X f hD hX hf
    obtain ⟨f, rfl⟩ : ∃ g, f = g + 1 := ⟨f - 1, by omega⟩
    have hj : (Rb ++ Dr)[Rb.length + X.length]? = some r := by
      rw [List.getElem?_append_right (by omega), Nat.add_sub_cancel_left, hD, List.getElem?_append_right (Nat.le_refl _), Nat.sub_self]
      rfl
    obtain ⟨r1, r2, ⟨W, r3⟩, r4, -⟩ := rw_row h hj
    have hlast : hp_rd P 304 (nI (Rb ++ Dr).length) = some (nI (Rb ++ Dr).flatten.length) := by
      have hc := h.2.2.2.1
      have hRl := rw_len_Rs h.2.2.2.2.2.2.2
      have h20 := h.2.2.2.2.2.1
      rw [hp_rd_nI (by omega) (by omega), h.last]
    have hlen : (Rb ++ Dr).length = Rb.length + Dr.length := List.length_append
    have hlt : Rb.length + X.length < (Rb ++ Dr).length := (List.getElem?_eq_some_iff.mp hj).1
    have hRl := rw_len_Rs h.2.2.2.2.2.2.2
    have h20 := h.2.2.2.2.2.1
    have hge : (nI (Rb ++ Dr).length ≤ nI (Rb.length + X.length)) = False := eq_false (nI_ge hlt (by omega))
    have hs := rw_same (sa := sa) (f := f0) (d := d) w h hf0 r3 (show (Rb ++ Dr).flatten ++ O = (Rb ++ Dr).flatten ++ (O ++ []) by simp) rfl rfl rfl rfl
    have stp : am_go B sa am_dfl (am_call B sa am_dfl am_tb f0 (d + 1)) am_r75 (f + 1) 21 [(0, .ref (ρ.1 4)), (1, .int (nI (Rb.length + X.length)))] [] (hp_S sa ρ P) = if r = O then am_v (am_call B sa am_dfl am_tb f0 (d + 1) 57 [.ref (ρ.1 3)] (hp_S sa ρ P)) fun g => some (none, g) else am_go B sa am_dfl (am_call B sa am_dfl am_tb f0 (d + 1)) am_r75 f 21 [(0, .ref (ρ.1 4)), (1, .int (nI (Rb.length + X.length + 1)))] [] (hp_S sa ρ P) := by
      rw [am_s75_21]
      simp only [ho_402 w, hg_305 w, h.2.2.2.1.1, Option.bind_some, am_c_ge, hge, if_false, hr_304 w, hl_304 w, nI_1, r1, r2, hlast, hg_303 w, h.top, hx_3 w, hs, am_i_some, am_c_eq]
      by_cases e : r = O
      · rw [if_pos e, if_pos e, if_neg (by decide)]
      · rw [if_neg e, if_neg e, if_pos rfl]
    rw [stp]
    by_cases e : r = O
    · rw [if_pos e]
      exact Or.inl ⟨by rw [e]; exact List.mem_cons_self, rfl⟩
    · rw [if_neg e]
      have hl1 : Rb.length + X.length + 1 = Rb.length + (X ++ [r]).length := by rw [List.length_append]; rfl
      have := ih (X ++ [r]) f (by rw [hD]; simp) (fun x hx => by
        rcases List.mem_append.mp hx with z | z
        · exact hX x z
        · rw [List.mem_singleton.mp z]; exact e) (by simp only [List.length_cons] at hf; omega)
      rw [← hl1] at this
      rcases this with ⟨i1, i2⟩ | ⟨i1, i2⟩
      · exact Or.inl ⟨List.mem_cons_of_mem _ i1, i2⟩
      · exact Or.inr ⟨fun z => (List.mem_cons.mp z).elim (fun q => e q.symm) i1, i2⟩
/-- only the last row has changed: what is written goes on -/
theorem wI.rows {P' : hp_P} {Rs Rs' : List (List rwS)} {O O' : List rwS} {b' : Bool} {D' : List qS} {S : Nat → Bool} {ρ' : hp_L} {e : Nat} (h : wI Z G P n T Rs O b D) (fr : hp_fr S e ρ P ρ' P') (hS : ∀ r, 700 ≤ r → r ≤ 708 → S r = false) (hr : rwI P' Rs' O' b') (hs : ∀ s ∈ Rs'.flatten ++ O', s ∈ Rs.flatten ++ O) (h1 : b' = false → O'.map (rt T n) = D') (h2 : b' = true → Z) : wI Z G P' n T Rs' O' b' D' :=
  ⟨h.1.fr fr hS, hr, fun s z => h.2.2.1 s (hs s z), h.2.2.2.1, h1, h2⟩
theorem rw_st_fr {e : Nat} {ρ' : hp_L} {P' : hp_P} (h : hp_fr rw_S e ρ P ρ' P') : hp_fr st_S e ρ P ρ' P' := h.wr.sw
/-- addHypothesis -/
theorem s_hyp0 {f d : Nat} {M : qM} (h : sI Z G B C ρ P n T H (m_fl M) b) (hf : 50000 ≤ f) (hM : m_wf M) (hz : zH Z (m_tot (sq_rows C.2.1)) (hy_add H M)) :
    ∃ (ρ' : hp_L) (P' : hp_P) (b' : Bool), am_call B sa am_dfl am_tb f (d + 4) 75 [.ref (ρ.1 4)] (hp_S sa ρ P) = some (none, hp_S sa ρ' P') ∧ sI Z G B C ρ' P' n T (hy_add H M) [] b' ∧ hp_fr rw_S 0 ρ P ρ' P' ∧ (b' = false → b = false) := by
  obtain ⟨Dr, O, hw, hh⟩ := h.2.2.2.2.2
  have w := h.w
  obtain ⟨f, rfl⟩ : ∃ g, f = g + 1 := ⟨f - 1, by omega⟩
  rw [am_c_75, am_s75_0]
  simp only [ho_402 w, Option.bind_some, rw_flag w hw.2.1, am_c_eq]
  cases b with
  | true =>
    rw [if_neg (by decide)]
    exact ⟨ρ, P, true, rfl, ⟨h.1, h.2.1, h.2.2.1, h.2.2.2.1, h.2.2.2.2.1, Dr, O, hw.badD, fun z => by (cases z)⟩, hp_fr.rf, id⟩
  | false =>
    rw [if_pos (by decide)]
    obtain ⟨hdr, h60⟩ := hh rfl
    have hO := hw.2.2.2.2.1 rfl
    have hle := h.rowsle
    have hb := h.2.2.2.2.1
    have hDl := hdr.len
    have hRl := hb.len
    have a6 := h.2.2.2.1.last
    simp only [hr_405 w, hg_403 w, h.2.2.2.1.1, Option.bind_some, hl_405 w, a6]
    have hwf := hw.1.1.wf
    have hdi := hw.1.1.2.1
    have hn := hw.1.1.n31
    have hOv : ∀ s ∈ O, rv n s := fun s hs => hw.2.2.1 s (List.mem_append.mpr (Or.inr hs))
    have hDv : ∀ r ∈ Dr, ∀ s ∈ r, rv n s := fun r hr s hs => hw.2.2.1 s (List.mem_append.mpr (Or.inl (by rw [List.flatten_append]; exact List.mem_append.mpr (Or.inr (List.mem_flatten.mpr ⟨r, hr, hs⟩)))))
    have hin : O ∈ Dr ↔ M ∈ H := by
      constructor
      · intro z
        have : O.map (rt T n) ∈ Dr.map (fun R => R.map (rt T n)) := List.mem_map.mpr ⟨O, z, rfl⟩
        rw [hdr.1, hO] at this
        obtain ⟨N, n1, n2⟩ := List.mem_map.mp this
        rw [← m_fl_eq (hdr.2 N n1).1 hM n2]
        exact n1
      · intro z
        have : m_fl M ∈ H.map m_fl := List.mem_map.mpr ⟨M, z, rfl⟩
        rw [← hdr.1, ← hO] at this
        obtain ⟨r, r1, r2⟩ := List.mem_map.mp this
        rw [← rt_inj hwf hdi hn (hDv r r1) hOv r2]
        exact r1
    have lp := ah_loop (sa := sa) (f0 := f + 1) (d := d + 2) w hw.2.1 (by omega) Dr [] f (by rfl) (fun r hr => by cases hr) (by omega)
    rw [show C.1.length + ([] : List (List rwS)).length = (sq_rows C.2.1).length by rw [hRl]; rfl] at lp
    rcases lp with ⟨l1, l2⟩ | ⟨l1, g, l2⟩
    · rw [l2, hy_add_y (hin.mp l1)]
      obtain ⟨P1, d1, d2, d3⟩ := rw_drop (sa := sa) (f := f) (d := d + 2) w hw.2.1
      rw [d1, am_v_some]
      exact ⟨ρ, P1, false, rfl, h.nx hw hh w (h.2.1.fr d3 fun r p q => wt_S_rw (wt_en p q)) (hw.rows d3 (fun r p q => rw_S_no p q) d2 (fun s hs => List.mem_append.mpr (Or.inl (by rw [List.append_nil] at hs; exact hs))) (fun _ => rfl) (fun z => by cases z)) (rw_st_fr d3) ty_xt.rf id, d3, fun _ => True.intro⟩
    · have hnM : ¬ M ∈ H := fun z => l1 (hin.mpr z)
      rw [hy_add_n hnM] at hz ⊢
      have hne : O ≠ [] := fun z => by
        rw [z] at hO
        exact m_fl_ne hM hO.symm
      obtain ⟨ρ1, P1, c1, c2, c3, c4⟩ := rw_close (sa := sa) (f := f + 1) (d := d) w hw.2.1 (fun _ => hne) (by omega)
      have c4' : hp_fr st_S 0 ρ P ρ1 P1 := rw_st_fr c4
      have hcnt : (C.1 ++ Dr).length = C.1.length + Dr.length := List.length_append
      have hge : nI (C.1 ++ Dr).length ≤ nI (C.1.length + Dr.length) := by rw [hcnt]; exact Int32.le_refl _
      rw [l2, am_s75_21]
      simp only [ho_402 w, hg_305 w, hw.2.1.2.2.2.1.1, Option.bind_some, am_c_ge]
      rw [if_pos hge]
      simp only [hx_3 w, Option.bind_some, c1, am_v_some]
      rw [w_ob c4 4]
      have sq1 : sqA P1 C.2.1 C.2.2.1 C.2.2.2.1 := h.2.2.2.1.cg fun r a b => ⟨(c4'.2.1 r (st_4 a b)).1, (c4'.2.1 r (st_4 a b)).2.1⟩
      have a6' := sq1.last
      have hlow : rw_low O [] 1 = decide (1 + m_ht M ≤ 121) := by
        rw [← rw_low_map (T := T) (n := n), hO, m_low M hM]
      have hOl : O.length = (m_fl M).length := by rw [← hO, List.length_map]
      have hfl : (C.1 ++ Dr).flatten.length = m_tot (sq_rows C.2.1) + m_tot H := by
        rw [List.flatten_append, List.length_append, flat_tot hb.1, flat_tot hdr.1]
      have e1 : enI P1 n T C.2.2.2.2.2.2.1 C.2.2.2.2.2.2.2 := h.2.1.fr c4 fun r p q => wt_S_rw (wt_en p q)
      by_cases k1 : rw_low O [] 1 = true ∧ (C.1 ++ Dr).flatten.length + O.length ≤ 20000
      · have hc : rw_c (C.1 ++ Dr) O false = (C.1 ++ Dr ++ [O], [], false) := by
          unfold rw_c
          rw [if_neg (by decide), if_pos k1]
        rw [hc] at c3
        dsimp only at c3
        have hH : m_ht M ≤ 120 := by
          have := k1.1
          rw [hlow] at this
          have := of_decide_eq_true this
          omega
        have hnew : rsI n T (Dr ++ [O]) (H ++ [M]) := by
          refine ⟨by rw [List.map_append, List.map_append, hdr.1]; show H.map m_fl ++ [O.map (rt T n)] = _; rw [hO]; rfl, fun N hN => ?_⟩
          rcases List.mem_append.mp hN with z | z
          · exact hdr.2 N z
          · rw [List.mem_singleton.mp z]
            exact ⟨hM, by have := hw.2.1.2.2.2.2.2.2.1; omega, hH⟩
        have hw1 : ∀ (P2 : hp_P) (bb : Bool), hp_fr rw_S 0 ρ P ρ1 P2 → rwI P2 (C.1 ++ (Dr ++ [O])) [] bb → (bb = true → Z) → wI Z G P2 n T (C.1 ++ (Dr ++ [O])) [] bb [] := fun P2 bb fr hr hb => hw.rows fr (fun r p q => rw_S_no p q) hr (fun s hs => by
          rw [List.append_nil, ← List.append_assoc, List.flatten_append] at hs
          simpa using hs) (fun _ => rfl) hb
        rw [List.append_assoc] at c3
        simp only [ho_402 c2, hg_305 c2, c3.2.2.2.1.1, Option.bind_some, hr_405 c2, hg_403 c2, sq1.1, hl_405 c2, a6', am_c_le]
        have hsub : nI (C.1 ++ (Dr ++ [O])).length - nI (sq_rows C.2.1).length = nI (Dr.length + 1) := by
          rw [List.length_append, List.length_append, ← hRl, pk_sub (by omega)]
          congr 1
          show C.1.length + (Dr.length + 1) - C.1.length = _
          omega
        have h60' : (nI (Dr.length + 1) ≤ (60 : Int32)) = (Dr.length + 1 ≤ 60) := by rw [show (60 : Int32) = nI 60 from rfl]; exact propext (nI_leI (by omega) (by omega))
        rw [hsub]
        simp only [h60']
        have hx := fun (P2 : hp_P) (bb : Bool) (fr : hp_fr rw_S 0 ρ P ρ1 P2) (hr : rwI P2 (C.1 ++ (Dr ++ [O])) [] bb) (hb1 : bb = true → Z) (hb2 : bb = false → (H ++ [M]).length ≤ 60) => (show ∃ (ρ' : hp_L) (P' : hp_P) (b' : Bool), some ((none : Option Value), hp_S sa ρ1 P2) = some (none, hp_S sa ρ' P') ∧ sI Z G B C ρ' P' n T (H ++ [M]) [] b' ∧ hp_fr rw_S 0 ρ P ρ' P' ∧ (b' = false → True) from
          have fr' : hp_fr st_S 0 ρ P ρ1 P2 := rw_st_fr fr
          ⟨ρ1, P2, bb, rfl, ⟨c2, h.2.1.fr fr fun r p q => wt_S_rw (wt_en p q), h.2.2.1.fr fr' fun r a b => st_5 a (by omega), h.2.2.2.1.cg fun r a b => ⟨(fr'.2.1 r (st_4 a b)).1, (fr'.2.1 r (st_4 a b)).2.1⟩, hb, Dr ++ [O], [], hw1 P2 bb fr hr hb1, fun z => ⟨hnew, hb2 z⟩⟩, fr, fun _ => True.intro⟩)
        by_cases k2 : Dr.length + 1 ≤ 60
        · rw [if_pos k2]
          exact hx P1 false c4 c3 (fun z => by cases z) (fun _ => by rw [List.length_append, ← hDl]; exact k2)
        · rw [if_neg k2]
          have i1 : ((1 : Int32) = 0 ∨ (1 : Int32) = 1) = True := eq_true (Or.inr rfl)
          simp only [i1, if_true, hs_306 c2, Option.bind_some]
          exact hx (hp_sI P1 306 1) true (hp_fr.tr0 c4 (hp_fr.sI (rw_S_t (by decide)))) c3.bad (fun _ => hz.1 (by rw [List.length_append, ← hDl]; show 60 < Dr.length + 1; omega)) (fun z => by cases z)
      · have hc : rw_c (C.1 ++ Dr) O false = (C.1 ++ Dr, O, true) := by
          unfold rw_c
          rw [if_neg (by decide), if_neg k1]
        rw [hc] at c3
        dsimp only at c3
        have hZ : Z := by
          by_cases k2 : rw_low O [] 1 = true
          · refine hz.2.1 ?_
            rw [m_tot_ap]
            have : m_tot [M] = (m_fl M).length := by unfold m_tot; simp
            have : ¬ (C.1 ++ Dr).flatten.length + O.length ≤ 20000 := fun z => k1 ⟨k2, z⟩
            omega
          · refine (hz.2.2 M (List.mem_append.mpr (Or.inr (List.mem_singleton.mpr rfl)))).2 ?_
            rw [hlow] at k2
            have : ¬ 1 + m_ht M ≤ 121 := fun z => k2 (decide_eq_true z)
            omega
        simp only [ho_402 c2, hg_305 c2, c3.2.2.2.1.1, Option.bind_some, hr_405 c2, hg_403 c2, sq1.1, hl_405 c2, a6', am_c_le]
        have hsub : nI (C.1 ++ Dr).length - nI (sq_rows C.2.1).length = nI Dr.length := by
          rw [List.length_append, ← hRl, pk_sub (by omega), Nat.add_sub_cancel_left]
        rw [hsub, if_pos (by rw [show (60 : Int32) = nI 60 from rfl]; exact nI_le (by omega) (by omega))]
        exact ⟨ρ1, P1, true, rfl, ⟨c2, e1, h.2.2.1.fr c4' fun r a b => st_5 a (by omega), sq1, hb, Dr, O, hw.rows c4 (fun r p q => rw_S_no p q) c3 (fun s hs => hs) (fun z => by cases z) (fun _ => hZ), fun z => by (cases z)⟩, c4, fun z => by (cases z)⟩
theorem s_hyp {f d : Nat} {M : qM} (h : sI Z G B C ρ P n T H (m_fl M) b) (hf : 50000 ≤ f) (hM : m_wf M) (hz : zH Z (m_tot (sq_rows C.2.1)) (hy_add H M)) :
    sX Z G B sa C ρ P n T b (am_call B sa am_dfl am_tb f (d + 4) 75 [.ref (ρ.1 4)] (hp_S sa ρ P)) none (hy_add H M) [] := by
  obtain ⟨ρ', P', b', a1, a2, a3, a4⟩ := s_hyp0 (sa := sa) (f := f) (d := d) h hf hM hz
  exact ⟨ρ', P', n, T, b', a1, a2, rw_st_fr a3, ty_xt.rf, a4⟩
theorem sX.tr {ρ' : hp_L} {P' : hp_P} {n' : Nat} {T' : Nat → Int32 × Int32 × Int32} {b' : Bool} {x : Option (Option Value × am_S)} {r : Option Value} (h : sX Z G B sa C ρ' P' n' T' b' x r H D) (fr : hp_fr st_S 0 ρ P ρ' P') (xt : ty_xt n T n' T') (hb : b' = false → b = false) : sX Z G B sa C ρ P n T b x r H D := by
  obtain ⟨ρ2, P2, n2, T2, b2, a1, a2, a3, a4, a5⟩ := h
  exact ⟨ρ2, P2, n2, T2, b2, a1, a2, hp_fr.tr0 fr a3, xt.tr a4, fun z => hb (a5 z)⟩
/-- join of a sequent's hypotheses, but for those like a row -/
theorem s_join_loop {f0 d a o : Nat} {s : qQ} {e : Option qM} {but : Int32} (hf0 : 50000 ≤ f0) (hg : ¬ q_good G → Z) (ha : C.2.1[a]? = some s) (hbut : (but = -1 ∧ e = none) ∨ ∃ j E, but = nI j ∧ j < 2 ^ 31 ∧ (sq_rows C.2.1)[j]? = some E ∧ e = some E) : ∀ (L X : List qM) (f : Nat) (ρ : hp_L) (P : hp_P) (n : Nat) (T : Nat → Int32 × Int32 × Int32) (H : List qM) (b : Bool), ρ.1 4 = o → sI Z G B C ρ P n T H [] b → s.1 = X ++ L → zH Z (m_tot (sq_rows C.2.1)) (hy_join e H L) → L.length + 1 ≤ f →
    sX Z G B sa C ρ P n T b (am_go B sa am_dfl (am_call B sa am_dfl am_tb f0 (d + 4)) am_r74 f 7 [(0, .ref o), (1, .int (nI a)), (2, .int but), (3, .int (nI (sq_k C.2.1 a + X.length)))] [] (hp_S sa ρ P)) none (hy_join e H L) [] := by
  obtain ⟨f0, rfl⟩ : ∃ g, f0 = g + 1 := ⟨f0 - 1, by omega⟩
  intro L
  induction L with
  | nil =>
    intro X f ρ P n T H b ho h hs hz hf
    obtain ⟨f, rfl⟩ : ∃ g, f = g + 1 := ⟨f - 1, by omega⟩
    subst ho
    rw [List.append_nil] at hs
    rw [am_s74_7]
    simp only [hx_4 h.w, Option.bind_some, sq_conc h ha, am_i_some, am_c_ge]
    rw [hs, if_pos (Int32.le_refl _)]
    exact ⟨ρ, P, n, T, b, rfl, h, hp_fr.rf, ty_xt.rf, id⟩
  | cons M L ih =>
    intro X f ρ P n T H b ho h hs hz hf
    obtain ⟨f, rfl⟩ : ∃ g, f = g + 1 := ⟨f - 1, by omega⟩
    subst ho
    have hk := (h.first ha).2.2.1
    have hsl : s.1.length = X.length + (L.length + 1) := by rw [hs]; simp
    have hge : (nI (sq_k C.2.1 a + s.1.length) ≤ nI (sq_k C.2.1 a + X.length)) = False := eq_false (nI_ge (by omega) (by omega))
    obtain ⟨Dr, O, hw, hh⟩ := h.2.2.2.2.2
    have w := h.w
    have hfl := rw_flag (sa := sa) w hw.2.1
    rw [am_s74_7]
    simp only [hx_4 w, Option.bind_some, sq_conc h ha, am_i_some, am_c_ge, hge, if_false, ho_402 w, hfl, am_c_ne, am_c_eq]
    cases b with
    | true =>
      rw [if_pos (by decide)]
      exact ⟨ρ, P, n, T, true, rfl, ⟨h.1, h.2.1, h.2.2.1, h.2.2.2.1, h.2.2.2.2.1, Dr, O, hw, fun z => by (cases z)⟩, hp_fr.rf, ty_xt.rf, id⟩
    | false =>
      rw [if_neg (by decide)]
      have hi : s.1[X.length]? = some M := by rw [hs, List.getElem?_append_right (Nat.le_refl _), Nat.sub_self]; rfl
      have hrow := sq_hyp ha hi
      obtain ⟨A, R, q1, q2, q3, q4, q5, q6⟩ := h.row hrow
      have hmem : M ∈ sq_rows C.2.1 := List.mem_of_getElem? hrow
      obtain ⟨m1, m2, m3⟩ := h.2.2.2.2.1.2 M hmem
      rw [hy_join_c] at hz ⊢
      have hX1 : (X ++ [M]).length = X.length + 1 := by simp
      -- the row is joined
      have doit : e ≠ some M → sX Z G B sa C ρ P n T false ((am_getr (hp_S sa ρ P) (ρ.1 4) 4 2).bind fun p4 => (am_getr (hp_S sa ρ P) (ρ.1 4) 4 2).bind fun p5 => (am_getr (hp_S sa ρ P) p5 3 4).bind fun p6 => (am_iald (hp_S sa ρ P) p6 (nI (sq_k C.2.1 a + X.length))).bind fun v7 => (am_getr (hp_S sa ρ P) (ρ.1 4) 4 2).bind fun p8 => (am_getr (hp_S sa ρ P) p8 3 4).bind fun p9 => (am_iald (hp_S sa ρ P) p9 (nI (sq_k C.2.1 a + X.length) + 1)).bind fun v10 => (am_obj (hp_S sa ρ P) p4 3).bind fun _ => am_v (am_call B sa am_dfl am_tb (f0 + 1) (d + 4) 54 [.ref p4, .int v7, .int v10] (hp_S sa ρ P)) fun g11 => (am_obj g11 (ρ.1 4) 4).bind fun _ => am_v (am_call B sa am_dfl am_tb (f0 + 1) (d + 4) 75 [.ref (ρ.1 4)] g11) fun g12 => am_go B sa am_dfl (am_call B sa am_dfl am_tb (f0 + 1) (d + 4)) am_r74 f 7 [(0, .ref (ρ.1 4)), (1, .int (nI a)), (2, .int but), (3, .int (nI (sq_k C.2.1 a + X.length) + 1))] [] g12) none (hy_join e (@ite _ (e = some M) (Classical.propDecidable _) H (hy_add H M)) L) [] := by
        intro hne
        rw [if_neg hne] at hz ⊢
        obtain ⟨Y, hY⟩ := hy_join_pre (e := e) (L := L) (H := hy_add H M)
        have hzM : zH Z (m_tot (sq_rows C.2.1)) (hy_add H M) := by rw [hY] at hz; exact hz.pre
        obtain ⟨ρ1, P1, n1, T1, b1, a1, a2, a3, a4, a5⟩ := s_copy (sa := sa) (f := f0 + 1) (d := d) h (by omega) q1 hg (fun z => by rw [List.nil_append] at z; omega) rfl rfl
        rw [List.nil_append] at a2
        obtain ⟨ρ2, P2, n2, T2, b2, c1, c2, c3, c4, c5⟩ := s_hyp (sa := sa) (f := f0 + 1) (d := d) a2 (by omega) m1 hzM
        have i1 := ih (X ++ [M]) f ρ2 P2 n2 T2 (hy_add H M) b2 (by rw [c3.1, a3.1]) c2 (by rw [hs]; simp) hz (by simp only [List.length_cons] at hf; omega)
        rw [hX1] at i1
        simp only [ho_402 w, hr_304 w, hl_304 w, nI_1, q2, q3, Option.bind_some, hx_3 w, a1, am_v_some]
        rw [w_ob a3 4]
        simp only [hx_4 a2.w, Option.bind_some, c1, am_v_some]
        rw [w_ob a3 4] at i1
        exact i1.tr (hp_fr.tr0 a3 c3) (a4.tr c4) (fun z => rfl)
      rcases hbut with ⟨e1, e2⟩ | ⟨j, E, e1, e3, e4, e2⟩
      · rw [if_pos e1]
        have := doit (by rw [e2]; intro z; cases z)
        simp only [ho_402 w, Option.bind_some] at this ⊢
        exact this
      · rw [if_neg (by rw [e1]; exact nI_ne_m1 e3)]
        obtain ⟨A', R', -, -, -, -, q5', -⟩ := h.row e4
        have qa : (C.1 ++ Dr)[sq_k C.2.1 a + X.length]? = some R := by rw [List.getElem?_append_left (List.getElem?_eq_some_iff.mp q5).1]; exact q5
        have qb : (C.1 ++ Dr)[j]? = some R' := by rw [List.getElem?_append_left (List.getElem?_eq_some_iff.mp q5').1]; exact q5'
        have hsr := rw_sameRows (sa := sa) (f := f0 + 1) (d := d + 2) w hw.2.1 (by omega) qa qb
        simp only [hx_3 w, Option.bind_some, e1, hsr, am_i_some]
        obtain ⟨L1, x1, x2⟩ := h.2.2.2.2.1.at hrow
        obtain ⟨L2, y1, y2⟩ := h.2.2.2.2.1.at e4
        have r1 : R = L1 := Option.some.inj (q5.symm.trans x1)
        have r2 : R' = L2 := Option.some.inj (q5'.symm.trans y1)
        have hmE := (h.2.2.2.2.1.2 E (List.mem_of_getElem? e4)).1
        have hvv : ∀ {k : Nat} {L : List rwS}, C.1[k]? = some L → ∀ s ∈ L, rv n s := fun hk s hs => hw.2.2.1 s (List.mem_append.mpr (Or.inl (by rw [List.flatten_append]; exact List.mem_append.mpr (Or.inl (List.mem_flatten.mpr ⟨_, List.mem_of_getElem? hk, hs⟩)))))
        have heq : R = R' ↔ e = some M := by
          rw [e2, r1, r2]
          constructor
          · intro z
            rw [z, y2] at x2
            rw [m_fl_eq hmE m1 x2]
          · intro z
            have : E = M := Option.some.inj z
            rw [this, ← x2] at y2
            exact (rt_inj hw.1.1.wf hw.1.1.2.1 hw.1.1.n31 (hvv y1) (hvv x1) y2).symm
        by_cases k : R = R'
        · rw [if_pos k, if_pos (show (1 : Int32) ≠ 0 by decide)]
          rw [if_pos (heq.mp k)] at hz ⊢
          have i1 := ih (X ++ [M]) f ρ P n T H false rfl h (by rw [hs]; simp) hz (by simp only [List.length_cons] at hf; omega)
          rw [hX1] at i1
          rw [nI_1]
          rw [e1] at i1
          exact i1
        · rw [if_neg k, if_neg (fun z => z rfl)]
          have := doit (fun z => k (heq.mpr z))
          simp only [ho_402 w, Option.bind_some, e1] at this ⊢
          exact this
theorem s_join {f d a : Nat} {s : qQ} {e : Option qM} {but : Int32} (h : sI Z G B C ρ P n T H [] b) (hf : 50000 ≤ f) (hg : ¬ q_good G → Z) (ha : C.2.1[a]? = some s) (hbut : (but = -1 ∧ e = none) ∨ ∃ j E, but = nI j ∧ j < 2 ^ 31 ∧ (sq_rows C.2.1)[j]? = some E ∧ e = some E) (hz : zH Z (m_tot (sq_rows C.2.1)) (hy_join e H s.1)) :
    sX Z G B sa C ρ P n T b (am_call B sa am_dfl am_tb f (d + 5) 74 [.ref (ρ.1 4), .int (nI a), .int but] (hp_S sa ρ P)) none (hy_join e H s.1) [] := by
  have hk := (h.first ha)
  obtain ⟨f, rfl⟩ : ∃ g, f = g + 1 := ⟨f - 1, by omega⟩
  rw [am_c_74, am_s74_0]
  simp only [hr_405 h.w, hl_405 h.w, hk.1, Option.bind_some]
  exact s_join_loop (f0 := f + 1) (d := d) (by omega) hg ha hbut s.1 [] f ρ P n T H b rfl h rfl hz (by omega)
end SQ2
