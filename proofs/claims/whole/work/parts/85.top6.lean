/-! TRACEJUDGE, the class: symbol, typeSymbol, say, cut -/
section T6
variable {sa : Nat → Nat} {B : Nat} {ρ ρ' : hp_L} {P P' : hp_P} {n : Nat} {T : Nat → Int32 × Int32 × Int32} {C : sC} {S : qT → Prop} {A : sV} {th : Nat → (qT → Prop) × Nat × Nat} {ws : List Int32} {flt : Int32}
theorem sy_inj {sq : List qQ} {a i k : Int32} {q q' : qS} (h : sy_at sq a i k q) (h' : sy_at sq a i k q') : q = q' := by
  obtain ⟨s, X, kk, h1, h2, h3, h4, h5⟩ := h
  obtain ⟨s', X', kk', g1, g2, g3, g4, g5⟩ := h'
  obtain rfl := en_at_inj h1 g1
  have : kk = kk' := (nI_eq h4 g4).mp (h3.symm.trans g3)
  subst this
  have : X = X' := by
    rcases h2 with ⟨e, rfl⟩ | ⟨j, e1, e2, e3⟩ <;> rcases g2 with ⟨e', rfl⟩ | ⟨j', e1', e2', e3'⟩
    · rfl
    · rw [e] at e1'; exact absurd e1'.symm (nI_ne_m1 e2')
    · rw [e'] at e1; exact absurd e1.symm (nI_ne_m1 e2)
    · have := (nI_eq e2 e2').mp (e1.symm.trans e1')
      subst this
      rw [e3] at e3'
      exact Option.some.inj e3'
  subst this
  rw [h5] at g5
  exact Option.some.inj g5
/-- symbol -/
theorem t_symbol {f d : Nat} {a i k : Int32} {q : qS} (h : tI B sa S A ws flt ρ P) (hf : 10 ≤ f) (hq : sy_at A.1 a i k q) : am_call B sa am_dfl am_tb f (d + 4) 112 [.ref (ρ.1 8), .int a, .int i, .int k] (hp_S sa ρ P) = some (some (.int q.1), hp_S sa ρ P) := by
  obtain ⟨C, n, T, h1, h2, h3, h4, h5, h6⟩ := h
  rw [h2] at hq
  have w := h1.w
  have pl := t_place (sa := sa) (f := f) (d := d) (a := a) (i := i) (k := k) h1 hf
  obtain ⟨f, rfl⟩ : ∃ g, f = g + 1 := ⟨f - 1, by omega⟩
  rcases pl with ⟨q', kk, p1, p2, p3, p4, p5⟩ | ⟨p1, p2⟩
  · obtain rfl := sy_inj p1 hq
    rw [am_c_112, am_s112_0]
    simp only [ho_804 w, hx_4 w, Option.bind_some, p2, am_i_some, am_c_ne]
    rw [if_pos (nI_ne_m1 (by omega))]
    simp only [ho_803 w, hr_301 w, hl_301 w, p4, Option.bind_some]
  · exact absurd hq (p1 q)
/-- placeOf, where there is no symbol -/
theorem t_place_no {f d : Nat} {a i k : Int32} (h : tI B sa S A ws flt ρ P) (hf : 10 ≤ f) (hq : ∀ q, ¬ sy_at A.1 a i k q) : am_call B sa am_dfl am_tb f (d + 3) 71 [.ref (ρ.1 4), .int a, .int i, .int k] (hp_S sa ρ P) = some (some (.int (-1)), hp_S sa ρ P) := by
  obtain ⟨C, n, T, h1, h2, h3, h4, h5, h6⟩ := h
  rw [h2] at hq
  rcases t_place (sa := sa) (f := f) (d := d) (a := a) (i := i) (k := k) h1 hf with ⟨q', kk, p1, p2⟩ | ⟨p1, p2⟩
  · exact absurd p1 (hq q')
  · exact p2
/-- what typeSymbol reads first, where there is a symbol -/
theorem t_place_ty {f d : Nat} {a i k : Int32} {q : qS} (h : tI B sa S A ws flt ρ P) (hI : aI S A) (hf : 300 ≤ f) (hq : sy_at A.1 a i k q) :
    ∃ kk v, am_call B sa am_dfl am_tb f (d + 3) 71 [.ref (ρ.1 4), .int a, .int i, .int k] (hp_S sa ρ P) = some (some (.int (nI kk)), hp_S sa ρ P) ∧ kk < 20000 ∧ hp_rd P 302 (nI kk) = some v ∧ hp_rd P 703 v = some (nI (q_sz q.2)) ∧ q_sz q.2 ≤ 200 ∧ ∀ d' p, p < q_sz q.2 → am_call B sa am_dfl am_tb f (d' + 1) 10 [.ref (ρ.1 7), .int v, .int (nI p)] (hp_S sa ρ P) = some (some (.int ((q_fl q.2)[p]?.getD 0)), hp_S sa ρ P) := by
  obtain ⟨C, n, T, h1, h2, h3, h4, h5, h6⟩ := h
  rw [h2] at hq hI
  have w := h1.w
  obtain ⟨hark, har⟩ := t_har h1 h3 hI
  rcases t_place (sa := sa) (f := f) (d := d) (a := a) (i := i) (k := k) h1 (by omega) with ⟨q', kk, p1, p2, p3, p4, v, p5, x, x1, x2, x3⟩ | ⟨p1, p2⟩
  · obtain rfl := sy_inj p1 hq
    subst x2
    have y := h1.y.1
    have hx := y.1.2.2 x x1
    have e : ct T n (nI x) = q'.2 := x3
    have hlt : q_sz (ct T n (nI x)) ≤ 200 := by rw [ct_sz]; exact hx.2.2.1
    obtain ⟨len, l1, l2, l3, l4, l5, l6, -⟩ := y.1.1.2.1
    refine ⟨kk, nI x, p2, p3, p5, ?_, by rw [← e]; exact hlt, fun d' p hp => ?_⟩
    · rw [hp_rd_nI (by omega) (by have := y.n31; omega), hx.1, ← e, ct_sz]
    · rw [← e] at hp ⊢
      exact ty_codeAt w y.1 har (by omega) x1 hp
  · exact absurd hq (p1 q)
/-- typeSymbol -/
theorem t_tsymbol {f d p : Nat} {a i k : Int32} {q : qS} (h : tI B sa S A ws flt ρ P) (hI : aI S A) (hf : 300 ≤ f) (hq : sy_at A.1 a i k q) (hp : p < q_sz q.2) : am_call B sa am_dfl am_tb f (d + 4) 113 [.ref (ρ.1 8), .int a, .int i, .int k, .int (nI p)] (hp_S sa ρ P) = some (some (.int ((q_fl q.2)[p]?.getD 0)), hp_S sa ρ P) := by
  obtain ⟨kk, v, a1, a2, a3, a4, a5, a6⟩ := t_place_ty (sa := sa) (f := f) (d := d) h hI hf hq
  obtain ⟨C, n, T, h1, -⟩ := h
  have w := h1.w
  obtain ⟨f, rfl⟩ : ∃ g, f = g + 1 := ⟨f - 1, by omega⟩
  rw [am_c_113, am_s113_0]
  simp only [ho_804 w, hx_4 w, Option.bind_some, a1, am_i_some, am_c_eq, am_c_lt]
  rw [if_neg (nI_ne_m1 (by omega)), if_neg (nI_pos (by omega))]
  simp only [ho_800 w, hr_703 w, ho_803 w, hr_302 w, hl_302 w, a3, hl_703 w, a4, Option.bind_some]
  rw [if_pos (nI_lt hp (by omega))]
  simp only [hx_7 w, Option.bind_some, a6 _ p hp, am_i_some]
/-- the roles of what was said -/
def sy_S : Nat → Bool := fun r => decide (807 ≤ r ∧ r ≤ 808)
/-- say -/
theorem t_say {f d : Nat} {x : Int32} (h : tI B sa S A ws flt ρ P) (hl : ws.length ≤ 900) : ∃ ρ' P', am_call B sa am_dfl am_tb (f + 1) (d + 3) 107 [.ref (ρ.1 8), .int x] (hp_S sa ρ P) = some (some (.int 1), hp_S sa ρ' P') ∧ tI B sa S A (ws ++ [x]) flt ρ' P' ∧ hp_w B ρ' ∧ hp_fr sy_S 0 ρ P ρ' P' := by
  obtain ⟨C, n, T, h1, h2, h3, h4, h5, h6⟩ := h
  have w := h1.w
  have key : ∀ {ρ' : hp_L} {P' : hp_P}, hp_w B ρ' → hp_fr sy_S 0 ρ P ρ' P' → saI P' (ws ++ [x]) → tI B sa S A (ws ++ [x]) flt ρ' P' := fun w' fr hs => ⟨C, n, T, h1.fr w' fr fun r _ b => decide_eq_false (by omega), h2, h3, h4.fr fr (by rw [(fr.2.1 3 rfl).2.1]; exact h4.2.2.1) (by rw [(fr.2.1 4 rfl).2.1]; exact h4.2.2.2), hs, by rw [(fr.2.1 809 rfl).1]; exact h6⟩
  rw [am_c_107, am_s107_0]
  obtain ⟨s1, s2, s3, s4, s5⟩ := h5
  have hal : am_alen (hp_S sa ρ P) (ρ.2.1 807) = some (nI (P.2 807).1) := by rw [hp_alen w (by decide)]; rfl
  simp only [hg_808 w, s1, Option.bind_some, am_c_lt, hr_807 w, hal, am_c_ne]
  rw [show (20000 : Int32) = nI 20000 from rfl, if_pos (nI_lt (a := ws.length) (b := 20000) (by omega) (by omega))]
  have push : ∀ {ρ' : hp_L} {P' : hp_P}, P'.1 808 = nI ws.length → ws.length < (P'.2 807).1 → 64 ≤ (P'.2 807).1 → (P'.2 807).1 ≤ 40000 → (∀ j y, ws[j]? = some y → (P'.2 807).2 j = y) → saI (hp_sI (hp_sA P' 807 (nI ws.length) x) 808 (nI (ws.length + 1))) (ws ++ [x]) := by
    intro ρ' P' a1 a2 a3 a4 a5
    refine ⟨by rw [hI_eq, List.length_append]; rfl, by rw [hI_A, hA_len, List.length_append]; exact a2, by rw [hI_A, hA_len]; exact a3, by rw [hI_A, hA_len]; exact a4, fun j y hj => ?_⟩
    rw [hI_A, hA_eq, nI_clamp (by omega)]
    show upd _ _ _ j = y
    rcases rw_push_g hj with z | ⟨z1, z2⟩
    · have : j < ws.length := (List.getElem?_eq_some_iff.mp z).1
      rw [pk_un (by omega)]
      exact a5 j y z
    · rw [z1, z2, pk_us]
  by_cases e : ws.length = (P.2 807).1
  · rw [if_neg (fun z => z (by rw [e]))]
    have w1 : hp_w B (ty_g1 (P.2 807).1 807 (ρ, P)).1 := ty_g1_w w (by decide)
    have ck : hp_ck (ty_g1 (P.2 807).1 807 (ρ, P)).2 807 (nI ws.length) = some () := hp_ck_nI (by show ws.length < 2 * (P.2 807).1; omega) (by omega)
    have i3 : (ty_g1 (P.2 807).1 807 (ρ, P)).2.1 808 = nI ws.length := s1
    have sg : saI (hp_sI (hp_sA (ty_g1 (P.2 807).1 807 (ρ, P)).2 807 (nI ws.length) x) 808 (nI (ws.length + 1))) (ws ++ [x]) := push (ρ' := ρ) i3 (by show ws.length < 2 * (P.2 807).1; omega) (by show 64 ≤ 2 * (P.2 807).1; omega) (by show 2 * (P.2 807).1 ≤ 40000; omega) fun j y hj => by
      have : j < ws.length := (List.getElem?_eq_some_iff.mp hj).1
      show hp_ext (P.2 807) j = y
      rw [hp_ext_lt (by omega)]
      exact s5 j y hj
    have fr : hp_fr sy_S 0 ρ P (ty_g1 (P.2 807).1 807 (ρ, P)).1 (hp_sI (hp_sA (ty_g1 (P.2 807).1 807 (ρ, P)).2 807 (nI ws.length) x) 808 (nI (ws.length + 1))) := hp_fr.tr0 (hp_fr.grow w (by decide) (by decide) rfl (by omega)) (hp_fr.tr0 (hp_fr.sA (by decide)) (hp_fr.sI (by decide)))
    refine ⟨_, _, ?_, key w1 fr sg, w1, fr⟩
    rw [hp_longer w (show 807 ∈ hp_rs by decide) rfl (by omega) (by omega), am_p_some, hd_807 w, Option.bind_some]
    show ((am_getr (hp_S sa (ty_g1 (P.2 807).1 807 (ρ, P)).1 (ty_g1 (P.2 807).1 807 (ρ, P)).2) ((ty_g1 (P.2 807).1 807 (ρ, P)).1.1 8) 8 7).bind fun p13 => (am_geti (hp_S sa (ty_g1 (P.2 807).1 807 (ρ, P)).1 (ty_g1 (P.2 807).1 807 (ρ, P)).2) ((ty_g1 (P.2 807).1 807 (ρ, P)).1.1 8) 8 8).bind fun v14 => (am_iast B (hp_S sa (ty_g1 (P.2 807).1 807 (ρ, P)).1 (ty_g1 (P.2 807).1 807 (ρ, P)).2) p13 v14 x).bind fun g15 => (am_geti g15 ((ty_g1 (P.2 807).1 807 (ρ, P)).1.1 8) 8 8).bind fun v16 => (am_put B g15 ((ty_g1 (P.2 807).1 807 (ρ, P)).1.1 8) 8 8 (.int (v16 + 1))).bind fun g17 => am_rz 1 g17) = _
    simp only [hr_807 w1, hg_808 w1, Option.bind_some, i3, ht_807 w1, ck, hA_I, hs_808 w1, nI_1, am_rz_1]
  · rw [if_pos (fun z => e ((nI_eq (by omega) (by omega)).mp z))]
    have ck : hp_ck P 807 (nI ws.length) = some () := hp_ck_nI (by omega) (by omega)
    have fr : hp_fr sy_S 0 ρ P ρ (hp_sI (hp_sA P 807 (nI ws.length) x) 808 (nI (ws.length + 1))) := hp_fr.tr0 (hp_fr.sA (by decide)) (hp_fr.sI (by decide))
    refine ⟨ρ, _, ?_, key w fr (push (ρ' := ρ) s1 (by omega) s3 s4 s5), w, fr⟩
    simp only [ht_807 w, ck, Option.bind_some, hg_808 w, hA_I, s1, hs_808 w, nI_1, am_rz_1]
/-- fewer types: fewer places -/
theorem ct_S_le {m m' : Nat} (hw : ty_wf T n) (hd : ty_di T n) (hn : n < 2 ^ 31) (h1 : m ≤ n) (h2 : m' ≤ n) (h : ∀ t, ct_S T m t → ct_S T m' t) : m ≤ m' := by
  refine Nat.le_of_not_lt fun z => ?_
  have hw' : ty_wf T m := fun j hj => hw j (by omega)
  have e : ct T n (nI m') = ct T m (nI m') := ct_ext hw' (fun _ _ => rfl) (by omega) h1 (Or.inr ⟨m', z, rfl⟩)
  have p : pl n T (nI m') (ct T m (nI m')) := ⟨m', by omega, rfl, e⟩
  obtain ⟨x, x1, x2, -⟩ := pl_cut p h2 hw hd hn (h _ ⟨m', z, rfl⟩)
  have := (nI_eq (by omega) (by omega)).mp x2
  omega
theorem hp_fr.rc {e : Nat} (h : hp_fr rw_S e ρ P ρ' P') : hp_fr cl_S e ρ P ρ' P' := h.weaken fun r h => wt_S_rw (st_S_w (cl_st h))
/-- types and entries as they were then, fewer sequents -/
theorem t_cutc {f d j : Nat} (h : cI B C ρ P n T) (hR : cR S th C n T) (hI : aI S (cV C th)) (h1 : C.2.2.1 ≤ j) (h2 : j ≤ C.2.1.length) (hf : 10000 ≤ f) :
    ∃ Pa Pb, hp_rd P 406 (nI j) = some (nI (C.2.2.2.1 j).1) ∧ am_call B sa am_dfl am_tb f (d + 2) 7 [.ref (ρ.1 7), .int (nI (C.2.2.2.1 j).1)] (hp_S sa ρ P) = some (none, hp_S sa ρ Pa) ∧ hp_rd Pa 407 (nI j) = some (nI (C.2.2.2.1 j).2.1) ∧ hp_rd Pa 408 (nI j) = some (nI (C.2.2.2.1 j).2.2) ∧ am_call B sa am_dfl am_tb f (d + 2) 30 [.ref (ρ.1 1), .int (nI (C.2.2.2.1 j).2.1), .int (nI (C.2.2.2.1 j).2.2)] (hp_S sa ρ Pa) = some (none, hp_S sa ρ (hp_sI (hp_sI Pa 103 (nI (C.2.2.2.1 j).2.1)) 111 (nI (C.2.2.2.1 j).2.2))) ∧ am_call B sa am_dfl am_tb f (d + 2) 73 [.ref (ρ.1 4), .int (nI j)] (hp_S sa ρ (hp_sI (hp_sI Pa 103 (nI (C.2.2.2.1 j).2.1)) 111 (nI (C.2.2.2.1 j).2.2))) = some (none, hp_S sa ρ Pb) ∧ cI B (c_cut C j (C.2.2.2.1 j).2.1 (C.2.2.2.1 j).2.2) ρ Pb (C.2.2.2.1 j).1 T ∧ hp_fr cl_S 0 ρ P ρ Pb ∧ cR (th j).1 th (c_cut C j (C.2.2.2.1 j).2.1 (C.2.2.2.1 j).2.2) (C.2.2.2.1 j).1 T := by
  obtain ⟨f, rfl⟩ : ∃ g, f = g + 2 := ⟨f - 2, by omega⟩
  have w := h.w
  obtain ⟨⟨r1, r1'⟩, r2⟩ := hR.2 j h1 h2
  obtain ⟨g1, g2, g3, g4⟩ := hI.2.2.2.2.2.2.2.2.2.1 j h1 h2
  have hu := h.u
  obtain ⟨-, he, hsg, hsq, hrs, y, hrw, hv⟩ := h
  have g1 : aG (th j).1 (C.2.1.take j) C.2.2.2.2.2.1 (C.2.2.2.2.2.2.1.take (th j).2.1) (C.2.2.2.2.2.2.2.take (th j).2.2) := g1
  have g2 : (th j).2.1 ≤ C.2.2.2.2.2.2.1.length := g2
  have g3 : (th j).2.2 ≤ C.2.2.2.2.2.2.2.length := g3
  obtain ⟨a1, a2, a3, a4, ⟨len, l1, l2, l3, l4⟩, a5⟩ := hsq
  obtain ⟨b1, b2, b3, b4⟩ := a5 j h2
  have hsq : sqA P C.2.1 C.2.2.1 C.2.2.2.1 := ⟨a1, a2, a3, a4, ⟨len, l1, l2, l3, l4⟩, a5⟩
  obtain ⟨Pa, p1, p2, p3⟩ := ty_short (sa := sa) (f := f + 2) (d := d) w y r1 r1' (by omega)
  have k2 : ∀ r, ty_S r = false → Pa.1 r = P.1 r ∧ Pa.2 r = P.2 r := fun r h => ⟨(p3.2.1 r h).1, (p3.2.1 r h).2.1⟩
  have hsqa : sqA (hp_sI (hp_sI Pa 103 (nI (C.2.2.2.1 j).2.1)) 111 (nI (C.2.2.2.1 j).2.2)) C.2.1 C.2.2.1 C.2.2.2.1 := hsq.cg fun r a b => ⟨by rw [hI_ne (by omega), hI_ne (by omega)]; exact (k2 r (decide_eq_false (by omega))).1, (k2 r (decide_eq_false (by omega))).2⟩
  have hrwa : rwI (hp_sI (hp_sI Pa 103 (nI (C.2.2.2.1 j).2.1)) 111 (nI (C.2.2.2.1 j).2.2)) C.1 [] false := hrw.cg fun r a b => ⟨by rw [hI_ne (by omega), hI_ne (by omega)]; exact (k2 r (decide_eq_false (by omega))).1, (k2 r (decide_eq_false (by omega))).2⟩
  obtain ⟨Pb, s1, s2, s3, s4, s5, s6⟩ := s_shorten (sa := sa) (f := f) (d := d) w hsqa hrwa h2 h1 (by rw [hrs.len]; exact sq_k_rows)
  have rd : ∀ r, 405 ≤ r → r ≤ 408 → ∀ v, (P.2 r).2 j = v → hp_rd Pa r (nI j) = some v := fun r z1 z2 v hv => by
    have e := (k2 r (decide_eq_false (by omega))).2
    rw [hp_rd_nI (by rw [e, l4 r z1 z2]; omega) (by omega), e, hv]
  refine ⟨Pa, Pb, ?_, p1, rd 407 (by decide) (by decide) _ b3, rd 408 (by decide) (by decide) _ b4, e_shorten (f := f + 1) (d := d + 1) w, s1, ?_, ?_, ⟨by rw [r2], fun i i1 i2 => ?_⟩⟩
  · rw [hp_rd_nI (by rw [l4 406 (by decide) (by decide)]; omega) (by omega), b2]
  · rw [r2] at g1 g2 g3
    have hE : ∀ M ∈ C.2.2.2.2.2.2.2.take (C.2.2.2.1 j).2.2, ct_S T (C.2.2.2.1 j).1 (m_ty M) := fun M hM => by
      have hM' := List.mem_of_mem_take hM
      obtain ⟨x, hx, e⟩ := List.mem_iff_getElem.mp hM'
      have hwf : m_wf M := (he.2.1.2.2 x M (List.getElem?_eq_some_iff.mpr ⟨hx, e⟩)).1
      have hk := (hI.2.2.2.2.2.2.1 M hM').2.ty hwf
      exact g1.2.2.2.2.1 _ (q_of_mem hM (q_of_ty hwf (q_sub_self hk.1)))
    refine hu.cut r1 h2 g2 g3 g1 hE ⟨p2.1.cg (by rw [s5 708 (by decide) (by decide), hI_ne (by decide), hI_ne (by decide)]) fun r _ _ => by rw [s4]; rfl, p2.2⟩ ?_ ?_ (fun r a b => by rw [s4]; exact (k2 r (ty_S_en a b)).2) ?_ ?_ hsg.1.2.1 hsg.1.2.2.1 hsg.2.2.1 hsg.2.2.2.1 (by rw [s4]; exact (k2 500 (by decide)).2) (by rw [s4]; exact (k2 501 (by decide)).2) s2 s3
    · rw [s5 103 (by decide) (by decide), hI_ne (by decide), hI_eq]
    · rw [s5 111 (by decide) (by decide), hI_eq]
    · rw [s5 502 (by decide) (by decide), hI_ne (by decide), hI_ne (by decide), (k2 502 (by decide)).1]; exact hsg.1.1
    · rw [s5 503 (by decide) (by decide), hI_ne (by decide), hI_ne (by decide), (k2 503 (by decide)).1]; exact hsg.2.1
  · exact hp_fr.tr0 p3.yc (hp_fr.tr0 (hp_fr.tr0 (hp_fr.sI (by decide)) (hp_fr.sI (by decide))) s6)
  · have i2 : i ≤ (C.2.1.take j).length := i2
    rw [List.length_take] at i2
    have i1 : C.2.2.1 ≤ i := i1
    obtain ⟨⟨q1, q1'⟩, q2⟩ := hR.2 i i1 (by omega)
    refine ⟨⟨?_, q1'⟩, q2⟩
    have mono := (hI.2.2.2.2.2.2.2.2.2.2 i j i1 (by omega) h2).1
    have e1 : (cV C th).2.2.1 = th := rfl
    rw [e1, q2, r2] at mono
    exact ct_S_le y.1.wf y.1.2.1 y.1.n31 q1 r1 mono
/-- canEndAt -/
theorem t_canEnd {f d : Nat} {x : Int32} (h : tI B sa S A ws flt ρ P) : am_call B sa am_dfl am_tb (f + 1) (d + 1) 72 [.ref (ρ.1 4), .int x] (hp_S sa ρ P) = some (some (.int (bP (∃ j, x = nI j ∧ A.2.1 ≤ j ∧ j ≤ A.1.length))), hp_S sa ρ P) := by
  obtain ⟨C, n, T, h1, h2, h3, h4, h5, h6⟩ := h
  rw [h2]
  exact sq_canEnd (h1.s (Z := True) (G := fun _ => True) fun _ _ => True.intro)
/-- cut -/
theorem t_cut {f d j : Nat} (h : tI B sa S A ws flt ρ P) (hI : aI S A) (h1 : A.2.1 ≤ j) (h2 : j ≤ A.1.length) (hf : 10000 ≤ f) :
    ∃ P', am_call B sa am_dfl am_tb f (d + 3) 114 [.ref (ρ.1 8), .int (nI j)] (hp_S sa ρ P) = some (none, hp_S sa ρ P') ∧ tI B sa (A.2.2.1 j).1 (a_cut A j) ws flt ρ P' ∧ hp_fr cl_S 0 ρ P ρ P' := by
  have hce := t_canEnd (sa := sa) (f := f - 1) (d := d + 1) (x := nI j) h
  rw [show f - 1 + 1 = f by omega, bP_t ⟨j, rfl, h1, h2⟩] at hce
  obtain ⟨C, n, T, c1, c2, c3, c4, c5, c6⟩ := h
  have w := c1.w
  rw [c2] at hI h1 h2
  have h1 : C.2.2.1 ≤ j := h1
  have h2 : j ≤ C.2.1.length := h2
  obtain ⟨Pa, Pb, k1, k2, k3, k4, k5, k6, k7, k8, k9⟩ := t_cutc (sa := sa) (f := f) (d := d) c1 c3 hI h1 h2 hf
  have eth := (c3.2 j h1 h2).2
  refine ⟨Pb, ?_, ⟨_, _, _, k7, ?_, k9, c4.cl k8, c5.fr k8.cw, by rw [(k8.2.1 809 rfl).1]; exact c6⟩, k8⟩
  · obtain ⟨f, rfl⟩ : ∃ g, f = g + 1 := ⟨f - 1, by omega⟩
    rw [am_c_114, am_s114_0]
    simp only [ho_804 w, hx_4 w, Option.bind_some, hce, am_i_some, am_c_ne]
    rw [if_pos (by decide)]
    simp only [ho_800 w, ho_804 w, hr_406 w, hl_406 w, k1, Option.bind_some, hx_7 w, k2, am_v_some, ho_802 w, hr_407 w, hl_407 w, k3, hr_408 w, hl_408 w, k4, hx_1 w, k5, hx_4 w, k6]
  · have : a_cut A j = a_cut (cV C A.2.2.1) j := by rw [← c2]
    rw [this]
    show (_, _, _, _, _, C.2.2.2.2.2.2.1.take (A.2.2.1 j).2.1, C.2.2.2.2.2.2.2.take (A.2.2.1 j).2.2) = _
    rw [eth]
    rfl
end T6
