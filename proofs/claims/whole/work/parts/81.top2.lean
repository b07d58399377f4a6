/-! TRACEJUDGE, the class: what an entry comes to -/
/-- the class as what stands -/
def cV (C : sC) (th : Nat → (qT → Prop) × Nat × Nat) : sV := (C.2.1, C.2.2.1, th, C.2.2.2.2)
def cR (S : qT → Prop) (th : Nat → (qT → Prop) × Nat × Nat) (C : sC) (n : Nat) (T : Nat → Int32 × Int32 × Int32) : Prop :=
  S = ct_S T n ∧ ∀ j, C.2.2.1 ≤ j → j ≤ C.2.1.length → ((C.2.2.2.1 j).1 ≤ n ∧ 2 ≤ (C.2.2.2.1 j).1) ∧ th j = (ct_S T (C.2.2.2.1 j).1, (C.2.2.2.1 j).2)
/-- the outcome of an entry -/
def tO (B : Nat) (sa : Nat → Nat) (S : qT → Prop) (A : sV) (k : Nat) (ws : List Int32) (C : sC) (ρ : hp_L) (P : hp_P) (n : Nat) (T : Nat → Int32 × Int32 × Int32) (x : Option (Option Value × am_S)) : Prop :=
  (∃ S' A' C' ρ' P' n' T', aE S A k ws S' A' ∧ x = some (some (.int 1), hp_S sa ρ' P') ∧ cI B C' ρ' P' n' T' ∧ A' = cV C' A'.2.2.1 ∧ cR S' A'.2.2.1 C' n' T' ∧ hp_fr cw_S 2 ρ P ρ' P' ∧ stI sa ρ' P') ∨
  ((∀ S' A', ¬ aE S A k ws S' A') ∧ ∃ ρ' P' n' T', x = some (some (.int 0), hp_S sa ρ' P') ∧ uI B C ρ' P' n' T' ∧ hp_fr cw_S 2 ρ P ρ' P' ∧ stI sa ρ' P' ∧ ty_xt n T n' T')
section TO
variable {sa : Nat → Nat} {B : Nat} {ρ ρ' : hp_L} {P P' : hp_P} {n n' : Nat} {T T' : Nat → Int32 × Int32 × Int32} {C : sC} {S S' : qT → Prop} {th : Nat → (qT → Prop) × Nat × Nat} {k : Nat} {ws : List Int32} {x : Option (Option Value × am_S)}
theorem aE_T {A A' : sV} (hk : k < 2) (h : aE S A k ws S' A') : ∃ t, aT A k ws t ∧ q_good (q_ad S t) := by
  rcases h with ⟨t, h1, h2, h3, h4⟩ | ⟨M, h1, h2, h3, h4⟩ | ⟨N, h1, h2, h3, h4⟩ | ⟨hk, N, h1, h2, h3, h4⟩ | ⟨hk, old, made, p, kk, h1, h2, h3, h4⟩
  · exact ⟨t, h1, h2⟩
  · have := aM_k h1; omega
  · have := aQ_k h1; omega
  · omega
  · omega
theorem aE_M {A A' : sV} (hk : 2 ≤ k ∧ k < 7) (h : aE S A k ws S' A') : ∃ M, aM A k ws M ∧ m_lim S M := by
  rcases h with ⟨t, h1, h2, h3, h4⟩ | ⟨M, h1, h2, h3, h4⟩ | ⟨N, h1, h2, h3, h4⟩ | ⟨hk, N, h1, h2, h3, h4⟩ | ⟨hk, old, made, p, kk, h1, h2, h3, h4⟩
  · have := aT_k h1; omega
  · exact ⟨M, h1, h2⟩
  · have := aQ_k h1; omega
  · omega
  · omega
theorem aE_Q {A A' : sV} (hk : 10 ≤ k ∧ k ≠ 20 ∧ k ≠ 21) (h : aE S A k ws S' A') : ∃ N, aQ A k ws N ∧ sq_lim S (m_tot (sq_rows A.1)) N := by
  rcases h with ⟨t, h1, h2, h3, h4⟩ | ⟨M, h1, h2, h3, h4⟩ | ⟨N, h1, h2, h3, h4⟩ | ⟨hk, N, h1, h2, h3, h4⟩ | ⟨hk, old, made, p, kk, h1, h2, h3, h4⟩
  · have := aT_k h1; omega
  · have := aM_k h1; omega
  · exact ⟨N, h1, h2⟩
  · omega
  · omega
theorem aE_20 {A A' : sV} (h : aE S A 20 ws S' A') : ∃ N, sp_20 A.2.2.2.2.2.2 A.2.2.2.2.1 (wd ws 1) N ∧ sq_lim S (m_tot (sq_rows A.1)) N := by
  rcases h with ⟨t, h1, h2, h3, h4⟩ | ⟨M, h1, h2, h3, h4⟩ | ⟨N, h1, h2, h3, h4⟩ | ⟨hk, N, h1, h2, h3, h4⟩ | ⟨hk, old, made, p, kk, h1, h2, h3, h4⟩
  · have := aT_k h1; omega
  · have := aM_k h1; omega
  · have := aQ_k h1; omega
  · exact ⟨N, h1, h2⟩
  · omega
theorem aE_21 {A A' : sV} (h : aE S A 21 ws S' A') : ∃ old made p kk, sp_21 A.1 A.2.2.2.1 A.2.2.2.2.1 (wd ws 1) old made p kk ∧ lim21 S (m_tot (sq_rows A.1)) (n21a old made A.2.2.2.2.1.length) (n21b old made A.2.2.2.2.1.length p) := by
  rcases h with ⟨t, h1, h2, h3, h4⟩ | ⟨M, h1, h2, h3, h4⟩ | ⟨N, h1, h2, h3, h4⟩ | ⟨hk, N, h1, h2, h3, h4⟩ | ⟨hk, old, made, p, kk, h1, h2, h3, h4⟩
  · have := aT_k h1; omega
  · have := aM_k h1; omega
  · have := aQ_k h1; omega
  · omega
  · exact ⟨old, made, p, kk, h1, h2⟩
theorem ct_S_cg {m : Nat} (hw : ty_wf T n) (hn : n < 2 ^ 31) (hm : m ≤ n) (x : ty_xt n T n' T') : ct_S T' m = ct_S T m := by
  have hw' : ty_wf T m := fun j hj => hw j (by omega)
  have e : ∀ i, i < m → ct T' m (nI i) = ct T m (nI i) := fun i hi => ct_ext hw' (fun j hj => x.2 j (by omega)) (by omega) (Nat.le_refl _) (Or.inr ⟨i, hi, rfl⟩)
  funext t
  exact propext ⟨fun ⟨i, i1, i2⟩ => ⟨i, i1, by rw [← e i i1]; exact i2⟩, fun ⟨i, i1, i2⟩ => ⟨i, i1, by rw [e i i1]; exact i2⟩⟩
theorem stI.fr {F : Nat → Bool} {e : Nat} (h : stI sa ρ P) (fr : hp_fr F e ρ P ρ' P') (h3 : (P'.2 3).1 = 5) (h4 : (P'.2 4).1 = 5) : stI sa ρ' P' :=
  ⟨⟨fr.2.2.1 _ _ h.1.1, fr.2.2.1 _ _ h.1.2.1, fr.2.2.1 _ _ h.1.2.2.1, fr.2.2.1 _ _ h.1.2.2.2⟩, fr.2.2.1 _ _ h.2.1, h3, h4⟩
theorem stI.cl {e : Nat} (h : stI sa ρ P) (fr : hp_fr cl_S e ρ P ρ' P') : stI sa ρ' P' := h.fr fr (by rw [(fr.2.1 3 rfl).2.1]; exact h.2.2.1) (by rw [(fr.2.1 4 rfl).2.1]; exact h.2.2.2)
theorem hp_fr.ec {e : Nat} (h : hp_fr ee_S e ρ P ρ' P') : hp_fr cl_S e ρ P ρ' P' := h.weaken fun r h => by
  unfold ee_S
  rw [st_S_n (cl_st h), wt_S_ty (st_S_w (cl_st h))]
  rfl
/-- the class with other entries -/
def c_en (C : sC) (et : List qT) (em : List qM) : sC := (C.1, C.2.1, C.2.2.1, C.2.2.2.1, C.2.2.2.2.1, C.2.2.2.2.2.1, et, em)
theorem cI.en {et : List qT} {em : List qM} (h : cI B C ρ P n T) (k : eI B ρ P n T ρ' P' n' T' et em) : cI B (c_en C et em) ρ' P' n' T' := by
  obtain ⟨h1, h2, h3, h4, h5, h6, h7, h8⟩ := h
  obtain ⟨k1, k2, k3, k4, k5⟩ := k
  have hw := h6.1.wf
  have hn := h6.1.n31
  have no : ∀ r, (r < 102 ∨ 113 < r) → (r < 700 ∨ 708 < r) → ee_S r = false := fun r a b => by
    unfold ee_S en_S ty_S
    rw [decide_eq_false (by omega), decide_eq_false (by omega)]
    rfl
  exact ⟨k1, k3, (h3.xt hw hn k5).fr k4 fun r a b => no r (by omega) (by omega), h4.cg fun r a b => ⟨(k4.2.1 r (no r (by omega) (by omega))).1, (k4.2.1 r (no r (by omega) (by omega))).2.1⟩, h5.xt h8 hw hn k5, k2, h7.fr k4 fun r a b => no r (by omega) (by omega), fun s hs => (h8 s hs).xt k5.1⟩
theorem cR.old (h : cR S th C n T) (hw : ty_wf T n) (hn : n < 2 ^ 31) (x : ty_xt n T n' T') {j : Nat} (h1 : C.2.2.1 ≤ j) (h2 : j ≤ C.2.1.length) : ((C.2.2.2.1 j).1 ≤ n' ∧ 2 ≤ (C.2.2.2.1 j).1) ∧ th j = (ct_S T' (C.2.2.2.1 j).1, (C.2.2.2.1 j).2) := by
  obtain ⟨a1, a2⟩ := h.2 j h1 h2
  exact ⟨⟨Nat.le_trans a1.1 x.1, a1.2⟩, by rw [ct_S_cg hw hn a1.1 x]; exact a2⟩
theorem tO.Ty {R : qT → Prop} (h : cI B C ρ P n T) (hR : cR S th C n T) (hst : stI sa ρ P) (hk : k < 2) (hT : ∀ t, aT (cV C th) k ws t ↔ R t) (ho : eOT B sa R C.2.2.2.2.2.2.1 C.2.2.2.2.2.2.2 ρ P n T x) : tO B sa S (cV C th) k ws C ρ P n T x := by
  have hS := hR.1
  rcases ho with ⟨t, ρ', P', n', T', a1, a2, a3, a4, a5⟩ | ⟨a1, ρ', P', n', T', a3, a4⟩
  · refine Or.inl ⟨_, _, c_en C (C.2.2.2.2.2.2.1 ++ [t]) C.2.2.2.2.2.2.2, ρ', P', n', T', Or.inl ⟨t, (hT t).mpr a1, by rw [hS]; exact a2, rfl, rfl⟩, a3, h.en a4, rfl, ⟨by rw [hS, a5], fun j j1 j2 => hR.old h.y.1.wf h.y.1.n31 a4.2.2.2.2 j1 j2⟩, a4.2.2.2.1.ec.cw.up (by omega), hst.cl a4.2.2.2.1.ec⟩
  · refine Or.inr ⟨fun S' A' z => ?_, ρ', P', n', T', a3, (h.en a4).u, a4.2.2.2.1.ec.cw.up (by omega), hst.cl a4.2.2.2.1.ec, a4.2.2.2.2⟩
    obtain ⟨t, t1, t2⟩ := aE_T hk z
    rw [hS] at t2
    exact a1 t ((hT t).mp t1) t2
theorem tO.Te {R : qM → Prop} (h : cI B C ρ P n T) (hR : cR S th C n T) (hst : stI sa ρ P) (hk : 2 ≤ k ∧ k < 7) (hT : ∀ t, aM (cV C th) k ws t ↔ R t) (ho : eOM B sa R C.2.2.2.2.2.2.1 C.2.2.2.2.2.2.2 ρ P n T x) : tO B sa S (cV C th) k ws C ρ P n T x := by
  have hS := hR.1
  rcases ho with ⟨t, ρ', P', n', T', a1, a2, a3, a4, a5⟩ | ⟨a1, ρ', P', n', T', a3, a4⟩
  · refine Or.inl ⟨_, _, c_en C C.2.2.2.2.2.2.1 (C.2.2.2.2.2.2.2 ++ [t]), ρ', P', n', T', Or.inr (Or.inl ⟨t, (hT t).mpr a1, by rw [hS]; exact a2, rfl, rfl⟩), a3, h.en a4, rfl, ⟨by rw [hS, a5], fun j j1 j2 => hR.old h.y.1.wf h.y.1.n31 a4.2.2.2.2 j1 j2⟩, a4.2.2.2.1.ec.cw.up (by omega), hst.cl a4.2.2.2.1.ec⟩
  · refine Or.inr ⟨fun S' A' z => ?_, ρ', P', n', T', a3, (h.en a4).u, a4.2.2.2.1.ec.cw.up (by omega), hst.cl a4.2.2.2.1.ec, a4.2.2.2.2⟩
    obtain ⟨t, t1, t2⟩ := aE_M hk z
    rw [hS] at t2
    exact a1 t ((hT t).mp t1) t2
/-- the class with a new sequent, as what stands -/
theorem cR.new {fm : Nat} {Rn : List (List rwS)} {N : qQ} (hR : cR S th C n T) (h : cI B C ρ P n T) (x : ty_xt n T n' T') (hS' : S' = ct_S T' n') (h2 : 2 ≤ n') (hfm : fm = C.2.2.1 ∨ fm = C.2.1.length + 1) : cR S' (th_ad th (C.2.1.length + 1) (S', C.2.2.2.2.2.2.1.length, C.2.2.2.2.2.2.2.length)) (c_new C fm n' Rn N) n' T' := by
  refine ⟨hS', fun j j1 j2 => ?_⟩
  have j1 : fm ≤ j := j1
  have j2 : j ≤ (C.2.1 ++ [N]).length := j2
  rw [List.length_append, List.length_singleton] at j2
  show ((th_add C.2.2.2.1 (C.2.1.length + 1) (n', C.2.2.2.2.2.2.1.length, C.2.2.2.2.2.2.2.length) j).1 ≤ n' ∧ 2 ≤ (th_add C.2.2.2.1 (C.2.1.length + 1) (n', C.2.2.2.2.2.2.1.length, C.2.2.2.2.2.2.2.length) j).1) ∧ th_ad th (C.2.1.length + 1) (S', C.2.2.2.2.2.2.1.length, C.2.2.2.2.2.2.2.length) j = (ct_S T' (th_add C.2.2.2.1 (C.2.1.length + 1) (n', C.2.2.2.2.2.2.1.length, C.2.2.2.2.2.2.2.length) j).1, (th_add C.2.2.2.1 (C.2.1.length + 1) (n', C.2.2.2.2.2.2.1.length, C.2.2.2.2.2.2.2.length) j).2)
  unfold th_add th_ad
  by_cases e : j = C.2.1.length + 1
  · rw [if_pos e, if_pos e, hS']
    exact ⟨⟨Nat.le_refl _, h2⟩, rfl⟩
  · rw [if_neg e, if_neg e]
    rcases hfm with z | z
    · exact hR.old h.y.1.wf h.y.1.n31 x (by omega) (by omega)
    · omega
theorem cV_new {fm : Nat} {Rn : List (List rwS)} {N : qQ} {os : List qT} : a_new (cV C th) fm S' [N] [] os = cV (c_new (c_ow C os) fm n' Rn N) (a_new (cV C th) fm S' [N] [] os).2.2.1 := by
  unfold a_new cV c_new c_ow
  simp only [List.append_nil]
theorem tO.Q {R : qQ → Prop} (h : cI B C ρ P n T) (hR : cR S th C n T) (hst : stI sa ρ P) (hk : 10 ≤ k ∧ k ≠ 20 ∧ k ≠ 21) (hT : ∀ N, aQ (cV C th) k ws N ↔ R N) (ho : cO B sa R C ρ P n T x) : tO B sa S (cV C th) k ws C ρ P n T x := by
  have hS := hR.1
  rcases ho with ⟨N, ρ', P', n', T', Rn, a1, a2, a3, a4, a5, a6, a7⟩ | ⟨a1, ρ', P', n', T', a3, a4, a5, a6⟩
  · refine Or.inl ⟨_, _, c_new C C.2.2.1 n' Rn N, ρ', P', n', T', Or.inr (Or.inr (Or.inl ⟨N, (hT N).mpr a1, by rw [hS]; exact a2, rfl, rfl⟩)), a3, a4, ?_, hR.new h a6 (by rw [hS, a7]) a4.y.2.1 (Or.inl rfl), a5.cw, hst.cl a5⟩
    have := cV_new (C := C) (th := th) (fm := C.2.2.1) (S' := q_un S (N.1 ++ [N.2])) (N := N) (os := []) (Rn := Rn) (n' := n')
    unfold c_ow at this
    rw [List.append_nil] at this
    exact this
  · refine Or.inr ⟨fun S' A' z => ?_, ρ', P', n', T', a3, a4, a5.cw, hst.cl a5, a6⟩
    obtain ⟨N, t1, t2⟩ := aE_Q hk z
    rw [hS] at t2
    exact a1 N ((hT N).mp t1) t2
theorem tO.Q22 {R : qQ → Prop} (h : cI B C ρ P n T) (hR : cR S th C n T) (hst : stI sa ρ P) (hk : 10 ≤ k ∧ k ≠ 20 ∧ k ≠ 21) (hT : ∀ N, aQ (cV C th) k ws N ↔ R N) (ho : cO22 B sa R C ρ P n T x) : tO B sa S (cV C th) k ws C ρ P n T x := by
  have hS := hR.1
  rcases ho with ⟨N, ρ', P', n', T', Rn, a1, a2, a3, a4, a5, a6, a7⟩ | ⟨a1, ρ', P', n', T', a3, a4, a5, a6⟩
  · refine Or.inl ⟨_, _, c_new C C.2.2.1 n' Rn N, ρ', P', n', T', Or.inr (Or.inr (Or.inl ⟨N, (hT N).mpr a1, by rw [hS]; exact a2, rfl, rfl⟩)), a3, a4, ?_, hR.new h a6 (by rw [hS, a7]) a4.y.2.1 (Or.inl rfl), a5.1, hst.fr a5.1 a5.2.1 a5.2.2⟩
    have := cV_new (C := C) (th := th) (fm := C.2.2.1) (S' := q_un S (N.1 ++ [N.2])) (N := N) (os := []) (Rn := Rn) (n' := n')
    unfold c_ow at this
    rw [List.append_nil] at this
    exact this
  · refine Or.inr ⟨fun S' A' z => ?_, ρ', P', n', T', a3, a4, a5.1, hst.fr a5.1 a5.2.1 a5.2.2, a6⟩
    obtain ⟨N, t1, t2⟩ := aE_Q hk z
    rw [hS] at t2
    exact a1 N ((hT N).mp t1) t2
theorem tO.Q20 (h : cI B C ρ P n T) (hR : cR S th C n T) (hst : stI sa ρ P) (ho : cO20 B sa (sp_20 C.2.2.2.2.2.2.2 C.2.2.2.2.2.1 (wd ws 1)) C ρ P n T x) : tO B sa S (cV C th) 20 ws C ρ P n T x := by
  have hS := hR.1
  rcases ho with ⟨N, ρ', P', n', T', Rn, a1, a2, a3, a4, a5, a6, a7⟩ | ⟨a1, ρ', P', n', T', a3, a4, a5, a6⟩
  · refine Or.inl ⟨_, _, c_new (c_ow C [m_ty (m_r N.2)]) (C.2.1.length + 1) n' Rn N, ρ', P', n', T', Or.inr (Or.inr (Or.inr (Or.inl ⟨rfl, N, a1, by rw [hS]; exact a2, rfl, rfl⟩))), a3, a4, cV_new, ?_, a5.cw, hst.cl a5⟩
    have := hR.new (fm := C.2.1.length + 1) (Rn := Rn) (N := N) h a6 (S' := q_un S (N.1 ++ [N.2])) (by rw [hS, a7]) a4.y.2.1 (Or.inr rfl)
    exact this
  · refine Or.inr ⟨fun S' A' z => ?_, ρ', P', n', T', a3, a4, a5.cw, hst.cl a5, a6⟩
    obtain ⟨N, t1, t2⟩ := aE_20 z
    rw [hS] at t2
    exact a1 N t1 t2
theorem tO.Q21 (h : cI B C ρ P n T) (hR : cR S th C n T) (hst : stI sa ρ P) (ho : cO21 B sa (sp_21 C.2.1 C.2.2.2.2.1 C.2.2.2.2.2.1 (wd ws 1)) C ρ P n T x) : tO B sa S (cV C th) 21 ws C ρ P n T x := by
  have hS := hR.1
  rcases ho with ⟨old, made, p, kk, ρ', P', n1, n', T', R1, R2, a1, a2, a3, a4, a5, a6, a7⟩ | ⟨a1, ρ', P', n', T', a3, a4, a5, a6⟩
  · refine Or.inl ⟨_, _, c_21 C old made kk n1 n' R1 R2 (n21a old made C.2.2.2.2.2.1.length) (n21b old made C.2.2.2.2.2.1.length p), ρ', P', n', T', Or.inr (Or.inr (Or.inr (Or.inr ⟨rfl, old, made, p, kk, a1, by rw [hS]; exact a2, rfl, rfl⟩))), a3, a4, ?_, ⟨by rw [hS, a7]; rfl, fun j j1 j2 => ?_⟩, a5.cw, hst.cl a5⟩
    · unfold a_new cV c_21 c_new c_ow c_tk
      simp only [List.append_assoc, List.cons_append, List.nil_append]
    · have j1 : C.2.1.length + 2 ≤ j := j1
      have j2 : j ≤ ((C.2.1 ++ [([], n21a old made C.2.2.2.2.2.1.length)]) ++ [([], n21b old made C.2.2.2.2.2.1.length p)]).length := j2
      rw [List.length_append, List.length_append, List.length_singleton, List.length_singleton] at j2
      have ej : j = C.2.1.length + 2 := by omega
      subst ej
      show ((th_add (th_add C.2.2.2.1 (C.2.1.length + 1) (n1, C.2.2.2.2.2.2.1.length, C.2.2.2.2.2.2.2.length)) ((C.2.1 ++ [([], n21a old made C.2.2.2.2.2.1.length)]).length + 1) (n', C.2.2.2.2.2.2.1.length, C.2.2.2.2.2.2.2.length) (C.2.1.length + 2)).1 ≤ n' ∧ 2 ≤ (th_add (th_add C.2.2.2.1 (C.2.1.length + 1) (n1, C.2.2.2.2.2.2.1.length, C.2.2.2.2.2.2.2.length)) ((C.2.1 ++ [([], n21a old made C.2.2.2.2.2.1.length)]).length + 1) (n', C.2.2.2.2.2.2.1.length, C.2.2.2.2.2.2.2.length) (C.2.1.length + 2)).1) ∧ th_ad th (C.2.1.length + 2) (_, C.2.2.2.2.2.2.1.length, C.2.2.2.2.2.2.2.length) (C.2.1.length + 2) = (ct_S T' (th_add (th_add C.2.2.2.1 (C.2.1.length + 1) (n1, C.2.2.2.2.2.2.1.length, C.2.2.2.2.2.2.2.length)) ((C.2.1 ++ [([], n21a old made C.2.2.2.2.2.1.length)]).length + 1) (n', C.2.2.2.2.2.2.1.length, C.2.2.2.2.2.2.2.length) (C.2.1.length + 2)).1, (th_add (th_add C.2.2.2.1 (C.2.1.length + 1) (n1, C.2.2.2.2.2.2.1.length, C.2.2.2.2.2.2.2.length)) ((C.2.1 ++ [([], n21a old made C.2.2.2.2.2.1.length)]).length + 1) (n', C.2.2.2.2.2.2.1.length, C.2.2.2.2.2.2.2.length) (C.2.1.length + 2)).2)
      unfold th_add th_ad
      rw [if_pos rfl, List.length_append, List.length_singleton, if_pos rfl, hS]
      exact ⟨⟨Nat.le_refl _, a4.y.2.1⟩, by show _ = (ct_S T' n', _); rw [a7]; rfl⟩
  · refine Or.inr ⟨fun S' A' z => ?_, ρ', P', n', T', a3, a4, a5.cw, hst.cl a5, a6⟩
    obtain ⟨old, made, p, kk, t1, t2⟩ := aE_21 z
    rw [hS] at t2
    exact a1 old made p kk t1 t2
end TO
