/-! ENTRIES of the class, 5: the seven kinds -/
/-- how many types a constructor takes -/
def q_tk (tk : List Nat) (c : Int32) : Nat := if c < 0 then 0 else (tk[c.toNatClampNeg]?).getD 0
theorem q_tk_neg {tk : List Nat} (c : Int32) (h : c < 0) : q_tk tk c = 0 := if_pos h
theorem q_tk_at {tk : List Nat} {c x : Nat} (h : tk[c]? = some x) (hl : tk.length ≤ 40) : q_tk tk (nI c) = x := by
  have : c < tk.length := (List.getElem?_eq_some_iff.mp h).1
  unfold q_tk
  rw [if_neg (nI_pos (by omega)), nI_clamp (by omega), h]
  rfl
theorem q_good.mono {G G' : qT → Prop} (h : q_good G) (k : ∀ t, G' t → G t) : q_good G' := ⟨fun t ht => h.1 t (k t ht), h.2.imp fun _ hl => ⟨hl.1, fun t ht => hl.2 t (k t ht)⟩⟩
section EN6
variable {sa : Nat → Nat} {B : Nat} {ρ : hp_L} {P : hp_P} {n : Nat} {T : Nat → Int32 × Int32 × Int32} {tk : List Nat} {ow : List qT} {et : List qT} {em : List qM}
/-- the types that are there may be there -/
theorem tyI.good (h : tyI P n T) : q_good (ct_S T n) := by
  refine ⟨fun t ⟨i, hi, e⟩ => ?_, (List.range n).map (fun i => ct T n (nI i)), ?_, fun t ⟨i, hi, e⟩ => ?_⟩
  · have := (h.1.2.2 i hi).2.2
    rw [← ct_sz, ← ct_ht, e] at this
    exact this
  · rw [List.length_map, List.length_range]
    exact h.1.1.1.2
  · rw [← e]
    exact List.mem_map.mpr ⟨i, List.mem_range.mpr hi, rfl⟩
/-- one more type -/
def q_ad (S : qT → Prop) (q : qT) : qT → Prop := fun t => S t ∨ t = q
theorem q_ad_S {S : qT → Prop} {q : qT} (h : S q) : q_ad S q = S := by
  funext t
  exact propext ⟨fun z => z.elim id fun e => by rw [e]; exact h, Or.inl⟩
theorem ty_mo.go {P' : hp_P} {v : Int32} {n' : Nat} {T' : Nat → Int32 × Int32 × Int32} {q : qT} (m : ty_mo n T v n' T' q) (h : tyI P n T) (h' : tyI P' n' T') (x : ty_xt n T n' T') :
    (pl n' T' v q ∧ q_good (q_ad (ct_S T n) q) ∧ ct_S T' n' = q_ad (ct_S T n) q) ∨ (v = -2 ∧ (∀ n'' T'', ¬ pl n'' T'' v q ∨ 2 ^ 31 ≤ n'') ∧ ¬ q_good (q_ad (ct_S T n) q) ∧ n' = n ∧ T' = T) := by
  rcases m with ⟨m1, m2⟩ | ⟨m1, m2, m3, m4⟩
  · left
    have e : ct_S T' n' = q_ad (ct_S T n) q := by
      funext t
      exact propext ⟨m2 t, fun z => z.elim (fun z => z.xt h.wf h.n31 x) fun e => by rw [e]; exact m1.S⟩
    exact ⟨m1, by rw [← e]; exact h'.good, e⟩
  · right
    refine ⟨m1, fun n'' T'' => ?_, m4 _ (fun t z => Or.inl z) (Or.inr rfl), m2, m3⟩
    by_cases e : n'' < 2 ^ 31
    · exact Or.inl fun ⟨a, a1, a2, _⟩ => by
        rw [m1] at a2
        have := nI_pos (show a < 2 ^ 31 by omega)
        rw [← a2] at this
        exact this (by decide)
    · exact Or.inr (by omega)
/-- the roles that entries change -/
def ee_S : Nat → Bool := fun r => en_S r || ty_S r
theorem ee_S_n {r : Nat} (h : ee_S r = false) : en_S r = false := (Bool.or_eq_false_iff.mp h).1
theorem ee_S_y {r : Nat} (h : ee_S r = false) : ty_S r = false := (Bool.or_eq_false_iff.mp h).2
theorem hp_fr.en {e : Nat} {ρ ρ' : hp_L} {P P' : hp_P} (h : hp_fr en_S e ρ P ρ' P') : hp_fr ee_S e ρ P ρ' P' := h.weaken fun _ h => ee_S_n h
theorem hp_fr.ey {e : Nat} {ρ ρ' : hp_L} {P P' : hp_P} (h : hp_fr ty_S e ρ P ρ' P') : hp_fr ee_S e ρ P ρ' P' := h.weaken fun _ h => ee_S_y h
theorem en_S_no {r : Nat} (h : 700 ≤ r) (_ : r ≤ 708) : en_S r = false := decide_eq_false (by omega)
theorem ty_S_en {r : Nat} (_ : 102 ≤ r) (h : r ≤ 113) : ty_S r = false := decide_eq_false (by omega)
/-- what an entry leaves: the types have gone on, the entries are et and em -/
def eI (B : Nat) (ρ : hp_L) (P : hp_P) (n : Nat) (T : Nat → Int32 × Int32 × Int32) (ρ' : hp_L) (P' : hp_P) (n' : Nat) (T' : Nat → Int32 × Int32 × Int32) (et : List qT) (em : List qM) : Prop :=
  hp_w B ρ' ∧ tyJ P' n' T' ∧ enI P' n' T' et em ∧ hp_fr ee_S 0 ρ P ρ' P' ∧ ty_xt n T n' T'
/-- the outcome of an entry that may make a type of those of R -/
def eOT (B : Nat) (sa : Nat → Nat) (R : qT → Prop) (et : List qT) (em : List qM) (ρ : hp_L) (P : hp_P) (n : Nat) (T : Nat → Int32 × Int32 × Int32) (x : Option (Option Value × am_S)) : Prop :=
  (∃ t ρ' P' n' T', R t ∧ q_good (q_ad (ct_S T n) t) ∧ x = some (some (.int 1), hp_S sa ρ' P') ∧ eI B ρ P n T ρ' P' n' T' (et ++ [t]) em ∧ ct_S T' n' = q_ad (ct_S T n) t) ∨
  ((∀ t, R t → ¬ q_good (q_ad (ct_S T n) t)) ∧ ∃ ρ' P' n' T', x = some (some (.int 0), hp_S sa ρ' P') ∧ eI B ρ P n T ρ' P' n' T' et em)
/-- the limits of a term, with the types that there are -/
def m_lim (S : qT → Prop) (M : qM) : Prop := q_good (q_ad S (m_ty M)) ∧ (m_fl M).length ≤ 4000 ∧ m_ht M ≤ 120
/-- the outcome of an entry that may make a term of those of R -/
def eOM (B : Nat) (sa : Nat → Nat) (R : qM → Prop) (et : List qT) (em : List qM) (ρ : hp_L) (P : hp_P) (n : Nat) (T : Nat → Int32 × Int32 × Int32) (x : Option (Option Value × am_S)) : Prop :=
  (∃ M ρ' P' n' T', R M ∧ m_lim (ct_S T n) M ∧ x = some (some (.int 1), hp_S sa ρ' P') ∧ eI B ρ P n T ρ' P' n' T' et (em ++ [M]) ∧ ct_S T' n' = q_ad (ct_S T n) (m_ty M)) ∨
  ((∀ M, R M → ¬ m_lim (ct_S T n) M) ∧ ∃ ρ' P' n' T', x = some (some (.int 0), hp_S sa ρ' P') ∧ eI B ρ P n T ρ' P' n' T' et em)
theorem eOT.no {R : qT → Prop} (w : hp_w B ρ) (y : tyJ P n T) (he : enI P n T et em) (h : ∀ t, ¬ R t) : eOT B sa R et em ρ P n T (am_rz 0 (hp_S sa ρ P)) :=
  Or.inr ⟨fun t z => absurd z (h t), ρ, P, n, T, am_rz_0, w, y, he, hp_fr.rf, ty_xt.rf⟩
theorem eOM.no {R : qM → Prop} (w : hp_w B ρ) (y : tyJ P n T) (he : enI P n T et em) (h : ∀ t, ¬ R t) : eOM B sa R et em ρ P n T (am_rz 0 (hp_S sa ρ P)) :=
  Or.inr ⟨fun t z => absurd z (h t), ρ, P, n, T, am_rz_0, w, y, he, hp_fr.rf, ty_xt.rf⟩
/-- make and addType -/
theorem en_newType {f d : Nat} {c l r : Int32} {tl tr : qT} (w : hp_w B ρ) (y : tyJ P n T) (he : enI P n T et em) (h8 : et.length < 8000) (hf : 10000 ≤ f) (hl : (l = -1 ∧ tl = qE) ∨ pl n T l tl) (hr : (r = -1 ∧ tr = qE) ∨ pl n T r tr) {R : qT → Prop} (hR : ∀ t, R t ↔ t = qN c tl tr) :
    ∃ (ρ1 : hp_L) (P1 : hp_P) (v : Int32), am_call B sa am_dfl am_tb f (d + 3) 3 [.ref (ρ.1 7), .int c, .int l, .int r] (hp_S sa ρ P) = some (some (.int v), hp_S sa ρ1 P1) ∧ hp_w B ρ1 ∧ ρ.1 1 = ρ1.1 1 ∧ eOT B sa R et em ρ P n T (am_call B sa am_dfl am_tb f (d + 3) 42 [.ref (ρ1.1 1), .int v] (hp_S sa ρ1 P1)) := by
  have hin : ∀ {x : Int32} {t : qT}, (x = -1 ∧ t = qE) ∨ pl n T x t → ty_in n x ∧ ct T n x = t := fun h => by
    rcases h with ⟨rfl, rfl⟩ | h
    · exact ⟨Or.inl rfl, ct_m1⟩
    · exact ⟨h.In, h.ct⟩
  obtain ⟨hl1, hl2⟩ := hin hl
  obtain ⟨hr1, hr2⟩ := hin hr
  obtain ⟨ρ1, P1, v, n', T', a1, a2, a3, a4, a5, a6, -⟩ := tm_make (sa := sa) (d := d) (c := c) w y.1 hf hl1 hr1
  rw [hl2, hr2] at a6
  have he1 : enI P1 n' T' et em := (he.xt y.1.wf y.1.n31 a5).fr a4 fun r h1 h2 => ty_S_en h1 h2
  obtain ⟨f, rfl⟩ : ∃ g, f = g + 1 := ⟨f - 1, by omega⟩
  have y1 := y.xt a3 a5
  refine ⟨ρ1, P1, v, a1, a2, w_ob a4 1, ?_⟩
  rcases a6.go y.1 a3 a5 with ⟨g1, g2, g3⟩ | ⟨g1, g2, g3, g4, g5⟩
  · obtain ⟨ρ', P', b1, b2, b3, b4, b5⟩ := en_addType (sa := sa) (f := f) (d := d) (t := qN c tl tr) a2 he1 h8 (Or.inl g1) a3.n31
    exact Or.inl ⟨_, ρ', P', n', T', (hR _).mpr rfl, g2, by rw [b1, bP_t g1], ⟨b2, y1.fr b5 fun r h1 h2 => en_S_no h1 h2, b3 g1, hp_fr.tr0 a4.ey b5.en, a5⟩, g3⟩
  · have g2 := (g2 n' T').resolve_right (by have := a3.n31; omega)
    obtain ⟨ρ', P', b1, b2, b3, b4, b5⟩ := en_addType (sa := sa) (f := f) (d := d) (t := qN c tl tr) a2 he1 h8 (Or.inr g1) a3.n31
    exact Or.inr ⟨fun t ht => by rw [(hR t).mp ht]; exact g3, ρ', P', n', T', by rw [b1, bP_f g2], b2, y1.fr b5 fun r h1 h2 => en_S_no h1 h2, b4 g2, hp_fr.tr0 a4.ey b5.en, a5⟩
theorem eOT.i {R : qT → Prop} {x : Option (Option Value × am_S)} (h : eOT B sa R et em ρ P n T x) : eOT B sa R et em ρ P n T (am_i x fun v g => if am_cond .eq v 0 = true then am_rz 0 g else am_rz 1 g) := by
  rcases h with ⟨t, ρ', P', n', T', a1, a2, a3, a4⟩ | ⟨a1, ρ', P', n', T', a3, a4⟩
  · refine Or.inl ⟨t, ρ', P', n', T', a1, a2, ?_, a4⟩
    rw [a3, am_i_some]
    simp only [am_c_eq]
    rw [if_neg (by decide)]; exact am_rz_1
  · refine Or.inr ⟨a1, ρ', P', n', T', ?_, a4⟩
    rw [a3, am_i_some]
    simp only [am_c_eq]
    rw [if_pos True.intro]; exact am_rz_0
theorem eOT.z {R : qT → Prop} {x : Option (Option Value × am_S)} (h : eOT B sa R et em ρ P n T x) : eOT B sa R et em ρ P n T (am_i x fun v g => am_rz v g) := by
  rcases h with ⟨t, ρ', P', n', T', a1, a2, a3, a4⟩ | ⟨a1, ρ', P', n', T', a3, a4⟩
  · exact Or.inl ⟨t, ρ', P', n', T', a1, a2, by rw [a3, am_i_some]; exact am_rz_1, a4⟩
  · exact Or.inr ⟨a1, ρ', P', n', T', by rw [a3, am_i_some]; exact am_rz_0, a4⟩
theorem eOM.i {R : qM → Prop} {x : Option (Option Value × am_S)} (h : eOM B sa R et em ρ P n T x) : eOM B sa R et em ρ P n T (am_i x fun v g => if am_cond .eq v 0 = true then am_rz 0 g else am_rz 1 g) := by
  rcases h with ⟨t, ρ', P', n', T', a1, a2, a3, a4⟩ | ⟨a1, ρ', P', n', T', a3, a4⟩
  · refine Or.inl ⟨t, ρ', P', n', T', a1, a2, ?_, a4⟩
    rw [a3, am_i_some]
    simp only [am_c_eq]
    rw [if_neg (by decide)]; exact am_rz_1
  · refine Or.inr ⟨a1, ρ', P', n', T', ?_, a4⟩
    rw [a3, am_i_some]
    simp only [am_c_eq]
    rw [if_pos True.intro]; exact am_rz_0
/-- kind 0: which type -/
def sp_0 (x : Int32) (t : qT) : Prop := inR x 100000000 ∧ t = qN (-1 - x) qE qE
theorem en_0 {f d : Nat} {x : Int32} (w : hp_w B ρ) (y : tyJ P n T) (he : enI P n T et em) (h8 : et.length < 8000) (hf : 10000 ≤ f) :
    eOT B sa (sp_0 x) et em ρ P n T (am_call B sa am_dfl am_tb f (d + 4) 35 [.ref (ρ.1 1), .int x] (hp_S sa ρ P)) := by
  by_cases e : inR x 100000000
  · obtain ⟨ρ1, P1, v, a1, a2, a3, a4⟩ := en_newType (sa := sa) (f := f) (d := d) (c := -1 - x) (l := -1) (r := -1) w y he h8 hf (Or.inl ⟨rfl, rfl⟩) (Or.inl ⟨rfl, rfl⟩) (R := sp_0 x) (fun t => ⟨fun z => z.2, fun z => ⟨e, z⟩⟩)
    obtain ⟨f, rfl⟩ : ∃ g, f = g + 1 := ⟨f - 1, by omega⟩
    rw [am_c_35, am_s35_0, is_name, am_i_some]
    simp only [am_c_eq]
    rw [if_neg (bP_y e)]
    simp only [ho_100 w, Option.bind_some, hx_7 w, a1, am_i_some]
    rw [a3]
    simp only [hx_1 a2, Option.bind_some]
    have := a4.i
    simp only [am_c_eq] at this
    exact this
  · obtain ⟨f, rfl⟩ : ∃ g, f = g + 1 := ⟨f - 1, by omega⟩
    rw [am_c_35, am_s35_0, is_name, am_i_some]
    simp only [am_c_eq]
    rw [if_pos (bP_n e)]
    exact eOT.no w y he fun t z => e z.1
/-- kind 1: which type -/
def sp_1 (tk : List Nat) (et : List qT) (c a b : Int32) (t : qT) : Prop := ∃ k x tl tr, c = nI k ∧ tk[k]? = some x ∧ (if 0 < x then en_at et a tl else tl = qE) ∧ (if 1 < x then en_at et b tr else tr = qE) ∧ t = qN c tl tr
theorem en_1 {f d k x : Nat} {a b : Int32} (w : hp_w B ρ) (y : tyJ P n T) (he : enI P n T et em) (hs : sgI P n T tk ow) (h8 : et.length < 8000) (hf : 10000 ≤ f) (hk : tk[k]? = some x) :
    eOT B sa (sp_1 tk et (nI k) a b) et em ρ P n T (am_call B sa am_dfl am_tb f (d + 4) 36 [.ref (ρ.1 1), .int (nI k), .int a, .int b] (hp_S sa ρ P)) := by
  have hk40 : k < tk.length := (List.getElem?_eq_some_iff.mp hk).1
  obtain ⟨s1, s2, s3, s4, s5⟩ := hs.1
  obtain ⟨hx1, hx2⟩ := s5 k x hk
  have r0 : hp_rd P 500 (nI k) = some (nI x) := by rw [hp_rd_nI (by omega) (by omega), hx1]
  have spx : ∀ {t : qT}, sp_1 tk et (nI k) a b t → ∃ tl tr, (if 0 < x then en_at et a tl else tl = qE) ∧ (if 1 < x then en_at et b tr else tr = qE) ∧ t = qN (nI k) tl tr := fun ⟨k', x', tl, tr, e1, e2, e3⟩ => by
    have hk' : k' < tk.length := (List.getElem?_eq_some_iff.mp e2).1
    have : k = k' := (nI_eq (by omega) (by omega)).mp e1
    rw [← this, hk] at e2
    rw [← Option.some.inj e2] at e3
    exact ⟨tl, tr, e3⟩
  -- the second stretch: the parts are there
  have tail : ∀ (F g : Nat) (tl tr : qT), 10000 ≤ F → (if 0 < x then en_at et a tl else tl = qE) → (if 1 < x then en_at et b tr else tr = qE) →
      eOT B sa (sp_1 tk et (nI k) a b) et em ρ P n T (am_go B sa am_dfl (am_call B sa am_dfl am_tb F (d + 3)) am_r36 (g + 1) 40 [(0, .ref (ρ.1 1)), (1, .int (nI k)), (2, .int a), (3, .int b), (4, .int (nI x))] [] (hp_S sa ρ P)) := by
    intro F g tl tr hF h1 h2
    have hR : ∀ t, sp_1 tk et (nI k) a b t ↔ t = qN (nI k) tl tr := fun t => ⟨fun z => by
      obtain ⟨tl', tr', z1, z2, z3⟩ := spx z
      have e1 : tl' = tl := by
        by_cases q : 0 < x
        · rw [if_pos q] at z1 h1; exact en_at_inj z1 h1
        · rw [if_neg q] at z1 h1; rw [z1, h1]
      have e2 : tr' = tr := by
        by_cases q : 1 < x
        · rw [if_pos q] at z2 h2; exact en_at_inj z2 h2
        · rw [if_neg q] at z2 h2; rw [z2, h2]
      rw [z3, e1, e2], fun z => ⟨k, x, tl, tr, rfl, hk, h1, h2, z⟩⟩
    have fin : ∀ (l r : Int32), ((l = -1 ∧ tl = qE) ∨ pl n T l tl) → ((r = -1 ∧ tr = qE) ∨ pl n T r tr) → eOT B sa (sp_1 tk et (nI k) a b) et em ρ P n T ((am_obj (hp_S sa ρ P) (ρ.1 7) 7).bind fun _ => am_i (am_call B sa am_dfl am_tb F (d + 3) 3 [.ref (ρ.1 7), .int (nI k), .int l, .int r] (hp_S sa ρ P)) fun v2 g2 => (am_obj g2 (ρ.1 1) 1).bind fun _ => am_i (am_call B sa am_dfl am_tb F (d + 3) 42 [.ref (ρ.1 1), .int v2] g2) fun v3 g3 => am_rz v3 g3) := by
      intro l r hl hr
      obtain ⟨ρ1, P1, v, a1, a2, a3, a4⟩ := en_newType (sa := sa) (f := F) (d := d) (c := nI k) w y he h8 hF hl hr hR
      simp only [hx_7 w, Option.bind_some, a1, am_i_some]
      rw [a3]
      simp only [hx_1 a2, Option.bind_some]
      exact a4.z
    rw [am_s36_40]
    simp only [ho_100 w, Option.bind_some, am_c_le]
    have : x = 0 ∨ x = 1 ∨ x = 2 := by omega
    rcases this with rfl | rfl | rfl
    · rw [if_pos (by decide), if_pos (by decide)]
      exact fin _ _ (Or.inl ⟨rfl, h1⟩) (Or.inl ⟨rfl, h2⟩)
    · obtain ⟨v, r1, r2⟩ := et_rd he h1
      rw [if_neg (by decide)]
      simp only [hr_102 w, hl_102 w, r1, Option.bind_some]
      rw [if_pos (by decide)]
      exact fin _ _ (Or.inr r2) (Or.inl ⟨rfl, h2⟩)
    · obtain ⟨v, r1, r2⟩ := et_rd he h1
      obtain ⟨v', r3, r4⟩ := et_rd he h2
      rw [if_neg (by decide)]
      simp only [hr_102 w, hl_102 w, r1, r3, Option.bind_some]
      rw [if_neg (by decide)]
      exact fin _ _ (Or.inr r2) (Or.inr r4)
  obtain ⟨f, rfl⟩ : ∃ g, f = g + 2 := ⟨f - 2, by omega⟩
  have ta := en_hasType (sa := sa) (f := f + 1) (d := d + 2) (x := a) w he
  have tb := en_hasType (sa := sa) (f := f + 1) (d := d + 2) (x := b) w he
  rw [am_c_36, am_s36_0]
  simp only [ho_101 w, hr_500 w, hl_500 w, r0, Option.bind_some, am_c_le, hx_1 w, ta, tb, am_i_some, am_c_ne, am_c_eq]
  have : x = 0 ∨ x = 1 ∨ x = 2 := by omega
  rcases this with rfl | rfl | rfl
  · rw [if_pos (by decide), if_pos (by decide)]
    exact tail _ _ qE qE hf (by rw [if_neg (by decide)]) (by rw [if_neg (by decide)])
  · rw [if_neg (by decide)]
    by_cases e : ∃ t, en_at et a t
    · obtain ⟨t, ht⟩ := e
      rw [if_neg (bP_y ⟨t, ht⟩), if_pos (by decide)]
      exact tail _ _ t qE hf (by rw [if_pos (by decide)]; exact ht) (by rw [if_neg (by decide)])
    · rw [if_pos (bP_n e)]
      exact eOT.no w y he fun t z => by
        obtain ⟨tl, tr, z1, -⟩ := spx z
        rw [if_pos (by decide)] at z1
        exact e ⟨tl, z1⟩
  · rw [if_neg (by decide)]
    by_cases e : ∃ t, en_at et a t
    · rw [if_neg (bP_y e), if_neg (by decide)]
      by_cases e' : ∃ t, en_at et b t
      · obtain ⟨t, ht⟩ := e
        obtain ⟨t', ht'⟩ := e'
        rw [if_pos (bP_y ⟨t', ht'⟩)]
        exact tail _ _ t t' hf (by rw [if_pos (by decide)]; exact ht) (by rw [if_pos (by decide)]; exact ht')
      · rw [if_neg (fun z => z (bP_n e'))]
        exact eOT.no w y he fun t z => by
          obtain ⟨tl, tr, -, z1, -⟩ := spx z
          rw [if_pos (by decide)] at z1
          exact e' ⟨tr, z1⟩
    · rw [if_pos (bP_n e)]
      exact eOT.no w y he fun t z => by
        obtain ⟨tl, tr, z1, -⟩ := spx z
        rw [if_pos (by decide)] at z1
        exact e ⟨tl, z1⟩
/-- addTerm of a term whose type is there, or was refused -/
theorem en_newTerm {f d n' : Nat} {T' : Nat → Int32 × Int32 × Int32} {ρ1 : hp_L} {P1 : hp_P} {v l r : Int32} {M : qM} (w : hp_w B ρ1) (y0 : tyI P n T) (y : tyJ P1 n' T') (he : enI P1 n' T' et em) (hfr : hp_fr ee_S 0 ρ P ρ1 P1) (x : ty_xt n T n' T') (h16 : em.length < 16000) (hv : (pl n' T' v (m_ty M) ∧ q_good (q_ad (ct_S T n) (m_ty M)) ∧ ct_S T' n' = q_ad (ct_S T n) (m_ty M)) ∨ (v = -2 ∧ ¬ q_good (q_ad (ct_S T n) (m_ty M)))) (hM : m_wf M) (h1 : en_ch em em.length l (m_l M)) (h2 : en_ch em em.length r (m_r M)) {R : qM → Prop} (hR : ∀ N, R N ↔ N = M) {c : Int32} (hc : c = m_c M) :
    eOM B sa R et em ρ P n T (am_call B sa am_dfl am_tb (f + 2) (d + 4) 43 [.ref (ρ1.1 1), .int c, .int v, .int l, .int r] (hp_S sa ρ1 P1)) := by
  subst hc
  have hn := y.1.n31
  rcases hv with ⟨g1, g2, g3⟩ | ⟨g1, g2⟩
  · obtain ⟨ρ', P', b1, b2, b3, b4, b5⟩ := en_addTerm (sa := sa) (f := f) (d := d) w he h16 (Or.inl g1) hn hM h1 h2
    by_cases e : (m_fl M).length ≤ 4000 ∧ m_ht M ≤ 120
    · exact Or.inl ⟨M, ρ', P', n', T', (hR M).mpr rfl, ⟨g2, e⟩, by rw [b1, bP_t ⟨g1, e⟩], ⟨b2, y.fr b5 fun r h1 h2 => en_S_no h1 h2, b3 ⟨g1, e⟩, hp_fr.tr0 hfr b5.en, x⟩, g3⟩
    · exact Or.inr ⟨fun N hN z => e (by rw [(hR N).mp hN] at z; exact z.2), ρ', P', n', T', by rw [b1, bP_f (fun z => e z.2)], b2, y.fr b5 fun r h1 h2 => en_S_no h1 h2, b4 fun z => e z.2, hp_fr.tr0 hfr b5.en, x⟩
  · obtain ⟨ρ', P', b1, b2, b3, b4, b5⟩ := en_addTerm (sa := sa) (f := f) (d := d) w he h16 (Or.inr g1) hn hM h1 h2
    have e : ¬ pl n' T' v (m_ty M) := fun ⟨a, a1, a2, _⟩ => by
      rw [g1] at a2
      have := nI_pos (show a < 2 ^ 31 by omega)
      rw [← a2] at this
      exact this (by decide)
    exact Or.inr ⟨fun N hN z => g2 (by rw [(hR N).mp hN] at z; exact z.1), ρ', P', n', T', by rw [b1, bP_f (fun z => e z.1)], b2, y.fr b5 fun r h1 h2 => en_S_no h1 h2, b4 fun z => e z.1, hp_fr.tr0 hfr b5.en, x⟩
/-- a type that is there already -/
theorem en_old {v : Int32} {t : qT} (y : tyI P n T) (hv : pl n T v t) : pl n T v t ∧ q_good (q_ad (ct_S T n) t) ∧ ct_S T n = q_ad (ct_S T n) t := by
  have e : q_ad (ct_S T n) t = ct_S T n := q_ad_S hv.S
  exact ⟨hv, by rw [e]; exact y.good, e.symm⟩
/-- kinds 2 and 6: which term -/
def sp_2 (et : List qT) (x a : Int32) (M : qM) : Prop := inR x 100000000 ∧ ∃ t, en_at et a t ∧ M = mN (4 * x + 1) t .leaf .leaf
def sp_6 (et : List qT) (x a : Int32) (M : qM) : Prop := inR x 120 ∧ ∃ t, en_at et a t ∧ M = mN (4 * x) t .leaf .leaf
theorem m_lf_n {k : Nat} {t : qT} (h : k < 2 ^ 31) (h2 : k ≠ 2) : m_lf (nI k) t := ⟨nI_pos' h, fun e => absurd ((nI_eq h (by decide)).mp (show nI k = nI 2 from e)) h2⟩
theorem en_2 {f d : Nat} {x a : Int32} (w : hp_w B ρ) (y : tyJ P n T) (he : enI P n T et em) (h16 : em.length < 16000) :
    eOM B sa (sp_2 et x a) et em ρ P n T (am_call B sa am_dfl am_tb (f + 2) (d + 5) 37 [.ref (ρ.1 1), .int x, .int a] (hp_S sa ρ P)) := by
  rw [am_c_37, am_s37_0, is_name, am_i_some]
  simp only [am_c_eq]
  by_cases e : inR x 100000000
  · rw [if_neg (bP_y e)]
    simp only [hx_1 w, Option.bind_some, en_hasType w he, am_i_some]
    by_cases e' : ∃ t, en_at et a t
    · rw [if_neg (bP_y e')]
      obtain ⟨t, ht⟩ := e'
      obtain ⟨v, r1, r2⟩ := et_rd he ht
      obtain ⟨j, j1, j2⟩ := e
      have hc : 4 * x + 1 = nI (4 * j + 1) := by rw [j2, nI4, nI_1]
      simp only [hr_102 w, hl_102 w, r1, Option.bind_some]
      have := (en_newTerm (sa := sa) (f := f) (d := d) (M := mN (4 * x + 1) t .leaf .leaf) (R := sp_2 et x a) w y.1 y he hp_fr.rf ty_xt.rf h16 (Or.inl (en_old y.1 r2)) (m_wf_lf (by rw [hc]; exact m_lf_n (by omega) (by omega))) (Or.inl ⟨rfl, rfl⟩) (Or.inl ⟨rfl, rfl⟩) (fun N => ⟨fun ⟨_, t', z1, z2⟩ => by rw [z2, en_at_inj z1 ht], fun z => ⟨⟨j, j1, j2⟩, t, ht, z⟩⟩) (by rw [m_c_N])).i
      simp only [am_c_eq] at this
      exact this
    · rw [if_pos (bP_n e')]
      exact eOM.no w y he fun t ⟨_, t', z, _⟩ => e' ⟨t', z⟩
  · rw [if_pos (bP_n e)]
    exact eOM.no w y he fun t z => e z.1
theorem en_6 {f d : Nat} {x a : Int32} (w : hp_w B ρ) (y : tyJ P n T) (he : enI P n T et em) (h16 : em.length < 16000) :
    eOM B sa (sp_6 et x a) et em ρ P n T (am_call B sa am_dfl am_tb (f + 2) (d + 5) 41 [.ref (ρ.1 1), .int x, .int a] (hp_S sa ρ P)) := by
  rw [am_c_41, am_s41_0]
  simp only [am_c_lt, am_c_gt]
  rcases pk_ix x (show 120 < 2 ^ 31 by decide) with h | h | ⟨j, j1, j2⟩
  · rw [if_pos h]
    exact eOM.no w y he fun t ⟨⟨j, z1, z2⟩, _⟩ => by rw [z2] at h; exact nI_pos (by omega) h
  · have h' : (119 : Int32) < x := by
      have e1 : (119 : Int32).toInt = 119 := by decide
      have e2 : (nI 120).toInt = 120 := by decide
      exact Int32.lt_iff_toInt_lt.mpr (by have := Int32.le_iff_toInt_le.mp h; omega)
    rw [if_pos h']
    have := eOM.no (sa := sa) (R := sp_6 et x a) w y he fun t ⟨⟨j, z1, z2⟩, _⟩ => by rw [z2] at h; exact nI_ge z1 (by omega) h
    split
    · exact this
    · exact this
  · rw [if_neg (by rw [j2]; exact nI_pos (by omega)), if_neg (by rw [j2, show (119 : Int32) = nI 119 from rfl]; exact nI_nlt (by omega) (by omega))]
    simp only [hx_1 w, Option.bind_some, en_hasType w he, am_i_some, am_c_eq]
    by_cases e' : ∃ t, en_at et a t
    · rw [if_neg (bP_y e')]
      obtain ⟨t, ht⟩ := e'
      obtain ⟨v, r1, r2⟩ := et_rd he ht
      have h0 : 4 * x + 0 = 4 * x := by grind
      have hc : 4 * x = nI (4 * j) := by rw [j2, nI4]
      simp only [hr_102 w, hl_102 w, r1, Option.bind_some, h0]
      have := (en_newTerm (sa := sa) (f := f) (d := d) (M := mN (4 * x) t .leaf .leaf) (R := sp_6 et x a) w y.1 y he hp_fr.rf ty_xt.rf h16 (Or.inl (en_old y.1 r2)) (m_wf_lf (by rw [hc]; exact m_lf_n (by omega) (by omega))) (Or.inl ⟨rfl, rfl⟩) (Or.inl ⟨rfl, rfl⟩) (fun N => ⟨fun ⟨_, t', z1, z2⟩ => by rw [z2, en_at_inj z1 ht], fun z => ⟨⟨j, j1, j2⟩, t, ht, z⟩⟩) (by rw [m_c_N])).i
      simp only [am_c_eq] at this
      exact this
    · rw [if_pos (bP_n e')]
      exact eOM.no w y he fun t ⟨_, t', z, _⟩ => e' ⟨t', z⟩
/-- kind 4: which term -/
def sp_4 (em : List qM) (x a : Int32) (M : qM) : Prop := ∃ F X u, en_at em x F ∧ en_at em a X ∧ m_ty F = qF (m_ty X) u ∧ M = mN (-1) u F X
theorem en_4 {f d : Nat} {x a : Int32} (w : hp_w B ρ) (y : tyJ P n T) (he : enI P n T et em) (har : ty_ar (q_tk tk) T n) (htk : q_tk tk 2 = 2) (h16 : em.length < 16000) :
    eOM B sa (sp_4 em x a) et em ρ P n T (am_call B sa am_dfl am_tb (f + 2) (d + 5) 39 [.ref (ρ.1 1), .int x, .int a] (hp_S sa ρ P)) := by
  rw [am_c_39, am_s39_0]
  simp only [am_c_eq, hx_1 w, Option.bind_some, en_hasTerm w he, am_i_some]
  by_cases e : ∃ M, en_at em x M
  · rw [if_neg (bP_y e)]
    by_cases e' : ∃ M, en_at em a M
    · rw [if_neg (bP_y e')]
      obtain ⟨F, hF⟩ := e
      obtain ⟨X, hX⟩ := e'
      obtain ⟨f0, -, ⟨vf, f2, f2'⟩, -⟩ := en_rd he hF
      obtain ⟨x0, -, ⟨vx, x2, x2'⟩, -⟩ := en_rd he hX
      obtain ⟨k, k1, rfl, k3⟩ := f2'
      have hn := y.1.n31
      obtain ⟨r0, r1, r2⟩ := ty_row y.1.1 k1
      rw [ct_at y.1.wf hn k1] at k3
      simp only [ho_100 w, hr_105 w, hl_105 w, f2, x2, Option.bind_some, hx_7 w, ty_isFun w y.1.1 k1, am_i_some, am_c_ne]
      by_cases c2 : (T k).1 = 2
      · rw [if_pos c2, if_pos (show (1 : Int32) ≠ 0 by decide)]
        simp only [hr_701 w, hl_701 w, r1, Option.bind_some]
        have hark := har k k1
        rw [ct_at y.1.wf hn k1, q_ar_N, c2, htk] at hark
        obtain ⟨w1, w2⟩ := y.1.wf k k1
        have hL : ∃ l, l < k ∧ (T k).2.1 = nI l := w1.resolve_left fun z => by
          have := hark.1.mpr (by rw [z, ct_m1])
          omega
        have hR : ∃ r, r < k ∧ (T k).2.2 = nI r := w2.resolve_left fun z => by
          have := hark.2.1.mpr (by rw [z, ct_m1])
          omega
        obtain ⟨l, l1, l2⟩ := hL
        obtain ⟨r, rr1, rr2⟩ := hR
        have pL : pl n T (T k).2.1 (ct T n (T k).2.1) := ⟨l, by omega, l2, rfl⟩
        have pR : pl n T (T k).2.2 (ct T n (T k).2.2) := ⟨r, by omega, rr2, rfl⟩
        rw [c2] at k3
        by_cases c3 : (T k).2.1 = vx
        · rw [if_neg (fun z => z c3)]
          simp only [hr_702 w, hl_702 w, r2, Option.bind_some, hx_1 w]
          have hty : m_ty F = qF (m_ty X) (ct T n (T k).2.2) := by
            rw [← k3, ← x2'.ct, ← c3]; rfl
          have := (en_newTerm (sa := sa) (f := f) (d := d) (M := mN (-1) (ct T n (T k).2.2) F X) (R := sp_4 em x a) w y.1 y he hp_fr.rf ty_xt.rf h16 (Or.inl (en_old y.1 pR)) (m_wf_app f0 x0 hty) (by
            obtain ⟨j, j1, j2, j3⟩ := hF
            exact Or.inr ⟨j, (List.getElem?_eq_some_iff.mp j3).1, j1, j3⟩) (by
            obtain ⟨j, j1, j2, j3⟩ := hX
            exact Or.inr ⟨j, (List.getElem?_eq_some_iff.mp j3).1, j1, j3⟩) (fun N => ⟨fun ⟨F', X', u, z1, z2, z3, z4⟩ => by
              rw [en_at_inj z1 hF, en_at_inj z2 hX] at z4
              rw [en_at_inj z1 hF, en_at_inj z2 hX, hty] at z3
              rw [z4, (qN_inj.mp z3).2.2], fun z => ⟨F, X, _, hF, hX, hty, z⟩⟩) (by rw [m_c_N])).i
          simp only [am_c_eq] at this
          exact this
        · rw [if_pos c3]
          exact eOM.no w y he fun M ⟨F', X', u, z1, z2, z3, z4⟩ => c3 (by
            rw [en_at_inj z1 hF, en_at_inj z2 hX, ← k3] at z3
            exact pL.eq (by rw [(qN_inj.mp z3).2.1]; exact x2') y.1.wf y.1.2.1 hn)
      · rw [if_neg c2, if_neg (fun z => z rfl)]
        exact eOM.no w y he fun M ⟨F', X', u, z1, z2, z3, z4⟩ => c2 (by
          rw [en_at_inj z1 hF, ← k3] at z3
          exact (qN_inj.mp z3).1)
    · rw [if_pos (bP_n e')]
      exact eOM.no w y he fun M ⟨F', X', u, z1, z2, z3, z4⟩ => e' ⟨X', z2⟩
  · rw [if_pos (bP_n e)]
    exact eOM.no w y he fun M ⟨F', X', u, z1, z2, z3, z4⟩ => e ⟨F', z1⟩
/-- kind 3: which term -/
def sp_3 (ow et : List qT) (x a : Int32) (M : qM) : Prop := ∃ o t, en_at ow x o ∧ en_at et a t ∧ q_fit o t = true ∧ M = mN (4 * x + 2) t .leaf .leaf
/-- what equality's own type becomes -/
theorem q_fit_eq {t : qT} {v : Int32} (y : tyI P n T) (har : ty_ar (q_tk tk) T n) (h0 : q_tk tk 0 = 0) (h2 : q_tk tk 2 = 2) (hv : pl n T v t) (h : q_fit (qF qA (qF qA qB)) t = true) : ∃ a, t = qF a (qF a qB) := by
  obtain ⟨k, k1, rfl, rfl⟩ := hv
  have hn := y.n31
  have at2 : ∀ {k : Nat} {l r : qT} {μ : Int32 → Option qT}, k < n → (q_mt (qF l r) (ct T n (nI k)) μ).isSome = true → ∃ a b, a < k ∧ b < k ∧ ct T n (nI k) = qF (ct T n (nI a)) (ct T n (nI b)) ∧ ((q_mt l (ct T n (nI a)) μ).bind fun μ => q_mt r (ct T n (nI b)) μ).isSome = true := fun {k l r μ} hk hq => by
    rw [ct_at y.wf hn hk, show qF l r = qN 2 l r from rfl, q_mt_c (by decide)] at hq
    by_cases c : (2 : Int32) = (T k).1
    · rw [if_pos c] at hq
      have hark := har k hk
      rw [ct_at y.wf hn hk, q_ar_N, ← c, h2] at hark
      obtain ⟨w1, w2⟩ := y.wf k hk
      obtain ⟨a, a1, a2⟩ := w1.resolve_left fun z => by
        have := hark.1.mpr (by rw [z, ct_m1])
        omega
      obtain ⟨b, b1, b2⟩ := w2.resolve_left fun z => by
        have := hark.2.1.mpr (by rw [z, ct_m1])
        omega
      rw [a2, b2] at hq
      exact ⟨a, b, a1, b1, by rw [ct_at y.wf hn hk, ← c, a2, b2]; rfl, hq⟩
    · rw [if_neg c] at hq
      cases hq
  unfold q_fit at h
  obtain ⟨a, b, a1, b1, e1, q1⟩ := at2 k1 h
  rw [show qA = qN (-1) qE qE from rfl, q_mt_v (by decide)] at q1
  dsimp only [Option.bind] at q1
  obtain ⟨a', b', a1', b1', e2, q2⟩ := at2 (show b < n by omega) q1
  rw [q_mt_v (by decide)] at q2
  rw [if_pos rfl] at q2
  dsimp only at q2
  by_cases c : ct T n (nI a) = ct T n (nI a')
  · rw [if_pos c] at q2
    have q3 : (q_mt qB (ct T n (nI b')) fun x => if x = -1 then some (ct T n (nI a)) else none).isSome = true := q2
    have hb' : b' < n := by omega
    rw [ct_at y.wf hn hb', show qB = qN 0 qE qE from rfl, q_mt_c (by decide)] at q3
    by_cases c0 : (0 : Int32) = (T b').1
    · have harb := har b' hb'
      rw [ct_at y.wf hn hb', q_ar_N, ← c0, h0] at harb
      refine ⟨ct T n (nI a), ?_⟩
      have e3 : ct T n (nI b') = qB := by
        rw [ct_at y.wf hn hb', ← c0, harb.1.mp rfl, harb.2.1.mp (by omega)]; rfl
      rw [e1, e2, ← c, e3]
    · rw [if_neg c0] at q3
      cases q3
  · rw [if_neg c] at q2
    cases q2
theorem en_3 {f d : Nat} {x a : Int32} (w : hp_w B ρ) (y : tyJ P n T) (he : enI P n T et em) (hs : sgI P n T tk ow) (har : ty_ar (q_tk tk) T n) (h0 : q_tk tk 0 = 0) (h2 : q_tk tk 2 = 2) (ho : ow[0]? = some (qF qA (qF qA qB))) (h16 : em.length < 16000) (hf : 10000 ≤ f) :
    eOM B sa (sp_3 ow et x a) et em ρ P n T (am_call B sa am_dfl am_tb (f + 2) (d + 30) 38 [.ref (ρ.1 1), .int x, .int a] (hp_S sa ρ P)) := by
  have hol := hs.2.2.2.1
  rw [am_c_38, am_s38_0]
  simp only [am_c_eq, ho_101 w, hx_5 w, Option.bind_some, sg_hasC w hs, am_i_some]
  by_cases e : inR x ow.length
  · rw [if_neg (bP_y e)]
    simp only [hx_1 w, Option.bind_some, en_hasType w he, am_i_some]
    by_cases e' : ∃ t, en_at et a t
    · rw [if_neg (bP_y e')]
      obtain ⟨t, ht⟩ := e'
      obtain ⟨v, r1, r2⟩ := et_rd he ht
      obtain ⟨j, j1, rfl⟩ := e
      obtain ⟨o, hj⟩ : ∃ o, ow[j]? = some o := ⟨_, List.getElem?_eq_getElem j1⟩
      have r3 := hs.2.2.2.2.2 j o hj
      have r4 : hp_rd P 501 (nI j) = some ((P.2 501).2 j) := hp_rd_nI (by rw [hs.2.2.2.2.1]; omega) (by omega)
      have hoj : en_at ow (nI j) o := ⟨j, rfl, by omega, hj⟩
      obtain ⟨P1, b1, b2⟩ := ty_becomes (sa := sa) (f := f + 2) (d := d + 4) q_tk_neg w y.1 har (by omega) r3 r2
      simp only [ho_100 w, ho_101 w, hr_501 w, hl_501 w, r4, hr_102 w, hl_102 w, r1, Option.bind_some, hx_7 w, b1, am_i_some]
      have y1 : tyJ P1 n T := ⟨⟨b2.okk y.1.1, y.1.2.1, by rw [b2.len]; exact y.1.2.2⟩, y.2⟩
      have he1 : enI P1 n T et em := he.fr (b2.fr (ρ := ρ)) fun r z1 z2 => ty_S_en z1 z2
      by_cases c : q_fit o t = true
      · rw [c, if_neg (show ¬ (bI true = 0) by decide)]
        obtain ⟨v', r1', r2'⟩ := et_rd he1 ht
        simp only [hr_102 w, hl_102 w, r1', Option.bind_some, hx_1 w]
        have hc : 4 * nI j + 2 = nI (4 * j + 2) := by rw [nI4]; exact nI_add (4 * j) 2
        have hlf : m_lf (4 * nI j + 2) t := by
          rw [hc]
          by_cases j0 : j = 0
          · subst j0
            refine ⟨nI_pos' (by omega), fun _ => ?_⟩
            rw [ho] at hj
            rw [← Option.some.inj hj] at c
            exact q_fit_eq y.1 har h0 h2 r2 c
          · exact m_lf_n (by omega) (by omega)
        have := (en_newTerm (sa := sa) (f := f) (d := d + 25) (M := mN (4 * nI j + 2) t .leaf .leaf) (R := sp_3 ow et (nI j) a) w y.1 y1 he1 (b2.fr (ρ := ρ)).ey ty_xt.rf h16 (Or.inl (en_old y.1 r2')) (m_wf_lf hlf) (Or.inl ⟨rfl, rfl⟩) (Or.inl ⟨rfl, rfl⟩) (fun N => ⟨fun ⟨o', t', z1, z2, z3, z4⟩ => by rw [z4, en_at_inj z2 ht], fun z => ⟨o, t, hoj, ht, c, z⟩⟩) (by rw [m_c_N])).i
        simp only [am_c_eq] at this
        exact this
      · have c' : q_fit o t = false := by cases hq : q_fit o t; rfl; exact absurd hq c
        rw [c', if_pos (show bI false = 0 by decide)]
        exact Or.inr ⟨fun M ⟨o', t', z1, z2, z3, z4⟩ => absurd (by rw [← en_at_inj z1 hoj, ← en_at_inj z2 ht]; exact z3) c, ρ, P1, n, T, am_rz_0, w, y1, he1, (b2.fr (ρ := ρ)).ey, ty_xt.rf⟩
    · rw [if_pos (bP_n e')]
      exact eOM.no w y he fun M ⟨o', t', z1, z2, z3, z4⟩ => e' ⟨t', z2⟩
  · rw [if_pos (bP_n e)]
    exact eOM.no w y he fun M ⟨o', t', z1, z2, z3, z4⟩ => e ((en_at_R (by omega)).mpr ⟨o', z1⟩)
/-- kind 5: which term -/
def sp_5 (et : List qT) (em : List qM) (x a : Int32) (M : qM) : Prop := ∃ t N, en_at et x t ∧ en_at em a N ∧ m_of t N 0 ∧ M = mN (-2) (qF t (m_ty N)) N .leaf
theorem en_5 {f d : Nat} {x a : Int32} (w : hp_w B ρ) (y : tyJ P n T) (he : enI P n T et em) (h16 : em.length < 16000) (hf : 10000 ≤ f) :
    eOM B sa (sp_5 et em x a) et em ρ P n T (am_call B sa am_dfl am_tb (f + 2) (d + 5) 40 [.ref (ρ.1 1), .int x, .int a] (hp_S sa ρ P)) := by
  rw [am_c_40, am_s40_0]
  simp only [am_c_eq, hx_1 w, Option.bind_some, en_hasType w he, am_i_some]
  by_cases e : ∃ t, en_at et x t
  · rw [if_neg (bP_y e)]
    simp only [en_hasTerm w he, am_i_some]
    by_cases e' : ∃ M, en_at em a M
    · rw [if_neg (bP_y e')]
      obtain ⟨t, ht⟩ := e
      obtain ⟨N, hN⟩ := e'
      obtain ⟨v, r1, r2⟩ := et_rd he ht
      obtain ⟨P1, b1, b2⟩ := en_binds (sa := sa) (f := f + 2) (d := d + 3) w y.1 he (by omega) hN r2
      simp only [hr_102 w, hl_102 w, r1, Option.bind_some, hx_1 w, b1, am_i_some]
      have y1 : tyJ P1 n T := ⟨y.1.cg (by rw [b2.1]) fun r z1 z2 => b2.2.1 r (by omega) (by omega), y.2⟩
      have he1 := b2.en he
      by_cases c : m_of t N 0
      · rw [if_neg (bP_y c)]
        obtain ⟨v1, r1', r2'⟩ := et_rd he1 ht
        obtain ⟨n0, -, ⟨u, u1, u2⟩, -⟩ := en_rd he1 hN
        obtain ⟨ρ1, P2, v2, n', T', a1, a2, a3, a4, a5, a6, -⟩ := tm_make (sa := sa) (f := f + 2) (d := d + 1) (c := 2) w y1.1 (by omega) r2'.In u2.In
        rw [r2'.ct, u2.ct] at a6
        have he2 : enI P2 n' T' et em := (he1.xt y.1.wf y.1.n31 a5).fr a4 fun r h1 h2 => ty_S_en h1 h2
        simp only [ho_100 w, hr_102 w, hl_102 w, r1', hr_105 w, hl_105 w, u1, Option.bind_some, hx_7 w, a1, am_i_some]
        rw [w_ob a4 1]
        simp only [hx_1 a2, Option.bind_some]
        have hv : (pl n' T' v2 (qF t (m_ty N)) ∧ q_good (q_ad (ct_S T n) (qF t (m_ty N))) ∧ ct_S T' n' = q_ad (ct_S T n) (qF t (m_ty N))) ∨ (v2 = -2 ∧ ¬ q_good (q_ad (ct_S T n) (qF t (m_ty N)))) := by
          rcases a6.go y1.1 a3 a5 with ⟨g1, g2, g3⟩ | ⟨g1, g2, g3, g4, g5⟩
          · exact Or.inl ⟨g1, g2, g3⟩
          · exact Or.inr ⟨g1, g3⟩
        have := (en_newTerm (sa := sa) (f := f) (d := d) (M := mN (-2) (qF t (m_ty N)) N .leaf) (R := sp_5 et em x a) a2 y.1 (y1.xt a3 a5) he2 (hp_fr.tr0 (b2.fr (ρ := ρ)).en a4.ey) a5 h16 hv (m_wf_abs n0) (by
            obtain ⟨j, j1, j2, j3⟩ := hN
            exact Or.inr ⟨j, (List.getElem?_eq_some_iff.mp j3).1, j1, j3⟩) (Or.inl ⟨rfl, rfl⟩) (fun M => ⟨fun ⟨t', N', z1, z2, z3, z4⟩ => by rw [z4, en_at_inj z1 ht, en_at_inj z2 hN], fun z => ⟨t, N, ht, hN, c, z⟩⟩) (by rw [m_c_N])).i
        simp only [am_c_eq] at this
        exact this
      · rw [if_pos (bP_n c)]
        exact Or.inr ⟨fun M ⟨t', N', z1, z2, z3, z4⟩ => absurd (by rw [← en_at_inj z1 ht, ← en_at_inj z2 hN]; exact z3) c, ρ, P1, n, T, am_rz_0, w, y1, he1, (b2.fr (ρ := ρ)).en, ty_xt.rf⟩
    · rw [if_pos (bP_n e')]
      exact eOM.no w y he fun M ⟨t', N', z1, z2, z3, z4⟩ => e' ⟨N', z2⟩
  · rw [if_pos (bP_n e)]
    exact eOM.no w y he fun M ⟨t', N', z1, z2, z3, z4⟩ => e ⟨t', z1⟩
end EN6
