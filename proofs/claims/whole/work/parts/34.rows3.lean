/-! ROWS of the class, 3: writing by trees; writeEquals, writeApplied, copy -/
abbrev qS : Type := Int32 × qT
def rv (n : Nat) (s : rwS) : Prop := ∃ a, a < n ∧ s.2 = nI a
def rt (T : Nat → Int32 × Int32 × Int32) (n : Nat) (s : rwS) : qS := (s.1, ct T n s.2)
def qA : qT := qN (-1) qE qE
def qB : qT := qN 0 qE qE
def qF (a b : qT) : qT := qN 2 a b
/-- the table, and the two types that are always there -/
def tyJ (P : hp_P) (n : Nat) (T : Nat → Int32 × Int32 × Int32) : Prop := tyI P n T ∧ 2 ≤ n ∧ T 0 = (-1, -1, -1) ∧ T 1 = (0, -1, -1)
/-- Z: the entry will not do; G: the types that there may be; D: the row as it is meant so far -/
def wI (Z : Prop) (G : qT → Prop) (P : hp_P) (n : Nat) (T : Nat → Int32 × Int32 × Int32) (Rs : List (List rwS)) (O : List rwS) (b : Bool) (D : List qS) : Prop :=
  tyJ P n T ∧ rwI P Rs O b ∧ (∀ s ∈ Rs.flatten ++ O, rv n s) ∧ (∀ t, ct_S T n t → G t) ∧ (b = false → O.map (rt T n) = D) ∧ (b = true → Z)
/-- a place of a type, or a refusal for cause -/
def plg (G : qT → Prop) (n : Nat) (T : Nat → Int32 × Int32 × Int32) (v : Int32) (t : qT) : Prop := pl n T v t ∨ (v = -2 ∧ ¬ q_good G)
def wt_S : Nat → Bool := fun r => rw_S r || ty_S r
theorem wt_S_rw {r : Nat} (h : wt_S r = false) : rw_S r = false := by
  unfold wt_S at h
  exact (Bool.or_eq_false_iff.mp h).1
theorem wt_S_ty {r : Nat} (h : wt_S r = false) : ty_S r = false := by
  unfold wt_S at h
  exact (Bool.or_eq_false_iff.mp h).2
theorem rv.xt {n n' : Nat} {s : rwS} (h : rv n s) (k : n ≤ n') : rv n' s := by
  obtain ⟨a, h1, h2⟩ := h
  exact ⟨a, by omega, h2⟩
theorem rv.In {n : Nat} {s : rwS} (h : rv n s) : ty_in n s.2 := Or.inr h
theorem rv.pl {n : Nat} {T : Nat → Int32 × Int32 × Int32} {s : rwS} (h : rv n s) : pl n T s.2 (rt T n s).2 := by
  obtain ⟨a, h1, h2⟩ := h
  exact ⟨a, h1, h2, rfl⟩
theorem rt.xt {n n' : Nat} {T T' : Nat → Int32 × Int32 × Int32} {s : rwS} (h : rv n s) (hw : ty_wf T n) (hn : n < 2 ^ 31) (x : ty_xt n T n' T') : rt T' n' s = rt T n s := by
  unfold rt
  rw [ct_ext hw x.2 hn x.1 h.In]
theorem tyI.n31 {P : hp_P} {n : Nat} {T : Nat → Int32 × Int32 × Int32} (h : tyI P n T) : n < 2 ^ 31 := by have := h.1.1.1.2; omega
theorem tyI.wf {P : hp_P} {n : Nat} {T : Nat → Int32 × Int32 × Int32} (h : tyI P n T) : ty_wf T n := h.1.2.1
/-- the table says nothing of other roles -/
theorem tyI.cg {P P' : hp_P} {n : Nat} {T : Nat → Int32 × Int32 × Int32} (h : tyI P n T) (h1 : P'.1 708 = P.1 708) (h2 : ∀ r, 700 ≤ r → r ≤ 707 → P'.2 r = P.2 r) : tyI P' n T := by
  obtain ⟨⟨⟨⟨hn, hn8⟩, ⟨len, a1, a2, l0, l1, l2, l3, l4, l5, l6⟩, l7, hrow, hhd⟩, hwf, hsz⟩, hd, h64⟩ := h
  refine ⟨⟨⟨⟨by rw [h1]; exact hn, hn8⟩, ⟨len, a1, a2, ?_, ?_, ?_, ?_, ?_, ?_, ?_⟩, ?_, fun j hj => ?_, fun b hb => ?_⟩, hwf, fun j hj => ?_⟩, hd, by rw [h2 700 (by decide) (by decide)]; exact h64⟩
  · rw [h2 700 (by decide) (by decide)]; exact l0
  · rw [h2 701 (by decide) (by decide)]; exact l1
  · rw [h2 702 (by decide) (by decide)]; exact l2
  · rw [h2 703 (by decide) (by decide)]; exact l3
  · rw [h2 704 (by decide) (by decide)]; exact l4
  · rw [h2 705 (by decide) (by decide)]; exact l5
  · rw [h2 706 (by decide) (by decide)]; exact l6
  · rw [h2 707 (by decide) (by decide)]; exact l7
  · rw [h2 700 (by decide) (by decide), h2 701 (by decide) (by decide), h2 702 (by decide) (by decide), h2 705 (by decide) (by decide)]
    exact hrow j hj
  · rw [h2 707 (by decide) (by decide)]
    exact hhd b hb
  · rw [h2 703 (by decide) (by decide), h2 704 (by decide) (by decide)]
    exact hsz j hj
theorem tyI.fr {S : Nat → Bool} {e : Nat} {ρ ρ' : hp_L} {P P' : hp_P} {n : Nat} {T : Nat → Int32 × Int32 × Int32} (h : tyI P n T) (k : hp_fr S e ρ P ρ' P') (hS : ∀ r, 700 ≤ r → r ≤ 708 → S r = false) : tyI P' n T := h.cg (k.2.1 708 (hS 708 (by decide) (by decide))).1 fun r h1 h2 => (k.2.1 r (hS r h1 (by omega))).2.1
theorem tyJ.A {P : hp_P} {n : Nat} {T : Nat → Int32 × Int32 × Int32} (h : tyJ P n T) : pl n T 0 qA := by
  refine ⟨0, by have := h.2.1; omega, rfl, ?_⟩
  rw [show (0 : Int32) = nI 0 from rfl, ct_at h.1.wf h.1.n31 (by have := h.2.1; omega), h.2.2.1]
  show qN (-1) (ct T n (-1)) (ct T n (-1)) = qA
  rw [ct_m1]; rfl
theorem tyJ.B {P : hp_P} {n : Nat} {T : Nat → Int32 × Int32 × Int32} (h : tyJ P n T) : pl n T 1 qB := by
  refine ⟨1, by have := h.2.1; omega, rfl, ?_⟩
  rw [show (1 : Int32) = nI 1 from rfl, ct_at h.1.wf h.1.n31 (by have := h.2.1; omega), h.2.2.2]
  show qN 0 (ct T n (-1)) (ct T n (-1)) = qB
  rw [ct_m1]; rfl
theorem tyJ.xt {P P' : hp_P} {n n' : Nat} {T T' : Nat → Int32 × Int32 × Int32} (h : tyJ P n T) (k : tyI P' n' T') (x : ty_xt n T n' T') : tyJ P' n' T' := by
  have h2 := h.2.1
  exact ⟨k, Nat.le_trans h2 x.1, by rw [x.2 0 (by omega)]; exact h.2.2.1, by rw [x.2 1 (by omega)]; exact h.2.2.2⟩
theorem tyJ.fr {S : Nat → Bool} {e : Nat} {ρ ρ' : hp_L} {P P' : hp_P} {n : Nat} {T : Nat → Int32 × Int32 × Int32} (h : tyJ P n T) (k : hp_fr S e ρ P ρ' P') (hS : ∀ r, 700 ≤ r → r ≤ 708 → S r = false) : tyJ P' n T := ⟨h.1.fr k hS, h.2⟩
theorem rw_S_no {r : Nat} (h1 : 700 ≤ r) (_ : r ≤ 708) : rw_S r = false := by
  unfold rw_S
  exact decide_eq_false (by omega)
theorem ty_S_no {r : Nat} (_ : 301 ≤ r) (h2 : r ≤ 307) : ty_S r = false := by
  unfold ty_S
  exact decide_eq_false (by omega)
theorem hp_fr.wr {e : Nat} {ρ ρ' : hp_L} {P P' : hp_P} (h : hp_fr rw_S e ρ P ρ' P') : hp_fr wt_S e ρ P ρ' P' := h.weaken fun _ h => wt_S_rw h
theorem hp_fr.wx {e : Nat} {ρ ρ' : hp_L} {P P' : hp_P} (h : hp_fr rx_S e ρ P ρ' P') : hp_fr wt_S e ρ P ρ' P' := h.weaken fun _ h => rx_rw (wt_S_rw h)
theorem hp_fr.xw {e : Nat} {ρ ρ' : hp_L} {P P' : hp_P} (h : hp_fr rx_S e ρ P ρ' P') : hp_fr rw_S e ρ P ρ' P' := h.weaken fun _ h => rx_rw h
theorem hp_fr.wy {e : Nat} {ρ ρ' : hp_L} {P P' : hp_P} (h : hp_fr ty_S e ρ P ρ' P') : hp_fr wt_S e ρ P ρ' P' := h.weaken fun _ h => wt_S_ty h
section RW3
variable {sa : Nat → Nat} {B : Nat} {ρ : hp_L} {P : hp_P} {Rs : List (List rwS)} {O : List rwS} {b : Bool} {n : Nat} {T : Nat → Int32 × Int32 × Int32} {Z : Prop} {G : qT → Prop} {D : List qS}
theorem plg.xt {n' : Nat} {T' : Nat → Int32 × Int32 × Int32} {v : Int32} {t : qT} (h : plg G n T v t) (hw : ty_wf T n) (hn : n < 2 ^ 31) (x : ty_xt n T n' T') : plg G n' T' v t := h.imp (fun h => h.xt hw hn x) id
/-- a step that writes: what is behind it -/
def wO (Z : Prop) (G : qT → Prop) (B : Nat) (sa : Nat → Nat) (Rs : List (List rwS)) (x : Option (Option Value × am_S)) (r : Option Value) (ρ : hp_L) (P : hp_P) (n : Nat) (T : Nat → Int32 × Int32 × Int32) (D : List qS) : Prop :=
  ∃ (ρ' : hp_L) (P' : hp_P) (n' : Nat) (T' : Nat → Int32 × Int32 × Int32) (O' : List rwS) (b' : Bool), x = some (r, hp_S sa ρ' P') ∧ hp_w B ρ' ∧ wI Z G P' n' T' Rs O' b' D ∧ hp_fr wt_S 0 ρ P ρ' P' ∧ ty_xt n T n' T'
/-- Rows.write, by trees -/
theorem w_write {f d : Nat} (w : hp_w B ρ) (h : wI Z G P n T Rs O b D) {c v : Int32} {t : qT} (hv : plg G n T v t) (hg : ¬ q_good G → Z) (hz : 4000 < D.length + 1 → Z) :
    ∃ (ρ' : hp_L) (P' : hp_P) (O' : List rwS) (b' : Bool), am_call B sa am_dfl am_tb (f + 2) (d + 3) 51 [.ref (ρ.1 3), .int c, .int v] (hp_S sa ρ P) = some (none, hp_S sa ρ' P') ∧ hp_w B ρ' ∧ wI Z G P' n T Rs O' b' (D ++ [(c, t)]) ∧ hp_fr rx_S 0 ρ P ρ' P' ∧ (b' = false → O' = O ++ [(c, v)] ∧ b = false) ∧ (b' = true → O' = O) ∧ ∀ k, k ≠ (Rs.flatten ++ O).length → k < (P.2 301).1 → (P'.2 301).2 k = (P.2 301).2 k ∧ (P'.2 302).2 k = (P.2 302).2 k := by
  obtain ⟨h1, h2, h3, h4, h5, h6⟩ := h
  obtain ⟨ρ', P', r1, r2, r3, r4, r5⟩ := rw_write (sa := sa) (f := f) (d := d) (s := (c, v)) w h2
  have y' : tyJ P' n T := h1.fr r4 fun r a b => rx_rw (rw_S_no a b)
  cases b with
  | true =>
    have hw : rw_w O true (c, v) = (O, true) := rfl
    rw [hw] at r3
    exact ⟨ρ', P', O, true, r1, r2, ⟨y', r3, h3, h4, fun z => by (cases z), fun _ => h6 rfl⟩, r4, fun z => by (cases z), fun _ => rfl, r5⟩
  | false =>
    have hD := h5 rfl
    have hlen : D.length = O.length := by rw [← hD, List.length_map]
    by_cases c1 : v < 0 ∨ 4000 ≤ O.length
    · have hw : rw_w O false (c, v) = (O, true) := by
        unfold rw_w
        rw [if_neg (by decide), if_pos c1]
      rw [hw] at r3
      refine ⟨ρ', P', O, true, r1, r2, ⟨y', r3, h3, h4, fun z => by (cases z), fun _ => ?_⟩, r4, fun z => by (cases z), fun _ => rfl, r5⟩
      rcases c1 with z | z
      · rcases hv with ⟨a, a1, a2, a3⟩ | ⟨e1, e2⟩
        · rw [a2] at z
          exact absurd z (nI_pos (by have := h1.1.n31; omega))
        · exact hg e2
      · exact hz (by omega)
    · have hw : rw_w O false (c, v) = (O ++ [(c, v)], false) := by
        unfold rw_w
        rw [if_neg (by decide), if_neg c1]
      rw [hw] at r3
      have hv' : pl n T v t := hv.resolve_right fun ⟨e1, _⟩ => c1 (Or.inl (by rw [e1]; decide))
      obtain ⟨a, a1, a2, a3⟩ := hv'
      refine ⟨ρ', P', O ++ [(c, v)], false, r1, r2, ⟨y', r3, fun s hs => ?_, h4, fun _ => ?_, fun z => by (cases z)⟩, r4, fun _ => ⟨rfl, rfl⟩, fun z => by (cases z), r5⟩
      · rw [← List.append_assoc] at hs
        rcases List.mem_append.mp hs with z | z
        · exact h3 s z
        · rw [List.mem_singleton.mp z]
          exact ⟨a, a1, a2⟩
      · rw [List.map_append, hD]
        show D ++ [(c, ct T n v)] = _
        rw [a3]
/-- Types.make, where rows are written -/
theorem w_make {f d : Nat} (w : hp_w B ρ) (h : wI Z G P n T Rs O b D) (hf : 10000 ≤ f) {c l r : Int32} {tl tr : qT} (hl : plg G n T l tl) (hr : plg G n T r tr) (hq : G (qN c tl tr)) :
    ∃ (ρ' : hp_L) (P' : hp_P) (v : Int32) (n' : Nat) (T' : Nat → Int32 × Int32 × Int32), am_call B sa am_dfl am_tb f (d + 3) 3 [.ref (ρ.1 7), .int c, .int l, .int r] (hp_S sa ρ P) = some (some (.int v), hp_S sa ρ' P') ∧ hp_w B ρ' ∧ wI Z G P' n' T' Rs O b D ∧ hp_fr ty_S 0 ρ P ρ' P' ∧ ty_xt n T n' T' ∧ plg G n' T' v (qN c tl tr) := by
  obtain ⟨h1, h2, h3, h4, h5, h6⟩ := h
  by_cases e : l = -2 ∨ r = -2
  · obtain ⟨f, rfl⟩ : ∃ g, f = g + 1 := ⟨f - 1, by omega⟩
    have hb : ¬ q_good G := by
      have m2 : ∀ {v : Int32} {t : qT}, plg G n T v t → v = -2 → ¬ q_good G := fun h e => by
        rcases h with h | h
        · exact absurd e (ty_in_m2 h.In h1.1.n31)
        · exact h.2
      exact e.elim (m2 hl) (m2 hr)
    exact ⟨ρ, P, -2, n, T, tm_make_no e, w, ⟨h1, h2, h3, h4, h5, h6⟩, hp_fr.rf, ty_xt.rf, Or.inr ⟨rfl, hb⟩⟩
  · have hl' := hl.resolve_right fun z => e (Or.inl z.1)
    have hr' := hr.resolve_right fun z => e (Or.inr z.1)
    obtain ⟨ρ', P', v, n', T', r1, r2, r3, r4, r5, r6, r7⟩ := tm_make (sa := sa) (d := d) (c := c) w h1.1 hf hl'.In hr'.In
    rw [hl'.ct, hr'.ct] at r6
    refine ⟨ρ', P', v, n', T', r1, r2, ⟨h1.xt r3 r5, h2.fr r4 fun r a b => ty_S_no a b, fun s hs => (h3 s hs).xt r5.1, ?_, fun hb => ?_, h6⟩, r4, r5, ?_⟩
    · rcases r6 with ⟨_, k⟩ | ⟨_, k1, k2, _⟩
      · intro t ht
        rcases k t ht with z | z
        · exact h4 t z
        · rw [z]; exact hq
      · rw [k1, k2]; exact h4
    · rw [← h5 hb]
      exact List.map_congr_left fun s hs => rt.xt (h3 s (List.mem_append.mpr (Or.inr hs))) h1.1.wf h1.1.n31 r5
    · rcases r6 with ⟨k, _⟩ | ⟨k0, k1, k2, k3⟩
      · exact Or.inl k
      · exact Or.inr ⟨k0, k3 G h4 hq⟩
theorem w_pB (h : wI Z G P n T Rs O b D) : plg G n T 1 qB := Or.inl h.1.B
theorem wI.gB (h : wI Z G P n T Rs O b D) : G qB := h.2.2.2.1 _ h.1.B.S
theorem w_ob {S : Nat → Bool} {e : Nat} {ρ' : hp_L} {P' : hp_P} (h : hp_fr S e ρ P ρ' P') (c : Nat) : ρ.1 c = ρ'.1 c := by rw [h.1]
/-- what stands before the sides of an equation -/
def w_eq (t : qT) : List qS := [(-1, qB), (-1, qF t qB), (2, qF t (qF t qB))]
/-- Rows.writeEquals -/
theorem w_writeEquals {f d : Nat} (w : hp_w B ρ) (h : wI Z G P n T Rs O b D) (hf : 10000 ≤ f) {v : Int32} {t : qT} (hv : plg G n T v t) (g1 : G (qF t qB)) (g2 : G (qF t (qF t qB))) (hg : ¬ q_good G → Z) (hz : 4000 < (D ++ w_eq t).length → Z) :
    ∃ (ρ' : hp_L) (P' : hp_P) (n' : Nat) (T' : Nat → Int32 × Int32 × Int32) (O' : List rwS) (b' : Bool), am_call B sa am_dfl am_tb f (d + 4) 52 [.ref (ρ.1 3), .int v] (hp_S sa ρ P) = some (none, hp_S sa ρ' P') ∧ hp_w B ρ' ∧ wI Z G P' n' T' Rs O' b' (D ++ w_eq t) ∧ hp_fr wt_S 0 ρ P ρ' P' ∧ ty_xt n T n' T' := by
  obtain ⟨f, rfl⟩ : ∃ g, f = g + 2 := ⟨f - 2, by omega⟩
  have hz' : ∀ k, k ≤ 3 → 4000 < D.length + k → Z := fun k hk hh => hz (by rw [List.length_append]; show 4000 < D.length + 3; omega)
  obtain ⟨ρ1, P1, v1, n1, T1, a1, a2, a3, a4, a5, a6⟩ := w_make (sa := sa) (f := f + 2) (d := d) (c := 2) w h hf hv (w_pB h) g1
  obtain ⟨ρ2, P2, O2, b2, c1, c2, c3, c4, -⟩ := w_write (sa := sa) (f := f) (d := d) (c := -1) (v := 1) a2 a3 (w_pB a3) hg (hz' 1 (by omega))
  obtain ⟨ρ3, P3, O3, b3, e1, e2, e3, e4, -⟩ := w_write (sa := sa) (f := f) (d := d) (c := -1) (v := v1) c2 c3 a6 hg (by rw [List.length_append]; exact hz' 2 (by omega))
  have hv1 : plg G n1 T1 v t := hv.xt h.1.1.wf h.1.1.n31 a5
  obtain ⟨ρ4, P4, v4, n4, T4, i1, i2, i3, i4, i5, i6⟩ := w_make (sa := sa) (f := f + 2) (d := d) (c := 2) e2 e3 hf hv1 a6 g2
  obtain ⟨ρ5, P5, O5, b5, k1, k2, k3, k4, -⟩ := w_write (sa := sa) (f := f) (d := d) (c := 2) (v := v4) i2 i3 i6 hg (by rw [List.length_append, List.length_append]; exact hz' 3 (by omega))
  refine ⟨ρ5, P5, n4, T4, O5, b5, ?_, k2, ?_, hp_fr.tr0 a4.wy (hp_fr.tr0 c4.wx (hp_fr.tr0 e4.wx (hp_fr.tr0 i4.wy k4.wx))), a5.tr i5⟩
  · rw [am_c_52, am_s52_0]
    simp only [ho_300 w, hx_7 w, Option.bind_some, a1, am_i_some]
    rw [w_ob a4 3]
    simp only [hx_3 a2, Option.bind_some, c1, am_v_some]
    rw [w_ob c4 3]
    simp only [hx_3 c2, Option.bind_some, e1, am_v_some]
    rw [w_ob e4 3]
    simp only [ho_300 e2, hx_7 e2, Option.bind_some, i1, am_i_some]
    rw [w_ob i4 3]
    simp only [hx_3 i2, Option.bind_some, k1, am_v_some]
  · rw [List.append_assoc, List.append_assoc] at k3
    exact k3
/-- Rows.writeApplied -/
theorem w_writeApplied {f d : Nat} (w : hp_w B ρ) (h : wI Z G P n T Rs O b D) (hf : 10000 ≤ f) {c v : Int32} {a q : qT} (hv : plg G n T v (qF a q)) (hq : q ≠ qE) (hg : ¬ q_good G → Z) (hz : 4000 < (D ++ [((-1 : Int32), q), (c, qF a q)]).length → Z) :
    ∃ (ρ' : hp_L) (P' : hp_P) (O' : List rwS) (b' : Bool), am_call B sa am_dfl am_tb f (d + 4) 53 [.ref (ρ.1 3), .int c, .int v] (hp_S sa ρ P) = some (none, hp_S sa ρ' P') ∧ hp_w B ρ' ∧ wI Z G P' n T Rs O' b' (D ++ [((-1 : Int32), q), (c, qF a q)]) ∧ hp_fr rx_S 0 ρ P ρ' P' := by
  obtain ⟨f, rfl⟩ : ∃ g, f = g + 2 := ⟨f - 2, by omega⟩
  have hz' : ∀ k, k ≤ 2 → 4000 < D.length + k → Z := fun k hk hh => hz (by rw [List.length_append]; show 4000 < D.length + 2; omega)
  have hans : ∃ v2, am_call B sa am_dfl am_tb (f + 2) (d + 3) 9 [.ref (ρ.1 7), .int v] (hp_S sa ρ P) = some (some (.int v2), hp_S sa ρ P) ∧ plg G n T v2 q := by
    rcases hv with hv | ⟨e1, e2⟩
    · obtain ⟨x, x1, x2, x3⟩ := hv
      rw [x2, ct_at h.1.1.wf h.1.1.n31 x1] at x3
      obtain ⟨y1, y2, y3⟩ := qN_inj.mp x3
      refine ⟨(T x).2.2, ?_, Or.inl ?_⟩
      · rw [x2, ty_answer (f := f + 1) (d := d + 1) w h.1.1.1 x1, if_pos y1]
      · rcases (h.1.1.wf x x1).2 with z | ⟨k, k1, k2⟩
        · rw [z, ct_m1] at y3
          exact absurd y3.symm hq
        · exact ⟨k, by omega, k2, y3⟩
    · refine ⟨-2, ?_, Or.inr ⟨rfl, e2⟩⟩
      rw [e1, ty_answer_no (f := f + 1) (d := d + 1) w (by decide)]
  obtain ⟨v2, s1, s2⟩ := hans
  obtain ⟨ρ2, P2, O2, b2, c1, c2, c3, c4, -⟩ := w_write (sa := sa) (f := f) (d := d) (c := -1) (v := v2) w h s2 hg (hz' 1 (by omega))
  obtain ⟨ρ3, P3, O3, b3, e1, e2, e3, e4, -⟩ := w_write (sa := sa) (f := f) (d := d) (c := c) (v := v) c2 c3 hv hg (by rw [List.length_append]; exact hz' 2 (by omega))
  refine ⟨ρ3, P3, O3, b3, ?_, e2, ?_, hp_fr.tr0 c4 e4⟩
  · rw [am_c_53, am_s53_0]
    simp only [ho_300 w, hx_7 w, Option.bind_some, s1, am_i_some, hx_3 w, c1, am_v_some]
    rw [w_ob c4 3]
    simp only [hx_3 c2, Option.bind_some, e1, am_v_some]
  · rw [List.append_assoc] at e3
    exact e3
end RW3
