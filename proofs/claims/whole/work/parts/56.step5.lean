/-! STEPS of the class, 5: termPutIn -/
/-- a term put in for a free variable -/
noncomputable def m_sb (c : Int32) (t : qT) (S : qM) : qM → qM
  | .leaf => .leaf
  | .inner k u _ l r => @ite _ ((Int32.ofNat k, u) = (c, t)) (Classical.propDecidable _) S (mN (Int32.ofNat k) u (m_sb c t S l) (m_sb c t S r))
theorem m_sb_N {c k : Int32} {t u : qT} {S l r : qM} : m_sb c t S (mN k u l r) = @ite _ ((k, u) = (c, t)) (Classical.propDecidable _) S (mN k u (m_sb c t S l) (m_sb c t S r)) := by
  unfold mN
  show @ite _ ((Int32.ofNat _, u) = (c, t)) (Classical.propDecidable _) S (mN (Int32.ofNat _) u (m_sb c t S l) (m_sb c t S r)) = _
  rw [q_code]
  rfl
/-- what a symbol becomes -/
noncomputable def m_ss (c : Int32) (t : qT) (S : qM) (s : qS) : List qS := @ite _ (s = (c, t)) (Classical.propDecidable _) (m_fl S) [s]
theorem m_sb_ok {c : Int32} {t : qT} {S : qM} (hc : q_fr c) (hS : m_wf S) (ht : m_ty S = t) : ∀ M, m_wf M → m_wf (m_sb c t S M) ∧ m_ty (m_sb c t S M) = m_ty M ∧ m_fl (m_sb c t S M) = (m_fl M).flatMap (m_ss c t S) := by
  obtain ⟨n1, n2, n3, n4⟩ := q_fr_ne hc
  refine m_wf_cases ?_ ?_ ?_
  · intro u l r w1 w2 hty ⟨a1, a2, a3⟩ ⟨b1, b2, b3⟩
    have hne : ¬ ((-1 : Int32), u) = (c, t) := fun z => n1 (Prod.mk.inj z).1.symm
    rw [m_sb_N, if_neg hne]
    refine ⟨m_wf_app a1 b1 (by rw [a2, b2]; exact hty), rfl, ?_⟩
    rw [m_fl_N, m_fl_N, List.flatMap_cons, List.flatMap_append, a3, b3]
    unfold m_ss
    rw [if_neg hne]
    rfl
  · intro a l w1 ⟨a1, a2, a3⟩
    have hne : ¬ ((-2 : Int32), qF a (m_ty l)) = (c, t) := fun z => n2 (Prod.mk.inj z).1.symm
    rw [m_sb_N, if_neg hne]
    refine ⟨?_, rfl, ?_⟩
    · have := m_wf_abs (a := a) a1
      rw [a2] at this
      exact this
    · rw [m_fl_N, m_fl_N, List.flatMap_cons, List.flatMap_append, a3]
      unfold m_ss
      rw [if_neg hne]
      rfl
  · intro k u hk
    rw [m_sb_N]
    by_cases e : (k, u) = (c, t)
    · rw [if_pos e]
      refine ⟨hS, ht.trans (Prod.mk.inj e).2.symm, ?_⟩
      rw [m_fl_N]
      show m_fl S = [(k, u)].flatMap _
      rw [List.flatMap_cons, List.flatMap_nil, List.append_nil]
      unfold m_ss
      rw [if_pos e]
    · rw [if_neg e]
      refine ⟨m_wf_lf hk, rfl, ?_⟩
      rw [show m_sb c t S .leaf = .leaf from rfl, m_fl_N]
      show [(k, u)] = [(k, u)].flatMap _
      rw [List.flatMap_cons, List.flatMap_nil, List.append_nil]
      unfold m_ss
      rw [if_neg e]
theorem hy_add_mem {H : List qM} {M : qM} : M ∈ hy_add H M := by
  by_cases h : M ∈ H
  · rw [hy_add_y h]; exact h
  · rw [hy_add_n h]; exact List.mem_append.mpr (Or.inr (List.mem_singleton.mpr rfl))
theorem hy_join_mem : ∀ {L H : List qM} {M : qM}, M ∈ L → M ∈ hy_join none H L
  | [], _, _, h => by cases h
  | N :: L, H, M, h => by
    rw [hy_join_c, if_neg (by intro z; cases z)]
    rcases List.mem_cons.mp h with rfl | h
    · obtain ⟨X, hX⟩ := hy_join_pre (e := none) (L := L) (H := hy_add H M)
      rw [hX]
      exact List.mem_append.mpr (Or.inl hy_add_mem)
    · exact hy_join_mem h
section SP6
variable {sa : Nat → Nat} {B : Nat} {ρ : hp_L} {P : hp_P} {b : Bool} {n : Nat} {T : Nat → Int32 × Int32 × Int32} {Z : Prop} {G : qT → Prop} {C : sC} {H : List qM} {D : List qS} {S : qT → Prop} {base : Nat}
/-- a stretch of the rows, symbol by symbol -/
def srcL (n : Nat) (T : Nat → Int32 × Int32 × Int32) (Rb : List (List rwS)) (A L : List rwS) (K : List qS) : Prop := (∃ W, Rb.flatten = A ++ (L ++ W)) ∧ L.map (rt T n) = K ∧ ∀ s ∈ L, rv n s
theorem srcL.xt {n' : Nat} {T' : Nat → Int32 × Int32 × Int32} {Rb : List (List rwS)} {A L : List rwS} {K : List qS} (h : srcL n T Rb A L K) (hw : ty_wf T n) (hn : n < 2 ^ 31) (x : ty_xt n T n' T') : srcL n' T' Rb A L K := by
  refine ⟨h.1, ?_, fun s hs => (h.2.2 s hs).xt x.1⟩
  rw [← h.2.1]
  exact List.map_congr_left fun s hs => rt.xt (h.2.2 s hs) hw hn x
/-- copyWith -/
theorem s_cw_loop {f0 d o : Nat} {xv xt' : Int32} {V M : qM} (hf0 : 20000 ≤ f0) (hg : ¬ q_good G → Z) (hV : en_at C.2.2.2.2.2.2.2 xv V) (hM : en_at C.2.2.2.2.2.2.2 xt' M) : ∀ (K : List qS) (L A : List rwS) (f : Nat) (ρ : hp_L) (P : hp_P) (n : Nat) (T : Nat → Int32 × Int32 × Int32) (D : List qS) (b : Bool), ρ.1 6 = o → sI Z G B C ρ P n T H D b → srcL n T C.1 A L K → (4000 < (D ++ K.flatMap (m_ss (m_c V) (m_ty V) M)).length → Z) → K.length + 1 ≤ f →
    sX Z G B sa C ρ P n T b (am_go B sa am_dfl (am_call B sa am_dfl am_tb f0 (d + 4)) am_r88 f 24 [(0, .ref o), (2, .int xv), (3, .int xt'), (4, .int (nI (A.length + L.length))), (5, .int (nI A.length))] [] (hp_S sa ρ P)) none H (D ++ K.flatMap (m_ss (m_c V) (m_ty V) M)) := by
  obtain ⟨f0, rfl⟩ : ∃ g, f0 = g + 2 := ⟨f0 - 2, by omega⟩
  intro K
  induction K with
  | nil =>
    intro L A f ρ P n T D b ho h hs hz hf
    obtain ⟨f, rfl⟩ : ∃ g, f = g + 1 := ⟨f - 1, by omega⟩
    subst ho
    have : L = [] := List.map_eq_nil_iff.mp hs.2.1
    subst this
    rw [am_s88_24]
    simp only [List.length_nil, Nat.add_zero, am_c_ge, Int32.le_refl, if_true]
    rw [List.flatMap_nil, List.append_nil]
    exact ⟨ρ, P, n, T, b, rfl, h, hp_fr.rf, ty_xt.rf, id⟩
  | cons q K ih =>
    intro L A f ρ P n T D b ho h hs hz hf
    obtain ⟨f, rfl⟩ : ∃ g, f = g + 1 := ⟨f - 1, by omega⟩
    subst ho
    obtain ⟨s, L, rfl, hq, hK⟩ := List.map_eq_cons_iff.mp hs.2.1
    obtain ⟨W, hW⟩ := hs.1
    obtain ⟨Dr, O, hw, hh⟩ := h.2.2.2.2.2
    have w := h.w
    have hX : (C.1 ++ Dr).flatten ++ O = A ++ (s :: L ++ (W ++ Dr.flatten ++ O)) := by rw [List.flatten_append, hW]; simp
    obtain ⟨r1, r2, hXl, -, hge, hen, hA1⟩ := rw_seg hw.2.1 hX
    have hfl := rw_flag (sa := sa) w hw.2.1
    rw [am_s88_24]
    simp only [am_c_ge, hge, if_false, ho_603 w, hfl, Option.bind_some, am_c_ne]
    rw [List.flatMap_cons] at hz ⊢
    cases b with
    | true =>
      rw [if_pos (by decide)]
      exact ⟨ρ, P, n, T, true, rfl, ⟨h.1, h.2.1, h.2.2.1, h.2.2.2.1, h.2.2.2.2.1, Dr, O, hw.badD, fun z => by (cases z)⟩, hp_fr.rf, ty_xt.rf, id⟩
    | false =>
      rw [if_neg (by decide)]
      have hrv := hs.2.2 s List.mem_cons_self
      obtain ⟨-, v1, ⟨u, v2, v3⟩, -⟩ := en_rd h.2.1 hV
      have hs' : srcL n T C.1 (A ++ [s]) L K := ⟨⟨W, by rw [hW]; simp⟩, hK, fun x hx => hs.2.2 x (List.mem_cons_of_mem _ hx)⟩
      have hwf := h.y.1.wf
      have hn := h.y.1.n31
      have heq : q = (m_c V, m_ty V) ↔ s.1 = m_c V ∧ s.2 = u := by
        rw [← hq]
        constructor
        · intro z
          obtain ⟨z1, z2⟩ := Prod.mk.inj z
          exact ⟨z1, (hrv.pl (T := T)).eq (by show pl n T u (ct T n s.2); rw [z2]; exact v3) hwf h.y.1.2.1 hn⟩
        · intro ⟨z1, z2⟩
          unfold rt
          rw [z1, z2, v3.ct]
      have nxt : ∀ {ρ1 : hp_L} {P1 : hp_P} {n1 : Nat} {T1 : Nat → Int32 × Int32 × Int32} {b1 : Bool}, sI Z G B C ρ1 P1 n1 T1 H (D ++ m_ss (m_c V) (m_ty V) M q) b1 → hp_fr st_S 0 ρ P ρ1 P1 → ty_xt n T n1 T1 → sX Z G B sa C ρ P n T false (am_go B sa am_dfl (am_call B sa am_dfl am_tb (f0 + 2) (d + 4)) am_r88 f 24 [(0, .ref (ρ.1 6)), (2, .int xv), (3, .int xt'), (4, .int (nI (A.length + (s :: L).length))), (5, .int (nI (A.length + 1)))] [] (hp_S sa ρ1 P1)) none H (D ++ (m_ss (m_c V) (m_ty V) M q ++ K.flatMap (m_ss (m_c V) (m_ty V) M))) := by
        intro ρ1 P1 n1 T1 b1 h1 fr xx
        have i1 := ih L (A ++ [s]) f ρ1 P1 n1 T1 _ b1 (by rw [fr.1]) h1 (hs'.xt hwf hn xx) (by rw [List.append_assoc]; exact hz) (by simp only [List.length_cons] at hf; omega)
        rw [List.append_assoc, ← hen, hA1] at i1
        exact i1.tr fr xx (fun _ => rfl)
      simp only [hr_301 w, hl_301 w, r1, ho_602 w, hr_104 w, hl_104 w, v1, Option.bind_some, nI_1, hr_302 w, hl_302 w, r2, hr_105 w, hl_105 w, v2, hx_3 w, hx_1 w]
      by_cases e : q = (m_c V, m_ty V)
      · obtain ⟨e1, e2⟩ := heq.mp e
        rw [if_neg (fun z => z e1), if_neg (fun z => z e2)]
        have hss : m_ss (m_c V) (m_ty V) M q = m_fl M := if_pos e
        obtain ⟨ρ1, P1, n1, T1, b1, a1, a2, a3, a4, a5⟩ := s_to (sa := sa) (f := f0 + 2) (d := d) h (by omega) hM hg (fun z => hz (by rw [hss]; rw [List.length_append] at z ⊢; rw [List.length_append]; omega))
        rw [← hss] at a2
        rw [a1, am_v_some]
        exact nxt a2 a3 a4
      · have hss : m_ss (m_c V) (m_ty V) M q = [q] := if_neg e
        obtain ⟨ρ1, P1, n1, T1, b1, a1, a2, a3, a4, a5⟩ := s_write (sa := sa) (f := f0) (d := d + 1) (c := s.1) (v := s.2) (t := (rt T n s).2) h (Or.inl hrv.pl) hg (fun z => hz (by rw [hss]; simp only [List.length_append, List.length_cons, List.length_nil] at z ⊢; omega))
        have hqq : [(s.1, (rt T n s).2)] = m_ss (m_c V) (m_ty V) M q := by rw [hss, ← hq]; rfl
        rw [hqq] at a2
        simp only [a1, am_v_some]
        by_cases e1 : s.1 = m_c V
        · rw [if_neg (fun z => z e1), if_pos (fun z => e (heq.mpr ⟨e1, z⟩))]
          exact nxt a2 a3 a4
        · rw [if_pos e1]
          exact nxt a2 a3 a4
theorem s_cw {f d j : Nat} {xv xt' : Int32} {V M N : qM} (h : sI Z G B C ρ P n T H D b) (hf : 30000 ≤ f) (hg : ¬ q_good G → Z) (hV : en_at C.2.2.2.2.2.2.2 xv V) (hM : en_at C.2.2.2.2.2.2.2 xt' M) (hj : (sq_rows C.2.1)[j]? = some N) (hz : 4000 < (D ++ (m_fl N).flatMap (m_ss (m_c V) (m_ty V) M)).length → Z) :
    sX Z G B sa C ρ P n T b (am_call B sa am_dfl am_tb f (d + 5) 88 [.ref (ρ.1 6), .int (nI j), .int xv, .int xt'] (hp_S sa ρ P)) none H (D ++ (m_fl N).flatMap (m_ss (m_c V) (m_ty V) M)) := by
  obtain ⟨A, L, q1, q2, q3, -, -, q6⟩ := h.row hj
  have hl : (m_fl N).length ≤ 20000 := by
    have := congrArg List.length q1.2.1
    rw [List.length_map] at this
    omega
  obtain ⟨f, rfl⟩ : ∃ g, f = g + 1 := ⟨f - 1, by omega⟩
  rw [am_c_88, am_s88_0]
  simp only [ho_603 h.w, hr_304 h.w, hl_304 h.w, nI_1, q2, q3, Option.bind_some]
  exact s_cw_loop (f0 := f + 1) (d := d) (by omega) hg hV hM (m_fl N) L A f ρ P n T D b rfl h q1 hz (by omega)
/-- the end of termPutIn -/
def tl87 (cl : am_F) (o : Nat) (x4 x2 x3 : Int32) (σ : am_S) : Option (Option Value × am_S) := (am_obj σ o 6).bind fun _ => am_v (cl 88 [.ref o, .int x4, .int x2, .int x3] σ) fun g1 => (am_getr g1 o 6 4).bind fun p2 => (am_obj g1 p2 4).bind fun _ => am_i (cl 76 [.ref p2] g1) fun v3 g3 => am_rz v3 g3
theorem s_put_loop {f0 d o a : Nat} {s : qQ} {xv xt' : Int32} {V M : qM} (hf0 : 60000 ≤ f0) (hg : ¬ q_good G → Z) (hV : en_at C.2.2.2.2.2.2.2 xv V) (hM : en_at C.2.2.2.2.2.2.2 xt' M) (hfr : q_fr (m_c V)) (wM : m_wf M) (tM : m_ty M = m_ty V) (ha : C.2.1[a]? = some s) : ∀ (L X : List qM) (f : Nat) (ρ : hp_L) (P : hp_P) (n : Nat) (T : Nat → Int32 × Int32 × Int32) (H : List qM) (b : Bool), ρ.1 6 = o → sI Z G B C ρ P n T H [] b → s.1 = X ++ L → zH Z (m_tot (sq_rows C.2.1)) (hy_join none H (L.map (m_sb (m_c V) (m_ty V) M))) → (∀ N ∈ L, (4000 < (m_fl (m_sb (m_c V) (m_ty V) M N)).length → Z)) → L.length + 1 ≤ f →
    ∃ (ρ' : hp_L) (P' : hp_P) (n' : Nat) (T' : Nat → Int32 × Int32 × Int32) (b' : Bool), am_go B sa am_dfl (am_call B sa am_dfl am_tb f0 (d + 5)) am_r87 f 77 [(0, .ref o), (2, .int xv), (3, .int xt'), (4, .int (nI (sq_k C.2.1 a + s.1.length))), (5, .int (nI (sq_k C.2.1 a + X.length)))] [] (hp_S sa ρ P) = tl87 (am_call B sa am_dfl am_tb f0 (d + 5)) o (nI (sq_k C.2.1 a + s.1.length)) xv xt' (hp_S sa ρ' P') ∧ sI Z G B C ρ' P' n' T' (hy_join none H (L.map (m_sb (m_c V) (m_ty V) M))) [] b' ∧ hp_fr st_S 0 ρ P ρ' P' ∧ ty_xt n T n' T' := by
  intro L
  induction L with
  | nil =>
    intro X f ρ P n T H b ho h hs hz hz4 hf
    obtain ⟨f, rfl⟩ : ∃ g, f = g + 1 := ⟨f - 1, by omega⟩
    rw [List.append_nil] at hs
    refine ⟨ρ, P, n, T, b, ?_, h, hp_fr.rf, ty_xt.rf⟩
    rw [am_s87_77, ← hs]
    simp only [am_c_ge, Int32.le_refl, if_true]
    rfl
  | cons N L ih =>
    intro X f ρ P n T H b ho h hs hz hz4 hf
    obtain ⟨f, rfl⟩ : ∃ g, f = g + 1 := ⟨f - 1, by omega⟩
    subst ho
    have hk := (h.first ha).2.2.1
    have hsl : s.1.length = X.length + (L.length + 1) := by rw [hs]; simp
    have hge : (nI (sq_k C.2.1 a + s.1.length) ≤ nI (sq_k C.2.1 a + X.length)) = False := eq_false (nI_ge (by omega) (by omega))
    obtain ⟨Dr, O, hw, hh⟩ := h.2.2.2.2.2
    have w := h.w
    have hfl := rw_flag (sa := sa) w hw.2.1
    rw [am_s87_77]
    simp only [am_c_ge, hge, if_false, ho_603 w, hfl, Option.bind_some, am_c_ne]
    cases b with
    | true =>
      rw [if_pos (by decide)]
      exact ⟨ρ, P, n, T, true, rfl, ⟨h.1, h.2.1, h.2.2.1, h.2.2.2.1, h.2.2.2.2.1, Dr, O, hw, fun z => by (cases z)⟩, hp_fr.rf, ty_xt.rf⟩
    | false =>
      rw [if_neg (by decide)]
      have hi : s.1[X.length]? = some N := by rw [hs, List.getElem?_append_right (Nat.le_refl _), Nat.sub_self]; rfl
      have hrow := sq_hyp ha hi
      have hN := (h.2.2.2.2.1.2 N (List.mem_of_getElem? hrow)).1
      obtain ⟨m1, m2, m3⟩ := m_sb_ok hfr wM tM N hN
      rw [List.map_cons, hy_join_c, if_neg (by intro z; cases z)] at hz ⊢
      obtain ⟨Y, hY⟩ := hy_join_pre (e := none) (L := L.map (m_sb (m_c V) (m_ty V) M)) (H := hy_add H (m_sb (m_c V) (m_ty V) M N))
      have hzM : zH Z (m_tot (sq_rows C.2.1)) (hy_add H (m_sb (m_c V) (m_ty V) M N)) := by rw [hY] at hz; exact hz.pre
      obtain ⟨ρ1, P1, n1, T1, b1, a1, a2, a3, a4, a5⟩ := s_cw (sa := sa) (f := f0) (d := d) h (by omega) hg hV hM hrow (by rw [List.nil_append, ← m3]; exact hz4 N List.mem_cons_self)
      rw [List.nil_append, ← m3] at a2
      obtain ⟨ρ2, P2, n2, T2, b2, c1, c2, c3, c4, c5⟩ := s_hyp (sa := sa) (f := f0) (d := d + 1) a2 (by omega) m1 hzM
      obtain ⟨ρ3, P3, n3, T3, b3, i1, i2, i3, i4⟩ := ih (X ++ [N]) f ρ2 P2 n2 T2 _ b2 (by rw [c3.1, a3.1]) c2 (by rw [hs]; simp) hz (fun N' hN' => hz4 N' (List.mem_cons_of_mem _ hN')) (by simp only [List.length_cons] at hf; omega)
      refine ⟨ρ3, P3, n3, T3, b3, ?_, i2, hp_fr.tr0 (hp_fr.tr0 a3 c3) i3, (a4.tr c4).tr i4⟩
      rw [show (X ++ [N]).length = X.length + 1 by simp] at i1
      simp only [hx_6 w, Option.bind_some, a1, am_v_some, nI_1]
      rw [w_ob a3 6]
      simp only [ho_604 a2.w, Option.bind_some, hx_4 a2.w, c1, am_v_some]
      rw [w_ob a3 6] at i1
      exact i1
/-- 18 -/
def sp_18 (em : List qM) (sq : List qQ) (x v t : Int32) (N : qQ) : Prop := ∃ s V M, en_at sq x s ∧ en_at em v V ∧ q_fr (m_c V) ∧ en_at em t M ∧ m_lo M = 0 ∧ m_ty V = m_ty M ∧ N = (hy_join none [] (s.1.map (m_sb (m_c V) (m_ty V) M)), m_sb (m_c V) (m_ty V) M s.2)
theorem st_87 {f d : Nat} {x v t : Int32} (h : cI B C ρ P n T) (hf : 100000 ≤ f) (hc : C.2.1.length < 1000) : cO B sa (sp_18 C.2.2.2.2.2.2.2 C.2.1 x v t) C ρ P n T (am_call B sa am_dfl am_tb f (d + 20) 87 [.ref (ρ.1 6), .int x, .int v, .int t] (hp_S sa ρ P)) := by
  have w := h.w
  have hs := h.s (Z := True) (G := fun _ => True) fun _ _ => True.intro
  obtain ⟨f, rfl⟩ : ∃ g, f = g + 1 := ⟨f - 1, by omega⟩
  rw [am_c_87, am_s87_0]
  simp only [ho_604 w, hx_4 w, Option.bind_some, sq_has hs, am_i_some, am_c_eq]
  by_cases e1 : ∃ s, en_at C.2.1 x s
  · rw [if_neg (bP_y e1)]
    simp only [ho_602 w, hx_1 w, Option.bind_some, en_isFree w h.2.1, am_i_some]
    by_cases e2 : ∃ V, en_at C.2.2.2.2.2.2.2 v V ∧ q_fr (m_c V)
    · rw [if_neg (bP_y e2)]
      simp only [en_isClosed w h.2.1, am_i_some]
      by_cases e3 : ∃ M, en_at C.2.2.2.2.2.2.2 t M ∧ m_lo M = 0
      · rw [if_neg (bP_y e3)]
        obtain ⟨s, j, rfl, j31, hj⟩ := e1
        obtain ⟨V, hV, hfr⟩ := e2
        obtain ⟨M, hM, hlo⟩ := e3
        have ej : en_at C.2.1 (nI j) s := ⟨j, rfl, j31, hj⟩
        obtain ⟨-, -, ⟨u, v2, v3⟩, -⟩ := en_rd h.2.1 hV
        obtain ⟨wM, -, ⟨u', v2', v3'⟩, -⟩ := en_rd h.2.1 hM
        simp only [ho_602 w, hr_105 w, hl_105 w, v2, v2', Option.bind_some]
        have hty : u = u' ↔ m_ty V = m_ty M := ⟨fun z => by rw [← v3.ct, z, v3'.ct], fun z => v3.eq (by rw [z]; exact v3') h.y.1.wf h.y.1.2.1 h.y.1.n31⟩
        by_cases e4 : u = u'
        · rw [if_pos e4]
          have tM : m_ty M = m_ty V := (hty.mp e4).symm
          have hcon := (h.2.2.2.2.1.2 s.2 (List.mem_of_getElem? (sq_con hj))).1
          obtain ⟨m1, m2, m3⟩ := m_sb_ok hfr wM tM s.2 hcon
          obtain ⟨f1, f2, f3, -⟩ := hs.first hj
          have hcn := sq_conc (sa := sa) (f := f) (d := d + 18) hs hj
          generalize hHH : hy_join none [] (s.1.map (m_sb (m_c V) (m_ty V) M)) = HH
          have hz : zH (¬ sq_lim (ct_S T n) (m_tot (sq_rows C.2.1)) (HH, m_sb (m_c V) (m_ty V) M s.2)) (m_tot (sq_rows C.2.1)) HH := sl_H
          have h0 := h.s (Z := ¬ sq_lim (ct_S T n) (m_tot (sq_rows C.2.1)) (HH, m_sb (m_c V) (m_ty V) M s.2)) (G := q_un (ct_S T n) (HH ++ [m_sb (m_c V) (m_ty V) M s.2])) fun t z => Or.inl z
          have hmem : ∀ N ∈ s.1, m_sb (m_c V) (m_ty V) M N ∈ HH := fun N hN => by
            rw [← hHH]
            exact hy_join_mem (List.mem_map.mpr ⟨N, hN, rfl⟩)
          obtain ⟨ρ1, P1, n1, T1, b1, a1, a2, a3, a4⟩ := s_put_loop (sa := sa) (f0 := f + 1) (d := d + 14) (by omega) sl_good hV hM hfr wM tM hj s.1 [] f ρ P n T [] false rfl h0 rfl (by rw [hHH]; exact hz) (fun N hN => (hz.2.2 _ (hmem N hN)).1) (by omega)
          rw [hHH] at a2
          obtain ⟨ρ2, P2, n2, T2, b2, c1, c2, c3, c4, c5⟩ := s_cw (sa := sa) (f := f + 1) (d := d + 14) a2 (by omega) sl_good hV hM (sq_con hj) (by rw [List.nil_append, ← m3]; exact sl_M)
          rw [List.nil_append, ← m3] at c2
          have ad := s_add (sa := sa) (f := f + 1) (d := d + 15) c2 (by omega) m1 hc sl_hM sl_tot
          have fin := s_fin (R := sp_18 C.2.2.2.2.2.2.2 C.2.1 (nI j) v t) (fun N => ⟨fun ⟨s', V', M', z1, z2, z3, z4, z5, z6, z7⟩ => by
            obtain rfl := en_at_inj z1 ej
            obtain rfl := en_at_inj z2 hV
            obtain rfl := en_at_inj z4 hM
            rw [← hHH]
            exact z7, fun z => ⟨s, V, M, ej, hV, hfr, hM, hlo, tM.symm, by rw [hHH]; exact z⟩⟩) h.y.1 ad (hp_fr.tr0 a3 c3).cs (by omega) (a4.tr c4)
          simp only [hcn, am_i_some, ho_604 w, hx_4 w, hr_405 w, hl_405 w, f1, Option.bind_some]
          rw [show sq_k C.2.1 j = sq_k C.2.1 j + ([] : List qM).length from rfl]
          refine (congrArg (fun x => cO B sa (sp_18 C.2.2.2.2.2.2.2 C.2.1 (nI j) v t) C ρ P n T x) a1).mpr ?_
          unfold tl87
          rw [w_ob a3 6]
          simp only [hx_6 a2.w, Option.bind_some, c1, am_v_some]
          rw [w_ob c3 6]
          simp only [ho_604 c2.w, Option.bind_some, hx_4 c2.w]
          exact fin
        · rw [if_neg e4]
          exact cO.no h hp_fr.rf (by omega) fun N ⟨s', V', M', z1, z2, z3, z4, z5, z6, z7⟩ => e4 (hty.mpr (by rw [en_at_inj hV z2, en_at_inj hM z4]; exact z6))
      · rw [if_pos (bP_n e3)]
        exact cO.no h hp_fr.rf (by omega) fun N ⟨s', V', M', z1, z2, z3, z4, z5, z6, z7⟩ => e3 ⟨M', z4, z5⟩
    · rw [if_pos (bP_n e2)]
      exact cO.no h hp_fr.rf (by omega) fun N ⟨s', V', M', z1, z2, z3, z4, z5, z6, z7⟩ => e2 ⟨V', z2, z3⟩
  · rw [if_pos (bP_n e1)]
    exact cO.no h hp_fr.rf (by omega) fun N ⟨s', V', M', z1, z2, z3, z4, z5, z6, z7⟩ => e1 ⟨s', z1⟩
end SP6
