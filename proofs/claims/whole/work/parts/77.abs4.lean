/-! WHAT STANDS, 3: every entry keeps it -/
/-- types of the constructors 0, 1, 2 and two variables -/
def q_std : qT → Bool
  | .leaf _ => false
  | .branch c l r => if c = 2 then q_std l && q_std r else (c == 0 || c == 1 || c == 4294967295 || c == 4294967294) && (match l, r with | .leaf _, .leaf _ => true | _, _ => false)
theorem q_std_ok {tk : List Nat} (hs : sgk tk) : ∀ {t : qT}, q_std t = true → q_ok tk t
  | .leaf _, h => by cases h
  | .branch c l r, h => by
    unfold q_std at h
    by_cases e : c = 2
    · rw [if_pos e, Bool.and_eq_true] at h
      have := q_ok.F hs (q_std_ok hs h.1) (q_std_ok hs h.2)
      rw [e]
      exact this
    · rw [if_neg e, Bool.and_eq_true] at h
      obtain ⟨h1, h2⟩ := h
      have h2 : l = qE ∧ r = qE := by
        cases l <;> cases r <;> first | exact ⟨rfl, rfl⟩ | cases h2
      rw [h2.1, h2.2]
      simp only [Bool.or_eq_true, beq_iff_eq] at h1
      rcases h1 with ((z | z) | z) | z <;> rw [z]
      · exact q_ok.B hs
      · exact q_ok_c0 (c := 1) (by have := hs.lt; omega) hs.2.2.2.1 hs.k1
      · exact q_ok_v (c := -1) hs.2.2.2.1 (by decide) (by decide)
      · exact q_ok_v (c := -2) hs.2.2.2.1 (by decide) (by decide)
def ax_std (k : Nat) : Bool := (ax_L k).all fun s => q_std s.2
theorem ax_std_0 : ax_std 0 = true := by decide +kernel
theorem ax_std_1 : ax_std 1 = true := by decide +kernel
theorem ax_std_2 : ax_std 2 = true := by decide +kernel
theorem ax_mok {tk : List Nat} (hs : sgk tk) {k : Nat} (hk : k < 3) : m_ok tk (ax_M k) := by
  obtain ⟨b', r1, -⟩ := ax_ok hk
  have e : ax_L k = m_fl (ax_M k) := by unfold ax_L; rw [r1]; rfl
  have h : ax_std k = true := by
    have : k = 0 ∨ k = 1 ∨ k = 2 := by omega
    rcases this with rfl | rfl | rfl
    · exact ax_std_0
    · exact ax_std_1
    · exact ax_std_2
  unfold ax_std at h
  rw [e, List.all_eq_true] at h
  exact fun s hs' => q_std_ok hs (h s hs')
section AN
variable {S S' : qT → Prop} {A A' : sV} {k : Nat} {ws : List Int32}
def aWf (A : sV) : Prop := (∀ M ∈ A.2.2.2.2.2.2, m_wf M) ∧ ∀ X ∈ sq_rows A.1, m_wf X
theorem en_mem {α : Type} {em : List α} {x : Int32} {M : α} (h : en_at em x M) : M ∈ em := by
  obtain ⟨j, -, -, h⟩ := h
  exact List.mem_of_getElem? h
theorem q_vr_toInt {x : Int32} (h : inR x 100000000) : (-1 - x) < 0 ∧ -100000001 ≤ (-1 - x).toInt := by
  obtain ⟨j, h1, h2⟩ := h
  have e : (-1 - x).toInt = -1 - (j : Int) := by
    rw [h2, Int32.toInt_sub, nI_toInt (by omega)]
    show (-1 - (j : Int)).bmod (2 ^ 32) = _
    exact Int.bmod_eq_of_le (by omega) (by omega)
  refine ⟨?_, by rw [e]; omega⟩
  rw [Int32.lt_iff_toInt_lt, e]
  show _ < (0 : Int)
  omega
theorem q_sub_0 {c : Int32} {u : qT} (h : q_sub u (qN c qE qE)) : u = qN c qE qE := by
  rw [q_sub_N] at h
  rcases h with e | e | e
  · exact e
  · exact e.elim
  · exact e.elim
theorem aT_nx (h : aI S A) {t : qT} (ht : aT A k ws t) (hg : q_good (q_ad S t)) : aI (q_ad S t) (a_et A t) := by
  have hsg := h.2.2.2.1
  rcases ht with ⟨-, h1, rfl⟩ | ⟨-, c, x, tl, tr, h1, h2, h3, h4, h5⟩
  · obtain ⟨v1, v2⟩ := q_vr_toInt h1
    exact h.et (fun u hu => Or.inl (q_sub_0 hu)) (q_ok_v hsg.2.2.2.1 v1 v2) hg
  · have hc := (List.getElem?_eq_some_iff.mp h2).1
    have hk := q_tk_at h2 hsg.2.2.2.1
    have hl : (0 < x → S tl ∧ q_ok A.2.2.2.1 tl) ∧ (x = 0 → tl = qE) := by
      by_cases e : 0 < x
      · rw [if_pos e] at h3
        have := h.1.2.2.2.1 tl (en_mem h3)
        exact ⟨fun _ => ⟨this, h.2.1 tl this⟩, fun z => by omega⟩
      · rw [if_neg e] at h3
        exact ⟨fun z => absurd z e, fun _ => h3⟩
    have hr : (1 < x → S tr ∧ q_ok A.2.2.2.1 tr) ∧ (x ≤ 1 → tr = qE) := by
      by_cases e : 1 < x
      · rw [if_pos e] at h4
        have := h.1.2.2.2.1 tr (en_mem h4)
        exact ⟨fun _ => ⟨this, h.2.1 tr this⟩, fun z => by omega⟩
      · rw [if_neg e] at h4
        exact ⟨fun z => absurd z e, fun _ => h4⟩
    rw [h1] at h5
    subst h5
    refine h.et (fun u hu => ?_) ⟨qN_ne, ?_, ?_⟩ hg
    · rw [q_sub_N] at hu
      rcases hu with e | e | e
      · exact Or.inl e
      · by_cases z : 0 < x
        · exact Or.inr (h.1.1 tl u (hl.1 z).1 e)
        · rw [hl.2 (by omega)] at e; exact e.elim
      · by_cases z : 1 < x
        · exact Or.inr (h.1.1 tr u (hr.1 z).1 e)
        · rw [hr.2 (by omega)] at e; exact e.elim
    · rw [q_ar_N, hk]
      refine ⟨⟨fun z => hl.2 z, fun z => ?_⟩, ⟨fun z => hr.2 z, fun z => ?_⟩, ?_, ?_, ?_⟩
      · by_cases w : 0 < x
        · exact absurd z (hl.1 w).2.1
        · omega
      · by_cases w : 1 < x
        · exact absurd z (hr.1 w).2.1
        · omega
      · by_cases w : 0 < x
        · exact (hl.1 w).2.2.1
        · rw [hl.2 (by omega)]; exact True.intro
      · by_cases w : 1 < x
        · exact (hr.1 w).2.2.1
        · rw [hr.2 (by omega)]; exact True.intro
      · rw [nI_toInt (by have := hsg.2.2.2.1; omega)]; omega
    · rw [q_cd_N]
      refine ⟨nI_lt hc (by have := hsg.2.2.2.1; omega), ?_, ?_⟩
      · by_cases w : 0 < x
        · exact (hl.1 w).2.2.2
        · rw [hl.2 (by omega)]; exact True.intro
      · by_cases w : 1 < x
        · exact (hr.1 w).2.2.2
        · rw [hr.2 (by omega)]; exact True.intro
theorem aM_lf (h : aI S A) {c : Int32} {t : qT} (ht : S t) (hg : q_good (q_ad S t)) : aI (q_ad S t) (a_em A (mN c t .leaf .leaf)) := by
  have hk := h.2.1 t ht
  refine h.em (M := mN c t .leaf .leaf) ?_ (m_ok_N.mpr ⟨hk, m_ok_lf, m_ok_lf⟩) (fun u hu => Or.inr (h.1.1 t u ht hu)) (fun u hu => ?_) hk hg
  · rw [m_bd_N]; exact ⟨True.intro, True.intro, fun _ _ _ _ => True.intro⟩
  · rcases q_of_1.mp hu with z | z | z
    · exact Or.inr (h.1.1 t u ht z)
    · exact absurd z q_of_lf
    · exact absurd z q_of_lf
theorem em_S (h : aI S A) (hw : aWf A) {M : qM} (hM : M ∈ A.2.2.2.2.2.2) : S (m_ty M) := by
  have hk := (h.2.2.2.2.2.2.1 M hM).2.ty (hw.1 M hM)
  exact h.1.2.2.2.2.1 _ (q_of_mem hM (q_of_ty (hw.1 M hM) (q_sub_self hk.1)))
theorem aM_nx (h : aI S A) (hw : aWf A) {M : qM} (hM : aM A k ws M) (hg : m_lim S M) : aI (q_ad S (m_ty M)) (a_em A M) := by
  have hsg := h.2.2.2.1
  rcases hM with ⟨-, -, t, h1, rfl⟩ | ⟨-, o, t, -, h1, -, rfl⟩ | ⟨-, F, X, u, h1, h2, h3, rfl⟩ | ⟨-, t, N, h1, h2, h3, rfl⟩ | ⟨-, -, t, h1, rfl⟩
  · exact aM_lf h (h.1.2.2.2.1 t (en_mem h1)) hg.1
  · exact aM_lf h (h.1.2.2.2.1 t (en_mem h1)) hg.1
  · obtain ⟨f1, f2⟩ := h.2.2.2.2.2.2.1 F (en_mem h1)
    obtain ⟨x1, x2⟩ := h.2.2.2.2.2.2.1 X (en_mem h2)
    have hF := f2.ty (hw.1 F (en_mem h1))
    rw [h3] at hF
    have hu := (hF.F1 hsg).2
    have hS := em_S h hw (en_mem h1)
    rw [h3] at hS
    have hSu : S u := h.1.1 _ u hS (by unfold qF; rw [q_sub_N]; exact Or.inr (Or.inr (q_sub_self hu.1)))
    refine h.em (M := mN (-1) u F X) ?_ (m_ok_N.mpr ⟨hu, f2, x2⟩) (fun v hv => Or.inr (h.1.1 u v hSu hv)) (fun v hv => ?_) hu hg.1
    · rw [m_bd_N]; exact ⟨f1, x1, fun z => absurd z (by decide)⟩
    · rcases q_of_1.mp hv with z | z | z
      · exact Or.inr (h.1.1 u v hSu z)
      · exact Or.inr (h.1.2.2.2.2.1 v (q_of_mem (en_mem h1) z))
      · exact Or.inr (h.1.2.2.2.2.1 v (q_of_mem (en_mem h2) z))
  · obtain ⟨f1, f2⟩ := h.2.2.2.2.2.2.1 N (en_mem h2)
    have ht := h.1.2.2.2.1 t (en_mem h1)
    have hN := em_S h hw (en_mem h2)
    have hq := q_ok.F hsg (h.2.1 t ht) (h.2.1 _ hN)
    have hsub : ∀ v, q_sub v (qF t (m_ty N)) → v = qF t (m_ty N) ∨ S v := fun v hv => by
      have hv : q_sub v (qN 2 t (m_ty N)) := hv
      rw [q_sub_N] at hv
      rcases hv with e | e | e
      · exact Or.inl e
      · exact Or.inr (h.1.1 _ v ht e)
      · exact Or.inr (h.1.1 _ v hN e)
    refine h.em (M := mN (-2) (qF t (m_ty N)) N .leaf) ?_ (m_ok_N.mpr ⟨hq, f2, m_ok_lf⟩) hsub (fun v hv => ?_) hq hg.1
    · rw [m_bd_N]
      refine ⟨f1, True.intro, fun _ a q e => ?_⟩
      rw [← (qF_inj e).1]; exact h3
    · rcases q_of_1.mp hv with z | z | z
      · exact hsub v z
      · exact Or.inr (h.1.2.2.2.2.1 v (q_of_mem (en_mem h2) z))
      · exact absurd z q_of_lf
  · exact aM_lf h (h.1.2.2.2.1 t (en_mem h1)) hg.1
theorem sq_mem {sq : List qQ} {s : qQ} (h : s ∈ sq) {X : qM} (hX : X ∈ s.1 ++ [s.2]) : X ∈ sq_rows sq := List.mem_flatMap.mpr ⟨s, h, hX⟩
theorem sq_mc {sq : List qQ} {s : qQ} (h : s ∈ sq) : s.2 ∈ sq_rows sq := sq_mem h (List.mem_append.mpr (Or.inr (List.mem_singleton.mpr rfl)))
theorem sq_mh {sq : List qQ} {s : qQ} (h : s ∈ sq) {X : qM} (hX : X ∈ s.1) : X ∈ sq_rows sq := sq_mem h (List.mem_append.mpr (Or.inl hX))
theorem m_ok_iE {tk : List Nat} {M X Y : qM} (h : m_ok tk M) (e : m_isE M X Y) : m_ok tk X ∧ m_ok tk Y := by
  rw [e.2.2.2] at h
  have h1 := m_ok_N.mp h
  exact ⟨(m_ok_N.mp h1.2.1).2.2, h1.2.2⟩
theorem aQ_ok (h : aI S A) (hw : aWf A) {N : qQ} (hN : aQ A k ws N) : (∀ X ∈ N.1 ++ [N.2], m_ok A.2.2.2.1 X) ∧ m_ty N.2 = qB := by
  have hsg := h.2.2.2.1
  have hem : ∀ {M}, M ∈ A.2.2.2.2.2.2 → m_ok A.2.2.2.1 M ∧ m_wf M := fun hM => ⟨(h.2.2.2.2.2.2.1 _ hM).2, hw.1 _ hM⟩
  have hsq : ∀ {X}, X ∈ sq_rows A.1 → m_ok A.2.2.2.1 X ∧ m_wf X := fun hX => ⟨h.2.2.2.2.2.2.2.1 _ hX, hw.2 _ hX⟩
  have one : ∀ {H : List qM} {M : qM}, (∀ X ∈ H, m_ok A.2.2.2.1 X) → m_ok A.2.2.2.1 M → ∀ X ∈ H ++ [M], m_ok A.2.2.2.1 X := fun a b X hX => by
    rcases List.mem_append.mp hX with z | z
    · exact a X z
    · rw [List.mem_singleton.mp z]; exact b
  have nil : ∀ X ∈ ([] : List qM), m_ok A.2.2.2.1 X := fun X hX => by cases hX
  have jn : ∀ {e : Option qM} {H L : List qM}, (∀ X ∈ H, m_ok A.2.2.2.1 X) → (∀ X ∈ L, m_ok A.2.2.2.1 X) → ∀ X ∈ hy_join e H L, m_ok A.2.2.2.1 X := fun a b X hX => (hy_join_sub hX).elim (a X) (b X)
  have hy : ∀ {x s}, en_at A.1 x s → ∀ X ∈ s.1, m_ok A.2.2.2.1 X := fun e X hX => (hsq (sq_mh (en_mem e) hX)).1
  have mE' : ∀ {X Y}, m_ok A.2.2.2.1 X → m_wf X → m_ok A.2.2.2.1 Y → m_ok A.2.2.2.1 (mE X Y) := fun a b c => m_ok_E hsg a c (a.ty b)
  rcases hN with ⟨-, M, h1, h2, rfl⟩ | ⟨-, s, t, X, Y, W, h1, h2, h3, h4, rfl⟩ | ⟨-, s, t, F, F', X, X', u, h1, h2, h3, h4, h5, rfl⟩ | ⟨-, V, s, X, Y, h1, h2, h3, h4, h5, rfl⟩ | ⟨-, M, u, b, c, a, t, h1, h2, h3, h4, rfl⟩ | ⟨-, M, h1, h2, h3, rfl⟩ | ⟨-, s, t, Y, h1, h2, h3, rfl⟩ | ⟨-, s, t, h1, h2, rfl⟩ | ⟨-, s, V, M, h1, h2, h3, h4, h5, h6, rfl⟩ | ⟨-, c, c1, c2, s, ps, h1, h2, h3, rfl⟩ | ⟨-, j, h1, h2, rfl⟩
  · obtain ⟨a, b⟩ := hem (en_mem h1)
    exact ⟨one nil (mE' a b a), rfl⟩
  · obtain ⟨x1, x2⟩ := m_ok_iE (hsq (sq_mc (en_mem h1))).1 h3
    obtain ⟨y1, y2⟩ := m_ok_iE (hsq (sq_mc (en_mem h2))).1 h4
    exact ⟨one (jn (jn nil (hy h1)) (hy h2)) (mE' x1 h3.1 y2), rfl⟩
  · obtain ⟨x1, x2⟩ := m_ok_iE (hsq (sq_mc (en_mem h1))).1 h3
    obtain ⟨y1, y2⟩ := m_ok_iE (hsq (sq_mc (en_mem h2))).1 h4
    have hF := x1.ty h3.1
    rw [h5] at hF
    have hu := (hF.F1 hsg).2
    exact ⟨one (jn (jn nil (hy h1)) (hy h2)) (m_ok_E hsg (m_ok_N.mpr ⟨hu, x1, y1⟩) (m_ok_N.mpr ⟨hu, x2, y2⟩) hu), rfl⟩
  · obtain ⟨x1, x2⟩ := m_ok_iE (hsq (sq_mc (en_mem h3))).1 h4
    obtain ⟨v1, v2⟩ := hem (en_mem h1)
    have ht := v1.ty v2
    have hX := x1.ty h4.1
    have hY := x2.ty h4.2.1
    exact ⟨one (jn nil (hy h3)) (m_ok_E hsg (m_ok_N.mpr ⟨q_ok.F hsg ht hX, x1.tr ht, m_ok_lf⟩) (m_ok_N.mpr ⟨q_ok.F hsg ht hY, x2.tr ht, m_ok_lf⟩) (q_ok.F hsg ht hX)), rfl⟩
  · obtain ⟨v1, v2⟩ := hem (en_mem h1)
    have hM := v1
    rw [h3] at hM
    obtain ⟨m1, m2, m3⟩ := m_ok_N.mp hM
    have hb := (m_ok_N.mp m2).2.1
    have ht := (m_ok_N.mp m3).1
    exact ⟨one nil (m_ok_E hsg v1 (hb.tr ht) (v1.ty v2)), rfl⟩
  · obtain ⟨a, b⟩ := hem (en_mem h1)
    exact ⟨one (fun X hX => by rw [List.mem_singleton.mp hX]; exact a) a, h3⟩
  · obtain ⟨x1, x2⟩ := m_ok_iE (hsq (sq_mc (en_mem h1))).1 h3
    refine ⟨one (jn (jn nil (hy h1)) (hy h2)) x2, ?_⟩
    show m_ty Y = qB
    rw [h3.2.2.1]; exact h.2.2.2.2.2.1 t (en_mem h2)
  · obtain ⟨a, b⟩ := hsq (sq_mc (en_mem h1))
    exact ⟨one (jn (jn nil (hy h1)) (hy h2)) (mE' a b (hsq (sq_mc (en_mem h2))).1), rfl⟩
  · obtain ⟨a, b⟩ := hem (en_mem h4)
    obtain ⟨c, d⟩ := hsq (sq_mc (en_mem h1))
    refine ⟨one (jn nil fun X hX => ?_) (a.sb c), ?_⟩
    · obtain ⟨Y, y1, y2⟩ := List.mem_map.mp hX
      rw [← y2]
      exact a.sb (hy h1 Y y1)
    · show m_ty (m_sb _ _ M s.2) = qB
      rw [(m_sb_ok h3 b h6.symm s.2 d).2.1]; exact h.2.2.2.2.2.1 s (en_mem h1)
  · obtain ⟨c, d⟩ := hsq (sq_mc (en_mem h1))
    have hσ : ∀ c v, ps_s ps c = some v → q_ok A.2.2.2.1 v := fun c v hv => by
      obtain ⟨p, -, p2, -⟩ := pv_s_some h2 hv
      exact h.2.1 v (h.1.2.2.2.1 v (en_mem p2))
    refine ⟨one (jn nil fun X hX => ?_) (c.rt hsg.2.2.2.1 hσ), ?_⟩
    · obtain ⟨Y, y1, y2⟩ := List.mem_map.mp hX
      rw [← y2]
      exact (hy h1 Y y1).rt hsg.2.2.2.1 hσ
    · show m_ty (m_rt _ s.2) = qB
      rw [(m_rt_ok s.2 d).2.1, h.2.2.2.2.2.1 s (en_mem h1), q_sbs_B]
  · obtain ⟨b', r1, r2, r3, r4⟩ := ax_ok h1
    exact ⟨one nil (ax_mok hsg h1), r3⟩
end AN
section AN2
variable {S S' : qT → Prop} {A A' : sV} {k : Nat} {ws : List Int32}
theorem q_un_cl {rows : List qM} (h : ∀ t u, S t → q_sub u t → S u) : ∀ t u, q_un S rows t → q_sub u t → q_un S rows u := by
  intro t u ht hu
  rcases ht with z | ⟨X, x1, s, s1, s2⟩
  · exact Or.inl (h t u z hu)
  · exact Or.inr ⟨X, x1, s, s1, q_sub_tr hu _ s2⟩
theorem aQ_nx (h : aI S A) {N : qQ} (hk : ∀ X ∈ N.1 ++ [N.2], m_ok A.2.2.2.1 X) (hB : m_ty N.2 = qB) {os : List qT} {fm : Nat} (hl : q_good (q_un S (N.1 ++ [N.2]))) (hol : (A.2.2.2.2.1 ++ os).length ≤ 200) (hos : ∀ t ∈ os, S t) (hfm : (fm = A.2.1 ∧ os = []) ∨ fm = A.1.length + 1) : aI (q_un S (N.1 ++ [N.2])) (a_new A fm (q_un S (N.1 ++ [N.2])) [N] [] os) := by
  have e0 : A.2.2.2.1 ++ [] = A.2.2.2.1 := List.append_nil _
  refine h.new (fun t z => Or.inl z) (q_un_cl h.1.1) (fun t ht => ?_) (fun t ht => ?_) hl (by rw [e0]; exact h.2.2.2.1) hol (fun t ht => Or.inl (hos t ht)) (fun s hs => ?_) (fun X hX => ?_) (fun t ht => by rw [e0]; exact ht) (hfm.imp (fun z => ⟨z.1, z.2, rfl⟩) id)
  · rw [sq_rows_1] at ht; exact Or.inr ht
  · rw [e0]
    rcases ht with z | z
    · exact h.2.1 t z
    · exact m_ok_of hk z
  · rw [List.mem_singleton.mp hs]; exact hB
  · rw [sq_rows_1] at hX
    rw [e0]
    exact hk X hX
theorem q_k_ok {tk : List Nat} (hs : sgk tk) (hl : tk.length < 40) {p : qM} {vs : List Int32} (hp : m_ok tk p) (hv : vs_of (m_fl p) vs) (h2 : vs.length ≤ 2) : q_ok (tk ++ [vs.length]) (q_k (nI tk.length) vs) := by
  have hc : ∀ c ∈ vs, q_ok (tk ++ [vs.length]) (q_vr c) := fun c hc => by
    obtain ⟨-, s, s1, s2⟩ := (hv.2 c).mp hc
    exact ((hp s s1).sub s2).ap hl
  have ht : q_tk (tk ++ [vs.length]) (nI tk.length) = vs.length := q_tk_at (by rw [List.getElem?_append_right (Nat.le_refl _), Nat.sub_self]; rfl) (by rw [List.length_append, List.length_singleton]; omega)
  have hlt : nI tk.length < nI (tk ++ [vs.length]).length := nI_lt (by rw [List.length_append, List.length_singleton]; omega) (by rw [List.length_append, List.length_singleton]; omega)
  have hti : -100000001 ≤ (nI tk.length).toInt := by rw [nI_toInt (by omega)]; omega
  match vs, hc, ht, hlt, h2 with
  | [], hc, ht, hlt, _ =>
    refine ⟨qN_ne, ?_, ?_⟩
    · show q_ar _ (qN _ qE qE)
      rw [q_ar_N, ht]
      exact ⟨⟨fun _ => rfl, fun _ => rfl⟩, ⟨fun _ => rfl, fun _ => by decide⟩, True.intro, True.intro, hti⟩
    · show q_cd _ (qN _ qE qE)
      rw [q_cd_N]
      exact ⟨hlt, True.intro, True.intro⟩
  | [a], hc, ht, hlt, _ =>
    have ha := hc a (List.mem_singleton.mpr rfl)
    refine ⟨qN_ne, ?_, ?_⟩
    · show q_ar _ (qN _ (q_vr a) qE)
      rw [q_ar_N, ht]
      exact ⟨⟨fun z => absurd z (by simp), fun z => absurd z ha.1⟩, ⟨fun _ => rfl, fun _ => by simp⟩, ha.2.1, True.intro, hti⟩
    · show q_cd _ (qN _ (q_vr a) qE)
      rw [q_cd_N]
      exact ⟨hlt, ha.2.2, True.intro⟩
  | [a, b], hc, ht, hlt, _ =>
    have ha := hc a List.mem_cons_self
    have hb := hc b (List.mem_cons_of_mem _ List.mem_cons_self)
    refine ⟨qN_ne, ?_, ?_⟩
    · show q_ar _ (qN _ (q_vr a) (q_vr b))
      rw [q_ar_N, ht]
      exact ⟨⟨fun z => absurd z (by simp), fun z => absurd z ha.1⟩, ⟨fun z => absurd z (by simp), fun z => absurd z hb.1⟩, ha.2.1, hb.2.1, hti⟩
    · show q_cd _ (qN _ (q_vr a) (q_vr b))
      rw [q_cd_N]
      exact ⟨hlt, ha.2.2, hb.2.2⟩
theorem aE_nx (h : aI S A) (hw : aWf A) (he : aE S A k ws S' A') : aI S' A' := by
  have hsg := h.2.2.2.1
  rcases he with ⟨t, h1, h2, rfl, rfl⟩ | ⟨M, h1, h2, rfl, rfl⟩ | ⟨N, h1, h2, h3, h4⟩ | ⟨-, N, h1, h2, h3, h4⟩ | ⟨-, old, made, p, kk, h1, h2, h3, h4⟩
  · exact aT_nx h h1 h2
  · exact aM_nx h hw h1 h2
  · obtain ⟨k1, k2⟩ := aQ_ok h hw h1
    subst h3
    rw [h4]
    exact aQ_nx h k1 k2 h2.2.2.2 (by rw [List.append_nil]; exact h.2.2.2.2.1.2) (fun t ht => by cases ht) (Or.inl ⟨rfl, rfl⟩)
  · subst h3
    rw [h4]
    obtain ⟨M, m1, m2, m3, m4, m5, rfl⟩ := h1
    have hM := (h.2.2.2.2.2.2.1 M (en_mem m1)).2
    have ht := hM.ty (hw.1 M (en_mem m1))
    refine aQ_nx h (fun X hX => ?_) rfl h2.2.2.2 (by rw [List.length_append, List.length_singleton]; omega) (fun t ht => ?_) (Or.inr rfl)
    · rw [List.nil_append] at hX
      rw [List.mem_singleton.mp hX]
      exact m_ok_E hsg (m_ok_N.mpr ⟨ht, m_ok_lf, m_ok_lf⟩) hM ht
    · rw [List.mem_singleton.mp ht]
      exact em_S h hw (en_mem m1)
  · subst h3
    rw [h4]
    obtain ⟨s, xx, vs, a1, a2, a3, a4, a5, a6, a7, a8, a9, a10, a11⟩ := h1
    have hs := h.2.2.2.2.2.2.2.1 _ (sq_mc (en_mem a1))
    rw [a3] at hs
    obtain ⟨-, p1, p2⟩ := m_ok_N.mp hs
    have hwx : m_wf xx := by
      have := hw.2 _ (sq_mc (en_mem a1))
      rw [a3] at this
      rcases this.2 with ⟨_, z1, z2, _⟩ | ⟨z, _⟩ | ⟨z1, z2, z3⟩
      · exact z2
      · rw [q_code] at z; exact absurd z (by decide)
      · have := z3.1; rw [q_code] at this; exact absurd this (by decide)
    have hl : A.2.2.2.1.length < 40 := a7
    have hold : q_ok (A.2.2.2.1 ++ [kk]) old := by rw [a9]; exact (p2.ty hwx).ap hl
    have hmade : q_ok (A.2.2.2.1 ++ [kk]) made := by rw [a10, a11]; exact q_k_ok hsg hl p1 a5 a6
    have hsg' := hsg.ap (k := kk) hl (by omega)
    have F1 := q_ok.F hsg' hold hmade
    have F2 := q_ok.F hsg' hmade hold
    have hB := q_ok.B hsg'
    have kV : ∀ {t}, q_ok (A.2.2.2.1 ++ [kk]) t → m_ok (A.2.2.2.1 ++ [kk]) (mV t) := fun h => m_ok_N.mpr ⟨h, m_ok_lf, m_ok_lf⟩
    have kK : ∀ {c t}, q_ok (A.2.2.2.1 ++ [kk]) t → m_ok (A.2.2.2.1 ++ [kk]) (mK c t) := fun h => m_ok_N.mpr ⟨h, m_ok_lf, m_ok_lf⟩
    have ka : m_ok (A.2.2.2.1 ++ [kk]) (n21a old made A.2.2.2.2.1.length) := m_ok_E hsg' (m_ok_N.mpr ⟨hmade, kK F1, m_ok_N.mpr ⟨hold, kK F2, kV hmade⟩⟩) (kV hmade) hmade
    have kb : m_ok (A.2.2.2.1 ++ [kk]) (n21b old made A.2.2.2.2.1.length p) := m_ok_E hsg' (m_ok_N.mpr ⟨hB, p1.ap hl, kV hold⟩) (m_ok_E hsg' (m_ok_N.mpr ⟨hold, kK F2, m_ok_N.mpr ⟨hmade, kK F1, kV hold⟩⟩) (kV hold) hold) hB
    have er : sq_rows [([], n21a old made A.2.2.2.2.1.length), ([], n21b old made A.2.2.2.2.1.length p)] = [n21a old made A.2.2.2.2.1.length, n21b old made A.2.2.2.2.1.length p] := rfl
    have two : ∀ {t}, q_of [n21a old made A.2.2.2.2.1.length, n21b old made A.2.2.2.2.1.length p] t → q_un (q_un S [n21a old made A.2.2.2.2.1.length]) [n21b old made A.2.2.2.2.1.length p] t := fun {t} ht => by
      rcases (q_of_ap (X := [n21a old made A.2.2.2.2.1.length]) (Y := [n21b old made A.2.2.2.2.1.length p])).mp ht with z | z
      · exact Or.inl (Or.inr z)
      · exact Or.inr z
    have both : ∀ X ∈ [n21a old made A.2.2.2.2.1.length, n21b old made A.2.2.2.2.1.length p], m_ok (A.2.2.2.1 ++ [kk]) X := fun X hX => by
      rcases List.mem_cons.mp hX with e | e
      · rw [e]; exact ka
      · rw [List.mem_singleton.mp e]; exact kb
    refine h.new (fun t z => Or.inl (Or.inl z)) (q_un_cl (q_un_cl h.1.1)) (fun t ht => two (by rw [er] at ht; exact ht)) (fun t ht => ?_) h2.2.2.2.2 hsg' (by rw [List.length_append]; exact a8) (fun t ht => ?_) (fun s hs => ?_) (fun X hX => both X (by rw [er] at hX; exact hX)) (fun t ht => ht.ap hl) (Or.inr rfl)
    · rcases ht with (z | z) | z
      · exact (h.2.1 t z).ap hl
      · exact m_ok_of (fun X hX => by rw [List.mem_singleton.mp hX]; exact ka) z
      · exact m_ok_of (fun X hX => by rw [List.mem_singleton.mp hX]; exact kb) z
    · refine Or.inl (Or.inr ?_)
      rcases List.mem_cons.mp ht with e | e
      · rw [e]
        refine ⟨_, List.mem_singleton.mpr rfl, (4 * nI A.2.2.2.2.1.length + 2, qF old made), ?_, q_sub_self F1.1⟩
        unfold n21a
        rw [mE_fl, m_fl_N]
        simp [mK, m_fl_N]
      · rw [List.mem_singleton.mp e]
        refine ⟨_, List.mem_singleton.mpr rfl, (4 * nI (A.2.2.2.2.1.length + 1) + 2, qF made old), ?_, q_sub_self F2.1⟩
        unfold n21a
        rw [mE_fl, m_fl_N]
        simp [mK, m_fl_N]
    · rcases List.mem_cons.mp hs with e | e
      · rw [e]; rfl
      · rw [List.mem_singleton.mp e]; rfl
end AN2
