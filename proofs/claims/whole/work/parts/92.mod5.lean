/-! THE REFERENCE, 5: what it asks of terms -/
section KQ
variable {Z : Prop} {G : qT → Prop} {L : List qM} {sa : Nat → Nat} {B : Nat} {ρ : hp_L} {K K' : kS}
/-- occurs -/
theorem k_occurs {f : Nat} {c v : Int32} {t : qT} (hc : q_fr c) (w : hp_w B ρ) (h : kI Z G L K) (hv : nq K v (mN c t .leaf .leaf)) : ∀ M, m_wf M → ∀ (d : Nat) (x : Int32), nq K x M → m_ht M ≤ d →
    am_call B sa am_dfl am_tb (f + 1) (d + 1) 142 [.ref (ρ.1 9), .int v, .int x] (hp_S sa ρ K.1) = some (some (.int (bP ((c, t) ∈ m_fl M))), hp_S sa ρ K.1) := by
  obtain ⟨n1, n2, n3, n4⟩ := q_fr_ne hc
  refine m_wf_cases ?_ ?_ ?_
  · intro u l r w1 w2 hty i1 i2 d x hx hd
    rw [m_ht_N] at hd
    obtain ⟨d, rfl⟩ : ∃ e, d = e + 1 := ⟨d - 1, by omega⟩
    rw [am_c_142, am_s142_0]
    simp only [am_c_eq, am_c_ne]
    have ne : x ≠ v := fun z => by
      rw [z] at hx
      exact n1 (mN_inj (hx.inj hv)).1.symm
    rw [if_neg ne]
    obtain ⟨v1, v2, r1, r2, r3, q1, q2, -⟩ := nq_app h hx
    simp only [hr_918 w, hl_918 w, r1, Option.bind_some]
    rw [if_neg (fun z => z rfl)]
    simp only [hr_919 w, hl_919 w, r2, Option.bind_some, hx_9 w]
    rw [i1 d v1 q1 (by omega), am_i_some]
    have key : (c, t) ∈ m_fl (mN (-1) u l r) ↔ (c, t) ∈ m_fl l ∨ (c, t) ∈ m_fl r := by
      rw [m_fl_N, List.mem_cons, List.mem_append]
      exact ⟨fun z => z.resolve_left (fun y => n1 (Prod.mk.inj y).1), Or.inr⟩
    by_cases e1 : (c, t) ∈ m_fl l
    · rw [bP_t e1, if_pos (by decide), am_rz_1, bP_t (key.mpr (Or.inl e1))]
    · rw [bP_f e1, if_neg (fun z => z rfl)]
      simp only [hr_920 w, hl_920 w, r3, Option.bind_some, hx_9 w]
      rw [i2 d v2 q2 (by omega), am_i_some]
      by_cases e2 : (c, t) ∈ m_fl r
      · rw [bP_t e2, if_pos (by decide), am_rz_1, bP_t (key.mpr (Or.inr e2))]
      · rw [bP_f e2, if_neg (fun z => z rfl)]
        simp only [hr_918 w, hl_918 w, r1, Option.bind_some]
        rw [if_pos (by decide), am_rz_0, bP_f (fun z => (key.mp z).elim e1 e2)]
  · intro a l w1 i1 d x hx hd
    rw [m_ht_N] at hd
    obtain ⟨d, rfl⟩ : ∃ e, d = e + 1 := ⟨d - 1, by omega⟩
    rw [am_c_142, am_s142_0]
    simp only [am_c_eq, am_c_ne]
    have ne : x ≠ v := fun z => by
      rw [z] at hx
      exact n2 (mN_inj (hx.inj hv)).1.symm
    rw [if_neg ne]
    obtain ⟨v1, v2, r1, r2, r3, q1, q2⟩ := nq_abs h hx
    simp only [hr_918 w, hl_918 w, r1, Option.bind_some]
    rw [if_pos (by decide), if_neg (fun z => z rfl)]
    simp only [hr_920 w, hl_920 w, r3, Option.bind_some, hx_9 w]
    rw [i1 d v2 q2 (by omega), am_i_some]
    have key : (c, t) ∈ m_fl (mN (-2) (qF a (m_ty l)) l .leaf) ↔ (c, t) ∈ m_fl l := by
      rw [m_fl_N, List.mem_cons, List.mem_append]
      exact ⟨fun z => (z.resolve_left (fun y => n2 (Prod.mk.inj y).1)).resolve_right (fun y => by cases y), fun z => Or.inr (Or.inl z)⟩
    by_cases e1 : (c, t) ∈ m_fl l
    · rw [bP_t e1, if_neg (by decide), am_rz_1, bP_t (key.mpr e1)]
    · rw [bP_f e1, if_pos rfl, am_rz_0, bP_f (fun z => e1 (key.mp z))]
  · intro y u hl d x hx hd
    rw [m_ht_N] at hd
    rw [am_c_142, am_s142_0]
    simp only [am_c_eq, am_c_ne]
    have fl : m_fl (mN y u .leaf .leaf) = [(y, u)] := by rw [m_fl_N]; rfl
    by_cases ne : x = v
    · rw [if_pos ne, am_rz_1]
      rw [ne] at hx
      obtain ⟨rfl, rfl, -, -⟩ := mN_inj (hx.inj hv)
      rw [bP_t (by rw [fl]; exact List.mem_singleton.mpr rfl)]
    · rw [if_neg ne]
      obtain ⟨x', e', k', e1, r1, r2, r3, r4⟩ := nq_lf h hx
      have n45 : k' ≠ 4 ∧ k' ≠ 5 := by rcases r4 with ⟨z, -⟩ | ⟨z, -⟩ | ⟨z, -⟩ <;> rw [z] <;> exact ⟨by decide, by decide⟩
      simp only [hr_918 w, hl_918 w, r1, Option.bind_some]
      rw [if_pos n45.1, if_pos n45.2, am_rz_0, bP_f (fun z => ne ?_)]
      rw [fl] at z
      obtain ⟨z1, z2⟩ := Prod.mk.inj (List.mem_singleton.mp z)
      rw [← z1, ← z2] at hx
      exact hx.uq hv h
/-- isOf -/
theorem k_isOf {f : Nat} {y : Int32} {t : qT} (w : hp_w B ρ) (h : kI Z G L K) (hy : pl K.2.1 K.2.2.1 y t) : ∀ M, m_wf M → ∀ (o d : Nat) (x : Int32), nq K x M → m_ht M ≤ d → o + m_ht M ≤ 1000 →
    am_call B sa am_dfl am_tb (f + 1) (d + 1) 143 [.ref (ρ.1 9), .int x, .int (nI o), .int y] (hp_S sa ρ K.1) = some (some (.int (bP (m_of t M o))), hp_S sa ρ K.1) := by
  have m4 : ∀ {o : Nat}, o ≤ 1000 → (-1 : Int32) ≠ 4 * nI o ∧ (-2 : Int32) ≠ 4 * nI o := fun {o} ho => by
    rw [nI4]
    exact ⟨fun z => nI_ne_m1 (by omega) z.symm, fun z => nI_ne_m2 (by omega) z.symm⟩
  refine m_wf_cases ?_ ?_ ?_
  · intro u l r w1 w2 hty i1 i2 o d x hx hd ho
    rw [m_ht_N] at hd ho
    obtain ⟨d, rfl⟩ : ∃ e, d = e + 1 := ⟨d - 1, by omega⟩
    rw [am_c_143, am_s143_0]
    simp only [am_c_eq, am_c_ne]
    obtain ⟨v1, v2, r1, r2, r3, q1, q2, -⟩ := nq_app h hx
    simp only [hr_918 w, hl_918 w, r1, Option.bind_some]
    rw [if_pos (by decide), if_neg (fun z => z rfl)]
    simp only [hr_919 w, hl_919 w, r2, Option.bind_some, hx_9 w]
    rw [i1 o d v1 q1 (by omega) (by omega), am_i_some]
    have key : m_of t (mN (-1) u l r) o ↔ m_of t l o ∧ m_of t r o := by
      rw [m_of_N, if_neg (by decide)]
      exact ⟨fun z => z.2, fun z => ⟨fun y => absurd y (m4 (by omega)).1, z⟩⟩
    by_cases e1 : m_of t l o
    · rw [bP_t e1, if_neg (by decide)]
      simp only [hr_920 w, hl_920 w, r3, Option.bind_some, hx_9 w]
      rw [i2 o d v2 q2 (by omega) (by omega), am_i_some]
      by_cases e2 : m_of t r o
      · rw [bP_t e2, if_neg (by decide), am_rz_1, bP_t (key.mpr ⟨e1, e2⟩)]
      · rw [bP_f e2, if_pos rfl, am_rz_0, bP_f (fun z => e2 (key.mp z).2)]
    · rw [bP_f e1, if_pos rfl, am_rz_0, bP_f (fun z => e1 (key.mp z).1)]
  · intro a l w1 i1 o d x hx hd ho
    rw [m_ht_N] at hd ho
    obtain ⟨d, rfl⟩ : ∃ e, d = e + 1 := ⟨d - 1, by omega⟩
    rw [am_c_143, am_s143_0]
    simp only [am_c_eq, am_c_ne]
    obtain ⟨v1, v2, r1, r2, r3, q1, q2⟩ := nq_abs h hx
    simp only [hr_918 w, hl_918 w, r1, Option.bind_some]
    rw [if_pos (by decide), if_pos (by decide), if_neg (fun z => z rfl)]
    simp only [hr_920 w, hl_920 w, r3, Option.bind_some, hx_9 w]
    rw [nI_1, i1 (o + 1) d v2 q2 (by omega) (by omega), am_i_some]
    have key : m_of t (mN (-2) (qF a (m_ty l)) l .leaf) o ↔ m_of t l (o + 1) := by
      rw [m_of_N, if_pos rfl]
      exact ⟨fun z => z.2.1, fun z => ⟨fun y => absurd y (m4 (by omega)).2, z, True.intro⟩⟩
    by_cases e1 : m_of t l (o + 1)
    · rw [bP_t e1, if_neg (by decide), am_rz_1, bP_t (key.mpr e1)]
    · rw [bP_f e1, if_pos rfl, am_rz_0, bP_f (fun z => e1 (key.mp z))]
  · intro c u hl o d x hx hd ho
    rw [m_ht_N] at hd ho
    rw [am_c_143, am_s143_0]
    simp only [am_c_eq, am_c_ne]
    obtain ⟨x', e', k', e1, r1, r2, r3, r4⟩ := nq_lf h hx
    have key : m_of t (mN c u .leaf .leaf) o ↔ (c = 4 * nI o → u = t) := by
      rw [m_of_N]
      exact ⟨fun z => z.1, fun z => ⟨z, True.intro, True.intro⟩⟩
    simp only [hr_918 w, hl_918 w, r1, Option.bind_some]
    by_cases k6 : k' = 6
    · rw [if_neg (fun z => z k6)]
      simp only [hr_919 w, hl_919 w, r2, Option.bind_some]
      have e0 : e' = 0 := by rcases r4 with ⟨z, z'⟩ | ⟨z, -⟩ | ⟨z, -⟩ <;> first | exact z' | (rw [k6] at z; exact absurd z (by decide))
      by_cases ex : x' = o
      · rw [if_neg (fun z => z (by rw [ex]))]
        obtain ⟨s, s1, s2⟩ := h.rdt hx
        rw [m_ty_N] at s2
        simp only [hr_921 w, hl_921 w, s1, Option.bind_some]
        by_cases es : s = y
        · rw [if_neg (fun z => z es), am_rz_1, bP_t (key.mpr fun _ => ?_)]
          rw [es] at s2
          exact s2.ct.symm.trans hy.ct
        · rw [if_pos es, am_rz_0, bP_f (fun z => es ?_)]
          have := key.mp z (by rw [e1, nI4, e0, ex]; rfl)
          rw [this] at s2
          exact s2.eq hy h.wf h.di h.n31
      · rw [if_pos (fun z => ex ((nI_eq (by omega) (by omega)).mp z)), am_rz_1, bP_t (key.mpr fun z => absurd ?_ ex)]
        rw [e1, nI4] at z
        have := (nI_eq (by omega) (by omega)).mp z
        omega
    · have n45 : k' ≠ 4 ∧ k' ≠ 5 := by rcases r4 with ⟨z, -⟩ | ⟨z, -⟩ | ⟨z, -⟩ <;> rw [z] <;> exact ⟨by decide, by decide⟩
      rw [if_pos k6, if_pos n45.1, if_pos n45.2, am_rz_1, bP_t (key.mpr fun z => ?_)]
      rw [e1, nI4] at z
      have := (nI_eq (by omega) (by omega)).mp z
      rcases r4 with ⟨z, -⟩ | ⟨z, z'⟩ | ⟨z, z'⟩
      · exact absurd z k6
      · omega
      · omega
/-- an equation's parts -/
theorem nq_E {v : Int32} {X Y : qM} (h : kI Z G L K) (hv : nq K v (mE X Y)) : ∃ v1 v2 v3, hp_rd K.1 918 v = some 4 ∧ hp_rd K.1 919 v = some v1 ∧ hp_rd K.1 920 v = some v2 ∧ hp_rd K.1 920 v1 = some v3 ∧ nq K v2 Y ∧ nq K v3 X := by
  obtain ⟨v1, v2, r1, r2, r3, q1, q2, -⟩ := nq_app h hv
  obtain ⟨v4, v3, s1, s2, s3, q3, q4, -⟩ := nq_app h q1
  exact ⟨v1, v2, v3, r1, r2, r3, s3, q2, q4⟩
/-- isEquation -/
theorem k_isEq {f d : Nat} {x : Int32} {M : qM} (w : hp_w B ρ) (h : kI Z G L K) (hx : nq K x M) :
    am_call B sa am_dfl am_tb (f + 1) (d + 1) 145 [.ref (ρ.1 9), .int x] (hp_S sa ρ K.1) = some (some (.int (bP (∃ X Y, m_isE M X Y))), hp_S sa ρ K.1) := by
  rw [am_c_145, am_s145_0]
  simp only [am_c_ne]
  rcases nq_cases h hx with ⟨u, F, Y, v1, v2, e, r1, r2, r3, q1, q2, ty⟩ | ⟨t, Y', v1, v2, e, r1, -⟩ | ⟨x', e', u', k', e, r1, r2, hx', he⟩
  · simp only [hr_918 w, hl_918 w, r1, Option.bind_some]
    rw [if_neg (fun z => z rfl)]
    simp only [hr_919 w, hl_919 w, r2, Option.bind_some]
    rcases nq_cases h q1 with ⟨u2, F2, X, w1, w2, e2, s1, s2, s3, p1, p2, ty2⟩ | ⟨t, Y', v1', v2', e2, s1, -⟩ | ⟨x', e', u', k', e2, s1, s2, hx', he⟩
    · simp only [hl_918 w, s1, Option.bind_some]
      rw [if_neg (fun z => z rfl)]
      simp only [hl_919 w, s2, Option.bind_some]
      rcases nq_cases h p1 with ⟨u3, F3, X3, y1, y2, e3, t1, -⟩ | ⟨t, Y', v1', v2', e3, t1, -⟩ | ⟨x', e', u', k', e3, t1, t2, hx', he⟩
      · simp only [hl_918 w, t1, Option.bind_some]
        rw [if_pos (by decide), am_rz_0, bP_f]
        rintro ⟨A, C, -, -, -, z⟩
        rw [e, e2, e3] at z
        exact absurd (mN_inj (mN_inj (mN_inj z).2.2.1).2.2.1).1 (by decide)
      · simp only [hl_918 w, t1, Option.bind_some]
        rw [if_pos (by decide), am_rz_0, bP_f]
        rintro ⟨A, C, -, -, -, z⟩
        rw [e, e2, e3] at z
        exact absurd (mN_inj (mN_inj (mN_inj z).2.2.1).2.2.1).1 (by decide)
      · simp only [hl_918 w, t1, Option.bind_some]
        have no : ¬ (x' = 0 ∧ e' = 2) → ¬ ∃ X Y, m_isE M X Y := by
          rintro hne ⟨A, C, -, -, -, z⟩
          rw [e, e2, e3] at z
          have := (mN_inj (mN_inj (mN_inj z).2.2.1).2.2.1).1
          have := (nI_eq (b := 2) (by omega) (by decide)).mp this
          omega
        by_cases k3 : k' = 3
        · rw [if_neg (fun z => z k3)]
          simp only [hl_919 w, t2, Option.bind_some]
          have e2' : e' = 2 := by rcases he with ⟨z, z'⟩ | ⟨z, z'⟩ | ⟨z, z'⟩ <;> first | exact z' | (rw [k3] at z; exact absurd z (by decide))
          by_cases x0 : x' = 0
          · rw [if_neg (fun z => z (by rw [x0]; rfl)), am_rz_1, bP_t]
            have wf3 := p1.wf h
            rw [e3] at wf3
            have lf : m_lf 2 u' := by
              have : nI (4 * x' + e') = 2 := by rw [x0, e2']; rfl
              rw [this] at wf3
              obtain ⟨-, z⟩ := wf3
              rcases z with ⟨z, -⟩ | ⟨z, -⟩ | ⟨-, -, z⟩
              · rw [q_code] at z; exact absurd z (by decide)
              · rw [q_code] at z; exact absurd z (by decide)
              · rw [q_code] at z; exact z
            obtain ⟨a, ea⟩ := lf.2 rfl
            rw [e3, m_ty_N, ea] at ty2
            obtain ⟨ea1, ea2⟩ := qF_inj ty2
            rw [e2, m_ty_N, ← ea2] at ty
            obtain ⟨eb1, eb2⟩ := qF_inj ty
            refine ⟨X, Y, p2.wf h, q2.wf h, eb1.symm.trans ea1, ?_⟩
            rw [e, e2, e3, mE_eq, ← eb2, ← ea2, ea, ← ea1, x0, e2']
            rfl
          · rw [if_pos (nI_ne0 (by omega) (by omega)), am_rz_0, bP_f (no fun z => x0 z.1)]
        · rw [if_pos k3, am_rz_0, bP_f (no fun z => ?_)]
          rcases he with ⟨y, z'⟩ | ⟨y, z'⟩ | ⟨y, z'⟩
          · omega
          · omega
          · exact k3 y
    · simp only [hl_918 w, s1, Option.bind_some]
      rw [if_pos (by decide), am_rz_0, bP_f]
      rintro ⟨A, C, -, -, -, z⟩
      rw [e, e2] at z
      exact absurd (mN_inj (mN_inj z).2.2.1).1 (by decide)
    · simp only [hl_918 w, s1, Option.bind_some]
      have n4 : k' ≠ 4 := by rcases he with ⟨z, -⟩ | ⟨z, -⟩ | ⟨z, -⟩ <;> rw [z] <;> decide
      rw [if_pos n4, am_rz_0, bP_f]
      rintro ⟨A, C, -, -, -, z⟩
      rw [e, e2] at z
      exact absurd (mN_inj (mN_inj z).2.2.1).1 (nd_code_m1 hx' (by omega)).1
  · simp only [hr_918 w, hl_918 w, r1, Option.bind_some]
    rw [if_pos (by decide), am_rz_0, bP_f]
    rintro ⟨A, C, -, -, -, z⟩
    rw [e] at z
    exact absurd (mN_inj z).1 (by decide)
  · simp only [hr_918 w, hl_918 w, r1, Option.bind_some]
    have n4 : k' ≠ 4 := by rcases he with ⟨z, -⟩ | ⟨z, -⟩ | ⟨z, -⟩ <;> rw [z] <;> decide
    rw [if_pos n4, am_rz_0, bP_f]
    rintro ⟨A, C, -, -, -, z⟩
    rw [e] at z
    exact absurd (mN_inj z).1 (nd_code_m1 hx' (by omega)).1
/-- leftOf -/
theorem k_leftOf {f d : Nat} {x v1 v3 : Int32} (w : hp_w B ρ) (r1 : hp_rd K.1 919 x = some v1) (r2 : hp_rd K.1 920 v1 = some v3) :
    am_call B sa am_dfl am_tb (f + 1) (d + 1) 146 [.ref (ρ.1 9), .int x] (hp_S sa ρ K.1) = some (some (.int v3), hp_S sa ρ K.1) := by
  rw [am_c_146, am_s146_0]
  simp only [hr_920 w, hr_919 w, hl_919 w, r1, hl_920 w, r2, Option.bind_some]
/-- canApply -/
theorem k_canApply {f d : Nat} {v x : Int32} {F X : qM} (w : hp_w B ρ) (h : kI Z G L K) (hv : nq K v F) (hx : nq K x X) :
    am_call B sa am_dfl am_tb (f + 1) (d + 1) 134 [.ref (ρ.1 9), .int v, .int x] (hp_S sa ρ K.1) = some (some (.int (bP (∃ u, m_ty F = qF (m_ty X) u))), hp_S sa ρ K.1) := by
  rw [am_c_134, am_s134_0]
  obtain ⟨s, s1, a, a1, rfl, a3⟩ := h.rdt hv
  obtain ⟨o, o1, o2⟩ := h.rdt hx
  obtain ⟨r1, r2, r3⟩ := h.rdT a1
  simp only [hr_921 w, hl_921 w, s1, o1, hr_905 w, hl_905 w, r1, Option.bind_some, am_c_ne]
  rw [ct_at h.wf h.n31 a1] at a3
  by_cases e1 : (K.2.2.1 a).1 = 2
  · rw [if_neg (fun z => z e1)]
    simp only [hr_906 w, hl_906 w, r2, Option.bind_some]
    by_cases e2 : (K.2.2.1 a).2.1 = o
    · rw [if_neg (fun z => z e2), am_rz_1, bP_t]
      refine ⟨ct K.2.2.1 K.2.1 (K.2.2.1 a).2.2, ?_⟩
      rw [← a3, e1, e2, o2.ct]
      rfl
    · rw [if_pos e2, am_rz_0, bP_f]
      rintro ⟨u, z⟩
      rw [← a3] at z
      have z1 := (qN_inj.mp z).2.1
      refine e2 (ct_inj h.wf h.di h.n31 K.2.1 _ _ (Nat.le_refl _) ((h.wf a a1).1.mono (by omega)) o2.In (z1.trans o2.ct.symm))
  · rw [if_pos e1, am_rz_0, bP_f]
    rintro ⟨u, z⟩
    rw [← a3] at z
    exact e1 (qN_inj.mp z).1
end KQ
