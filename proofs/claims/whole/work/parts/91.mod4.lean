/-! THE REFERENCE, 4: binding, opening, replacing -/
section KB
variable {Z : Prop} {G : qT → Prop} {L : List qM} {sa : Nat → Nat} {B : Nat} {ρ : hp_L} {K K' : kS}
theorem nq.inj {v : Int32} {M M' : qM} (h : nq K v M) (h' : nq K v M') : M = M' := by
  obtain ⟨i, a, rfl, e⟩ := h
  obtain ⟨j, a', c', e'⟩ := h'
  have := (nI_eq (by omega) (by omega)).mp c'
  rw [← this, e] at e'
  exact Option.some.inj e'
theorem nq.uq {v v' : Int32} {M : qM} (h : nq K v M) (h' : nq K v' M) (k : kI Z G L K) : v = v' := by
  obtain ⟨i, a, rfl, e⟩ := h
  obtain ⟨j, a', rfl, e'⟩ := h'
  rw [nd_nodup k.2.1.2.2.1 e e']
/-- a node's rows -/
theorem nq_cases {v : Int32} {M : qM} (h : kI Z G L K) (hv : nq K v M) :
    (∃ u F X v1 v2, M = mN (-1) u F X ∧ hp_rd K.1 918 v = some 4 ∧ hp_rd K.1 919 v = some v1 ∧ hp_rd K.1 920 v = some v2 ∧ nq K v1 F ∧ nq K v2 X ∧ m_ty F = qF (m_ty X) u) ∨
    (∃ t Y v1 v2, M = mN (-2) (qF t (m_ty Y)) Y .leaf ∧ hp_rd K.1 918 v = some 5 ∧ hp_rd K.1 919 v = some v1 ∧ hp_rd K.1 920 v = some v2 ∧ pl K.2.1 K.2.2.1 v1 t ∧ nq K v2 Y) ∨
    (∃ x e u k, M = mN (nI (4 * x + e)) u .leaf .leaf ∧ hp_rd K.1 918 v = some k ∧ hp_rd K.1 919 v = some (nI x) ∧ x < 2 ^ 28 ∧ ((k = 6 ∧ e = 0) ∨ (k = 2 ∧ e = 1) ∨ (k = 3 ∧ e = 2))) := by
  obtain ⟨i, i1, rfl, hi⟩ := hv
  obtain ⟨r1, r2, r3, r4⟩ := h.rdN hi
  obtain ⟨⟨k1, k2⟩, k3, -⟩ := h.row hi
  have l6 := h.2.1.1.2
  rcases k2 with ⟨k, a, b, F, X, u, -, -, a3, a4, a5, a6, a7⟩ | ⟨k, b, t, Y, -, a2, a3, a4, a5⟩ | ⟨x, e, u, k, a1, a2, a3, a4⟩
  · refine Or.inl ⟨u, F, X, _, _, a7, by rw [r1, k], r2, r3, ⟨a, ?_, a3, a5⟩, ⟨b, ?_, a4, a6⟩, ?_⟩
    · have := (List.getElem?_eq_some_iff.mp a5).1; omega
    · have := (List.getElem?_eq_some_iff.mp a6).1; omega
    · rw [a7] at k3
      obtain ⟨-, z⟩ := k3
      rcases z with ⟨-, -, -, z⟩ | ⟨z, -⟩ | ⟨z, -⟩
      · exact z
      · rw [q_code] at z; exact absurd z (by decide)
      · have := (List.getElem?_eq_some_iff.mp a5).1
        have := (h.row a5).2.1
        rw [z] at this
        exact absurd this id
  · refine Or.inr (Or.inl ⟨t, Y, _, _, a5, by rw [r1, k], r2, r3, a2, ⟨b, ?_, a3, a4⟩⟩)
    have := (List.getElem?_eq_some_iff.mp a4).1; omega
  · exact Or.inr (Or.inr ⟨x, e, u, _, a4, r1, by rw [r2, a1], a2, k⟩)
theorem nq_app {v : Int32} {u : qT} {F X : qM} (h : kI Z G L K) (hv : nq K v (mN (-1) u F X)) : ∃ v1 v2, hp_rd K.1 918 v = some 4 ∧ hp_rd K.1 919 v = some v1 ∧ hp_rd K.1 920 v = some v2 ∧ nq K v1 F ∧ nq K v2 X ∧ m_ty F = qF (m_ty X) u := by
  rcases nq_cases h hv with ⟨u', F', X', v1, v2, e, a⟩ | ⟨t, Y, v1, v2, e, -⟩ | ⟨x, e, u', k, e', -, -, hx, he⟩
  · obtain ⟨-, rfl, rfl, rfl⟩ := mN_inj e
    exact ⟨v1, v2, a⟩
  · exact absurd (mN_inj e).1 (by decide)
  · exact absurd (mN_inj e').1.symm (nd_code_m1 hx (by omega)).1
theorem nq_abs {v : Int32} {t : qT} {Y : qM} (h : kI Z G L K) (hv : nq K v (mN (-2) (qF t (m_ty Y)) Y .leaf)) : ∃ v1 v2, hp_rd K.1 918 v = some 5 ∧ hp_rd K.1 919 v = some v1 ∧ hp_rd K.1 920 v = some v2 ∧ pl K.2.1 K.2.2.1 v1 t ∧ nq K v2 Y := by
  rcases nq_cases h hv with ⟨u', F', X', v1, v2, e, a⟩ | ⟨t', Y', v1, v2, e, a⟩ | ⟨x, e, u', k, e', -, -, hx, he⟩
  · exact absurd (mN_inj e).1 (by decide)
  · obtain ⟨-, e2, rfl, -⟩ := mN_inj e
    obtain ⟨rfl, -⟩ := qF_inj e2
    exact ⟨v1, v2, a⟩
  · exact absurd (mN_inj e').1.symm (nd_code_m1 hx (by omega)).2
theorem nq_lf {v c : Int32} {u : qT} (h : kI Z G L K) (hv : nq K v (mN c u .leaf .leaf)) : ∃ x e k, c = nI (4 * x + e) ∧ hp_rd K.1 918 v = some k ∧ hp_rd K.1 919 v = some (nI x) ∧ x < 2 ^ 28 ∧ ((k = 6 ∧ e = 0) ∨ (k = 2 ∧ e = 1) ∨ (k = 3 ∧ e = 2)) := by
  have wf : ∀ {v : Int32} {M : qM}, nq K v M → m_wf M := fun {v M} ⟨i, _, _, hi⟩ => (h.row hi).2.1
  rcases nq_cases h hv with ⟨u', F', X', v1, v2, e, -, -, -, a, -⟩ | ⟨t', Y', v1, v2, e, -, -, -, -, a⟩ | ⟨x, e, u', k, e', a⟩
  · rw [← (mN_inj e).2.2.1] at a; exact absurd (wf a) id
  · rw [← (mN_inj e).2.2.1] at a; exact absurd (wf a) id
  · exact ⟨x, e, k, (mN_inj e').1, a⟩
theorem nq.wf {v : Int32} {M : qM} (h : nq K v M) (k : kI Z G L K) : m_wf M := by
  obtain ⟨i, -, -, hi⟩ := h
  exact (k.row hi).2.1
/-- bind -/
theorem k_bind {f : Nat} {c : Int32} {t : qT} (hc : q_fr c) (w : hp_w B ρ) (k : kz Z G L) (hf : 70000 ≤ f) : ∀ M, m_wf M → ∀ (o d : Nat) (K : kS) (v x : Int32), kI Z G L K → nv K v (mN c t .leaf .leaf) → nv K x M → o + m_ht M ≤ 1000 → m_tr true c t M o ∈ L → m_ht M ≤ d →
    kO Z G L sa ρ K (am_call B sa am_dfl am_tb f (d + 5) 137 [.ref (ρ.1 9), .int v, .int x, .int (nI o)] (hp_S sa ρ K.1)) (m_tr true c t M o) := by
  obtain ⟨f, rfl⟩ : ∃ g, f = g + 1 := ⟨f - 1, by omega⟩
  obtain ⟨n1, n2, n3, n4⟩ := q_fr_ne hc
  have ts : ∀ {y : Int32} {u : qT} {bn : Nat}, y ≠ c → m_ts true c t bn (y, u) = (y, u) := fun {y u bn} e => by
    unfold m_ts
    rw [if_pos rfl, if_neg (fun z => e (Prod.mk.inj z).1)]
  refine m_wf_cases ?_ ?_ ?_
  · intro u l r w1 w2 hty i1 i2 o d K v x h hv hx ho hM hd
    rw [m_ht_N] at ho hd
    obtain ⟨d, rfl⟩ : ∃ e, d = e + 1 := ⟨d - 1, by omega⟩
    rw [am_c_137, am_s137_0]
    simp only [h.bad w, Option.bind_some, am_c_eq, am_c_ne]
    rcases bI_cases K.2.2.2.2 with ⟨eb, e⟩ | ⟨eb, e⟩
    · rw [e, if_pos rfl]
      have hx := hx.q eb
      have ne : x ≠ v := fun z => by
        rw [z] at hx
        exact n1 (mN_inj (hx.inj (hv.q eb))).1.symm
      rw [if_pos ne]
      obtain ⟨v1, v2, r1, r2, r3, q1, q2, -⟩ := nq_app h hx
      simp only [hr_918 w, hl_918 w, r1, Option.bind_some]
      rw [if_neg (fun z => z rfl)]
      simp only [hr_919 w, hl_919 w, r2, Option.bind_some, hx_9 w]
      have eM : m_tr true c t (mN (-1) u l r) o = mN (-1) u (m_tr true c t l o) (m_tr true c t r o) := by rw [m_tr_N, ts n1.symm, if_neg (by decide)]
      rw [eM] at hM ⊢
      obtain ⟨a1, a2, a3⟩ := m_tr_b (t := t) hc l w1 o (by omega)
      obtain ⟨b1, b2, b3⟩ := m_tr_b (t := t) hc r w2 o (by omega)
      obtain ⟨y1, K1, c1, c2, c3⟩ := i1 o d K v v1 h hv q1.v (by omega) (k.sub hM (Or.inr (Or.inl (m_sub_self a1)))) (by omega)
      rw [c1, am_i_some]
      obtain ⟨v1', v2', r1', r2', r3', q1', q2', -⟩ := nq_app c2.1 (hx.go c2)
      simp only [hr_920 w, hl_920 w, r3', Option.bind_some, hx_9 w]
      obtain ⟨y2, K2, d1, d2, d3⟩ := i2 o d K1 v v2' c2.1 (hv.go c2) q2'.v (by omega) (k.sub hM (Or.inr (Or.inr (m_sub_self b1)))) (by omega)
      rw [d1, am_i_some]
      simp only [Option.bind_some, hx_9 w]
      obtain ⟨y3, K3, e1, e2, e3⟩ := k_apply (sa := sa) (f := f + 1) (d := d + 2) w k d2.1 (c3.go d2) d3 (u := u) (by rw [a2, b2]; exact hty) hM hf
      rw [e1, am_i_some]
      exact ⟨y3, K3, rfl, (c2.tr d2).tr e2, e3⟩
    · rw [e, if_neg (by decide)]
      exact ⟨0, K, rfl, kR.rf h, nv_0 eb⟩
  · intro a l w1 i1 o d K v x h hv hx ho hM hd
    rw [m_ht_N] at ho hd
    obtain ⟨d, rfl⟩ : ∃ e, d = e + 1 := ⟨d - 1, by omega⟩
    rw [am_c_137, am_s137_0]
    simp only [h.bad w, Option.bind_some, am_c_eq, am_c_ne]
    rcases bI_cases K.2.2.2.2 with ⟨eb, e⟩ | ⟨eb, e⟩
    · rw [e, if_pos rfl]
      have hx := hx.q eb
      have ne : x ≠ v := fun z => by
        rw [z] at hx
        exact n2 (mN_inj (hx.inj (hv.q eb))).1.symm
      rw [if_pos ne]
      obtain ⟨v1, v2, r1, r2, r3, q1, q2⟩ := nq_abs h hx
      simp only [hr_918 w, hl_918 w, r1, Option.bind_some]
      rw [if_pos (by decide), if_neg (fun z => z rfl)]
      simp only [hr_919 w, hl_919 w, r2, hr_920 w, hl_920 w, r3, Option.bind_some, hx_9 w]
      obtain ⟨a1, a2, a3⟩ := m_tr_b (t := t) hc l w1 (o + 1) (by omega)
      have eM : m_tr true c t (mN (-2) (qF a (m_ty l)) l .leaf) o = mN (-2) (qF a (m_ty (m_tr true c t l (o + 1)))) (m_tr true c t l (o + 1)) .leaf := by rw [m_tr_N, ts n2.symm, if_pos rfl, a2]; rfl
      rw [eM] at hM ⊢
      obtain ⟨y1, K1, c1, c2, c3⟩ := i1 (o + 1) d K v v2 h hv q2.v (by omega) (k.sub hM (Or.inr (Or.inl (m_sub_self a1)))) (by omega)
      rw [nI_1, c1, am_i_some]
      simp only [Option.bind_some, hx_9 w]
      obtain ⟨y3, K3, e1, e2, e3⟩ := k_abs (sa := sa) (f := f + 1) (d := d + 1) w k c2.1 ((pl_tv q1).go h c2) c3 hM hf
      rw [e1, am_i_some]
      exact ⟨y3, K3, rfl, c2.tr e2, e3⟩
    · rw [e, if_neg (by decide)]
      exact ⟨0, K, rfl, kR.rf h, nv_0 eb⟩
  · intro y u hl o d K v x h hv hx ho hM hd
    rw [m_ht_N] at ho hd
    rw [am_c_137, am_s137_0]
    simp only [h.bad w, Option.bind_some, am_c_eq, am_c_ne]
    rcases bI_cases K.2.2.2.2 with ⟨eb, e⟩ | ⟨eb, e⟩
    · rw [e, if_pos rfl]
      have hx := hx.q eb
      have hv := hv.q eb
      by_cases ne : x = v
      · rw [if_neg (fun z => z ne)]
        rw [ne] at hx
        obtain ⟨rfl, rfl, -, -⟩ := mN_inj (hx.inj hv)
        have eM : m_tr true y u (mN y u .leaf .leaf) o = mN (nI (4 * o + 0)) u .leaf .leaf := by
          rw [m_tr_N]
          unfold m_ts
          rw [if_pos rfl, if_pos rfl, Nat.add_zero, nI4]; rfl
        rw [eM] at hM ⊢
        obtain ⟨s, r1, r2⟩ := h.rdt hv
        rw [m_ty_N] at r2
        obtain ⟨y3, K3, e1, e2, e3⟩ := k_node (sa := sa) (f := f + 1) (d := d + 2) (q := (6, nI o, 0, s)) w k h ⟨by rw [m_ty_N]; exact r2, Or.inr (Or.inr ⟨o, 0, u, Or.inl ⟨rfl, rfl⟩, rfl, by omega, rfl, rfl⟩)⟩ hM hf
        simp only [hr_921 w, hl_921 w, r1, Option.bind_some, hx_9 w]
        dsimp only at e1
        rw [e1, am_i_some]
        exact ⟨y3, K3, rfl, e2, e3⟩
      · rw [if_pos ne]
        obtain ⟨x', e', k', e1, r1, r2, r3, r4⟩ := nq_lf h hx
        have n45 : k' ≠ 4 ∧ k' ≠ 5 := by rcases r4 with ⟨z, -⟩ | ⟨z, -⟩ | ⟨z, -⟩ <;> rw [z] <;> exact ⟨by decide, by decide⟩
        simp only [hr_918 w, hl_918 w, r1, Option.bind_some]
        rw [if_pos n45.1, if_pos n45.2]
        have eM : m_tr true c t (mN y u .leaf .leaf) o = mN y u .leaf .leaf := by
          rw [m_tr_N]
          have : m_ts true c t o (y, u) = (y, u) := by
            unfold m_ts
            rw [if_pos rfl, if_neg (fun z => ne ?_)]
            obtain ⟨z1, z2⟩ := Prod.mk.inj z
            rw [z1, z2] at hx
            exact hx.uq hv h
          rw [this]; rfl
        rw [eM]
        exact ⟨x, K, rfl, kR.rf h, hx.v⟩
    · rw [e, if_neg (by decide)]
      exact ⟨0, K, rfl, kR.rf h, nv_0 eb⟩
/-- abstraction -/
theorem k_lam {f d : Nat} {c : Int32} {t : qT} {X : qM} {v x : Int32} (hc : q_fr c) (w : hp_w B ρ) (k : kz Z G L) (h : kI Z G L K) (hv : nv K v (mN c t .leaf .leaf)) (hx : nv K x X) (hX : m_wf X) (hh : m_ht X ≤ 150) (hM : mL c t X ∈ L) (hf : 70000 ≤ f) :
    kO Z G L sa ρ K (am_call B sa am_dfl am_tb f (d + 156) 138 [.ref (ρ.1 9), .int v, .int x] (hp_S sa ρ K.1)) (mL c t X) := by
  obtain ⟨f, rfl⟩ : ∃ g, f = g + 1 := ⟨f - 1, by omega⟩
  rw [am_c_138, am_s138_0]
  obtain ⟨s, r1, r2⟩ := h.rdt' hv
  simp only [hr_921 w, hl_921 w, r1, Option.bind_some, hx_9 w]
  obtain ⟨a1, a2, a3⟩ := m_tr_b (t := t) hc X hX 0 (by omega)
  have eM : mL c t X = mN (-2) (qF t (m_ty (m_tr true c t X 0))) (m_tr true c t X 0) .leaf := by unfold mL; rw [a2]
  rw [eM] at hM ⊢
  obtain ⟨y1, K1, c1, c2, c3⟩ := k_bind (sa := sa) (f := f + 1) hc w k hf X hX 0 (d + 150) K v x h hv hx (by omega) (k.sub hM (Or.inr (Or.inl (m_sub_self a1)))) (by omega)
  have c1 : am_call B sa am_dfl am_tb (f + 1) (d + 155) 137 [.ref (ρ.1 9), .int v, .int x, .int 0] (hp_S sa ρ K.1) = _ := c1
  rw [c1, am_i_some]
  simp only [Option.bind_some, hx_9 w]
  have tvs : tv K s t := fun eb => by have := r2 eb; rw [m_ty_N] at this; exact this
  obtain ⟨y3, K3, e1, e2, e3⟩ := k_abs (sa := sa) (f := f + 1) (d := d + 151) w k c2.1 (tvs.go h c2) c3 hM hf
  rw [e1, am_i_some]
  exact ⟨y3, K3, rfl, c2.tr e2, e3⟩
/-- opened -/
theorem k_open {f : Nat} {c : Int32} {t : qT} (hc : q_fr c) (w : hp_w B ρ) (k : kz Z G L) (hf : 70000 ≤ f) : ∀ M, m_wf M → ∀ (o d : Nat) (K : kS) (v x : Int32), kI Z G L K → nv K v (mN c t .leaf .leaf) → nv K x M → o + m_ht M ≤ 1000 → m_of t M o → m_tr false c t M o ∈ L → m_ht M ≤ d →
    kO Z G L sa ρ K (am_call B sa am_dfl am_tb f (d + 5) 139 [.ref (ρ.1 9), .int x, .int v, .int (nI o)] (hp_S sa ρ K.1)) (m_tr false c t M o) := by
  obtain ⟨f, rfl⟩ : ∃ g, f = g + 1 := ⟨f - 1, by omega⟩
  obtain ⟨n1, n2, n3, n4⟩ := q_fr_ne hc
  have ts : ∀ {y : Int32} {u : qT} {bn : Nat}, y ≠ 4 * nI bn → m_ts false c t bn (y, u) = (y, u) := fun {y u bn} e => by
    unfold m_ts
    rw [if_neg (by decide), if_neg e]
  have m4 : ∀ {o : Nat}, o ≤ 1000 → (-1 : Int32) ≠ 4 * nI o ∧ (-2 : Int32) ≠ 4 * nI o := fun {o} ho => by
    rw [nI4]
    exact ⟨fun z => nI_ne_m1 (by omega) z.symm, fun z => nI_ne_m2 (by omega) z.symm⟩
  refine m_wf_cases ?_ ?_ ?_
  · intro u l r w1 w2 hty i1 i2 o d K v x h hv hx ho hof hM hd
    rw [m_ht_N] at ho hd
    obtain ⟨d, rfl⟩ : ∃ e, d = e + 1 := ⟨d - 1, by omega⟩
    rw [am_c_139, am_s139_0]
    simp only [h.bad w, Option.bind_some, am_c_eq, am_c_ne]
    rcases bI_cases K.2.2.2.2 with ⟨eb, e⟩ | ⟨eb, e⟩
    · rw [e, if_pos rfl]
      have hx := hx.q eb
      obtain ⟨v1, v2, r1, r2, r3, q1, q2, -⟩ := nq_app h hx
      simp only [hr_918 w, hl_918 w, r1, Option.bind_some]
      rw [if_pos (by decide), if_neg (fun z => z rfl)]
      simp only [hr_919 w, hl_919 w, r2, Option.bind_some, hx_9 w]
      have eM : m_tr false c t (mN (-1) u l r) o = mN (-1) u (m_tr false c t l o) (m_tr false c t r o) := by rw [m_tr_N, ts (m4 (by omega)).1, if_neg (by decide)]
      rw [eM] at hM ⊢
      rw [m_of_N, if_neg (by decide)] at hof
      obtain ⟨-, of1, of2⟩ := hof
      obtain ⟨a1, a2, a3⟩ := m_tr_o (t := t) hc l w1 o (by omega) of1
      obtain ⟨b1, b2, b3⟩ := m_tr_o (t := t) hc r w2 o (by omega) of2
      obtain ⟨y1, K1, c1, c2, c3⟩ := i1 o d K v v1 h hv q1.v (by omega) of1 (k.sub hM (Or.inr (Or.inl (m_sub_self a1)))) (by omega)
      rw [c1, am_i_some]
      obtain ⟨v1', v2', r1', r2', r3', q1', q2', -⟩ := nq_app c2.1 (hx.go c2)
      simp only [hr_920 w, hl_920 w, r3', Option.bind_some, hx_9 w]
      obtain ⟨y2, K2, d1, d2, d3⟩ := i2 o d K1 v v2' c2.1 (hv.go c2) q2'.v (by omega) of2 (k.sub hM (Or.inr (Or.inr (m_sub_self b1)))) (by omega)
      rw [d1, am_i_some]
      simp only [Option.bind_some, hx_9 w]
      obtain ⟨y3, K3, e1, e2, e3⟩ := k_apply (sa := sa) (f := f + 1) (d := d + 2) w k d2.1 (c3.go d2) d3 (u := u) (by rw [a2, b2]; exact hty) hM hf
      rw [e1, am_i_some]
      exact ⟨y3, K3, rfl, (c2.tr d2).tr e2, e3⟩
    · rw [e, if_neg (by decide)]
      exact ⟨0, K, rfl, kR.rf h, nv_0 eb⟩
  · intro a l w1 i1 o d K v x h hv hx ho hof hM hd
    rw [m_ht_N] at ho hd
    obtain ⟨d, rfl⟩ : ∃ e, d = e + 1 := ⟨d - 1, by omega⟩
    rw [am_c_139, am_s139_0]
    simp only [h.bad w, Option.bind_some, am_c_eq, am_c_ne]
    rcases bI_cases K.2.2.2.2 with ⟨eb, e⟩ | ⟨eb, e⟩
    · rw [e, if_pos rfl]
      have hx := hx.q eb
      obtain ⟨v1, v2, r1, r2, r3, q1, q2⟩ := nq_abs h hx
      simp only [hr_918 w, hl_918 w, r1, Option.bind_some]
      rw [if_pos (by decide), if_pos (by decide), if_neg (fun z => z rfl)]
      simp only [hr_919 w, hl_919 w, r2, hr_920 w, hl_920 w, r3, Option.bind_some, hx_9 w]
      rw [m_of_N, if_pos rfl] at hof
      obtain ⟨-, of1, -⟩ := hof
      obtain ⟨a1, a2, a3⟩ := m_tr_o (t := t) hc l w1 (o + 1) (by omega) of1
      have eM : m_tr false c t (mN (-2) (qF a (m_ty l)) l .leaf) o = mN (-2) (qF a (m_ty (m_tr false c t l (o + 1)))) (m_tr false c t l (o + 1)) .leaf := by rw [m_tr_N, ts (m4 (by omega)).2, if_pos rfl, a2]; rfl
      rw [eM] at hM ⊢
      obtain ⟨y1, K1, c1, c2, c3⟩ := i1 (o + 1) d K v v2 h hv q2.v (by omega) of1 (k.sub hM (Or.inr (Or.inl (m_sub_self a1)))) (by omega)
      rw [nI_1, c1, am_i_some]
      simp only [Option.bind_some, hx_9 w]
      obtain ⟨y3, K3, e1, e2, e3⟩ := k_abs (sa := sa) (f := f + 1) (d := d + 1) w k c2.1 ((pl_tv q1).go h c2) c3 hM hf
      rw [e1, am_i_some]
      exact ⟨y3, K3, rfl, c2.tr e2, e3⟩
    · rw [e, if_neg (by decide)]
      exact ⟨0, K, rfl, kR.rf h, nv_0 eb⟩
  · intro y u hl o d K v x h hv hx ho hof hM hd
    rw [m_ht_N] at ho hd
    rw [am_c_139, am_s139_0]
    simp only [h.bad w, Option.bind_some, am_c_eq, am_c_ne]
    rcases bI_cases K.2.2.2.2 with ⟨eb, e⟩ | ⟨eb, e⟩
    · rw [e, if_pos rfl]
      have hx := hx.q eb
      have hv := hv.q eb
      obtain ⟨x', e', k', e1, r1, r2, r3, r4⟩ := nq_lf h hx
      simp only [hr_918 w, hl_918 w, r1, Option.bind_some]
      by_cases k6 : k' = 6
      · rw [if_neg (fun z => z k6)]
        simp only [hr_919 w, hl_919 w, r2, Option.bind_some]
        have e0 : e' = 0 := by rcases r4 with ⟨z, z'⟩ | ⟨z, -⟩ | ⟨z, -⟩ <;> first | exact z' | (rw [k6] at z; exact absurd z (by decide))
        by_cases ex : x' = o
        · rw [if_neg (fun z => z (by rw [ex]))]
          have ey : y = 4 * nI o := by rw [e1, nI4, e0, ex]; rfl
          have eM : m_tr false c t (mN y u .leaf .leaf) o = mN c t .leaf .leaf := by
            rw [m_tr_N]
            unfold m_ts
            rw [if_neg (by decide), if_pos ey]; rfl
          rw [eM]
          exact ⟨v, K, rfl, kR.rf h, hv.v⟩
        · rw [if_pos (fun z => ex ((nI_eq (by omega) (by omega)).mp z))]
          have eM : m_tr false c t (mN y u .leaf .leaf) o = mN y u .leaf .leaf := by
            rw [m_tr_N, ts (fun z => ex ?_)]; rfl
            rw [e1, nI4] at z
            have := (nI_eq (by omega) (by omega)).mp z
            omega
          rw [eM]
          exact ⟨x, K, rfl, kR.rf h, hx.v⟩
      · rw [if_pos k6]
        have n45 : k' ≠ 4 ∧ k' ≠ 5 := by rcases r4 with ⟨z, -⟩ | ⟨z, -⟩ | ⟨z, -⟩ <;> rw [z] <;> exact ⟨by decide, by decide⟩
        rw [if_pos n45.1, if_pos n45.2]
        have eM : m_tr false c t (mN y u .leaf .leaf) o = mN y u .leaf .leaf := by
          rw [m_tr_N, ts (fun z => ?_)]; rfl
          rw [e1, nI4] at z
          have := (nI_eq (by omega) (by omega)).mp z
          rcases r4 with ⟨z, -⟩ | ⟨z, z'⟩ | ⟨z, z'⟩
          · exact k6 z
          · omega
          · omega
        rw [eM]
        exact ⟨x, K, rfl, kR.rf h, hx.v⟩
    · rw [e, if_neg (by decide)]
      exact ⟨0, K, rfl, kR.rf h, nv_0 eb⟩
/-- replaced -/
theorem k_repl {f : Nat} {c : Int32} {t : qT} {S : qM} (hc : q_fr c) (hS : m_wf S) (hSt : m_ty S = t) (w : hp_w B ρ) (k : kz Z G L) (hf : 70000 ≤ f) : ∀ M, m_wf M → ∀ (d : Nat) (K : kS) (v x s : Int32), kI Z G L K → nv K v (mN c t .leaf .leaf) → nv K s S → nv K x M → m_sb c t S M ∈ L → m_ht M ≤ d →
    kO Z G L sa ρ K (am_call B sa am_dfl am_tb f (d + 5) 140 [.ref (ρ.1 9), .int x, .int v, .int s] (hp_S sa ρ K.1)) (m_sb c t S M) := by
  obtain ⟨f, rfl⟩ : ∃ g, f = g + 1 := ⟨f - 1, by omega⟩
  obtain ⟨n1, n2, n3, n4⟩ := q_fr_ne hc
  refine m_wf_cases ?_ ?_ ?_
  · intro u l r w1 w2 hty i1 i2 d K v x s h hv hs hx hM hd
    rw [m_ht_N] at hd
    obtain ⟨d, rfl⟩ : ∃ e, d = e + 1 := ⟨d - 1, by omega⟩
    rw [am_c_140, am_s140_0]
    simp only [h.bad w, Option.bind_some, am_c_eq, am_c_ne]
    rcases bI_cases K.2.2.2.2 with ⟨eb, e⟩ | ⟨eb, e⟩
    · rw [e, if_pos rfl]
      have hx := hx.q eb
      have ne : x ≠ v := fun z => by
        rw [z] at hx
        exact n1 (mN_inj (hx.inj (hv.q eb))).1.symm
      rw [if_pos ne]
      obtain ⟨v1, v2, r1, r2, r3, q1, q2, -⟩ := nq_app h hx
      simp only [hr_918 w, hl_918 w, r1, Option.bind_some]
      rw [if_neg (fun z => z rfl)]
      simp only [hr_919 w, hl_919 w, r2, Option.bind_some, hx_9 w]
      have eM : m_sb c t S (mN (-1) u l r) = mN (-1) u (m_sb c t S l) (m_sb c t S r) := by rw [m_sb_N, if_neg (fun z => n1 (Prod.mk.inj z).1.symm)]
      rw [eM] at hM ⊢
      obtain ⟨a1, a2, a3⟩ := m_sb_ok hc hS hSt l w1
      obtain ⟨b1, b2, b3⟩ := m_sb_ok hc hS hSt r w2
      obtain ⟨y1, K1, c1, c2, c3⟩ := i1 d K v v1 s h hv hs q1.v (k.sub hM (Or.inr (Or.inl (m_sub_self a1)))) (by omega)
      rw [c1, am_i_some]
      obtain ⟨v1', v2', r1', r2', r3', q1', q2', -⟩ := nq_app c2.1 (hx.go c2)
      simp only [hr_920 w, hl_920 w, r3', Option.bind_some, hx_9 w]
      obtain ⟨y2, K2, d1, d2, d3⟩ := i2 d K1 v v2' s c2.1 (hv.go c2) (hs.go c2) q2'.v (k.sub hM (Or.inr (Or.inr (m_sub_self b1)))) (by omega)
      rw [d1, am_i_some]
      simp only [Option.bind_some, hx_9 w]
      obtain ⟨y3, K3, e1, e2, e3⟩ := k_apply (sa := sa) (f := f + 1) (d := d + 2) w k d2.1 (c3.go d2) d3 (u := u) (by rw [a2, b2]; exact hty) hM hf
      rw [e1, am_i_some]
      exact ⟨y3, K3, rfl, (c2.tr d2).tr e2, e3⟩
    · rw [e, if_neg (by decide)]
      exact ⟨0, K, rfl, kR.rf h, nv_0 eb⟩
  · intro a l w1 i1 d K v x s h hv hs hx hM hd
    rw [m_ht_N] at hd
    obtain ⟨d, rfl⟩ : ∃ e, d = e + 1 := ⟨d - 1, by omega⟩
    rw [am_c_140, am_s140_0]
    simp only [h.bad w, Option.bind_some, am_c_eq, am_c_ne]
    rcases bI_cases K.2.2.2.2 with ⟨eb, e⟩ | ⟨eb, e⟩
    · rw [e, if_pos rfl]
      have hx := hx.q eb
      have ne : x ≠ v := fun z => by
        rw [z] at hx
        exact n2 (mN_inj (hx.inj (hv.q eb))).1.symm
      rw [if_pos ne]
      obtain ⟨v1, v2, r1, r2, r3, q1, q2⟩ := nq_abs h hx
      simp only [hr_918 w, hl_918 w, r1, Option.bind_some]
      rw [if_pos (by decide), if_neg (fun z => z rfl)]
      simp only [hr_919 w, hl_919 w, r2, hr_920 w, hl_920 w, r3, Option.bind_some, hx_9 w]
      obtain ⟨a1, a2, a3⟩ := m_sb_ok hc hS hSt l w1
      have eM : m_sb c t S (mN (-2) (qF a (m_ty l)) l .leaf) = mN (-2) (qF a (m_ty (m_sb c t S l))) (m_sb c t S l) .leaf := by rw [m_sb_N, if_neg (fun z => n2 (Prod.mk.inj z).1.symm), a2]; rfl
      rw [eM] at hM ⊢
      obtain ⟨y1, K1, c1, c2, c3⟩ := i1 d K v v2 s h hv hs q2.v (k.sub hM (Or.inr (Or.inl (m_sub_self a1)))) (by omega)
      rw [c1, am_i_some]
      simp only [Option.bind_some, hx_9 w]
      obtain ⟨y3, K3, e1, e2, e3⟩ := k_abs (sa := sa) (f := f + 1) (d := d + 1) w k c2.1 ((pl_tv q1).go h c2) c3 hM hf
      rw [e1, am_i_some]
      exact ⟨y3, K3, rfl, c2.tr e2, e3⟩
    · rw [e, if_neg (by decide)]
      exact ⟨0, K, rfl, kR.rf h, nv_0 eb⟩
  · intro y u hl d K v x s h hv hs hx hM hd
    rw [m_ht_N] at hd
    rw [am_c_140, am_s140_0]
    simp only [h.bad w, Option.bind_some, am_c_eq, am_c_ne]
    rcases bI_cases K.2.2.2.2 with ⟨eb, e⟩ | ⟨eb, e⟩
    · rw [e, if_pos rfl]
      have hx := hx.q eb
      have hv := hv.q eb
      by_cases ne : x = v
      · rw [if_neg (fun z => z ne)]
        rw [ne] at hx
        obtain ⟨rfl, rfl, -, -⟩ := mN_inj (hx.inj hv)
        have eM : m_sb y u S (mN y u .leaf .leaf) = S := by rw [m_sb_N, if_pos rfl]
        rw [eM]
        exact ⟨s, K, rfl, kR.rf h, hs⟩
      · rw [if_pos ne]
        obtain ⟨x', e', k', e1, r1, r2, r3, r4⟩ := nq_lf h hx
        have n45 : k' ≠ 4 ∧ k' ≠ 5 := by rcases r4 with ⟨z, -⟩ | ⟨z, -⟩ | ⟨z, -⟩ <;> rw [z] <;> exact ⟨by decide, by decide⟩
        simp only [hr_918 w, hl_918 w, r1, Option.bind_some]
        rw [if_pos n45.1, if_pos n45.2]
        have eM : m_sb c t S (mN y u .leaf .leaf) = mN y u .leaf .leaf := by
          rw [m_sb_N, if_neg (fun z => ne ?_)]
          · rfl
          obtain ⟨z1, z2⟩ := Prod.mk.inj z
          rw [z1, z2] at hx
          exact hx.uq hv h
        rw [eM]
        exact ⟨x, K, rfl, kR.rf h, hx.v⟩
    · rw [e, if_neg (by decide)]
      exact ⟨0, K, rfl, kR.rf h, nv_0 eb⟩
end KB
