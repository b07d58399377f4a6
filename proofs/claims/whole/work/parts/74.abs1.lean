/-! WHAT AN ENTRY ASKS, apart from class and reference -/
/-- what stands: sequents, firm ones, what there was then, signature, entries -/
abbrev sV : Type := List qQ × Nat × (Nat → (qT → Prop) × Nat × Nat) × List Nat × List qT × List qT × List qM
def wd (ws : List Int32) (i : Nat) : Int32 := (ws[i]?).getD (-1)
def w_pr (ws : List Int32) (c : Nat) : List (Int32 × Int32) := (List.range c).map fun i => (wd ws (3 + 2 * i), wd ws (4 + 2 * i))
def a_et (A : sV) (t : qT) : sV := (A.1, A.2.1, A.2.2.1, A.2.2.2.1, A.2.2.2.2.1, A.2.2.2.2.2.1 ++ [t], A.2.2.2.2.2.2)
def a_em (A : sV) (M : qM) : sV := (A.1, A.2.1, A.2.2.1, A.2.2.2.1, A.2.2.2.2.1, A.2.2.2.2.2.1, A.2.2.2.2.2.2 ++ [M])
def th_ad (th : Nat → (qT → Prop) × Nat × Nat) (k : Nat) (x : (qT → Prop) × Nat × Nat) : Nat → (qT → Prop) × Nat × Nat := fun j => if j = k then x else th j
/-- new sequents, constants, constructors -/
def a_new (A : sV) (fm : Nat) (S' : qT → Prop) (Q : List qQ) (k : List Nat) (o : List qT) : sV :=
  (A.1 ++ Q, fm, th_ad A.2.2.1 (A.1.length + Q.length) (S', A.2.2.2.2.2.1.length, A.2.2.2.2.2.2.length), A.2.2.2.1 ++ k, A.2.2.2.2.1 ++ o, A.2.2.2.2.2)
/-- how long an entry is -/
def aL (tk : List Nat) (k : Nat) (ws : List Int32) (L : Nat) : Prop :=
  (k ∈ [0, 10, 14, 15, 20, 21, 22] ∧ L = 2) ∨ (k ∈ [2, 3, 4, 5, 6, 11, 12, 13, 16, 17] ∧ L = 3) ∨ (k = 18 ∧ L = 4) ∨ (k = 1 ∧ ∃ c x, ws[1]? = some (nI c) ∧ tk[c]? = some x ∧ L = 2 + x) ∨ (k = 19 ∧ ∃ c, c ≤ 250 ∧ ws[2]? = some (nI c) ∧ L = 3 + 2 * c)
def aT (A : sV) (k : Nat) (ws : List Int32) (t : qT) : Prop := (k = 0 ∧ sp_0 (wd ws 1) t) ∨ (k = 1 ∧ sp_1 A.2.2.2.1 A.2.2.2.2.2.1 (wd ws 1) (wd ws 2) (wd ws 3) t)
def aM (A : sV) (k : Nat) (ws : List Int32) (M : qM) : Prop :=
  (k = 2 ∧ sp_2 A.2.2.2.2.2.1 (wd ws 1) (wd ws 2) M) ∨ (k = 3 ∧ sp_3 A.2.2.2.2.1 A.2.2.2.2.2.1 (wd ws 1) (wd ws 2) M) ∨ (k = 4 ∧ sp_4 A.2.2.2.2.2.2 (wd ws 1) (wd ws 2) M) ∨ (k = 5 ∧ sp_5 A.2.2.2.2.2.1 A.2.2.2.2.2.2 (wd ws 1) (wd ws 2) M) ∨ (k = 6 ∧ sp_6 A.2.2.2.2.2.1 (wd ws 1) (wd ws 2) M)
def aQ (A : sV) (k : Nat) (ws : List Int32) (N : qQ) : Prop :=
  (k = 10 ∧ sp_10 A.2.2.2.2.2.2 (wd ws 1) N) ∨ (k = 11 ∧ sp_11 A.1 (wd ws 1) (wd ws 2) N) ∨ (k = 12 ∧ sp_12 A.1 (wd ws 1) (wd ws 2) N) ∨ (k = 13 ∧ sp_13 A.2.2.2.2.2.2 A.1 (wd ws 1) (wd ws 2) N) ∨ (k = 14 ∧ sp_14 A.2.2.2.2.2.2 (wd ws 1) N) ∨ (k = 15 ∧ sp_15 A.2.2.2.2.2.2 (wd ws 1) N) ∨ (k = 16 ∧ sp_16 A.1 (wd ws 1) (wd ws 2) N) ∨ (k = 17 ∧ sp_17 A.1 (wd ws 1) (wd ws 2) N) ∨ (k = 18 ∧ sp_18 A.2.2.2.2.2.2 A.1 (wd ws 1) (wd ws 2) (wd ws 3) N) ∨ (k = 19 ∧ ∃ c, c ≤ 250 ∧ wd ws 2 = nI c ∧ sp_19 A.2.2.2.2.2.1 A.1 (wd ws 1) (w_pr ws c) N) ∨ (k = 22 ∧ sp_22 (wd ws 1) N)
/-- what becomes of it -/
def aE (S : qT → Prop) (A : sV) (k : Nat) (ws : List Int32) (S' : qT → Prop) (A' : sV) : Prop :=
  (∃ t, aT A k ws t ∧ q_good (q_ad S t) ∧ S' = q_ad S t ∧ A' = a_et A t) ∨
  (∃ M, aM A k ws M ∧ m_lim S M ∧ S' = q_ad S (m_ty M) ∧ A' = a_em A M) ∨
  (∃ N, aQ A k ws N ∧ sq_lim S (m_tot (sq_rows A.1)) N ∧ S' = q_un S (N.1 ++ [N.2]) ∧ A' = a_new A A.2.1 S' [N] [] []) ∨
  (k = 20 ∧ ∃ N, sp_20 A.2.2.2.2.2.2 A.2.2.2.2.1 (wd ws 1) N ∧ sq_lim S (m_tot (sq_rows A.1)) N ∧ S' = q_un S (N.1 ++ [N.2]) ∧ A' = a_new A (A.1.length + 1) S' [N] [] [m_ty (m_r N.2)]) ∨
  (k = 21 ∧ ∃ old made p kk, sp_21 A.1 A.2.2.2.1 A.2.2.2.2.1 (wd ws 1) old made p kk ∧ lim21 S (m_tot (sq_rows A.1)) (n21a old made A.2.2.2.2.1.length) (n21b old made A.2.2.2.2.1.length p) ∧ S' = q_un (q_un S [n21a old made A.2.2.2.2.1.length]) [n21b old made A.2.2.2.2.1.length p] ∧ A' = a_new A (A.1.length + 2) S' [([], n21a old made A.2.2.2.2.1.length), ([], n21b old made A.2.2.2.2.1.length p)] [kk] [qF old made, qF made old])
/-- the entry at the head of the words: its kind, its length, what becomes of it -/
def aN (S : qT → Prop) (A : sV) (ws : List Int32) (k L : Nat) (S' : qT → Prop) (A' : sV) : Prop :=
  ws[0]? = some (nI k) ∧ k < 23 ∧ aL A.2.2.2.1 k ws L ∧ L ≤ ws.length ∧ aE S A k ws S' A'
theorem qF_inj {a b a' b' : qT} (h : qF a b = qF a' b') : a = a' ∧ b = b' := (qN_inj.mp h).2
theorem aL_ge {tk : List Nat} {k L : Nat} {ws : List Int32} (h : aL tk k ws L) : 2 ≤ L := by
  rcases h with ⟨_, e⟩ | ⟨_, e⟩ | ⟨_, e⟩ | ⟨_, c, x, _, _, e⟩ | ⟨_, c, _, _, e⟩ <;> omega
theorem aL_inj {tk : List Nat} {k L L' : Nat} {ws : List Int32} (ht : tk.length ≤ 40) (h : aL tk k ws L) (h' : aL tk k ws L') : L = L' := by
  have nm : ∀ {l l' : List Nat}, k ∈ l → k ∈ l' → (∀ x ∈ l, x ∉ l') → False := fun a b c => c _ a b
  rcases h with ⟨m, e⟩ | ⟨m, e⟩ | ⟨m, e⟩ | ⟨m, c, x, e1, e2, e⟩ | ⟨m, c, e1, e2, e⟩
  · rcases h' with ⟨m', e'⟩ | ⟨m', e'⟩ | ⟨m', e'⟩ | ⟨m', c', x', e1', e2', e'⟩ | ⟨m', c', e1', e2', e'⟩
    · omega
    · exact (nm m m' (by decide)).elim
    · rw [m'] at m; exact absurd m (by decide)
    · rw [m'] at m; exact absurd m (by decide)
    · rw [m'] at m; exact absurd m (by decide)
  · rcases h' with ⟨m', e'⟩ | ⟨m', e'⟩ | ⟨m', e'⟩ | ⟨m', c', x', e1', e2', e'⟩ | ⟨m', c', e1', e2', e'⟩
    · exact (nm m m' (by decide)).elim
    · omega
    · rw [m'] at m; exact absurd m (by decide)
    · rw [m'] at m; exact absurd m (by decide)
    · rw [m'] at m; exact absurd m (by decide)
  · rcases h' with ⟨m', e'⟩ | ⟨m', e'⟩ | ⟨m', e'⟩ | ⟨m', c', x', e1', e2', e'⟩ | ⟨m', c', e1', e2', e'⟩
    · rw [m] at m'; exact absurd m' (by decide)
    · rw [m] at m'; exact absurd m' (by decide)
    · omega
    · omega
    · omega
  · rcases h' with ⟨m', e'⟩ | ⟨m', e'⟩ | ⟨m', e'⟩ | ⟨m', c', x', e1', e2', e'⟩ | ⟨m', c', e1', e2', e'⟩
    · rw [m] at m'; exact absurd m' (by decide)
    · rw [m] at m'; exact absurd m' (by decide)
    · omega
    · have k1 := (List.getElem?_eq_some_iff.mp e2).1
      have k2 := (List.getElem?_eq_some_iff.mp e2').1
      rw [e1] at e1'
      have : c = c' := (nI_eq (by omega) (by omega)).mp (Option.some.inj e1')
      rw [← this, e2] at e2'
      have := Option.some.inj e2'
      omega
    · omega
  · rcases h' with ⟨m', e'⟩ | ⟨m', e'⟩ | ⟨m', e'⟩ | ⟨m', c', x', e1', e2', e'⟩ | ⟨m', c', e1', e2', e'⟩
    · rw [m] at m'; exact absurd m' (by decide)
    · rw [m] at m'; exact absurd m' (by decide)
    · omega
    · omega
    · rw [e2] at e2'
      have : c = c' := (nI_eq (by omega) (by omega)).mp (Option.some.inj e2')
      omega
theorem sp_1_inj {tk : List Nat} {et : List qT} {c a b : Int32} {t t' : qT} (ht : tk.length ≤ 40) (h : sp_1 tk et c a b t) (h' : sp_1 tk et c a b t') : t = t' := by
  obtain ⟨k, x, tl, tr, h1, h2, h3, h4, h5⟩ := h
  obtain ⟨k', x', tl', tr', g1, g2, g3, g4, g5⟩ := h'
  have k1 := (List.getElem?_eq_some_iff.mp h2).1
  have k2 := (List.getElem?_eq_some_iff.mp g2).1
  have : k = k' := (nI_eq (by omega) (by omega)).mp (h1.symm.trans g1)
  rw [← this, h2] at g2
  have := Option.some.inj g2
  subst this
  have e1 : tl = tl' := by
    by_cases e : 0 < x
    · rw [if_pos e] at h3 g3; exact en_at_inj h3 g3
    · rw [if_neg e] at h3 g3; rw [h3, g3]
  have e2 : tr = tr' := by
    by_cases e : 1 < x
    · rw [if_pos e] at h4 g4; exact en_at_inj h4 g4
    · rw [if_neg e] at h4 g4; rw [h4, g4]
  rw [h5, g5, e1, e2]
theorem aT_inj {A : sV} {k : Nat} {ws : List Int32} {t t' : qT} (ht : A.2.2.2.1.length ≤ 40) (h : aT A k ws t) (h' : aT A k ws t') : t = t' := by
  rcases h with ⟨e, h⟩ | ⟨e, h⟩ <;> rcases h' with ⟨e', h'⟩ | ⟨e', h'⟩
  · exact h.2.trans h'.2.symm
  · omega
  · omega
  · exact sp_1_inj ht h h'
theorem aM_inj {A : sV} {k : Nat} {ws : List Int32} {t t' : qM} (h : aM A k ws t) (h' : aM A k ws t') : t = t' := by
  rcases h with ⟨e, h⟩ | ⟨e, h⟩ | ⟨e, h⟩ | ⟨e, h⟩ | ⟨e, h⟩ <;> rcases h' with ⟨e', h'⟩ | ⟨e', h'⟩ | ⟨e', h'⟩ | ⟨e', h'⟩ | ⟨e', h'⟩ <;> first | omega | skip
  · obtain ⟨-, t, h1, h2⟩ := h
    obtain ⟨-, t', g1, g2⟩ := h'
    rw [h2, g2, en_at_inj h1 g1]
  · obtain ⟨o, t, -, h1, -, h2⟩ := h
    obtain ⟨o', t', -, g1, -, g2⟩ := h'
    rw [h2, g2, en_at_inj h1 g1]
  · obtain ⟨F, X, u, h1, h2, h3, h4⟩ := h
    obtain ⟨F', X', u', g1, g2, g3, g4⟩ := h'
    obtain rfl := en_at_inj h1 g1
    obtain rfl := en_at_inj h2 g2
    rw [h3] at g3
    rw [h4, g4, (qF_inj g3).2]
  · obtain ⟨t, N, h1, h2, -, h4⟩ := h
    obtain ⟨t', N', g1, g2, -, g4⟩ := h'
    rw [h4, g4, en_at_inj h1 g1, en_at_inj h2 g2]
  · obtain ⟨-, t, h1, h2⟩ := h
    obtain ⟨-, t', g1, g2⟩ := h'
    rw [h2, g2, en_at_inj h1 g1]
theorem aQ_inj {A : sV} {k : Nat} {ws : List Int32} {N N' : qQ} (h : aQ A k ws N) (h' : aQ A k ws N') : N = N' := by
  rcases h with ⟨e, h⟩ | ⟨e, h⟩ | ⟨e, h⟩ | ⟨e, h⟩ | ⟨e, h⟩ | ⟨e, h⟩ | ⟨e, h⟩ | ⟨e, h⟩ | ⟨e, h⟩ | ⟨e, h⟩ | ⟨e, h⟩ <;> subst e <;> rcases h' with ⟨e', h'⟩ | ⟨e', h'⟩ | ⟨e', h'⟩ | ⟨e', h'⟩ | ⟨e', h'⟩ | ⟨e', h'⟩ | ⟨e', h'⟩ | ⟨e', h'⟩ | ⟨e', h'⟩ | ⟨e', h'⟩ | ⟨e', h'⟩ <;> first | (exact absurd e' (by decide)) | skip
  · obtain ⟨M, h1, h2, h3⟩ := h
    obtain ⟨M', g1, g2, g3⟩ := h'
    rw [h3, g3, en_at_inj h1 g1]
  · obtain ⟨s, t, X, Y, W, h1, h2, h3, h4, h5⟩ := h
    obtain ⟨s', t', X', Y', W', g1, g2, g3, g4, g5⟩ := h'
    obtain rfl := en_at_inj h1 g1
    obtain rfl := en_at_inj h2 g2
    rw [h5, g5, (m_isE_inj h3 g3).1, (m_isE_inj h4 g4).2]
  · obtain ⟨s, t, F, F2, X, X2, u, h1, h2, h3, h4, h5, h6⟩ := h
    obtain ⟨s', t', F', F2', X', X2', u', g1, g2, g3, g4, g5, g6⟩ := h'
    obtain rfl := en_at_inj h1 g1
    obtain rfl := en_at_inj h2 g2
    obtain ⟨rfl, rfl⟩ := m_isE_inj h3 g3
    obtain ⟨rfl, rfl⟩ := m_isE_inj h4 g4
    rw [h5] at g5
    rw [h6, g6, (qF_inj g5).2]
  · obtain ⟨V, s, X, Y, h1, h2, h3, h4, h5, h6⟩ := h
    obtain ⟨V', s', X', Y', g1, g2, g3, g4, g5, g6⟩ := h'
    obtain rfl := en_at_inj h1 g1
    obtain rfl := en_at_inj h3 g3
    obtain ⟨rfl, rfl⟩ := m_isE_inj h4 g4
    rw [h6, g6]
  · obtain ⟨M, u, b, c, a, t, h1, h2, h3, h4, h5⟩ := h
    obtain ⟨M', u', b', c', a', t', g1, g2, g3, g4, g5⟩ := h'
    obtain rfl := en_at_inj h1 g1
    rw [h3] at g3
    obtain ⟨-, -, e3, e4⟩ := mN_inj g3
    obtain ⟨-, -, e5, -⟩ := mN_inj e3
    obtain ⟨e6, e7, -, -⟩ := mN_inj e4
    rw [h5, g5, e5, e6, e7]
  · obtain ⟨M, h1, h2, h3, h4⟩ := h
    obtain ⟨M', g1, g2, g3, g4⟩ := h'
    rw [h4, g4, en_at_inj h1 g1]
  · obtain ⟨s, t, Y, h1, h2, h3, h4⟩ := h
    obtain ⟨s', t', Y', g1, g2, g3, g4⟩ := h'
    obtain rfl := en_at_inj h1 g1
    obtain rfl := en_at_inj h2 g2
    rw [h4, g4, (m_isE_inj h3 g3).2]
  · obtain ⟨s, t, h1, h2, h3⟩ := h
    obtain ⟨s', t', g1, g2, g3⟩ := h'
    obtain rfl := en_at_inj h1 g1
    obtain rfl := en_at_inj h2 g2
    rw [h3, g3]
  · obtain ⟨s, V, M, h1, h2, h3, h4, h5, h6, h7⟩ := h
    obtain ⟨s', V', M', g1, g2, g3, g4, g5, g6, g7⟩ := h'
    obtain rfl := en_at_inj h1 g1
    obtain rfl := en_at_inj h2 g2
    obtain rfl := en_at_inj h4 g4
    rw [h7, g7]
  · obtain ⟨c, c1, c2, s, ps, h1, h2, h3, h4⟩ := h
    obtain ⟨c', c1', c2', s', ps', g1, g2, g3, g4⟩ := h'
    have : c = c' := (nI_eq (by omega) (by omega)).mp (c2.symm.trans c2')
    subst this
    obtain rfl := en_at_inj h1 g1
    obtain rfl := pv_ok_inj h2 g2
    rw [h4, g4]
  · obtain ⟨k, h1, h2, h3⟩ := h
    obtain ⟨k', g1, g2, g3⟩ := h'
    rw [h3, g3, (nI_eq (by omega) (by omega)).mp (h2.symm.trans g2)]
theorem sp_20_inj {em : List qM} {ow : List qT} {x : Int32} {N N' : qQ} (h : sp_20 em ow x N) (h' : sp_20 em ow x N') : N = N' := by
  obtain ⟨M, h1, -, -, -, -, h2⟩ := h
  obtain ⟨M', g1, -, -, -, -, g2⟩ := h'
  rw [h2, g2, en_at_inj h1 g1]
theorem aT_k {A : sV} {k : Nat} {ws : List Int32} {t : qT} (h : aT A k ws t) : k < 2 := by rcases h with ⟨e, h⟩ | ⟨e, h⟩ <;> omega
theorem aM_k {A : sV} {k : Nat} {ws : List Int32} {t : qM} (h : aM A k ws t) : 2 ≤ k ∧ k < 7 := by rcases h with ⟨e, h⟩ | ⟨e, h⟩ | ⟨e, h⟩ | ⟨e, h⟩ | ⟨e, h⟩ <;> omega
theorem aQ_k {A : sV} {k : Nat} {ws : List Int32} {N : qQ} (h : aQ A k ws N) : 10 ≤ k ∧ k ≠ 20 ∧ k ≠ 21 := by
  rcases h with ⟨e, h⟩ | ⟨e, h⟩ | ⟨e, h⟩ | ⟨e, h⟩ | ⟨e, h⟩ | ⟨e, h⟩ | ⟨e, h⟩ | ⟨e, h⟩ | ⟨e, h⟩ | ⟨e, h⟩ | ⟨e, h⟩ <;> omega
theorem aE_inj {S S1 S2 : qT → Prop} {A A1 A2 : sV} {k : Nat} {ws : List Int32} (ht : A.2.2.2.1.length ≤ 40) (h : aE S A k ws S1 A1) (h' : aE S A k ws S2 A2) : S1 = S2 ∧ A1 = A2 := by
  rcases h with ⟨t, h1, h2, h3, h4⟩ | ⟨M, h1, h2, h3, h4⟩ | ⟨N, h1, h2, h3, h4⟩ | ⟨hk, N, h1, h2, h3, h4⟩ | ⟨hk, old, made, p, kk, h1, h2, h3, h4⟩
  · have := aT_k h1
    rcases h' with ⟨t', g1, g2, g3, g4⟩ | ⟨M', g1, g2, g3, g4⟩ | ⟨N', g1, g2, g3, g4⟩ | ⟨hk', N', g1, g2, g3, g4⟩ | ⟨hk', old', made', p', kk', g1, g2, g3, g4⟩
    · rw [h3, h4, g3, g4, aT_inj ht h1 g1]; exact ⟨rfl, rfl⟩
    · have := aM_k g1; omega
    · have := aQ_k g1; omega
    · omega
    · omega
  · have := aM_k h1
    rcases h' with ⟨t', g1, g2, g3, g4⟩ | ⟨M', g1, g2, g3, g4⟩ | ⟨N', g1, g2, g3, g4⟩ | ⟨hk', N', g1, g2, g3, g4⟩ | ⟨hk', old', made', p', kk', g1, g2, g3, g4⟩
    · have := aT_k g1; omega
    · rw [h3, h4, g3, g4, aM_inj h1 g1]; exact ⟨rfl, rfl⟩
    · have := aQ_k g1; omega
    · omega
    · omega
  · have := aQ_k h1
    rcases h' with ⟨t', g1, g2, g3, g4⟩ | ⟨M', g1, g2, g3, g4⟩ | ⟨N', g1, g2, g3, g4⟩ | ⟨hk', N', g1, g2, g3, g4⟩ | ⟨hk', old', made', p', kk', g1, g2, g3, g4⟩
    · have := aT_k g1; omega
    · have := aM_k g1; omega
    · obtain rfl := aQ_inj h1 g1
      subst h3 g3
      exact ⟨rfl, by rw [h4, g4]⟩
    · omega
    · omega
  · rcases h' with ⟨t', g1, g2, g3, g4⟩ | ⟨M', g1, g2, g3, g4⟩ | ⟨N', g1, g2, g3, g4⟩ | ⟨hk', N', g1, g2, g3, g4⟩ | ⟨hk', old', made', p', kk', g1, g2, g3, g4⟩
    · have := aT_k g1; omega
    · have := aM_k g1; omega
    · have := aQ_k g1; omega
    · obtain rfl := sp_20_inj h1 g1
      subst h3 g3
      exact ⟨rfl, by rw [h4, g4]⟩
    · omega
  · rcases h' with ⟨t', g1, g2, g3, g4⟩ | ⟨M', g1, g2, g3, g4⟩ | ⟨N', g1, g2, g3, g4⟩ | ⟨hk', N', g1, g2, g3, g4⟩ | ⟨hk', old', made', p', kk', g1, g2, g3, g4⟩
    · have := aT_k g1; omega
    · have := aM_k g1; omega
    · have := aQ_k g1; omega
    · omega
    · obtain ⟨rfl, rfl, rfl, rfl⟩ := sp_21_inj h1 g1
      subst h3 g3
      exact ⟨rfl, by rw [h4, g4]⟩
theorem aN_inj {S S1 S2 : qT → Prop} {A A1 A2 : sV} {k k' L L' : Nat} {ws : List Int32} (ht : A.2.2.2.1.length ≤ 40) (h : aN S A ws k L S1 A1) (h' : aN S A ws k' L' S2 A2) : k = k' ∧ L = L' ∧ S1 = S2 ∧ A1 = A2 := by
  obtain ⟨h1, h2, h3, h4, h5⟩ := h
  obtain ⟨g1, g2, g3, g4, g5⟩ := h'
  rw [h1] at g1
  have : k = k' := (nI_eq (by omega) (by omega)).mp (Option.some.inj g1)
  subst this
  exact ⟨rfl, aL_inj ht h3 g3, aE_inj ht h5 g5⟩
