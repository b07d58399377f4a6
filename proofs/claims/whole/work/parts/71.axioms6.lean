/-! AXIOMS: the three terms -/
/-- the term whose symbols begin a row -/
def m_parse : Nat → List qS → Option (qM × List qS)
  | 0, _ => none
  | _, [] => none
  | g + 1, (c, t) :: R =>
    if c = -1 then (m_parse g R).bind fun p => (m_parse g p.2).bind fun q => if q_beq (m_ty p.1) (qF (m_ty q.1) t) = true then some (mN (-1) t p.1 q.1, q.2) else none
    else if c = -2 then (m_parse g R).bind fun p => match q_ans t with
      | some x => if q_beq x.2 (m_ty p.1) = true then some (mN (-2) t p.1 .leaf, p.2) else none
      | none => none
    else if c < 0 then none else if c = 2 then (match q_ans t with
      | some x => (if q_beq x.2 (qF x.1 qB) = true then some (mN 2 t .leaf .leaf, R) else none)
      | none => none) else some (mN c t .leaf .leaf, R)
theorem m_parse_ok : ∀ {g : Nat} {L R : List qS} {M : qM}, m_parse g L = some (M, R) → m_wf M ∧ L = m_fl M ++ R
  | 0, _, _, _, h => by cases h
  | g + 1, [], _, _, h => by cases h
  | g + 1, (c, t) :: L, R, M, h => by
    simp only [m_parse] at h
    by_cases e1 : c = -1
    · rw [if_pos e1] at h
      obtain ⟨⟨l, R1⟩, h1, h⟩ := Option.bind_eq_some_iff.mp h
      obtain ⟨⟨r, R2⟩, h2, h⟩ := Option.bind_eq_some_iff.mp h
      dsimp only at h2 h
      obtain ⟨w1, s1⟩ := m_parse_ok h1
      obtain ⟨w2, s2⟩ := m_parse_ok h2
      by_cases e2 : q_beq (m_ty l) (qF (m_ty r) t) = true
      · rw [if_pos e2] at h
        obtain ⟨h3, h4⟩ := Prod.mk.inj (Option.some.inj h)
        rw [← h3, ← h4]
        refine ⟨m_wf_app w1 w2 (q_beq_eq e2), ?_⟩
        rw [m_fl_N, s1, s2, e1]
        simp
      · rw [if_neg e2] at h; cases h
    · rw [if_neg e1] at h
      by_cases e2 : c = -2
      · rw [if_pos e2] at h
        obtain ⟨⟨l, R1⟩, h1, h⟩ := Option.bind_eq_some_iff.mp h
        obtain ⟨w1, s1⟩ := m_parse_ok h1
        cases ha : q_ans t with
        | none => rw [ha] at h; cases h
        | some x =>
          rw [ha] at h
          dsimp only at h
          by_cases e3 : q_beq x.2 (m_ty l) = true
          · rw [if_pos e3] at h
            obtain ⟨h3, h4⟩ := Prod.mk.inj (Option.some.inj h)
            have ht := (q_ans_eq (a := x.1) (q := x.2) ha).1
            rw [q_beq_eq e3] at ht
            rw [← h3, ← h4, ht]
            refine ⟨m_wf_abs w1, ?_⟩
            rw [m_fl_N, s1, e2]
            show _ = (_ :: (m_fl l ++ [])) ++ R1
            simp
          · rw [if_neg e3] at h; cases h
      · rw [if_neg e2] at h
        by_cases e3 : c < 0
        · rw [if_pos e3] at h; cases h
        · rw [if_neg e3] at h
          by_cases e4 : c = 2
          · rw [if_pos e4] at h
            cases ha : q_ans t with
            | none => rw [ha] at h; cases h
            | some x =>
              rw [ha] at h
              dsimp only at h
              by_cases e5 : q_beq x.2 (qF x.1 qB) = true
              · rw [if_pos e5] at h
                obtain ⟨h3, h4⟩ := Prod.mk.inj (Option.some.inj h)
                have ht := (q_ans_eq (a := x.1) (q := x.2) ha).1
                rw [q_beq_eq e5] at ht
                rw [← h3, ← h4, ht, e4]
                refine ⟨m_wf_2, ?_⟩
                rw [m_fl_N]
                rfl
              · rw [if_neg e5] at h; cases h
          · rw [if_neg e4] at h
            obtain ⟨h3, h4⟩ := Prod.mk.inj (Option.some.inj h)
            rw [← h3, ← h4]
            refine ⟨m_wf_lf ⟨Int32.not_lt.mp e3, fun z => absurd z e4⟩, ?_⟩
            rw [m_fl_N]
            rfl
def q_subb (t : qT) : qT → Bool
  | .leaf _ => false
  | .branch c l r => q_beq t (.branch c l r) || q_subb t l || q_subb t r
theorem q_subb_ok {t : qT} : ∀ {u : qT}, q_subb t u = true → q_sub t u
  | .leaf _, h => by cases h
  | .branch c l r, h => by
    simp only [q_subb, Bool.or_eq_true] at h
    rcases h with (h | h) | h
    · exact Or.inl (q_beq_eq h)
    · exact Or.inr (Or.inl (q_subb_ok h))
    · exact Or.inr (Or.inr (q_subb_ok h))
/-- all of these types are in the types of a row -/
def q_allin (Gl : List qT) (L : List qS) : Bool := Gl.all fun t => L.any fun s => q_subb t s.2
theorem q_allin_ok {Gl : List qT} {M : qM} (h : q_allin Gl (m_fl M) = true) {t : qT} (ht : t ∈ Gl) : q_of [M] t := by
  have h1 := List.all_eq_true.mp h t ht
  obtain ⟨s, s1, s2⟩ := List.any_eq_true.mp h1
  exact ⟨M, List.mem_singleton.mpr rfl, s, s1, q_subb_ok s2⟩
def q_th : qT := qN 1 qE qE
def q_v1 : qT := qN (-2) qE qE
def ax_G0 : List qT := [qF qA q_v1, qF (qF qA q_v1) qB, qF (qF qA q_v1) (qF (qF qA q_v1) qB), q_v1]
def ax_GB : List qT := [qF qB qB, ax_o2, qF ax_o2 qB, qF (qF ax_o2 qB) qB, qF (qF ax_o2 qB) (qF (qF ax_o2 qB) qB), qF (qF qB qB) qB, qF (qF qB qB) (qF (qF qB qB) qB)]
def ax_G1 : List qT := ax_GB ++ [qF qA qB, qF (qF qA qB) qA]
def ax_G2 : List qT := ax_GB ++ [qF q_th qB, qF q_th (qF q_th qB), qF (qF q_th qB) qB, qF (qF q_th qB) (qF (qF q_th qB) qB), qF (qF q_th qB) q_th, qF (qF q_th q_th) qB, qF (qF (qF q_th q_th) qB) (qF q_th q_th), q_th, qF q_th q_th]
def ax_G (k : Nat) : List qT := if k = 0 then ax_G0 else if k = 1 then ax_G1 else ax_G2
def ax_F (k : Nat) : List Nat := if k = 0 then ax_F0 else if k = 1 then ax_F1 else ax_F2
def ax_T (k : Nat) (c : Nat) : Option qT :=
  if k = 0 then (if c = 0 then some qA else if c = 1 then some qA else if c = 2 then some (qF qA q_v1) else if c = 3 then some qB else none)
  else if k = 1 then (if c = 0 then some qA else if c = 1 then some qA else if c = 2 then some (qF qA qB) else if c = 3 then some qB else if c = 4 then some (qF (qF qA qB) qA) else none)
  else (if c = 0 then some q_th else if c = 1 then some q_th else if c = 2 then some (qF q_th q_th) else if c = 3 then some qB else none)
def ax_R (k : Nat) : axR := ax_w (ax_G k) (ax_T k) (ax_F k) 60 0 0 fun _ => none
def ax_L (k : Nat) : List qS := ((ax_R k).map fun p => p.1).getD []
def ax_P (k : Nat) : Option (qM × List qS) := m_parse 600 (ax_L k)
/-- the axioms -/
def ax_M (k : Nat) : qM := ((ax_P k).map fun p => p.1).getD .leaf
def ax_chk (k : Nat) : Bool := (ax_R k).isSome && (match ax_P k with | some p => p.2.isEmpty | none => false) && q_allin (ax_G k) (ax_L k) && q_beq (m_ty (ax_M k)) qB
set_option maxRecDepth 100000 in
theorem ax_chk_0 : ax_chk 0 = true := by decide +kernel
set_option maxRecDepth 100000 in
theorem ax_chk_1 : ax_chk 1 = true := by decide +kernel
set_option maxRecDepth 100000 in
theorem ax_chk_2 : ax_chk 2 = true := by decide +kernel
theorem ax_ok {k : Nat} (hk : k < 3) : ∃ b', ax_R k = some (m_fl (ax_M k), b') ∧ m_wf (ax_M k) ∧ m_ty (ax_M k) = qB ∧ ∀ t ∈ ax_G k, q_of [ax_M k] t := by
  have hc : ax_chk k = true := by
    have : k = 0 ∨ k = 1 ∨ k = 2 := by omega
    rcases this with rfl | rfl | rfl
    · exact ax_chk_0
    · exact ax_chk_1
    · exact ax_chk_2
  unfold ax_chk at hc
  simp only [Bool.and_eq_true] at hc
  obtain ⟨⟨⟨h1, h2⟩, h3⟩, h4⟩ := hc
  obtain ⟨⟨W, b'⟩, hR⟩ := Option.isSome_iff_exists.mp h1
  have hL : ax_L k = W := by unfold ax_L; rw [hR]; rfl
  cases hP : ax_P k with
  | none => rw [hP] at h2; cases h2
  | some p =>
    rw [hP] at h2
    have hp2 : p.2 = [] := List.isEmpty_iff.mp h2
    have hM : ax_M k = p.1 := by unfold ax_M; rw [hP]; rfl
    have hP' : m_parse 600 (ax_L k) = some (p.1, p.2) := hP
    obtain ⟨w1, s1⟩ := m_parse_ok hP'
    rw [hp2, List.append_nil, hL] at s1
    refine ⟨b', by rw [hR, s1, hM], by rw [hM]; exact w1, q_beq_eq h4, fun t ht => q_allin_ok (Gl := ax_G k) ?_ ht⟩
    rw [hL, s1, ← hM] at h3
    exact h3
