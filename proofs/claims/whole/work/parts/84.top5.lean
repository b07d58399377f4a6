/-! TRACEJUDGE, the class: judge, say, fault, size, hypotheses, symbol, typeSymbol -/
/-- the class between calls -/
def tI (B : Nat) (sa : Nat → Nat) (S : qT → Prop) (A : sV) (ws : List Int32) (flt : Int32) (ρ : hp_L) (P : hp_P) : Prop :=
  ∃ C n T, cI B C ρ P n T ∧ A = cV C A.2.2.1 ∧ cR S A.2.2.1 C n T ∧ stI sa ρ P ∧ saI P ws ∧ P.1 809 = flt
/-- a symbol of a sequent's row -/
def sy_at (sq : List qQ) (a i k : Int32) (q : qS) : Prop := ∃ s X kk, en_at sq a s ∧ ((i = -1 ∧ X = s.2) ∨ ∃ j, i = nI j ∧ j < 2 ^ 31 ∧ s.1[j]? = some X) ∧ k = nI kk ∧ kk < 2 ^ 31 ∧ (m_fl X)[kk]? = some q
section T5
variable {sa : Nat → Nat} {B : Nat} {ρ ρ' : hp_L} {P P' : hp_P} {n : Nat} {T : Nat → Int32 × Int32 × Int32} {C : sC} {S : qT → Prop} {A : sV} {th : Nat → (qT → Prop) × Nat × Nat} {ws : List Int32} {flt : Int32}
theorem cI.fr {F : Nat → Bool} {e : Nat} (h : cI B C ρ P n T) (w : hp_w B ρ') (k : hp_fr F e ρ P ρ' P') (hF : ∀ r, 4 < r → r < 800 → F r = false) : cI B C ρ' P' n T := by
  obtain ⟨h1, h2, h3, h4, h5, h6, h7, h8⟩ := h
  exact ⟨w, h2.fr k fun r a b => hF r (by omega) (by omega), h3.fr k fun r a b => hF r (by omega) (by omega), h4.cg fun r a b => ⟨(k.2.1 r (hF r (by omega) (by omega))).1, (k.2.1 r (hF r (by omega) (by omega))).2.1⟩, h5, h6.fr k fun r a b => hF r (by omega) (by omega), h7.fr k fun r a b => hF r (by omega) (by omega), h8⟩
/-- judge -/
theorem t_judge {f d : Nat} (h : tI B sa S A ws flt ρ P) (hI : aI S A) (hf : 200000 ≤ f) (hmu : aMu A + ws.length ≤ 900) :
    ∃ g S' A' acc flt' ρ' P', aJ g S A ws 0 0 S' A' acc flt' ∧ am_call B sa am_dfl am_tb f (d + 312) 108 [.ref (ρ.1 8)] (hp_S sa ρ P) = some (some (.int (nI acc)), hp_S sa ρ' P') ∧ tI B sa S' A' [] flt' ρ' P' ∧ aI S' A' ∧ hp_w B ρ' ∧ hp_fr tp_S (ws.length + 2) ρ P ρ' P' ∧ aMu A' ≤ aMu A + ws.length ∧ acc ≤ ws.length := by
  obtain ⟨C, n, T, h1, h2, h3, h4, h5, h6⟩ := h
  have w := h1.w
  obtain ⟨f, rfl⟩ : ∃ g, f = g + 1 := ⟨f - 1, by omega⟩
  rw [h2] at hI hmu
  have hl : ws.length ≤ 900 := by omega
  obtain ⟨S', A', acc, flt', C', ρ', P', n', T', j1, j2, j3, j4, j5, j6, j7, j8, j9, j10, j11, j12⟩ := t_loop (sa := sa) (f0 := f + 1) (d := d) (by omega) hl (ws.length + 1) S A.2.2.1 C ρ (hp_sI P 809 (-1)) n T 0 0 0 f (h1.si (by omega)) h3 hI h4 (h5.cg (hI_ne (by decide)) rfl) hI_eq (Nat.zero_le _) (by omega) (by omega) (by omega) (by omega)
  refine ⟨ws.length + 1, S', A', acc, flt', ρ', P', by rw [h2]; exact j1, ?_, ⟨C', n', T', j3, j4, j5, j7, j8, j9⟩, j6, j3.w, ((hp_fr.sI (S := tp_S) (r := 809) (v := -1) (by decide)).tr j10).up (by omega), by rw [h2]; omega, by omega⟩
  rw [am_c_108, am_s108_0]
  simp only [hs_809 w, Option.bind_some]
  rw [← j2]
  rfl
/-- fault -/
theorem t_fault {f d : Nat} (h : tI B sa S A ws flt ρ P) : am_call B sa am_dfl am_tb (f + 1) (d + 1) 109 [.ref (ρ.1 8)] (hp_S sa ρ P) = some (some (.int flt), hp_S sa ρ P) := by
  obtain ⟨C, n, T, h1, h2, h3, h4, h5, h6⟩ := h
  rw [am_c_109, am_s109_0]
  simp only [hg_809 h1.w, h6, Option.bind_some]
/-- size -/
theorem t_size {f d : Nat} (h : tI B sa S A ws flt ρ P) : am_call B sa am_dfl am_tb (f + 1) (d + 1) 110 [.ref (ρ.1 8)] (hp_S sa ρ P) = some (some (.int (nI A.1.length)), hp_S sa ρ P) := by
  obtain ⟨C, n, T, h1, h2, h3, h4, h5, h6⟩ := h
  rw [am_c_110, am_s110_0, h2]
  simp only [ho_804 h1.w, hg_403 h1.w, h1.2.2.2.1.1, Option.bind_some]
  rfl
/-- hypotheses -/
theorem t_hyps {f d : Nat} {a : Int32} {s : qQ} (h : tI B sa S A ws flt ρ P) (ha : en_at A.1 a s) : am_call B sa am_dfl am_tb (f + 1) (d + 3) 111 [.ref (ρ.1 8), .int a] (hp_S sa ρ P) = some (some (.int (nI s.1.length)), hp_S sa ρ P) := by
  obtain ⟨C, n, T, h1, h2, h3, h4, h5, h6⟩ := h
  rw [h2] at ha
  have hs := h1.s (Z := True) (G := fun _ => True) fun _ _ => True.intro
  have w := h1.w
  rw [am_c_111, am_s111_0]
  simp only [ho_804 w, hx_4 w, Option.bind_some, sq_has hs, am_i_some, am_c_ne]
  rw [if_pos (bP_y ⟨s, ha⟩)]
  obtain ⟨j, rfl, j2, hj⟩ := ha
  simp only [sq_hyps hs hj, am_i_some]
theorem t_hyps_no {f d : Nat} {a : Int32} (h : tI B sa S A ws flt ρ P) : am_call B sa am_dfl am_tb (f + 1) (d + 1) 68 [.ref (ρ.1 4), .int a] (hp_S sa ρ P) = some (some (.int (bP (∃ s, en_at A.1 a s))), hp_S sa ρ P) := by
  obtain ⟨C, n, T, h1, h2, h3, h4, h5, h6⟩ := h
  rw [h2]
  exact sq_has (h1.s (Z := True) (G := fun _ => True) fun _ _ => True.intro)
set_option maxHeartbeats 1000000 in
/-- placeOf -/
theorem t_place {f d : Nat} {a i k : Int32} (h : cI B C ρ P n T) (hf : 10 ≤ f) :
    (∃ q kk, sy_at C.2.1 a i k q ∧ am_call B sa am_dfl am_tb f (d + 3) 71 [.ref (ρ.1 4), .int a, .int i, .int k] (hp_S sa ρ P) = some (some (.int (nI kk)), hp_S sa ρ P) ∧ kk < 20000 ∧ hp_rd P 301 (nI kk) = some q.1 ∧ ∃ v, hp_rd P 302 (nI kk) = some v ∧ pl n T v q.2) ∨
    ((∀ q, ¬ sy_at C.2.1 a i k q) ∧ am_call B sa am_dfl am_tb f (d + 3) 71 [.ref (ρ.1 4), .int a, .int i, .int k] (hp_S sa ρ P) = some (some (.int (-1)), hp_S sa ρ P)) := by
  have hs := h.s (Z := True) (G := fun _ => True) fun _ _ => True.intro
  have w := h.w
  obtain ⟨f, rfl⟩ : ∃ g, f = g + 1 := ⟨f - 1, by omega⟩
  rw [am_c_71, am_s71_0]
  simp only [hx_4 w, Option.bind_some, sq_has hs, am_i_some, am_c_eq, am_c_lt, am_c_ne]
  by_cases e : ∃ s, en_at C.2.1 a s
  · rw [if_neg (bP_y e)]
    obtain ⟨s, j, rfl, j2, hj⟩ := e
    have ej : en_at C.2.1 (nI j) s := ⟨j, rfl, j2, hj⟩
    -- a row's place
    have row : ∀ {X : qM} {r : Nat}, (sq_rows C.2.1)[r]? = some X → ∃ st ln, hp_rd P 304 (nI r) = some (nI st) ∧ hp_rd P 304 (nI r + 1) = some (nI (st + ln)) ∧ ln = (m_fl X).length ∧ st + ln ≤ 20000 ∧ ∀ kk q, (m_fl X)[kk]? = some q → hp_rd P 301 (nI (st + kk)) = some q.1 ∧ ∃ v, hp_rd P 302 (nI (st + kk)) = some v ∧ pl n T v q.2 := by
      intro X r hX
      obtain ⟨A0, L, ⟨⟨W, q1⟩, q1b, q1c⟩, q2, q3, q4, q5, q6⟩ := hs.row hX
      refine ⟨A0.length, L.length, q2, by rw [nI_1]; exact q3, by rw [← q1b, List.length_map], q6, fun kk q hq => ?_⟩
      have hkl : kk < L.length := by have := (List.getElem?_eq_some_iff.mp hq).1; rw [← q1b, List.length_map] at this; exact this
      obtain ⟨s', hs'⟩ : ∃ s', L[kk]? = some s' := ⟨L[kk], List.getElem?_eq_some_iff.mpr ⟨hkl, rfl⟩⟩
      have eq : rt T n s' = q := by
        rw [← q1b, List.getElem?_map, hs'] at hq
        exact Option.some.inj hq
      have hfl : (C.1.flatten ++ [])[A0.length + kk]? = some s' := by
        rw [List.append_nil, q1, List.getElem?_append_right (by omega), Nat.add_sub_cancel_left, List.getElem?_append_left hkl]
        exact hs'
      obtain ⟨r1, ⟨len, l1, l2, l3, l4, l5⟩, r3, -⟩ := h.2.2.2.2.2.2.1
      have hlt := (List.getElem?_eq_some_iff.mp hfl).1
      obtain ⟨c1, c2⟩ := r3 _ s' hfl
      refine ⟨?_, s'.2, ?_, ?_⟩
      · rw [hp_rd_nI (by omega) (by omega), c1, ← eq]; rfl
      · rw [hp_rd_nI (by omega) (by omega), c2]
      · rw [← eq]
        exact (q1c s' (List.mem_of_getElem? hs')).pl
    have em1 : (-1 : Int32).toInt = -1 := rfl
    -- the end of it
    have fin : ∀ {X : qM} {r st ln : Nat}, (∀ q kk, k = nI kk → kk < 2 ^ 31 → (m_fl X)[kk]? = some q → sy_at C.2.1 (nI j) i k q) → (∀ q, sy_at C.2.1 (nI j) i k q → ∃ kk, k = nI kk ∧ kk < 2 ^ 31 ∧ (m_fl X)[kk]? = some q) → hp_rd P 304 (nI r) = some (nI st) → ln = (m_fl X).length → st + ln ≤ 20000 → (∀ kk q, (m_fl X)[kk]? = some q → hp_rd P 301 (nI (st + kk)) = some q.1 ∧ ∃ v, hp_rd P 302 (nI (st + kk)) = some v ∧ pl n T v q.2) →
        ∀ x, x = (if k < 0 then some (some (Value.int (-1)), hp_S sa ρ P) else if k < nI (st + ln) - nI st then some (some (Value.int (nI st + k)), hp_S sa ρ P) else some (some (Value.int (-1)), hp_S sa ρ P)) →
        (∃ q kk, sy_at C.2.1 (nI j) i k q ∧ x = some (some (.int (nI kk)), hp_S sa ρ P) ∧ kk < 20000 ∧ hp_rd P 301 (nI kk) = some q.1 ∧ ∃ v, hp_rd P 302 (nI kk) = some v ∧ pl n T v q.2) ∨ ((∀ q, ¬ sy_at C.2.1 (nI j) i k q) ∧ x = some (some (.int (-1)), hp_S sa ρ P)) := by
      intro X r st ln f1 f2 r4 hln hle hr x hx
      rw [pk_sub (by omega), Nat.add_sub_cancel_left] at hx
      rcases pk_ix k (n := ln) (by omega) with z | z | ⟨kk, z1, z2⟩
      · rw [if_pos z] at hx
        refine Or.inr ⟨fun q hq => ?_, hx⟩
        obtain ⟨kk, k1, k2, -⟩ := f2 q hq
        rw [k1] at z
        exact nI_pos k2 z
      · have hno : ∀ q, ¬ sy_at C.2.1 (nI j) i k q := fun q hq => by
          obtain ⟨kk, k1, k2, k3⟩ := f2 q hq
          have := (List.getElem?_eq_some_iff.mp k3).1
          rw [k1] at z
          exact nI_ge (show kk < ln by omega) (by omega) z
        rw [if_neg (fun y => by
          rw [Int32.lt_iff_toInt_lt] at y
          rw [Int32.le_iff_toInt_le, nI_toInt (by omega)] at z
          have : (0 : Int32).toInt = 0 := rfl
          omega), if_neg (fun y => by
          rw [Int32.lt_iff_toInt_lt] at y
          rw [Int32.le_iff_toInt_le] at z
          omega)] at hx
        exact Or.inr ⟨hno, hx⟩
      · obtain ⟨q, hq⟩ : ∃ q, (m_fl X)[kk]? = some q := ⟨(m_fl X)[kk], List.getElem?_eq_some_iff.mpr ⟨by omega, rfl⟩⟩
        rw [z2, if_neg (nI_pos (by omega)), if_pos (nI_lt z1 (by omega)), nI_add] at hx
        obtain ⟨g1, g2⟩ := hr kk q hq
        exact Or.inl ⟨q, st + kk, f1 q kk z2 (by omega) hq, hx, by omega, g1, g2⟩
    by_cases ei : i < -1
    · rw [if_pos ei]
      refine Or.inr ⟨fun q ⟨s', X, kk, z1, z2, _⟩ => ?_, rfl⟩
      rw [Int32.lt_iff_toInt_lt, em1] at ei
      rcases z2 with ⟨y, -⟩ | ⟨jj, y1, y2, -⟩
      · rw [y, em1] at ei; omega
      · rw [y1, nI_toInt y2] at ei; omega
    · rw [if_neg ei]
      simp only [hx_4 w, Option.bind_some, sq_hyps hs hj, am_i_some]
      by_cases e1 : i = -1
      · have hlt : i < nI s.1.length := by
          have hl := (hs.first hj).2.2.1
          rw [e1, Int32.lt_iff_toInt_lt, em1, nI_toInt (by omega)]; omega
        rw [if_pos hlt, if_neg (fun z => z e1)]
        obtain ⟨st, ln, c1, c2, c3, c4, c5⟩ := row (sq_con hj)
        simp only [hx_4 w, Option.bind_some, sq_conc hs hj, am_i_some, ho_402 w, hr_304 w, hl_304 w, c1, c2]
        refine fin (X := s.2) (r := sq_k C.2.1 j + s.1.length) (fun q kk k1 k2 k3 => ⟨s, s.2, kk, ej, Or.inl ⟨e1, rfl⟩, k1, k2, k3⟩) (fun q ⟨s', X, kk, z1, z2, z3, z4, z5⟩ => ?_) c1 c3 c4 c5 _ rfl
        obtain rfl := en_at_inj ej z1
        rcases z2 with ⟨-, rfl⟩ | ⟨jj, y1, y2, -⟩
        · exact ⟨kk, z3, z4, z5⟩
        · rw [e1] at y1
          exact absurd y1.symm (nI_ne_m1 y2)
      · have hi0 : ¬ i < 0 := fun z => by
          rw [Int32.lt_iff_toInt_lt] at z ei
          have h0 : (0 : Int32).toInt = 0 := rfl
          rw [em1] at ei
          exact e1 (Int32.toInt_inj.mp (by rw [em1]; omega))
        obtain ⟨jj, jj1, rfl⟩ := nI_of hi0
        have hl := (hs.first hj).2.2.1
        by_cases e2 : jj < s.1.length
        · rw [if_pos (nI_lt e2 (by omega)), if_pos e1]
          obtain ⟨X, hX⟩ : ∃ X, s.1[jj]? = some X := ⟨s.1[jj], List.getElem?_eq_some_iff.mpr ⟨e2, rfl⟩⟩
          obtain ⟨st, ln, c1, c2, c3, c4, c5⟩ := row (sq_hyp hj hX)
          simp only [ho_402 w, hr_304 w, hl_304 w, hr_405 w, hl_405 w, (hs.first hj).1, Option.bind_some, nI_add, c1, c2]
          refine fin (X := X) (r := sq_k C.2.1 j + jj) (fun q kk k1 k2 k3 => ⟨s, X, kk, ej, Or.inr ⟨jj, rfl, jj1, hX⟩, k1, k2, k3⟩) (fun q ⟨s', X', kk, z1, z2, z3, z4, z5⟩ => ?_) c1 c3 c4 c5 _ rfl
          obtain rfl := en_at_inj ej z1
          rcases z2 with ⟨y, -⟩ | ⟨j', y1, y2, y3⟩
          · exact absurd y e1
          · have := (nI_eq jj1 y2).mp y1
            subst this
            rw [hX] at y3
            obtain rfl := Option.some.inj y3
            exact ⟨kk, z3, z4, z5⟩
        · rw [if_neg (nI_nlt (by omega) jj1)]
          refine Or.inr ⟨fun q ⟨s', X, kk, z1, z2, _⟩ => ?_, rfl⟩
          obtain rfl := en_at_inj ej z1
          rcases z2 with ⟨y, -⟩ | ⟨j', y1, y2, y3⟩
          · exact e1 y
          · have := (nI_eq jj1 y2).mp y1
            subst this
            have := (List.getElem?_eq_some_iff.mp y3).1
            omega
  · rw [if_pos (bP_n e)]
    exact Or.inr ⟨fun q ⟨s', X, kk, z1, _⟩ => e ⟨s', z1⟩, rfl⟩
end T5
