/-! THE REFERENCE, 37: judge -/
section JU
variable {Z : Prop} {G : qT → Prop} {L : List qM} {sa : Nat → Nat} {B : Nat} {ρ : hp_L} {K K' K0 K1 : kS} {A : sV} {S : qT → Prop} {k fr : Nat} {ws wr : List Int32} {P : hp_P} {flt : Int32}
/-- any entry -/
theorem e_any {f d : Nat} (hk : k < 23) (hk7 : ¬ (6 < k ∧ k < 10)) (w : hp_w B ρ) (J : kJ S A K0) (hI : aI S A) (hv : vS ws K0) (hs : A.1.length + 2 ≤ 1000) (h8 : A.2.2.2.2.2.1.length < 8000) (h16 : A.2.2.2.2.2.2.length < 16000) (hfr : fr < ws.length) (hf : 100000 ≤ f) :
    eO sa ρ S A k fr (ws.drop fr) K0 (am_call B sa am_dfl am_tb f (d + 200) (if k < 2 then 154 else if k < 7 then 155 else 162) [.ref (ρ.1 9), .int (nI k)] (hp_S sa ρ (kP K0 (fr + 1) false).1)) := by
  have e : k = 0 ∨ k = 1 ∨ k = 2 ∨ k = 3 ∨ k = 4 ∨ k = 5 ∨ k = 6 ∨ k = 10 ∨ k = 11 ∨ k = 12 ∨ k = 13 ∨ k = 14 ∨ k = 15 ∨ k = 16 ∨ k = 17 ∨ k = 18 ∨ k = 19 ∨ k = 20 ∨ k = 21 ∨ k = 22 := by omega
  have hs' : A.1.length < 1000 := by omega
  have hf' : 70000 ≤ f := by omega
  rcases e with rfl | rfl | rfl | rfl | rfl | rfl | rfl | rfl | rfl | rfl | rfl | rfl | rfl | rfl | rfl | rfl | rfl | rfl | rfl | rfl
  · exact e_0 (d := d + 195) w J hI hv h8 hfr hf'
  · exact e_1 (d := d + 195) w J hI hv h8 hfr hf'
  · exact e_26 (d := d + 195) (Or.inl ⟨rfl, rfl, rfl⟩) w J hI hv h8 h16 hfr hf'
  · exact e_3 (d := d + 160) w J hI hv h8 h16 hfr hf'
  · exact e_4 (d := d + 160) w J hI hv h16 hfr hf'
  · exact e_5 (d := d + 60) w J hI hv h8 h16 hfr hf'
  · exact e_26 (d := d + 195) (Or.inr ⟨rfl, rfl, rfl⟩) w J hI hv h8 h16 hfr hf'
  · exact e_10 w J hI hv hs' h8 h16 hfr hf'
  · exact e_11 w J hI hv hs' h8 h16 hfr hf'
  · exact e_12 w J hI hv hs' h8 h16 hfr hf'
  · exact e_13 w J hI hv hs' h8 h16 hfr hf'
  · exact e_14 w J hI hv hs' h8 h16 hfr hf'
  · exact e_15 w J hI hv hs' h8 h16 hfr hf'
  · exact e_16 w J hI hv hs' h8 h16 hfr hf'
  · exact e_17 w J hI hv hs' h8 h16 hfr hf'
  · exact e_18 w J hI hv hs' h8 h16 hfr hf'
  · exact e_19 w J hI hv hs' h8 h16 hfr hf
  · exact e_20 w J hI hv hs' h8 h16 hfr hf'
  · exact e_21 w J hI hv hs h8 h16 hfr hf
  · exact e_22 w J hI hv hs' h8 h16 hfr (by omega)
theorem kJ.cg {P' : hp_P} (J : kJ S A K) (h : ∀ r, ks_S r = true → P'.1 r = K.1.1 r ∧ P'.2 r = K.1.2 r) (h' : ∀ r, rr_S r = true → P'.1 r = K.1.1 r ∧ P'.2 r = K.1.2 r) (hl : ∀ r, (P'.2 r).1 = (K.1.2 r).1) : kJ S A (P', K.2) :=
  ⟨J.1.cg h, J.2.1.cg J.1.wf J.1.n31 h' hl ty_xt.rf ⟨[], (List.append_nil _).symm⟩, J.2.2⟩
theorem kB_kB {b b' : Bool} : kB (kB K b) b' = kB K b' := by
  unfold kB
  rw [hp_sI_sI]
theorem kB_self {b : Bool} (h : K.1.1 945 = bI b) (e : K.2.2.2.2 = b) : kB K b = K := by
  unfold kB
  rw [hp_sI_self h, ← e]
theorem am_c_lt0 {k : Nat} (h : k < 2 ^ 31) : ¬ (nI k : Int32) < 0 := nI_pos h
set_option maxHeartbeats 4000000 in
/-- the loop of judge -/
theorem m_loop {f0 d : Nat} (w : hp_w B ρ) (hf0 : 100000 ≤ f0) : ∀ (g : Nat) (S : qT → Prop) (A : sV) (K : kS) (a acc f : Nat), kJ S A K → aI S A → vS ws K → K.1.1 949 = nI a → K.1.1 903 = -1 → a ≤ ws.length → aMu A + (ws.length - a) ≤ 900 → ws.length - a + 1 ≤ g → 3 * g + 5 ≤ f →
    ∃ S' A' acc' flt' P', aJ g S A ws a acc S' A' acc' flt' ∧ am_go B sa am_dfl (am_call B sa am_dfl am_tb f0 (d + 201)) am_r188 f 22 [(0, .ref (ρ.1 9)), (1, .int (nI acc))] [] (hp_S sa ρ K.1) = some (some (.int (nI acc')), hp_S sa ρ P') ∧ mI S' A' [] flt' P' ∧ aI S' A' ∧ mfr mp_S K.1 P' ∧ P'.1 900 = K.1.1 900 := by
  obtain ⟨f0, rfl⟩ : ∃ x, f0 = x + 1 := ⟨f0 - 1, by omega⟩
  intro g
  induction g with
  | zero => intro S A K a acc f _ _ _ _ _ _ _ hg; omega
  | succ g ih =>
    intro S A K a acc f J hI hv h49 h3 ha hmu hg hf
    obtain ⟨f, rfl⟩ : ∃ x, f = x + 1 := ⟨f - 1, by omega⟩
    have h45 := J.1.2.2.1
    rw [J.b] at h45
    have mu : A.1.length ≤ 900 ∧ A.2.2.2.2.2.1.length ≤ 900 ∧ A.2.2.2.2.2.2.length ≤ 900 := by unfold aMu at hmu; omega
    rw [am_s188_22]
    simp only [hg_949 w, h49, hg_901 w, hv.1, Option.bind_some, am_c_ge, hg_945 w, h45, am_c_ne]
    -- the end
    have fin : ∀ {K : kS} {S : qT → Prop} {A : sV} {b : Bool} {flt : Int32}, kJ S A (kB K false) → K.1.1 945 = bI b → vS ws K → K.1.1 903 = flt → K.2.2.2.2 = b → mI S A [] flt (hp_sI K.1 901 0) := by
      intro K S A b flt J h45 hv h3 eb
      refine ⟨K.2.1, K.2.2.1, K.2.2.2.1, b, by rw [hI_ne (by decide)]; exact h45, ?_, ⟨hI_eq, by decide, hv.2.2.1, fun i x hx => by cases hx⟩, by rw [hI_ne (by decide)]; exact h3⟩
      have := J.cg (P' := hp_sI (hp_sI K.1 901 0) 945 (bI false)) (fun r hr => ⟨by
        show (hp_sI (hp_sI K.1 901 0) 945 (bI false)).1 r = (hp_sI K.1 945 (bI false)).1 r
        rw [hp_sI_cm (by decide), hI_ne (ks_ne hr rfl)], rfl⟩) (fun r hr => ⟨by
        show (hp_sI (hp_sI K.1 901 0) 945 (bI false)).1 r = (hp_sI K.1 945 (bI false)).1 r
        rw [hp_sI_cm (by decide), hI_ne (rr_ne hr rfl)], rfl⟩) (fun _ => rfl)
      exact this
    by_cases e : a < ws.length
    · have hwa : ws[a]? = some ws[a] := List.getElem?_eq_getElem e
      rw [if_neg (nI_ge e (by have := hv.2.1; omega)), if_neg (show ¬ bI false ≠ 0 from fun z => z rfl)]
      have ek : K = kP K a false := (kP_self h49 h45 J.b).symm
      obtain ⟨v9, p1, b1, n1, n2, n3⟩ := k_next (sa := sa) (f := f0) (d := d + 199) (K := K) (b := false) (p := a) w hv ha
      rw [← ek] at n1
      have n3' : b1 = false ∧ p1 = a + 1 ∧ ws[a]? = some v9 := by
        rcases n3 with ⟨z1, -, z2, z3⟩ | ⟨-, n4⟩
        · exact ⟨z1, z2, z3⟩
        · exact absurd ⟨_, hwa⟩ (n4.resolve_left (by decide))
      obtain ⟨rfl, rfl, n4⟩ := n3'
      have n5 : (ws.drop a)[0]? = some v9 := w_dr n4
      simp only [hg_917 w, J.1.2.1.1.1, hg_904 w, J.1.1.1.1, Option.bind_some, hx_9 w, n1, am_i_some, am_c_lt, am_c_gt, am_c_le]
      -- what follows an entry
      have after : ∀ {k : Nat} {x : Option (Option Value × am_S)}, v9 = nI k → k < 23 → ¬ (6 < k ∧ k < 10) → eO sa ρ S A k a (ws.drop a) K x → ∃ S' A' acc' flt' P', aJ (g + 1) S A ws a acc S' A' acc' flt' ∧ (am_v x fun g12 => am_go B sa am_dfl (am_call B sa am_dfl am_tb (f0 + 1) (d + 201)) am_r188 f 134 [(0, .ref (ρ.1 9)), (1, .int (nI acc)), (2, .int (nI a)), (3, .int (nI K.2.2.2.1.length)), (4, .int (nI K.2.1)), (5, .int v9)] [] g12) = some (some (.int (nI acc')), hp_S sa ρ P') ∧ mI S' A' [] flt' P' ∧ aI S' A' ∧ mfr mp_S K.1 P' ∧ P'.1 900 = K.1.1 900 := by
        rintro k x hk9 hk23 hk7 ⟨K', x1, x2, x3⟩
        obtain ⟨f, rfl⟩ : ∃ y, f = y + 1 := ⟨f - 1, by omega⟩
        rw [x1, am_v_some, am_s188_134]
        have fW : mfr mp_S K.1 K'.1 := x2.mp fun r hr => by have := of_decide_eq_true hr; omega
        have v' : vS ws K' := by
          unfold vS
          rw [(x2.1 901 rfl).1, (x2.1 902 rfl).2]
          exact hv
        rcases x3 with ⟨Lc, S1, A1, y1, y2, y3, y4, y5⟩ | ⟨y1, y2, y3, y4⟩
        · have h45' := y4.1.2.2.1
          rw [y4.b] at h45'
          have hL2 := aL_ge y1
          have hd : (ws.drop a).length = ws.length - a := List.length_drop
          have mu' := aE_mu y3
          have hI' := aE_nx hI J.wf y3
          simp only [hg_945 w, h45', Option.bind_some, am_c_eq, am_c_le]
          rw [if_pos (show bI false = 0 from rfl)]
          obtain ⟨S', A', acc', flt', P', j1, j2, j3, j4, j5, j6⟩ := ih S1 A1 K' (a + Lc) (acc + if 10 ≤ k then 1 else 0) f y4 hI' v' y5 ((x2.1 903 rfl).1.trans h3) (by omega) (by omega) (by omega) (by omega)
          refine ⟨S', A', acc', flt', P', Or.inr ⟨e, Or.inl ⟨k, Lc, S1, A1, ⟨by rw [n5, hk9], hk23, y1, y2, y3⟩, j1⟩⟩, ?_, j3, j4, fW.tr j5, j6.trans (x2.1 900 rfl).1⟩
          rw [hk9]
          by_cases k10 : 10 ≤ k
          · rw [if_pos k10] at j2
            rw [if_neg (show ¬ (nI k : Int32) ≤ 9 from nI_ge (a := 9) (by omega) (by omega)), nI_1]
            exact j2
          · rw [if_neg k10] at j2
            rw [if_pos (show (nI k : Int32) ≤ 9 from nI_le (b := 9) (by omega) (by decide)), show nI acc + 0 = nI (acc + 0) from by rw [Int32.add_zero]; rfl]
            exact j2
        · have h45' := y3.1.2.2.1
          rw [y1] at h45'
          simp only [hg_945 w, h45', Option.bind_some, am_c_eq]
          rw [if_neg (show ¬ bI true = 0 by decide)]
          simp only [hs_903 w, Option.bind_some, hx_9 w]
          obtain ⟨P2, P3, u1, u2, u3, u4, u5⟩ := k_undo (sa := sa) (f := f0 + 1) (d := d + 199) (v := nI a) w J hI y3 y4 y1 hf0
          rw [u1, am_v_some]
          simp only [hx_9 w, Option.bind_some]
          rw [u2, am_v_some]
          obtain ⟨f, rfl⟩ : ∃ y, f = y + 1 := ⟨f - 1, by omega⟩
          have e49 : P3.1 949 = K'.1.1 949 := by rw [(u5.1 949 rfl).1, hI_ne (by decide)]
          have e1 : P3.1 901 = nI ws.length := by rw [(u5.1 901 rfl).1, hI_ne (by decide)]; exact v'.1
          have v3 : vS ws (P3, K.2.1, K'.2.2.1, K.2.2.2.1, true) := ⟨e1, v'.2.1, by show (P3.2 902).1 = _; rw [(u5.1 902 rfl).2]; exact v'.2.2.1, by show ∀ i x, _ → (P3.2 902).2 i = x; rw [(u5.1 902 rfl).2]; exact v'.2.2.2⟩
          have e3' : P3.1 903 = nI a := by rw [(u5.1 903 rfl).1, hI_eq]
          refine ⟨S, A, acc, nI a, hp_sI P3 901 0, Or.inr ⟨e, Or.inr ⟨fun k' L' S1 A1 hN => ?_, rfl, rfl, rfl, rfl⟩⟩, ?_, fin u3 u4 v3 e3' rfl, hI, ?_, ?_⟩
          · obtain ⟨q1, q2, q3, q4, q5⟩ := hN
            rw [n5, hk9] at q1
            have : k = k' := (nI_eq (by omega) (by omega)).mp (Option.some.inj q1)
            subst this
            exact y2 ⟨L', S1, A1, q3, q4, q5⟩
          · rw [am_s188_22]
            simp only [hg_949 w, hg_901 w, hg_945 w, u4, Option.bind_some, am_c_ge, am_c_ne, hs_901 w]
            rw [if_pos (show bI true ≠ 0 by decide)]
            split <;> rfl
          · refine fW.tr (((mfr.sI (F := fun r => decide (r = 903)) (r := 903) rfl).mp fun r hr => ?_).tr ((u5.mp fun r hr => ?_).tr ((mfr.sI (F := fun r => decide (r = 901)) (r := 901) rfl).mp fun r hr => ?_)))
            · have := of_decide_eq_true hr; omega
            · rcases Bool.or_eq_true_iff.mp hr with z | z
              · have := of_decide_eq_true z; omega
              · have := of_decide_eq_true z; omega
            · have := of_decide_eq_true hr; omega
          · rw [hI_ne (by decide), (u5.1 900 rfl).1, hI_ne (by decide)]
            exact (x2.1 900 rfl).1
      -- a word that is no kind
      have none' : (∀ k, v9 = nI k → k < 23 → 6 < k ∧ k < 10) → ∃ S' A' acc' flt' P', aJ (g + 1) S A ws a acc S' A' acc' flt' ∧ (am_i (am_call B sa am_dfl am_tb (f0 + 1) (d + 201) 124 [.ref (ρ.1 9), .int 0] (hp_S sa ρ (kP K (a + 1) false).1)) fun v10 g10 => am_go B sa am_dfl (am_call B sa am_dfl am_tb (f0 + 1) (d + 201)) am_r188 f 134 [(0, .ref (ρ.1 9)), (1, .int (nI acc)), (2, .int (nI a)), (3, .int (nI K.2.2.2.1.length)), (4, .int (nI K.2.1)), (5, .int v9)] [] g10) = some (some (.int (nI acc')), hp_S sa ρ P') ∧ mI S' A' [] flt' P' ∧ aI S' A' ∧ mfr mp_S K.1 P' ∧ P'.1 900 = K.1.1 900 := by
        intro hno
        obtain ⟨f, rfl⟩ : ∃ y, f = y + 1 := ⟨f - 1, by omega⟩
        rw [m_need0 w kP_45, am_i_some, show (1 : Int32) = bI true from rfl, kP_bad, am_s188_134]
        simp only [hg_945 w, kP_45, Option.bind_some, am_c_eq]
        rw [if_neg (show ¬ bI true = 0 by decide)]
        simp only [hs_903 w, Option.bind_some, hx_9 w]
        have U : kU A K (kP K (a + 1) true) := ⟨(kP.I (Z := True) (J.1.mono False.elim (fun _ z => z) (fun _ z => z)) fun _ => True.intro).wk, kP.r J.2.1 J.1, ty_xt.rf, [], (List.append_nil _).symm⟩
        obtain ⟨P2, P3, u1, u2, u3, u4, u5⟩ := k_undo (sa := sa) (f := f0 + 1) (d := d + 199) (v := nI a) w J hI U kP.dx rfl hf0
        rw [u1, am_v_some]
        simp only [hx_9 w, Option.bind_some]
        rw [u2, am_v_some]
        obtain ⟨f, rfl⟩ : ∃ y, f = y + 1 := ⟨f - 1, by omega⟩
        have e1 : P3.1 901 = nI ws.length := by rw [(u5.1 901 rfl).1, hI_ne (by decide), kP_1 (by decide) (by decide)]; exact hv.1
        have v3 : vS ws (P3, K.2.1, (kP K (a + 1) true).2.2.1, K.2.2.2.1, true) := ⟨e1, hv.2.1, by show (P3.2 902).1 = _; rw [(u5.1 902 rfl).2]; exact hv.2.2.1, by show ∀ i x, _ → (P3.2 902).2 i = x; rw [(u5.1 902 rfl).2]; exact hv.2.2.2⟩
        have e3' : P3.1 903 = nI a := by rw [(u5.1 903 rfl).1, hI_eq]
        refine ⟨S, A, acc, nI a, hp_sI P3 901 0, Or.inr ⟨e, Or.inr ⟨fun k' L' S1 A1 hN => ?_, rfl, rfl, rfl, rfl⟩⟩, ?_, fin u3 u4 v3 e3' rfl, hI, ?_, ?_⟩
        · obtain ⟨q1, q2, q3, q4, q5⟩ := hN
          rw [n5] at q1
          have h7 := hno k' (Option.some.inj q1) q2
          rcases q5 with ⟨t, z, -⟩ | ⟨M, z, -⟩ | ⟨N, z, -⟩ | ⟨z, -⟩ | ⟨z, -⟩
          · have := aT_k z; omega
          · have := aM_k z; omega
          · have := aQ_k z; omega
          · omega
          · omega
        · rw [am_s188_22]
          simp only [hg_949 w, hg_901 w, hg_945 w, u4, Option.bind_some, am_c_ge, am_c_ne, hs_901 w]
          rw [if_pos (show bI true ≠ 0 by decide)]
          split <;> rfl
        · refine ((kP.dx.W.mp fun r hr => ?_).tr ((mfr.sI (F := fun r => decide (r = 903)) (r := 903) rfl).mp fun r hr => ?_)).tr ((u5.mp fun r hr => ?_).tr ((mfr.sI (F := fun r => decide (r = 901)) (r := 901) rfl).mp fun r hr => ?_))
          · have := of_decide_eq_true hr; omega
          · have := of_decide_eq_true hr; omega
          · rcases Bool.or_eq_true_iff.mp hr with z | z
            · have := of_decide_eq_true z; omega
            · have := of_decide_eq_true z; omega
          · have := of_decide_eq_true hr; omega
        · rw [hI_ne (by decide), (u5.1 900 rfl).1, hI_ne (by decide), kP_1 (by decide) (by decide)]
      rcases pk_ix v9 (show 23 < 2 ^ 31 by decide) with h | h | ⟨k, k1, rfl⟩
      · rw [if_pos h]
        refine none' fun k hk hk23 => ?_
        rw [hk] at h
        exact absurd h (nI_pos (by omega))
      · have h0 : ¬ v9 < 0 := Int32.not_lt.mpr (Int32.le_trans (show (0 : Int32) ≤ nI 23 by decide) h)
        have h22 : (22 : Int32) < v9 := Int32.lt_of_lt_of_le (show (22 : Int32) < nI 23 by decide) h
        rw [if_neg h0, if_pos h22]
        refine none' fun k hk hk23 => ?_
        rw [hk] at h
        exact absurd h (nI_ge (b := 23) hk23 (by decide))
      · rw [if_neg (nI_pos (by omega)), if_neg (show ¬ (22 : Int32) < nI k from nI_nlt (a := 22) (by omega) (by decide))]
        have any := fun (h7 : ¬ (6 < k ∧ k < 10)) => e_any (B := B) (sa := sa) (f := f0 + 1) (d := d + 1) (fr := a) k1 h7 w J hI hv (by omega) (by omega) (by omega) e hf0
        by_cases h6 : k ≤ 6
        · rw [if_pos (show (nI k : Int32) ≤ 6 from nI_le (b := 6) h6 (by decide))]
          have any := any (by omega)
          by_cases h2 : 2 ≤ k
          · rw [if_pos (show (2 : Int32) ≤ nI k from nI_le (a := 2) h2 (by omega)), if_neg (show ¬ (7 : Int32) ≤ nI k from nI_ge (b := 7) (by omega) (by decide))]
            rw [if_neg (by omega), if_pos (by omega)] at any
            exact after rfl k1 (by omega) any
          · rw [if_neg (show ¬ (2 : Int32) ≤ nI k from nI_ge (b := 2) (by omega) (by decide))]
            rw [if_pos (by omega)] at any
            exact after rfl k1 (by omega) any
        · rw [if_neg (show ¬ (nI k : Int32) ≤ 6 from nI_ge (a := 6) (by omega) (by omega))]
          by_cases h10 : 10 ≤ k
          · rw [if_pos (show (10 : Int32) ≤ nI k from nI_le (a := 10) h10 (by omega)), if_pos (show (2 : Int32) ≤ nI k from nI_le (a := 2) (by omega) (by omega)), if_pos (show (7 : Int32) ≤ nI k from nI_le (a := 7) (by omega) (by omega))]
            have any := any (by omega)
            rw [if_neg (by omega), if_neg (by omega)] at any
            exact after rfl k1 (by omega) any
          · rw [if_neg (show ¬ (10 : Int32) ≤ nI k from nI_ge (b := 10) (by omega) (by decide))]
            refine none' fun k' hk' hk23 => ?_
            have := (nI_eq (by omega) (by omega)).mp hk'
            omega
    · rw [if_pos (nI_le (by omega) (by have := hv.2.1; omega))]
      simp only [hs_901 w, Option.bind_some]
      refine ⟨S, A, acc, -1, _, Or.inl ⟨by omega, rfl, rfl, rfl, rfl⟩, rfl, fin (b := false) ?_ h45 hv h3 J.b, hI, (mfr.sI (F := fun r => decide (r = 901)) (r := 901) rfl).mp fun r hr => ?_, hI_ne (by decide)⟩
      · rw [kB_self h45 J.b]; exact J
      · have := of_decide_eq_true hr; omega
end JU
