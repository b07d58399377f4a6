/-! THE REFERENCE, 16: steps of a term -/
section ST
variable {Z : Prop} {G : qT → Prop} {L : List qM} {sa : Nat → Nat} {B : Nat} {ρ : hp_L} {K K' K0 K1 : kS} {A : sV} {S : qT → Prop} {k fr : Nat} {ws wr : List Int32} {H : List qM} {M : qM}
theorem kJ.wf (J : kJ S A K0) : aWf A := by
  refine ⟨fun M hM => ?_, fun X hX => ?_⟩
  · obtain ⟨i, hi, e⟩ := List.mem_iff_getElem.mp hM
    exact (J.2.1.2.1.2.2.2.2.2 i M (List.getElem?_eq_some_iff.mpr ⟨hi, e⟩)).wf J.1
  · obtain ⟨s, hs, hX⟩ := List.mem_flatMap.mp hX
    obtain ⟨i, hi, e⟩ := List.mem_iff_getElem.mp hs
    have hr := J.2.1.2.2.1.2.2.2.2.2 i s (List.getElem?_eq_some_iff.mpr ⟨hi, e⟩)
    rcases List.mem_append.mp hX with z | z
    · obtain ⟨i', hi', e'⟩ := List.mem_iff_getElem.mp z
      exact (hr.2.2.2.2 i' X (List.getElem?_eq_some_iff.mpr ⟨hi', e'⟩)).wf J.1
    · rw [List.mem_singleton.mp z]; exact hr.1.wf J.1
/-- an equation, and the end -/
theorem q_endE {f d Lc : Nat} {v y st : Int32} {X Y : qM} {Q : List qM} (w : hp_w B ρ) (J : kJ S A K0) (hs : A.1.length < 1000) (h8 : A.2.2.2.2.2.1.length < 8000) (h16 : A.2.2.2.2.2.2.length < 16000) (hQ : aQ A k wr (H, mE X Y)) (hL : aL A.2.2.2.1 k wr Lc) (hl : Lc ≤ wr.length) (hst : st ≠ 20 ∧ st ≠ 21) (hq : Q.length ≤ 2 * m_tot (H ++ [mE X Y])) (kz' : kz (Zc S A k wr) (q_un S (H ++ [mE X Y])) (K0.2.2.2.1 ++ Q)) (hM : mE X Y ∈ K0.2.2.2.1 ++ Q) (h : dI (Zc S A k wr) (q_un S (H ++ [mE X Y])) (K0.2.2.2.1 ++ Q) A H K1) (hD : kD (kP K0 (fr + Lc) false) K1) (hX : nv K1 v X) (hY : nv K1 y Y) (hty : m_ty Y = m_ty X) (hf : 70000 ≤ f) :
    eO sa ρ S A k fr wr K0 (am_i (am_call B sa am_dfl am_tb f (d + 4) 144 [.ref (ρ.1 9), .int v, .int y] (hp_S sa ρ K1.1)) fun c g => (am_obj g (ρ.1 9) 9).bind fun _ => am_v (am_call B sa am_dfl am_tb f (d + 4) 159 [.ref (ρ.1 9), .int c, .int st] g) fun g => some (none, g)) := by
  obtain ⟨c, K2, a1, a2, a3⟩ := k_equation (sa := sa) (f := f) (d := d) w kz' h.1 hX hY hty hM hf
  rw [a1, am_i_some]
  simp only [hx_9 w, Option.bind_some]
  exact q_end (d := d + 2) w J hs h8 h16 hQ hL hl hst hq (h.go a2) (hD.tr a2.D) a3 (by omega)
theorem q_1 {Q : List qM} : M ∈ Q ++ ((H ++ [M]).flatMap m_subs ++ []) ↔ True ∧ (M ∈ Q ++ ((H ++ [M]).flatMap m_subs ++ [])) := ⟨fun z => ⟨True.intro, z⟩, fun z => z.2⟩
theorem mem_rows {Q E rows : List qM} {X : qM} (hX : X ∈ rows) (hw : m_wf X) : X ∈ Q ++ (rows.flatMap m_subs ++ E) := List.mem_append.mpr (Or.inr (List.mem_append.mpr (Or.inl (List.mem_flatMap.mpr ⟨X, hX, m_subs_mem.mpr (m_sub_self hw)⟩))))
theorem rows_len {rows : List qM} : (rows.flatMap m_subs ++ []).length ≤ 2 * m_tot rows := by
  rw [List.append_nil, m_subs_tot]; omega
theorem mem_last {H : List qM} {M : qM} : M ∈ H ++ [M] := List.mem_append.mpr (Or.inr (List.mem_singleton.mpr rfl))
theorem noQ (hk : 10 ≤ k) (h20 : k ≠ 20) (h21 : k ≠ 21) (h : ∀ Lc, aL A.2.2.2.1 k wr Lc → Lc ≤ wr.length → ∀ N, ¬ aQ A k wr N) : Zc S A k wr := by
  rintro ⟨Lc, S', A', hL, hl, hE⟩
  obtain ⟨N, n1, -⟩ := kE_Q hE hk h20 h21
  exact h Lc hL hl N n1
theorem noL2 (h : ∀ x, ws[fr + 1]? ≠ some x) : Zc S A k (ws.drop fr) := by
  rintro ⟨Lc, S', A', hL, hl, -⟩
  have := aL_ge hL
  exact h _ (w_dr' (wd_some (by omega)))
set_option maxHeartbeats 2000000 in
theorem e_10 {f d : Nat} (w : hp_w B ρ) (J : kJ S A K0) (hI : aI S A) (hv : vS ws K0) (hs : A.1.length < 1000) (h8 : A.2.2.2.2.2.1.length < 8000) (h16 : A.2.2.2.2.2.2.length < 16000) (hfr : fr < ws.length) (hf : 70000 ≤ f) :
    eO sa ρ S A 10 fr (ws.drop fr) K0 (am_call B sa am_dfl am_tb f (d + 200) 162 [.ref (ρ.1 9), .int (nI 10)] (hp_S sa ρ (kP K0 (fr + 1) false).1)) := by
  obtain ⟨f, rfl⟩ : ∃ g, f = g + 1 := ⟨f - 1, by omega⟩
  obtain ⟨v1, p1, b1, e1, e2, e3⟩ := k_nextClosed (sa := sa) (f := f) (d := d + 195) (b := false) (p := fr + 1) w hv J.1 J.2.1 (by omega) (by omega)
  rw [am_c_162, am_s162_0, if_pos (show Int32.toInt (nI 10) = 10 by decide)]
  simp only [hx_9 w, Option.bind_some, e1, am_i_some]
  rw [am_c_163, am_s163_0]
  simp only [hg_945 w, kP_45, Option.bind_some, am_c_eq, am_c_ne]
  rcases e3 with ⟨rfl, -, rfl, x, t, g4, g5, g6, g7⟩ | ⟨rfl, g2⟩
  · rw [if_pos (show bI false = 0 from rfl)]
    have g4' := w_dr g4
    have l2 : 2 ≤ (ws.drop fr).length := by have := (List.getElem?_eq_some_iff.mp g4').1; omega
    have hQ : aQ A 10 (ws.drop fr) ([], mE t t) := Or.inl ⟨rfl, t, by rw [wd_at g4']; exact g5, g6, rfl⟩
    have wt := g7.wf J.1
    have wM : m_wf (mE t t) := mE_wf wt wt rfl
    obtain ⟨ok, -⟩ := aQ_ok hI J.wf hQ
    have kz' := kz_N J h16 hQ (fun X hX => by rw [List.mem_singleton.mp hX]; exact wM) ok
    obtain ⟨K1, a1, a2, a3, -⟩ := d_open (sa := sa) (f := f) (d := d + 196) (K := kP K0 (fr + 2) false) w (kI_Q J) (kP.r J.2.1 J.1) hs
    have a1 : am_call B sa am_dfl am_tb (f + 1) (d + 198) 158 [.ref (ρ.1 9)] (hp_S sa ρ (kP K0 (fr + 1 + 1) false).1) = _ := a1
    simp only [hx_9 w, Option.bind_some]
    rw [a1, am_v_some, if_neg (show ¬ (nI 10 : Int32) ≠ 10 from fun z => z rfl)]
    simp only [hx_9 w, Option.bind_some]
    have := q_endE (B := B) (sa := sa) (f := f + 1) (d := d + 194) (fr := fr) (st := nI 10) (v := v1) (y := v1) (X := t) (Y := t) (H := []) w J hs h8 h16 hQ (aL_2 (by decide)) l2 (by decide) rows_len kz' (mem_rows mem_last wM) a2 a3 (nq.v (nq.gD (K := kP K0 (fr + 2) false) g7 a3)) (nq.v (nq.gD (K := kP K0 (fr + 2) false) g7 a3)) rfl hf
    obtain ⟨K', q1, q2⟩ := this
    rw [q1, am_v_some]
    exact ⟨K', rfl, q2⟩
  · rw [if_neg (show ¬ bI true = 0 by decide), am_v_some]
    refine eO.bad1 (noQ (by decide) (by decide) (by decide) fun Lc hL hl N hN => ?_) J.1 J.2.1
    have := aL_ge hL
    rcases hN with ⟨-, t, z1, z2, -⟩ | ⟨z, -⟩ | ⟨z, -⟩ | ⟨z, -⟩ | ⟨z, -⟩ | ⟨z, -⟩ | ⟨z, -⟩ | ⟨z, -⟩ | ⟨z, -⟩ | ⟨z, -⟩ | ⟨z, -⟩
    · exact g2.resolve_left (by decide) ⟨_, t, w_dr' (i := 1) (wd_some (by omega)), z1, z2⟩
    all_goals exact absurd z (by decide)
end ST
