/-! THE REFERENCE, 15: the end of a step -/
def m_subs : qM → List qM
  | .leaf => []
  | .inner c u v l r => .inner c u v l r :: (m_subs l ++ m_subs r)
theorem m_subs_mem {Y : qM} : ∀ {X : qM}, Y ∈ m_subs X ↔ m_sub Y X
  | .leaf => ⟨fun z => absurd z (List.not_mem_nil), fun z => (show False from z).elim⟩
  | .inner c u v l r => by
    show Y ∈ _ :: (m_subs l ++ m_subs r) ↔ Y = _ ∨ m_sub Y l ∨ m_sub Y r
    rw [List.mem_cons, List.mem_append, m_subs_mem (X := l), m_subs_mem (X := r)]
theorem m_subs_len : ∀ {X : qM}, (m_subs X).length = (m_fl X).length
  | .leaf => rfl
  | .inner c u v l r => by
    show (_ :: (m_subs l ++ m_subs r)).length = (_ :: (m_fl l ++ m_fl r)).length
    rw [List.length_cons, List.length_cons, List.length_append, List.length_append, m_subs_len (X := l), m_subs_len (X := r)]
theorem m_subs_tot {rows : List qM} : (rows.flatMap m_subs).length = m_tot rows := by
  induction rows with
  | nil => rfl
  | cons X rows ih =>
    show (m_subs X ++ rows.flatMap m_subs).length = _
    rw [List.length_append, ih, m_subs_len]
    rfl
theorem m_sub_wf {Y : qM} : ∀ {X : qM}, m_wf X → m_sub Y X → m_wf Y
  | .leaf, h, _ => absurd h id
  | .inner c u v l r, h, k => by
    rcases k with z | z | z
    · rw [z]; exact h
    · rcases h.2 with ⟨-, w1, w2, -⟩ | ⟨-, w1, w2, -⟩ | ⟨w1, w2, -⟩
      · exact m_sub_wf w1 z
      · exact m_sub_wf w1 z
      · rw [w1] at z; exact z.elim
    · rcases h.2 with ⟨-, w1, w2, -⟩ | ⟨-, w1, w2, -⟩ | ⟨w1, w2, -⟩
      · exact m_sub_wf w2 z
      · rw [w2] at z; exact z.elim
      · rw [w2] at z; exact z.elim
theorem m_sub_fl {Y : qM} : ∀ {X : qM}, m_sub Y X → ∀ s ∈ m_fl Y, s ∈ m_fl X
  | .leaf, h => h.elim
  | .inner c u v l r, h => fun s hs => by
    rcases h with z | z | z
    · rw [← z]; exact hs
    · exact List.mem_cons_of_mem _ (List.mem_append.mpr (Or.inl (m_sub_fl z s hs)))
    · exact List.mem_cons_of_mem _ (List.mem_append.mpr (Or.inr (m_sub_fl z s hs)))
theorem m_sub_len {Y : qM} : ∀ {X : qM}, m_sub Y X → (m_fl Y).length ≤ (m_fl X).length ∧ m_ht Y ≤ m_ht X
  | .leaf, h => h.elim
  | .inner c u v l r, h => by
    have e1 : (m_fl (Std.DTreeMap.Internal.Impl.inner c u v l r)).length = 1 + (m_fl l).length + (m_fl r).length := by
      show (_ :: (m_fl l ++ m_fl r)).length = _
      rw [List.length_cons, List.length_append]; omega
    have e2 : m_ht (Std.DTreeMap.Internal.Impl.inner c u v l r) = 1 + max (m_ht l) (m_ht r) := rfl
    rcases h with z | z | z
    · rw [z]; exact ⟨Nat.le_refl _, Nat.le_refl _⟩
    · have := m_sub_len z; omega
    · have := m_sub_len z; omega
section QE
variable {Z : Prop} {G : qT → Prop} {L : List qM} {sa : Nat → Nat} {B : Nat} {ρ : hp_L} {K K' K0 K1 : kS} {A : sV} {S : qT → Prop} {k fr : Nat} {wr : List Int32} {H : List qM} {M : qM}
theorem zQ {N : qQ} (hN : aQ A k wr N) : ¬ sq_lim S (m_tot (sq_rows A.1)) N → Zc S A k wr := by
  rintro z ⟨Lc, S', A', -, -, hE⟩
  have := aQ_k hN
  obtain ⟨N', t1, t2, -⟩ := kE_Q hE this.1 this.2.1 this.2.2
  rw [aQ_inj t1 hN] at t2
  exact z t2
theorem sub_ty {tk : List Nat} {X Y : qM} (hw : m_wf X) (hk : m_ok tk X) (hs : m_sub Y X) : m_ty Y ≠ qE := by
  obtain ⟨c, R, e⟩ := m_fl_hd (m_sub_wf hw hs)
  have := hk (c, m_ty Y) (m_sub_fl hs _ (by rw [e]; exact List.mem_cons_self))
  exact this.1
/-- the limits of a step, with E more terms -/
theorem kz_Q {rows E : List qM} (J : kJ S A K0) (h16 : A.2.2.2.2.2.2.length < 16000) (hw : ∀ X ∈ rows, m_wf X) (hk : ∀ X ∈ rows, m_ok A.2.2.2.1 X) (hg : ¬ q_good (q_un S rows) → Z) (hl : ∀ X ∈ rows, (4000 < (m_fl X).length → Z) ∧ (120 < m_ht X → Z)) (ht : 20000 < m_tot (sq_rows A.1) + m_tot rows → Z) (hE : E.length ≤ m_tot rows) (hE2 : ∀ X ∈ E, (m_wf X ∧ m_ty X ≠ qE) ∧ (4000 < (m_fl X).length → Z) ∧ (120 < m_ht X → Z) ∧ (∀ t, q_of [X] t → q_un S rows t) ∧ ∀ Y, m_sub Y X → Y ∈ K0.2.2.2.1 ++ (rows.flatMap m_subs ++ E)) : kz Z (q_un S rows) (K0.2.2.2.1 ++ (rows.flatMap m_subs ++ E)) := by
  refine kz_add J.1 hg (fun u hu => Or.inl (by rw [← J.2.2.1]; exact hu)) (fun z => ?_) (fun X hX => ?_)
  · have h1 := J.2.2.2
    have h2 := J.2.1.2.2.1.2.2.1.2
    rw [List.length_append, m_subs_tot] at z
    by_cases c : 20000 < m_tot (sq_rows A.1) + m_tot rows
    · exact ht c
    · omega
  · rcases List.mem_append.mp hX with hX | hX
    · obtain ⟨R, hR, hs⟩ := List.mem_flatMap.mp hX
      have hs := m_subs_mem.mp hs
      have ln := m_sub_len hs
      refine ⟨⟨m_sub_wf (hw R hR) hs, sub_ty (hw R hR) (hk R hR) hs⟩, fun z => (hl R hR).1 (by omega), fun z => (hl R hR).2 (by omega), fun t ht => Or.inr (q_of_mem hR (q_of_sub hs ht)), fun Y hY => ?_⟩
      exact List.mem_append.mpr (Or.inr (List.mem_append.mpr (Or.inl (List.mem_flatMap.mpr ⟨R, hR, m_subs_mem.mpr (m_sub_tr hY hs)⟩))))
    · exact hE2 X hX
/-- the limits of a step, by what it asks -/
theorem kz_N (J : kJ S A K0) (h16 : A.2.2.2.2.2.2.length < 16000) (hQ : aQ A k wr (H, M)) (hw : ∀ X ∈ H ++ [M], m_wf X) (hk : ∀ X ∈ H ++ [M], m_ok A.2.2.2.1 X) : kz (Zc S A k wr) (q_un S (H ++ [M])) (K0.2.2.2.1 ++ ((H ++ [M]).flatMap m_subs ++ [])) := by
  have key := zQ (S := S) hQ
  refine kz_Q J h16 hw hk (fun z => key fun y => z y.2.2.2) (fun X hX => ⟨fun z => key fun y => by have := (y.2.1 X hX).1; omega, fun z => key fun y => by have := (y.2.1 X hX).2; omega⟩) (fun z => key fun y => ?_) (Nat.zero_le _) (fun X hX => by cases hX)
  have := y.2.2.1
  rw [m_tot_ap] at z
  have e : m_tot [M] = (m_fl M).length + 0 := rfl
  dsimp only at this
  omega
theorem kI_Q {p : Nat} {rows Q : List qM} (J : kJ S A K0) : kI Z (q_un S rows) (K0.2.2.2.1 ++ Q) (kP K0 p false) := kP.I (J.1.to J.b (fun u hu => Or.inl (by rw [← J.2.2.1]; exact hu))) fun z => by cases z
/-- the limits of hypotheses -/
theorem z60 {N : qQ} (hN : aQ A k wr N) : 60 < N.1.length → Zc S A k wr := fun z => zQ hN fun y => by have := y.1; omega
theorem sq_rows_N {sq : List qQ} {N : qQ} : sq_rows (sq ++ [N]) = sq_rows sq ++ (N.1 ++ [N.2]) := by
  unfold sq_rows
  rw [List.flatMap_append]
  show _ ++ ((N.1 ++ [N.2]) ++ []) = _
  rw [List.append_nil]
theorem take_ap1 {α : Type} {a b : List α} {j : Nat} (h : j ≤ a.length) : (a ++ b).take j = a.take j := List.take_append_of_le_length h
/-- the rows of a new sequent are nodes -/
theorem dN.rows {st : Int32} (h : dN A H M st K K') : ∀ X ∈ H ++ [M], ∃ v, nq K' v X := by
  have hr := h.2.2.1.2.2.2.2.2 A.1.length (H, M) (by rw [List.getElem?_append_right (Nat.le_refl _), Nat.sub_self]; rfl)
  intro X hX
  rcases List.mem_append.mp hX with z | z
  · obtain ⟨i, hi, e⟩ := List.mem_iff_getElem.mp z
    exact ⟨_, hr.2.2.2.2 i X (List.getElem?_eq_some_iff.mpr ⟨hi, e⟩)⟩
  · rw [List.mem_singleton.mp z]; exact ⟨_, hr.1⟩
theorem nq.mem {v : Int32} {X : qM} (h : nq K v X) : X ∈ K.2.2.2.1 := by
  obtain ⟨i, -, -, hi⟩ := h
  exact List.mem_of_getElem? hi
/-- what r_th becomes with a new sequent -/
theorem r_th_new {st : Int32} {S' : qT → Prop} {fm : Nat} {ks : List Nat} {os : List qT} (h : rI A K1) (hN : dN A H M st K1 K') (hg : K'.2.1 = K1.2.1 ∧ K'.2.2.1 = K1.2.2.1 ∧ K'.2.2.2.1 = K1.2.2.2.1) (kI' : kI Z G L K') (hS : ct_S K'.2.2.1 K'.2.1 = S') (hbd : K'.2.2.2.1.length ≤ 2 * (m_tot (sq_rows A.1) + m_tot (H ++ [M])) + A.2.2.2.2.2.2.length) (hfm : (fm = A.2.1 ∧ st ≠ 20 ∧ st ≠ 21) ∨ (fm = A.1.length + 1 ∧ (st = 20 ∨ st = 21))) : r_th K' (a_new A fm S' [(H, M)] ks os) := by
  obtain ⟨n1, n2, n3, n4, n5, n6, n7, n8⟩ := hN
  obtain ⟨⟨t1, t2, t3⟩, t4, t5⟩ := h.2.2.2.1
  have el : (a_new A fm S' [(H, M)] ks os).1.length = A.1.length + 1 := by show (A.1 ++ [(H, M)]).length = _; rw [List.length_append]; rfl
  have ef : (a_new A fm S' [(H, M)] ks os).2.1 = fm := rfl
  have eth : ∀ j, (a_new A fm S' [(H, M)] ks os).2.2.1 j = if j = A.1.length + 1 then (S', A.2.2.2.2.2.1.length, A.2.2.2.2.2.2.length) else A.2.2.1 j := fun j => rfl
  refine ⟨⟨?_, fun j a b => ?_, fun a => ?_⟩, fun j a b => ?_, fun i j a b c e => ?_⟩
  · rw [el, ef]; rcases hfm with ⟨z, -⟩ | ⟨z, -⟩ <;> omega
  · rw [el] at b
    rw [ef] at a
    by_cases e : j = A.1.length
    · rw [e, n5]
      rcases hfm with ⟨-, z⟩ | ⟨z, -⟩
      · exact z
      · omega
    · rw [n6 j (by omega)]
      rcases hfm with ⟨z, -⟩ | ⟨z, -⟩
      · exact t2 j (by omega) (by omega)
      · omega
  · rw [ef] at a ⊢
    rcases hfm with ⟨z, -⟩ | ⟨z, z'⟩
    · rw [n6 _ (by omega), z]; exact t3 (by omega)
    · rw [z, Nat.add_sub_cancel, n5]; exact z'
  · rw [el] at b
    rw [ef] at a
    by_cases e : j = A.1.length + 1
    · refine ⟨K1.2.2.2.1.length, K1.2.1, ?_, ?_⟩
      · rw [eth, if_pos e, e]; exact n8
      · rw [eth, if_pos e, e]
        show r_cut _ _ _ _ _ S' ((A.1 ++ [(H, M)]).take (A.1.length + 1)) (A.2.2.2.2.2.2.take A.2.2.2.2.2.2.length)
        rw [List.take_of_length_le (by rw [List.length_append]; exact Nat.le_refl _), List.take_length]
        refine ⟨⟨by rw [hg.1]; exact Nat.le_refl _, by have := kI'.2.2.2.2.2.2.1; rw [hg.1] at this; exact this, by rw [hg.2.2]; exact Nat.le_refl _⟩, by rw [← hg.1]; exact hS, fun X hX => ?_, fun X hX => ?_, fun X hX t ht => ?_, ?_⟩
        · rw [← hg.2.2, List.take_length]
          obtain ⟨s, hs, hX⟩ := List.mem_flatMap.mp hX
          obtain ⟨i, hi, es⟩ := List.mem_iff_getElem.mp hs
          have hr := n3.2.2.2.2.2 i s (List.getElem?_eq_some_iff.mpr ⟨hi, es⟩)
          rcases List.mem_append.mp hX with z | z
          · obtain ⟨i', hi', e'⟩ := List.mem_iff_getElem.mp z
            exact (hr.2.2.2.2 i' X (List.getElem?_eq_some_iff.mpr ⟨hi', e'⟩)).mem
          · rw [List.mem_singleton.mp z]; exact hr.1.mem
        · rw [← hg.2.2, List.take_length]
          obtain ⟨i, hi, es⟩ := List.mem_iff_getElem.mp hX
          exact (n2.2.2.2.2.2 i X (List.getElem?_eq_some_iff.mpr ⟨hi, es⟩)).mem
        · rw [← hg.2.2, List.take_length] at hX
          obtain ⟨i, hi, es⟩ := List.mem_iff_getElem.mp hX
          rw [← hg.1]
          exact (kI'.cl i X (List.getElem?_eq_some_iff.mpr ⟨hi, es⟩)).1 t ht
        · rw [← hg.2.2, sq_rows_N, m_tot_ap]; exact hbd
    · obtain ⟨nk, nt, z1, z2⟩ := t4 j (by rcases hfm with ⟨z, -⟩ | ⟨z, -⟩ <;> omega) (by omega)
      refine ⟨nk, nt, ?_, ?_⟩
      · rw [eth, if_neg e]; exact n7 j nk nt _ _ (by omega) z1
      · rw [eth, if_neg e, hg.1, hg.2.1, hg.2.2]
        show r_cut _ _ _ _ _ _ ((A.1 ++ [(H, M)]).take j) _
        rw [take_ap1 (by omega)]
        exact z2
  · rw [el] at e
    rw [ef] at a
    have l6 : K1.2.2.2.1.length ≤ 60000 := by rw [← hg.2.2]; exact kI'.2.1.1.2
    have e1 := (n8.2 (by omega)).1
    rw [Nat.add_sub_cancel] at e1
    have same : ∀ l, A.2.1 ≤ l → 0 < l → l ≤ A.1.length → (K'.1.2 939).2 (l - 1) = (K1.1.2 939).2 (l - 1) ∧ ∃ m, m ≤ K1.2.2.2.1.length ∧ (K1.1.2 939).2 (l - 1) = nI m := fun l x y z => by
      obtain ⟨nk, nt, z1, z2⟩ := t4 l x z
      exact ⟨((n7 l nk nt _ _ z z1).2 y).1.trans (z1.2 y).1.symm, nk, z2.1.2.2, (z1.2 y).1⟩
    by_cases ej : j = A.1.length + 1
    · rw [ej, Nat.add_sub_cancel]
      by_cases ei : i = A.1.length + 1
      · rw [ei, Nat.add_sub_cancel]
        exact ⟨_, _, Nat.le_refl _, l6, e1, e1⟩
      · obtain ⟨s1, m, s2, s3⟩ := same i (by rcases hfm with ⟨z, -⟩ | ⟨z, -⟩ <;> omega) b (by omega)
        exact ⟨m, _, s2, l6, s1.trans s3, e1⟩
    · have hf : A.2.1 ≤ i := by rcases hfm with ⟨z, -⟩ | ⟨z, -⟩ <;> omega
      rw [(same i hf b (by omega)).1, (same j (by omega) (by omega) (by omega)).1]
      exact t5 i j hf b c (by omega)
/-- all is well: the limits are kept, the types are those -/
theorem q_good_end {st : Int32} {Q : List qM} (J : kJ S A K0) (h : kI Z (q_un S (H ++ [M])) (K0.2.2.2.1 ++ Q) K') (hN : dN A H M st K1 K') (xt : ty_xt K0.2.1 K0.2.2.1 K'.2.1 K'.2.2.1) (ht : m_tot (sq_rows A.1) + m_tot H + (m_fl M).length ≤ 20000) (h60 : H.length ≤ 60) : ct_S K'.2.2.1 K'.2.1 = q_un S (H ++ [M]) ∧ sq_lim S (m_tot (sq_rows A.1)) (H, M) := by
  have eS : ct_S K'.2.2.1 K'.2.1 = q_un S (H ++ [M]) := by
    funext u
    refine propext ⟨h.2.2.2.2.1 u, fun z => ?_⟩
    rcases z with z | ⟨X, hX, s, hs, hu⟩
    · rw [← J.2.2.1] at z
      exact z.xt J.1.wf J.1.n31 xt
    · obtain ⟨v, hv⟩ := hN.rows X hX
      exact h.ty hv ⟨X, List.mem_singleton.mpr rfl, s, hs, hu⟩
  refine ⟨eS, h60, fun X hX => ?_, ht, ?_⟩
  · obtain ⟨v, i, -, -, hi⟩ := hN.rows X hX
    have := h.row hi
    exact ⟨this.2.2.2.2.2.1, this.2.2.2.2.2.2⟩
  · have := h.1.good
    rw [eS] at this
    exact this
theorem q_end {f d Lc : Nat} {c st : Int32} {Q : List qM} (w : hp_w B ρ) (J : kJ S A K0) (hs : A.1.length < 1000) (h8 : A.2.2.2.2.2.1.length < 8000) (h16 : A.2.2.2.2.2.2.length < 16000) (hQ : aQ A k wr (H, M)) (hL : aL A.2.2.2.1 k wr Lc) (hl : Lc ≤ wr.length) (hst : st ≠ 20 ∧ st ≠ 21) (hq : Q.length ≤ 2 * m_tot (H ++ [M])) (h : dI (Zc S A k wr) (q_un S (H ++ [M])) (K0.2.2.2.1 ++ Q) A H K1) (hD : kD (kP K0 (fr + Lc) false) K1) (hc : nv K1 c M) (hf : 100 ≤ f) :
    eO sa ρ S A k fr wr K0 (am_v (am_call B sa am_dfl am_tb f (d + 2) 159 [.ref (ρ.1 9), .int c, .int st] (hp_S sa ρ K1.1)) fun g => some (none, g)) := by
  obtain ⟨K', a1, a2, a3, a4, a5⟩ := d_close (sa := sa) (f := f) (d := d) (st := st) w h hc (fun z => zQ hQ fun y => by have := y.2.2.1; dsimp only at this; omega) hs h8 h16 hf
  rw [a1, am_v_some]
  have xt : ty_xt K0.2.1 K0.2.2.1 K'.2.1 K'.2.2.1 := hD.2.1.tr a2.2.1
  have pf : ∃ q, K'.2.2.2.1 = K0.2.2.2.1 ++ q := by
    obtain ⟨q, e⟩ := hD.2.2.1
    exact ⟨q, by rw [a4.2.2]; exact e⟩
  have fr' : mfr dW_S K0.1 K'.1 := (kP.dx.tr hD.1).W.tr a2.1
  rcases a5 with ⟨eb, hr, hb⟩ | ⟨eb, ht, h60, hN⟩
  · exact eO.bad (a3.2.2.2.1 eb) a3 hr xt pf ((kP.dx.tr hD.1).tr hb) eb
  · obtain ⟨eS, lim⟩ := q_good_end J a3 hN xt ht h60
    have bd : K'.2.2.2.1.length ≤ 2 * (m_tot (sq_rows A.1) + m_tot (H ++ [M])) + A.2.2.2.2.2.2.length := by
      have h1 := a3.le
      rw [List.length_append] at h1
      have h2 := J.2.2.2
      omega
    have th := r_th_new (fm := A.2.1) (ks := []) (os := []) h.2.1 hN a4 a3 eS bd (Or.inl ⟨rfl, hst⟩)
    refine ⟨K', rfl, fr', Or.inl ⟨Lc, _, _, hL, hl, Or.inr (Or.inr (Or.inl ⟨(H, M), hQ, lim, rfl, rfl⟩)), ⟨?_, ⟨?_, hN.2.1, hN.2.2.1, th, hN.2.2.2.1⟩, eS, ?_⟩, ?_⟩⟩
    · have := a3.gd eb
      rw [eS] at this
      exact this
    · show r_sg K' (A.2.2.2.1 ++ []) (A.2.2.2.2.1 ++ [])
      rw [List.append_nil, List.append_nil]; exact hN.1
    · show _ ≤ 2 * m_tot (sq_rows (A.1 ++ [(H, M)])) + _
      rw [sq_rows_N, m_tot_ap]; exact bd
    · rw [(a2.2.2.2.2 949 (by decide)).1, (hD.2.2.2.2 949 (by decide)).1]; exact kP_49
end QE
