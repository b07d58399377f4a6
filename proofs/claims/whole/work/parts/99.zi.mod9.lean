/-! THE REFERENCE, 21: types put in -/
def vrA (K : kS) (v w : Int32) : Prop := (∃ a, a < K.2.1 ∧ (K.2.2.1 a).1 = -1 - w ∧ v = nI a) ∨ ((∀ a, a < K.2.1 → (K.2.2.1 a).1 ≠ -1 - w) ∧ v = -1)
def y_S : Nat → Bool := fun r => decide (r = 946 ∨ r = 947 ∨ r = 948 ∨ r = 950)
/-- the numbers, variables and types so far -/
def yI (K : kS) (ps : List (Int32 × qT)) : Prop := K.1.1 946 = nI ps.length ∧ ∀ i p, ps[i]? = some p → (K.1.2 950).2 i = p.1 ∧ vrA K ((K.1.2 947).2 i) p.1 ∧ pl K.2.1 K.2.2.1 ((K.1.2 948).2 i) p.2
theorem w_pr_s {wr : List Int32} {c : Nat} : w_pr wr (c + 1) = w_pr wr c ++ [(wd wr (3 + 2 * c), wd wr (4 + 2 * c))] := by
  unfold w_pr
  rw [List.range_succ, List.map_append]
  rfl
theorem w_pr_len {wr : List Int32} {c : Nat} : (w_pr wr c).length = c := by unfold w_pr; rw [List.length_map, List.length_range]
theorem w_pr_at {wr : List Int32} {c k : Nat} (h : k < c) : (w_pr wr c)[k]? = some (wd wr (3 + 2 * k), wd wr (4 + 2 * k)) := by
  unfold w_pr
  rw [List.getElem?_map, List.getElem?_range h]
  rfl
theorem pv_ok_l {et : List qT} {pr : List (Int32 × Int32)} {ps : List (Int32 × qT)} (h : pv_ok et pr ps) : ps.length = pr.length := by
  have := congrArg List.length (pv_ok_len h)
  rw [List.length_map, List.length_map] at this
  exact this
theorem pv_ok_1 {et : List qT} {pr : List (Int32 × Int32)} {ps : List (Int32 × qT)} (h : pv_ok et pr ps) {i : Nat} {p : Int32 × qT} (hp : ps[i]? = some p) : ∃ q, pr[i]? = some q ∧ q.1 = p.1 := by
  have e := pv_ok_len h
  have e2 := congrArg (fun l => l[i]?) e
  rw [List.getElem?_map, List.getElem?_map, hp] at e2
  cases hq : pr[i]? with
  | none => rw [hq] at e2; cases e2
  | some q => rw [hq] at e2; exact ⟨q, rfl, (Option.some.inj e2).symm⟩
theorem ps_s_at {c : Int32} {u : qT} : ∀ {ps : List (Int32 × qT)}, ps_s ps c = some u → ∃ (i : Nat) (p : Int32 × qT), ps[i]? = some p ∧ -1 - p.1 = c ∧ p.2 = u ∧ ∀ (i' : Nat) (p' : Int32 × qT), i' < i → ps[i']? = some p' → -1 - p'.1 ≠ c
  | [], h => by cases h
  | p :: ps, h => by
    rw [ps_s_c] at h
    by_cases e : -1 - p.1 = c
    · rw [if_pos e] at h
      exact ⟨0, p, rfl, e, Option.some.inj h, fun i' p' z => absurd z (Nat.not_lt_zero _)⟩
    · rw [if_neg e] at h
      obtain ⟨i, q, h1, h2, h3, h4⟩ := ps_s_at h
      refine ⟨i + 1, q, h1, h2, h3, fun i' p' z hp => ?_⟩
      cases i' with
      | zero => rw [← Option.some.inj hp]; exact e
      | succ i' => exact h4 i' p' (by omega) hp
theorem ps_s_no {c : Int32} : ∀ {ps : List (Int32 × qT)}, ps_s ps c = none → ∀ (i : Nat) (p : Int32 × qT), ps[i]? = some p → -1 - p.1 ≠ c
  | [], _, i, p, hp => by cases hp
  | q :: ps, h, i, p, hp => by
    rw [ps_s_c] at h
    by_cases e : -1 - q.1 = c
    · rw [if_pos e] at h; cases h
    · rw [if_neg e] at h
      cases i with
      | zero => rw [← Option.some.inj hp]; exact e
      | succ i => exact ps_s_no h i p hp
section S5
variable {Z : Prop} {G : qT → Prop} {L : List qM} {sa : Nat → Nat} {B : Nat} {ρ : hp_L} {K K' K0 K1 : kS} {A : sV} {S : qT → Prop} {k fr : Nat} {ws wr : List Int32} {H : List qM} {M : qM}
/-- variableOf -/
theorem k_varOf {f d : Nat} {x : Int32} {kk : Int32 → Nat} (hk0 : ∀ c, c < 0 → kk c = 0) (w : hp_w B ρ) (h : kI Z G L K) (har : ty_ar kk K.2.2.1 K.2.1) (hx : -1 - x < 0) (hf : 10000 ≤ f) : ∃ v, am_call B sa am_dfl am_tb f (d + 2) 168 [.ref (ρ.1 9), .int x] (hp_S sa ρ K.1) = some (some (.int v), hp_S sa ρ K.1) ∧ vrA K v x := by
  obtain ⟨f, rfl⟩ : ∃ g, f = g + 1 := ⟨f - 1, by omega⟩
  have n8 := h.1.1.2
  rw [am_c_168, am_s168_0, m_chain, am_i_some]
  obtain ⟨c, hc, ec⟩ := c4_in (-1 - x) (-1) (-1) 0
  have r11 : hp_rd K.1 911 (c4 (-1 - x) (-1) (-1) 0) = some ((K.1.2 911).2 c) := by rw [ec, hp_rd_nI (by rw [h.1.2.1.2.2]; exact hc) (by omega)]
  have e11 : (K.1.2 911).2 c = lk (fun i => c4 (K.2.2.1 i).1 (K.2.2.1 i).2.1 (K.2.2.1 i).2.2 0) (c4 (-1 - x) (-1) (-1) 0) K.2.1 := by rw [h.1.2.2.2.2.2.1 c hc, ec]
  simp only [hr_911 w, hl_911 w, r11, Option.bind_some]
  rw [e11]
  have loop : ∀ (m g : Nat), m ≤ K.2.1 → m + 2 ≤ g → ∃ v, am_go B sa am_dfl (am_call B sa am_dfl am_tb (f + 1) (d + 1)) am_r168 g 17 [(0, .ref (ρ.1 9)), (1, .int x), (3, .int (lk (fun i => c4 (K.2.2.1 i).1 (K.2.2.1 i).2.1 (K.2.2.1 i).2.2 0) (c4 (-1 - x) (-1) (-1) 0) m))] [] (hp_S sa ρ K.1) = some (some (.int v), hp_S sa ρ K.1) ∧ ((∃ a, a < m ∧ (K.2.2.1 a).1 = -1 - x ∧ v = nI a) ∨ ((∀ a, a < m → (K.2.2.1 a).1 ≠ -1 - x) ∧ v = -1)) := by
    intro m
    induction m with
    | zero =>
      intro g _ hg
      obtain ⟨g, rfl⟩ : ∃ y, g = y + 1 := ⟨g - 1, by omega⟩
      rw [am_s168_17]
      simp only [am_c_eq]
      exact ⟨-1, if_pos rfl, Or.inr ⟨fun a z => absurd z (Nat.not_lt_zero _), rfl⟩⟩
    | succ m ih =>
      intro g hm hg
      by_cases hb : c4 (K.2.2.1 m).1 (K.2.2.1 m).2.1 (K.2.2.1 m).2.2 0 = c4 (-1 - x) (-1) (-1) 0
      · have hl : lk (fun i => c4 (K.2.2.1 i).1 (K.2.2.1 i).2.1 (K.2.2.1 i).2.2 0) (c4 (-1 - x) (-1) (-1) 0) (m + 1) = nI m := if_pos hb
        rw [hl]
        obtain ⟨g, rfl⟩ : ∃ y, g = y + 1 := ⟨g - 1, by omega⟩
        rw [am_s168_17]
        simp only [am_c_eq, am_c_ne]
        rw [if_neg (nI_ne_m1 (show m < 2 ^ 31 by omega))]
        have r5 := (h.rdT (show m < K.2.1 by omega)).1
        have r10 : hp_rd K.1 910 (nI m) = some (lk (fun i => c4 (K.2.2.1 i).1 (K.2.2.1 i).2.1 (K.2.2.1 i).2.2 0) (c4 (-1 - x) (-1) (-1) 0) m) := by
          rw [hp_rd_nI (by rw [h.1.2.1.1 910 (by decide) (by decide)]; omega) (by omega), h.1.2.2.2.2.2.2 m (by omega)]
          dsimp only; rw [hb]
        simp only [hr_905 w, hl_905 w, r5, hr_910 w, hl_910 w, r10, Option.bind_some]
        by_cases e : (K.2.2.1 m).1 = -1 - x
        · rw [if_neg (fun z => z e)]
          exact ⟨_, rfl, Or.inl ⟨m, by omega, e, rfl⟩⟩
        · rw [if_pos e]
          obtain ⟨v, v1, v2⟩ := ih g (by omega) (by omega)
          refine ⟨v, v1, v2.imp (fun ⟨a, a1, a2⟩ => ⟨a, by omega, a2⟩) fun ⟨z, z'⟩ => ⟨fun a ha => ?_, z'⟩⟩
          by_cases y : a = m
          · rw [y]; exact e
          · exact z a (by omega)
      · have hl : lk (fun i => c4 (K.2.2.1 i).1 (K.2.2.1 i).2.1 (K.2.2.1 i).2.2 0) (c4 (-1 - x) (-1) (-1) 0) (m + 1) = lk (fun i => c4 (K.2.2.1 i).1 (K.2.2.1 i).2.1 (K.2.2.1 i).2.2 0) (c4 (-1 - x) (-1) (-1) 0) m := if_neg hb
        rw [hl]
        obtain ⟨v, v1, v2⟩ := ih g (by omega) (by omega)
        refine ⟨v, v1, v2.imp (fun ⟨a, a1, a2⟩ => ⟨a, by omega, a2⟩) fun ⟨z, z'⟩ => ⟨fun a ha => ?_, z'⟩⟩
        by_cases y : a = m
        · rw [y]
          intro e
          have := ty_vrow hk0 h har (show m < K.2.1 by omega) (by rw [e]; exact hx)
          rw [this, e] at hb
          exact hb rfl
        · exact z a (by omega)
  exact loop K.2.1 f (Nat.le_refl _) (by omega)
theorem y_ks {r : Nat} (h : ks_S r = true) : y_S r = false := by
  refine decide_eq_false fun z => ?_
  rcases z with rfl | rfl | rfl | rfl <;> exact absurd h (by decide)
theorem y_rr {r : Nat} (h : rr_S r = true) : y_S r = false := by
  refine decide_eq_false fun z => ?_
  rcases z with rfl | rfl | rfl | rfl <;> exact absurd h (by decide)
theorem y_dx {P P' : hp_P} (h : mfr y_S P P') : mfr dx_S P P' := h.up fun r hr => by
  have := of_decide_eq_false hr
  refine decide_eq_false fun z => ?_
  omega
/-- a base: but for the numbers, it is K0 -/
def yB (K0 K : kS) : Prop := mfr y_S K0.1 K.1 ∧ K.2 = K0.2
theorem yB.J {Kb : kS} (y : yB K0 Kb) (J : kJ S A K0) : kI False S Kb.2.2.2.1 Kb ∧ rI A Kb ∧ kY K0 Kb := by
  obtain ⟨y1, y2⟩ := y
  have e : Kb = (Kb.1, K0.2) := Prod.ext rfl y2
  rw [e]
  exact ⟨J.1.cg fun r hr => y1.1 r (y_ks hr), J.2.1.cg J.1.wf J.1.n31 (fun r hr => y1.1 r (y_rr hr)) y1.2 ty_xt.rf ⟨[], (List.append_nil _).symm⟩, y_dx y1, rfl, rfl, rfl⟩
theorem yB.v {Kb : kS} (y : yB K0 Kb) (hv : vS ws K0) : vS ws Kb := by
  unfold vS
  rw [(y.1.1 901 rfl).1, (y.1.1 902 rfl).2]
  exact hv
theorem eO.badY {Kb : kS} {p : Nat} (y : yB K0 Kb) (J : kJ S A K0) (hZ : Zc S A k wr) : eO sa ρ S A k fr wr K0 (some (none, hp_S sa ρ (kP Kb p true).1)) := by
  obtain ⟨k1, r1, y1⟩ := y.J J
  refine eO.bad (K' := kP Kb p true) (Z := True) (G := S) (L := Kb.2.2.2.1) hZ (kP.I (k1.mono False.elim (fun _ z => z) (fun _ z => z)) fun _ => True.intro) (kP.r r1 k1) ?_ ⟨[], ?_⟩ (y1.1.tr kP.dx) rfl
  · show ty_xt K0.2.1 K0.2.2.1 Kb.2.1 Kb.2.2.1
    rw [y1.2.1, y1.2.2.1]; exact ty_xt.rf
  · show Kb.2.2.2.1 = _
    rw [y1.2.2.2, List.append_nil]
/-- one more pair -/
def yN (K : kS) (m : Nat) (x v y : Int32) : kS := (hp_sI (hp_sA (hp_sA (hp_sA K.1 950 (nI m) x) 947 (nI m) v) 948 (nI m) y) 946 (nI (m + 1)), K.2)
theorem yN_B {Kb : kS} {m : Nat} {x v u : Int32} (y : yB K0 Kb) : yB K0 (yN Kb m x v u) := ⟨y.1.tr ((((mfr.sA rfl).tr (mfr.sA rfl)).tr (mfr.sA rfl)).tr (mfr.sI rfl)), y.2⟩
theorem yN_kP {p m : Nat} {b : Bool} {x v y : Int32} : hp_sI (hp_sA (hp_sA (hp_sA (kP K p b).1 950 (nI m) x) 947 (nI m) v) 948 (nI m) y) 946 (nI (m + 1)) = (kP (yN K m x v y) p b).1 := by
  show hp_sI (hp_sI (hp_sI (hp_sA (hp_sA (hp_sA K.1 950 (nI m) x) 947 (nI m) v) 948 (nI m) y) 949 (nI p)) 945 (bI b)) 946 (nI (m + 1)) = hp_sI (hp_sI (hp_sI (hp_sA (hp_sA (hp_sA K.1 950 (nI m) x) 947 (nI m) v) 948 (nI m) y) 946 (nI (m + 1))) 949 (nI p)) 945 (bI b)
  rw [hp_sI_cm (r := 945) (s := 946) (by decide), hp_sI_cm (r := 949) (s := 946) (by decide)]
theorem yN.I {Kb : kS} {ps : List (Int32 × qT)} {x v y : Int32} {t : qT} (h : yI Kb ps) (hl : ps.length < 2 ^ 31) (hv : vrA Kb v x) (hy : pl Kb.2.1 Kb.2.2.1 y t) : yI (yN Kb ps.length x v y) (ps ++ [(x, t)]) := by
  have e0 : ((yN Kb ps.length x v y).1.2 950).2 = upd (Kb.1.2 950).2 ps.length x := by
    show ((hp_sA (hp_sA (hp_sA Kb.1 950 (nI ps.length) x) 947 (nI ps.length) v) 948 (nI ps.length) y).2 950).2 = _
    rw [hA_ne (by decide), hA_ne (by decide), hA_eq, nI_clamp hl]
  have e7 : ((yN Kb ps.length x v y).1.2 947).2 = upd (Kb.1.2 947).2 ps.length v := by
    show ((hp_sA (hp_sA (hp_sA Kb.1 950 (nI ps.length) x) 947 (nI ps.length) v) 948 (nI ps.length) y).2 947).2 = _
    rw [hA_ne (by decide), hA_eq, nI_clamp hl, hA_ne (by decide)]
  have e8 : ((yN Kb ps.length x v y).1.2 948).2 = upd (Kb.1.2 948).2 ps.length y := by
    show ((hp_sA (hp_sA (hp_sA Kb.1 950 (nI ps.length) x) 947 (nI ps.length) v) 948 (nI ps.length) y).2 948).2 = _
    rw [hA_eq, nI_clamp hl, hA_ne (by decide), hA_ne (by decide)]
  refine ⟨by rw [List.length_append]; exact hI_eq, fun i p hp => ?_⟩
  rw [e0, e7, e8]
  rcases rw_push_g hp with z | ⟨z1, z2⟩
  · have : i < ps.length := (List.getElem?_eq_some_iff.mp z).1
    rw [pk_un (by omega), pk_un (by omega), pk_un (by omega)]
    exact h.2 i p z
  · subst z1 z2
    rw [pk_us, pk_us, pk_us]
    exact ⟨rfl, hv, hy⟩
/-- what the types become -/
theorem yI.x {Kb : kS} {ps : List (Int32 × qT)} {kk : Int32 → Nat} (hk0 : ∀ c, c < 0 → kk c = 0) (h : kI Z G L Kb) (har : ty_ar kk Kb.2.2.1 Kb.2.1) (y : yI Kb ps) (hl : ps.length ≤ 250) (sc : r_sc Kb) : xI Kb Kb.2.1 (ps_s ps) := by
  have n8 := h.1.1.2
  refine ⟨ps.length, y.1, hl, sc.2.1, sc.2.2.1, fun a ha hc => ?_⟩
  have key : ∀ i p, ps[i]? = some p → ((Kb.1.2 947).2 i = nI a ↔ -1 - p.1 = (Kb.2.2.1 a).1) := by
    intro i p hp
    obtain ⟨-, z, -⟩ := y.2 i p hp
    rcases z with ⟨a', z1, z2, z3⟩ | ⟨z1, z2⟩
    · rw [z3]
      refine ⟨fun e => ?_, fun e => ?_⟩
      · have := (nI_eq (by omega) (by omega)).mp e
        rw [← this, z2]
      · rw [ty_vinj hk0 h har ha z1 hc (z2.trans e)]
    · rw [z2]
      refine ⟨fun e => absurd e.symm (nI_ne_m1 (by omega)), fun e => absurd e.symm (z1 a ha)⟩
  cases hσ : ps_s ps (Kb.2.2.1 a).1 with
  | none =>
    refine Or.inl ⟨rfl, fun i hi e => ?_⟩
    have hp := List.getElem?_eq_getElem hi
    exact ps_s_no hσ i _ hp ((key i _ hp).mp e)
  | some u =>
    obtain ⟨i, p, h1, h2, h3, h4⟩ := ps_s_at hσ
    have il := (List.getElem?_eq_some_iff.mp h1).1
    refine Or.inr ⟨i, u, il, (key i p h1).mpr h2, fun i' hi' e => ?_, rfl, ?_⟩
    · have hp := List.getElem?_eq_getElem (show i' < ps.length by omega)
      exact h4 i' _ hi' hp ((key i' _ hp).mp e)
    · rw [← h3]; exact (y.2 i p h1).2.2
/-- the numbers are looked through -/
theorem y_look {f0 d p : Nat} {Kb : kS} {ps : List (Int32 × qT)} {x1 x2 x3 x5 x6 x : Int32} (w : hp_w B ρ) (y : yI Kb ps) (hl : ps.length < 251) (sc : r_sc Kb) : ∀ (j i : Nat) (b : Bool) (g : Nat), ps.length - i = j → i ≤ ps.length → j + 1 ≤ g →
    ∃ b', am_go B sa am_dfl (am_call B sa am_dfl am_tb (f0 + 1) (d + 1)) am_r167 g 112 [(0, .ref (ρ.1 9)), (1, .int x1), (2, .int x2), (3, .int x3), (4, .int x), (5, .int x5), (6, .int x6), (7, .int (nI i))] [] (hp_S sa ρ (kP Kb p b).1) = am_go B sa am_dfl (am_call B sa am_dfl am_tb (f0 + 1) (d + 1)) am_r167 (g - j - 1) 47 [(0, .ref (ρ.1 9)), (1, .int x1), (2, .int x2), (3, .int (x3 + 1))] [] (hp_S sa ρ (kP (yN Kb ps.length x x6 x5) p b').1) ∧ (b' = false ↔ b = false ∧ ∀ i' q, i ≤ i' → ps[i']? = some q → q.1 ≠ x) := by
  intro j
  induction j with
  | zero =>
    intro i b g hj hi hg
    obtain ⟨g, rfl⟩ : ∃ z, g = z + 1 := ⟨g - 1, by omega⟩
    have ei : i = ps.length := by omega
    have e46 : (kP Kb p b).1.1 946 = nI ps.length := (kP_1 (by decide) (by decide)).trans y.1
    have ck : ∀ (Q : hp_P) r, (Q.2 r).1 = 256 → hp_ck Q r (nI ps.length) = some () := fun Q r e => hp_ck_nI (by rw [e]; omega) (by omega)
    have k1 : hp_ck (kP Kb p b).1 950 (nI ps.length) = some () := ck _ _ sc.2.2.2.1
    have k2 : ∀ v, hp_ck (hp_sA (kP Kb p b).1 950 (nI ps.length) v) 947 (nI ps.length) = some () := fun v => ck _ _ (by rw [hA_len]; exact sc.2.1)
    have k3 : ∀ v u, hp_ck (hp_sA (hp_sA (kP Kb p b).1 950 (nI ps.length) v) 947 (nI ps.length) u) 948 (nI ps.length) = some () := fun v u => ck _ _ (by rw [hA_len, hA_len]; exact sc.2.2.1)
    refine ⟨b, ?_, fun z => ⟨z, fun i' q h1 h2 => ?_⟩, fun z => z.1⟩
    · rw [am_s167_112]
      simp only [hg_946 w, e46, Option.bind_some, am_c_ge, hr_950 w, ht_950 w, k1, hA_I, hr_947 w, ht_947 w, k2, hr_948 w, ht_948 w, k3, hs_946 w, nI_1]
      rw [ei, if_pos (Int32.le_refl _), yN_kP]
      rfl
    · have := (List.getElem?_eq_some_iff.mp h2).1
      omega
  | succ j ih =>
    intro i b g hj hi hg
    obtain ⟨g, rfl⟩ : ∃ z, g = z + 1 := ⟨g - 1, by omega⟩
    have il : i < ps.length := by omega
    have hp := List.getElem?_eq_getElem il
    have e46 : (kP Kb p b).1.1 946 = nI ps.length := (kP_1 (by decide) (by decide)).trans y.1
    have r50 : hp_rd (kP Kb p b).1 950 (nI i) = some (ps[i]).1 := by rw [hp_rd_kP, hp_rd_nI (by rw [sc.2.2.2.1]; omega) (by omega), (y.2 i _ hp).1]
    rw [am_s167_112]
    simp only [hg_946 w, e46, Option.bind_some, am_c_ge, am_c_eq, hr_950 w, hl_950 w, r50, hx_9 w]
    rw [if_neg (nI_ge il (by omega)), nI_1, show g + 1 - (j + 1) - 1 = g - j - 1 by omega]
    have sp : ∀ {b1 : Bool}, (b1 = false ∧ ∀ i' q, i + 1 ≤ i' → ps[i']? = some q → q.1 ≠ x) → (ps[i]).1 ≠ x → (b1 = false ∧ ∀ i' q, i ≤ i' → ps[i']? = some q → q.1 ≠ x) := by
      intro b1 z z'
      refine ⟨z.1, fun i' q h1 h2 => ?_⟩
      by_cases e : i' = i
      · rw [e, hp] at h2; rw [← Option.some.inj h2]; exact z'
      · exact z.2 i' q (by omega) h2
    by_cases e : (ps[i]).1 = x
    · rw [if_pos e, m_need0 w kP_45, am_i_some, show (1 : Int32) = bI true from rfl, kP_bad]
      obtain ⟨b', a1, a2⟩ := ih (i + 1) true g (by omega) (by omega) (by omega)
      refine ⟨b', a1, fun z => absurd (a2.mp z).1 (by decide), fun z => absurd e (z.2 i _ (Nat.le_refl _) hp)⟩
    · rw [if_neg e, m_need1 w kP_45 (by decide), am_i_some]
      obtain ⟨b', a1, a2⟩ := ih (i + 1) b g (by omega) (by omega) (by omega)
      exact ⟨b', a1, fun z => sp (a2.mp z) e, fun z => a2.mpr ⟨z.1, fun i' q h1 h2 => z.2 i' q (by omega) h2⟩⟩
end S5
