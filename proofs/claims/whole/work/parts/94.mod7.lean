/-! THE REFERENCE, 7: fits -/
def f_S : Nat → Bool := fun r => decide (946 ≤ r ∧ r ≤ 948)
/-- what variables have become so far -/
def fI (P : hp_P) (n : Nat) (T : Nat → Int32 × Int32 × Int32) (m : Nat) (μ : Int32 → Option qT) : Prop :=
  P.1 946 = nI m ∧ m ≤ 200 ∧ (∀ k, k < m → ∃ a u, a < n ∧ (P.2 947).2 k = nI a ∧ μ (T a).1 = some u ∧ pl n T ((P.2 948).2 k) u) ∧ ∀ a, a < n → (T a).1 < 0 → (∀ k, k < m → (P.2 947).2 k ≠ nI a) → μ (T a).1 = none
section KF
variable {Z : Prop} {G : qT → Prop} {L : List qM} {sa : Nat → Nat} {B : Nat} {ρ : hp_L} {K : kS} {P : hp_P} {m : Nat} {μ : Int32 → Option qT}
/-- a variable's row -/
theorem ty_vrow {kk : Int32 → Nat} (hk0 : ∀ c, c < 0 → kk c = 0) (h : kI Z G L K) (har : ty_ar kk K.2.2.1 K.2.1) {a : Nat} (ha : a < K.2.1) (hc : (K.2.2.1 a).1 < 0) : K.2.2.1 a = ((K.2.2.1 a).1, -1, -1) := by
  have := har a ha
  rw [ct_at h.wf h.n31 ha, q_ar_N, hk0 _ hc] at this
  have e1 := this.1.mp rfl
  have e2 := this.2.1.mp (by decide)
  have ne : ∀ {x : Int32}, ty_in a x → ct K.2.2.1 K.2.1 x = qE → x = -1 := fun {x} hx e => by
    rcases hx with z | ⟨i, i1, rfl⟩
    · exact z
    · exact absurd e (ct_ne h.wf h.n31 (by omega))
  exact Prod.ext rfl (Prod.ext (ne (h.wf a ha).1 e1) (ne (h.wf a ha).2 e2))
theorem ty_vinj {kk : Int32 → Nat} (hk0 : ∀ c, c < 0 → kk c = 0) (h : kI Z G L K) (har : ty_ar kk K.2.2.1 K.2.1) {a a' : Nat} (ha : a < K.2.1) (ha' : a' < K.2.1) (hc : (K.2.2.1 a).1 < 0) (e : (K.2.2.1 a').1 = (K.2.2.1 a).1) : a' = a := by
  have e1 := ty_vrow hk0 h har ha hc
  have e2 := ty_vrow hk0 h har ha' (by rw [e]; exact hc)
  have : K.2.2.1 a' = K.2.2.1 a := by rw [e1, e2, e]
  rcases Nat.lt_trichotomy a' a with z | z | z
  · exact absurd this (h.di a' a z ha)
  · exact z
  · exact absurd this.symm (h.di a a' z ha')
theorem k_fits_loop {kk : Int32 → Nat} {cl : am_F} {a b : Nat} (hk0 : ∀ c, c < 0 → kk c = 0) (w : hp_w B ρ) (h : kI Z G L K) (har : ty_ar kk K.2.2.1 K.2.1) (fr : mfr f_S K.1 P) (l7 : (P.2 947).1 = 256) (l8 : (P.2 948).1 = 256) (hm : fI P K.2.1 K.2.2.1 m μ) (hm2 : m < 200) (ha : a < K.2.1) (hb : b < K.2.1) (hc : (K.2.2.1 a).1 < 0) : ∀ (j k f : Nat), m - k = j → k ≤ m → (∀ k', k' < k → (P.2 947).2 k' ≠ nI a) → j + 1 ≤ f →
    ∃ P', am_go B sa am_dfl cl am_r129 f 11 [(0, .ref (ρ.1 9)), (1, .int (nI a)), (2, .int (nI b)), (3, .int (nI k))] [] (hp_S sa ρ P) = some (some (.int (bI (q_mt (ct K.2.2.1 K.2.1 (nI a)) (ct K.2.2.1 K.2.1 (nI b)) μ).isSome)), hp_S sa ρ P') ∧ mfr f_S K.1 P' ∧ ∀ μ', q_mt (ct K.2.2.1 K.2.1 (nI a)) (ct K.2.2.1 K.2.1 (nI b)) μ = some μ' → ∃ m', fI P' K.2.1 K.2.2.1 m' μ' ∧ m' ≤ m + 1 := by
  have n8 := h.1.1.2
  have plb : pl K.2.1 K.2.2.1 (nI b) (ct K.2.2.1 K.2.1 (nI b)) := ⟨b, hb, rfl, rfl⟩
  obtain ⟨f1, f2, f3, f4⟩ := hm
  have eq : q_mt (ct K.2.2.1 K.2.1 (nI a)) (ct K.2.2.1 K.2.1 (nI b)) μ = (match μ (K.2.2.1 a).1 with
      | none => some (fun x => if x = (K.2.2.1 a).1 then some (ct K.2.2.1 K.2.1 (nI b)) else μ x)
      | some u => @ite _ (u = ct K.2.2.1 K.2.1 (nI b)) (Classical.propDecidable _) (some μ) none) := by
    conv => lhs; rw [ct_at h.wf h.n31 ha]
    exact q_mt_v hc
  intro j
  induction j with
  | zero =>
    intro k f hj hk hb' hf
    obtain ⟨f, rfl⟩ : ∃ g, f = g + 1 := ⟨f - 1, by omega⟩
    have ekm : k = m := by omega
    subst ekm
    have en := f4 a ha hc hb'
    rw [eq, en]
    rw [am_s129_11]
    have ck : ∀ (Q : hp_P) r, (Q.2 r).1 = 256 → hp_ck Q r (nI k) = some () := fun Q r e => hp_ck_nI (by rw [e]; omega) (by omega)
    have k7 : hp_ck P 947 (nI k) = some () := ck _ _ l7
    have k8 : ∀ v, hp_ck (hp_sA P 947 (nI k) v) 948 (nI k) = some () := fun v => ck _ _ (by rw [hA_len]; exact l8)
    simp only [hg_946 w, f1, Option.bind_some, am_c_ge, hr_947 w, ht_947 w, k7, hr_948 w, hA_I, ht_948 w, k8, hs_946 w, nI_1]
    rw [if_pos (Int32.le_refl _), am_rz_1]
    refine ⟨_, rfl, fr.tr (((mfr.sA rfl).tr (mfr.sA rfl)).tr (mfr.sI rfl)), fun μ' e => ?_⟩
    have e := Option.some.inj e
    subst e
    have g7 : ((hp_sI (hp_sA (hp_sA P 947 (nI k) (nI a)) 948 (nI k) (nI b)) 946 (nI (k + 1))).2 947).2 = upd (P.2 947).2 k (nI a) := by
      simp only [hI_A, hp_sA, nI_clamp (show k < 2 ^ 31 by omega)]; rfl
    have g8 : ((hp_sI (hp_sA (hp_sA P 947 (nI k) (nI a)) 948 (nI k) (nI b)) 946 (nI (k + 1))).2 948).2 = upd (P.2 948).2 k (nI b) := by
      simp only [hI_A, hp_sA, nI_clamp (show k < 2 ^ 31 by omega)]; rfl
    refine ⟨k + 1, ⟨hI_eq, by omega, fun i hi => ?_, fun a' ha' hc' hne => ?_⟩, Nat.le_refl _⟩
    · rw [g7, g8]
      by_cases z : i = k
      · rw [z, pk_us, pk_us]
        exact ⟨a, _, ha, rfl, if_pos rfl, plb⟩
      · rw [pk_un z, pk_un z]
        obtain ⟨a', u, z1, z2, z3, z4⟩ := f3 i (by omega)
        refine ⟨a', u, z1, z2, ?_, z4⟩
        dsimp only
        rw [if_neg (fun y => ?_)]
        · exact z3
        · rw [y, en] at z3; cases z3
    · rw [g7] at hne
      have h1 := hne k (by omega)
      rw [pk_us] at h1
      dsimp only
      rw [if_neg (fun y => h1 (by rw [ty_vinj hk0 h har ha ha' hc y]))]
      exact f4 a' ha' hc' fun i hi => by
        have := hne i (by omega)
        rw [pk_un (by omega)] at this
        exact this
  | succ j ih =>
    intro k f hj hk hb' hf
    obtain ⟨f, rfl⟩ : ∃ g, f = g + 1 := ⟨f - 1, by omega⟩
    rw [am_s129_11]
    have r7 : hp_rd P 947 (nI k) = some ((P.2 947).2 k) := hp_rd_nI (by rw [l7]; omega) (by omega)
    have r8 : hp_rd P 948 (nI k) = some ((P.2 948).2 k) := hp_rd_nI (by rw [l8]; omega) (by omega)
    simp only [hg_946 w, f1, Option.bind_some, am_c_ge, am_c_ne, hr_947 w, hl_947 w, r7, hr_948 w, hl_948 w, r8]
    rw [if_neg (nI_ge (show k < m by omega) (by omega)), nI_1]
    by_cases e : (P.2 947).2 k = nI a
    · rw [if_neg (fun z => z e)]
      obtain ⟨a', u, z1, z2, z3, z4⟩ := f3 k (by omega)
      have : a' = a := (nI_eq (by omega) (by omega)).mp (z2.symm.trans e)
      rw [this] at z3
      rw [eq, z3]
      dsimp only
      by_cases eu : u = ct K.2.2.1 K.2.1 (nI b)
      · have : (P.2 948).2 k = nI b := z4.eq (by rw [eu]; exact plb) h.wf h.di h.n31
        rw [if_pos eu, if_neg (fun z => z this), am_rz_1]
        exact ⟨P, rfl, fr, fun μ' e => ⟨m, by rw [← Option.some.inj e]; exact ⟨f1, f2, f3, f4⟩, by omega⟩⟩
      · have : (P.2 948).2 k ≠ nI b := fun z => eu (by rw [← z]; exact z4.ct.symm)
        rw [if_neg eu, if_pos this, am_rz_0]
        exact ⟨P, rfl, fr, fun μ' e => by (cases e)⟩
    · rw [if_pos e]
      exact ih (k + 1) f (by omega) (by omega) (fun k' hk' => by
        by_cases z : k' = k
        · rw [z]; exact e
        · exact hb' k' (by omega)) (by omega)
theorem q_sz_pos {c : Int32} {l r : qT} : q_sz (qN c l r) = 1 + q_sz l + q_sz r := rfl
set_option maxHeartbeats 2000000 in
/-- fits -/
theorem k_fits {f : Nat} {kk : Int32 → Nat} (hk0 : ∀ c, c < 0 → kk c = 0) (w : hp_w B ρ) (h : kI Z G L K) (har : ty_ar kk K.2.2.1 K.2.1) (l7 : (K.1.2 947).1 = 256) (l8 : (K.1.2 948).1 = 256) (hf : 300 ≤ f) : ∀ (a b d m : Nat) (P : hp_P) (μ : Int32 → Option qT), a < K.2.1 → b < K.2.1 → mfr f_S K.1 P → fI P K.2.1 K.2.2.1 m μ → m + q_sz (ct K.2.2.1 K.2.1 (nI a)) ≤ 200 → q_ht (ct K.2.2.1 K.2.1 (nI a)) ≤ d →
    ∃ P', am_call B sa am_dfl am_tb f (d + 1) 129 [.ref (ρ.1 9), .int (nI a), .int (nI b)] (hp_S sa ρ P) = some (some (.int (bI (q_mt (ct K.2.2.1 K.2.1 (nI a)) (ct K.2.2.1 K.2.1 (nI b)) μ).isSome)), hp_S sa ρ P') ∧ mfr f_S K.1 P' ∧ ∀ μ', q_mt (ct K.2.2.1 K.2.1 (nI a)) (ct K.2.2.1 K.2.1 (nI b)) μ = some μ' → ∃ m', fI P' K.2.1 K.2.2.1 m' μ' ∧ m' ≤ m + q_sz (ct K.2.2.1 K.2.1 (nI a)) := by
  obtain ⟨f, rfl⟩ : ∃ g, f = g + 1 := ⟨f - 1, by omega⟩
  intro a
  induction a using Nat.strongRecOn with
  | ind a ih =>
    intro b d m P μ ha hb fr hm hsz hd
    have n8 := h.1.1.2
    have hP : ∀ {P : hp_P}, mfr f_S K.1 P → kI Z G L (P, K.2) := fun {P} fr => h.cg fun r hr => fr.1 r (by
      unfold ks_S at hr
      unfold f_S
      refine decide_eq_false fun z => ?_
      rw [decide_eq_false (by omega), decide_eq_false (by omega), decide_eq_false (by omega)] at hr
      exact absurd hr (by decide))
    obtain ⟨r0, r1, r2⟩ := (hP fr).rdT ha
    obtain ⟨s0, s1, s2⟩ := (hP fr).rdT hb
    have e0 := ct_at h.wf h.n31 ha
    have eb := ct_at h.wf h.n31 hb
    have e0s : q_sz (ct K.2.2.1 K.2.1 (nI a)) = 1 + q_sz (ct K.2.2.1 K.2.1 (K.2.2.1 a).2.1) + q_sz (ct K.2.2.1 K.2.1 (K.2.2.1 a).2.2) := by rw [e0]; rfl
    have e0h : q_ht (ct K.2.2.1 K.2.1 (nI a)) = 1 + max (q_ht (ct K.2.2.1 K.2.1 (K.2.2.1 a).2.1)) (q_ht (ct K.2.2.1 K.2.1 (K.2.2.1 a).2.2)) := by rw [e0]; rfl
    rw [am_c_129, am_s129_0]
    simp only [hr_905 w, hl_905 w, r0, s0, hr_906 w, hl_906 w, r1, s1, hr_907 w, hl_907 w, r2, s2, Option.bind_some, am_c_ge, am_c_ne, am_c_eq]
    by_cases hc : (K.2.2.1 a).1 < 0
    · rw [if_neg (fun z => Int32.not_lt.mpr z hc)]
      obtain ⟨P', g1, g2, g3⟩ := k_fits_loop (sa := sa) (cl := am_call B sa am_dfl am_tb (f + 1) d) hk0 w h har fr (by rw [fr.2]; exact l7) (by rw [fr.2]; exact l8) hm (by omega) ha hb hc m 0 f (by omega) (by omega) (fun k' z => absurd z (Nat.not_lt_zero _)) (by have := hm.2.1; omega)
      refine ⟨P', g1, g2, fun μ' e => ?_⟩
      obtain ⟨m', z1, z2⟩ := g3 μ' e
      exact ⟨m', z1, by omega⟩
    · rw [if_pos (Int32.not_lt.mp hc)]
      have eq : q_mt (ct K.2.2.1 K.2.1 (nI a)) (ct K.2.2.1 K.2.1 (nI b)) μ = if (K.2.2.1 a).1 = (K.2.2.1 b).1 then (q_mt (ct K.2.2.1 K.2.1 (K.2.2.1 a).2.1) (ct K.2.2.1 K.2.1 (K.2.2.1 b).2.1) μ).bind (fun μ => q_mt (ct K.2.2.1 K.2.1 (K.2.2.1 a).2.2) (ct K.2.2.1 K.2.1 (K.2.2.1 b).2.2) μ) else none := by
        rw [e0, eb]
        exact q_mt_c hc
      by_cases em : (K.2.2.1 a).1 = (K.2.2.1 b).1
      · rw [if_neg (fun z => z em)]
        rw [if_pos em] at eq
        have ara := har a ha
        have arb := har b hb
        rw [e0, q_ar_N] at ara
        rw [eb, q_ar_N, ← em] at arb
        have ne : ∀ {x : Int32} {i : Nat}, i < K.2.1 → ty_in i x → (ct K.2.2.1 K.2.1 x = qE ↔ x = -1) := fun {x i} hi hx => by
          refine ⟨fun e => ?_, fun e => by rw [e, ct_m1]⟩
          rcases hx with z | ⟨j, j1, rfl⟩
          · exact z
          · exact absurd e (ct_ne h.wf h.n31 (by omega))
        have la := ne ha (h.wf a ha).1
        have lb := ne hb (h.wf b hb).1
        have ra := ne ha (h.wf a ha).2
        have rb := ne hb (h.wf b hb).2
        have ll : (K.2.2.1 a).2.1 = -1 ↔ (K.2.2.1 b).2.1 = -1 := by rw [← la, ← lb, ← ara.1, ← arb.1]
        have rr : (K.2.2.1 a).2.2 = -1 ↔ (K.2.2.1 b).2.2 = -1 := by rw [← ra, ← rb, ← ara.2.1, ← arb.2.1]
        -- the right part
        have right : ∀ {P : hp_P} {m : Nat} {μ : Int32 → Option qT}, (K.2.2.1 a).2.2 ≠ -1 → mfr f_S K.1 P → fI P K.2.1 K.2.2.1 m μ → m + q_sz (ct K.2.2.1 K.2.1 (K.2.2.1 a).2.2) ≤ 200 → ∃ d', d = d' + 1 ∧ ∃ P', am_call B sa am_dfl am_tb (f + 1) (d' + 1) 129 [.ref (ρ.1 9), .int (K.2.2.1 a).2.2, .int (K.2.2.1 b).2.2] (hp_S sa ρ P) = some (some (.int (bI (q_mt (ct K.2.2.1 K.2.1 (K.2.2.1 a).2.2) (ct K.2.2.1 K.2.1 (K.2.2.1 b).2.2) μ).isSome)), hp_S sa ρ P') ∧ mfr f_S K.1 P' ∧ ∀ μ', q_mt (ct K.2.2.1 K.2.1 (K.2.2.1 a).2.2) (ct K.2.2.1 K.2.1 (K.2.2.1 b).2.2) μ = some μ' → ∃ m', fI P' K.2.1 K.2.2.1 m' μ' ∧ m' ≤ m + q_sz (ct K.2.2.1 K.2.1 (K.2.2.1 a).2.2) := by
          intro P m μ hne fr hm hs
          obtain ⟨i, i1, i2⟩ := ((h.wf a ha).2).resolve_left hne
          obtain ⟨j, j1, j2⟩ := ((h.wf b hb).2).resolve_left (fun z => hne (rr.mpr z))
          refine ⟨d - 1, by omega, ?_⟩
          have := ih i i1 j (d - 1) m P μ (by omega) (by omega) fr hm (by rw [← i2]; exact hs) (by rw [← i2]; omega)
          rw [← i2, ← j2] at this
          exact this
        have ge : ∀ {x : Bool} {P : hp_P}, (if bI x = 0 then am_rz 0 (hp_S sa ρ P) else am_rz 1 (hp_S sa ρ P)) = some (some (.int (bI x)), hp_S sa ρ P) := fun {x P} => by
          cases x with
          | true => rw [if_neg (by decide)]; exact am_rz_1
          | false => rw [if_pos (show bI false = 0 from rfl)]; exact am_rz_0
        by_cases el : (K.2.2.1 a).2.1 = -1
        · rw [if_pos el]
          have eql : q_mt (ct K.2.2.1 K.2.1 (K.2.2.1 a).2.1) (ct K.2.2.1 K.2.1 (K.2.2.1 b).2.1) μ = some μ := by rw [el, ct_m1]; rfl
          rw [eql, Option.bind_some] at eq
          rw [eq]
          by_cases er : (K.2.2.1 a).2.2 = -1
          · rw [if_pos er, am_rz_1]
            have eqr : q_mt (ct K.2.2.1 K.2.1 (K.2.2.1 a).2.2) (ct K.2.2.1 K.2.1 (K.2.2.1 b).2.2) μ = some μ := by rw [er, ct_m1]; rfl
            rw [eqr]
            exact ⟨P, rfl, fr, fun μ' e => ⟨m, by rw [← Option.some.inj e]; exact hm, by omega⟩⟩
          · rw [if_neg er]
            obtain ⟨d', rfl, P', g1, g2, g3⟩ := right er fr hm (by omega)
            simp only [hx_9 w, Option.bind_some]
            rw [g1, am_i_some, ge]
            refine ⟨P', rfl, g2, fun μ' e => ?_⟩
            obtain ⟨m', z1, z2⟩ := g3 μ' e
            exact ⟨m', z1, by omega⟩
        · rw [if_neg el]
          obtain ⟨i, i1, i2⟩ := ((h.wf a ha).1).resolve_left el
          obtain ⟨j, j1, j2⟩ := ((h.wf b hb).1).resolve_left (fun z => el (ll.mpr z))
          obtain ⟨d, rfl⟩ : ∃ e, d = e + 1 := ⟨d - 1, by omega⟩
          have := ih i i1 j d m P μ (by omega) (by omega) fr hm (by rw [← i2]; omega) (by rw [← i2]; omega)
          rw [← i2, ← j2] at this
          obtain ⟨P1, g1, g2, g3⟩ := this
          simp only [hx_9 w, Option.bind_some]
          rw [g1, am_i_some, eq]
          cases hq : q_mt (ct K.2.2.1 K.2.1 (K.2.2.1 a).2.1) (ct K.2.2.1 K.2.1 (K.2.2.1 b).2.1) μ with
          | none =>
            rw [Option.bind_none]
            rw [if_pos (show bI (none : Option (Int32 → Option qT)).isSome = 0 from rfl), am_rz_0]
            exact ⟨P1, rfl, g2, fun μ' e => by (cases e)⟩
          | some μ1 =>
            rw [Option.bind_some]
            rw [if_neg (show ¬ bI (some μ1).isSome = 0 from fun z => absurd (show (1 : Int32) = 0 from z) (by decide))]
            obtain ⟨m1, z1, z2⟩ := g3 μ1 hq
            obtain ⟨-, -, t2⟩ := (hP g2).rdT ha
            obtain ⟨-, -, u2⟩ := (hP g2).rdT hb
            simp only [hr_907 w, hl_907 w, t2, u2, Option.bind_some]
            by_cases er : (K.2.2.1 a).2.2 = -1
            · rw [if_pos er, am_rz_1]
              have eqr : q_mt (ct K.2.2.1 K.2.1 (K.2.2.1 a).2.2) (ct K.2.2.1 K.2.1 (K.2.2.1 b).2.2) μ1 = some μ1 := by rw [er, ct_m1]; rfl
              rw [eqr]
              exact ⟨P1, rfl, g2, fun μ' e => ⟨m1, by rw [← Option.some.inj e]; exact z1, by omega⟩⟩
            · rw [if_neg er]
              obtain ⟨d', hd', P', q1, q2, q3⟩ := right er g2 z1 (by omega)
              obtain rfl : d = d' := by omega
              simp only [hx_9 w, Option.bind_some]
              rw [q1, am_i_some, ge]
              refine ⟨P', rfl, q2, fun μ' e => ?_⟩
              obtain ⟨m', y1, y2⟩ := q3 μ' e
              exact ⟨m', y1, by omega⟩
      · rw [if_pos em, am_rz_0]
        rw [if_neg em] at eq
        rw [eq]
        exact ⟨P, rfl, fr, fun μ' e => by (cases e)⟩
end KF
