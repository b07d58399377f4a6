/-! MARKS AND IMAGES, by trees -/
section MK
variable {T : Nat → Int32 × Int32 × Int32} {n : Nat}
theorem ty_addm_t {i : Int32} {M : Nat → Bool} {j : Nat} : ty_addm i M j = true ↔ (i ≠ -1 ∧ j = i.toNatClampNeg) ∨ M j = true := by
  unfold ty_addm
  by_cases e : i = -1
  · rw [if_pos e]
    exact ⟨Or.inr, fun z => z.elim (fun q => absurd e q.1) id⟩
  · rw [if_neg e, Bool.or_eq_true, beq_iff_eq]
    exact ⟨fun z => z.imp (fun q => ⟨e, q⟩) id, fun z => z.imp (fun q => q.2) id⟩
theorem ty_addm_at {a : Nat} {M : Nat → Bool} {j : Nat} (ha : a < 2 ^ 31) : ty_addm (nI a) M j = true ↔ j = a ∨ M j = true := by
  rw [ty_addm_t, nI_clamp ha]
  exact ⟨fun z => z.imp (fun q => q.2) id, fun z => z.imp (fun q => ⟨nI_ne_m1 ha, q⟩) id⟩
/-- which types are marked when marks have spread -/
theorem ty_sp_t (hw : ty_wf T n) (hd : ty_di T n) (hn : n < 2 ^ 31) : ∀ (k : Nat) (M : Nat → Bool), k ≤ n → ∀ i, i < n → (ty_sp T k M i = true ↔ M i = true ∨ ∃ j, j < k ∧ M j = true ∧ q_sub (ct T n (nI i)) (ct T n (nI j)))
  | 0, M, _, i, hi => ⟨Or.inl, fun z => z.elim id fun ⟨j, hj, _⟩ => absurd hj (Nat.not_lt_zero j)⟩
  | k + 1, M, hk, i, hi => by
    obtain ⟨w1, w2⟩ := hw k (by omega)
    have hc := ct_at hw hn (show k < n by omega)
    show ty_sp T k (if M k = true then ty_addm (T k).2.2 (ty_addm (T k).2.1 M) else M) i = true ↔ _
    rw [ty_sp_t hw hd hn k _ (by omega) i hi]
    by_cases e : M k = true
    · rw [if_pos e]
      have mem : ∀ {j : Nat}, j < n → (ty_addm (T k).2.2 (ty_addm (T k).2.1 M) j = true ↔ ((T k).2.2 = nI j ∨ (T k).2.1 = nI j) ∨ M j = true) := fun {j} hj => by
        rw [ty_addm_t, ty_addm_t]
        have one : ∀ {x : Int32}, ty_in k x → ((x ≠ -1 ∧ j = x.toNatClampNeg) ↔ x = nI j) := fun {x} hx => by
          rcases hx with rfl | ⟨a, ha, rfl⟩
          · exact ⟨fun z => absurd rfl z.1, fun z => absurd z.symm (nI_ne_m1 (by omega))⟩
          · rw [nI_clamp (by omega)]
            exact ⟨fun z => by rw [z.2], fun z => ⟨nI_ne_m1 (by omega), ((nI_eq (by omega) (by omega)).mp z).symm⟩⟩
        rw [one w1, one w2]
        constructor
        · rintro (z | z | z)
          · exact Or.inl (Or.inl z)
          · exact Or.inl (Or.inr z)
          · exact Or.inr z
        · rintro ((z | z) | z)
          · exact Or.inl z
          · exact Or.inr (Or.inl z)
          · exact Or.inr (Or.inr z)
      have ch : ∀ {j : Nat}, j < n → ((T k).2.2 = nI j ∨ (T k).2.1 = nI j) → ∀ {t : qT}, q_sub t (ct T n (nI j)) → q_sub t (ct T n (nI k)) := fun {j} hj z {t} ht => by
        rw [hc, q_sub_N]
        rcases z with z | z
        · rw [← z] at ht; exact Or.inr (Or.inr ht)
        · rw [← z] at ht; exact Or.inr (Or.inl ht)
      have rf : ∀ {j : Nat}, j < n → q_sub (ct T n (nI j)) (ct T n (nI j)) := fun {j} hj => by rw [ct_at hw hn hj]; exact q_sub_rf
      constructor
      · rintro (z | ⟨j, j1, j2, j3⟩)
        · rcases (mem hi).mp z with q | q
          · exact Or.inr ⟨k, Nat.lt_succ_self k, e, ch hi q (rf hi)⟩
          · exact Or.inl q
        · rcases (mem (show j < n by omega)).mp j2 with q | q
          · exact Or.inr ⟨k, Nat.lt_succ_self k, e, ch (by omega) q j3⟩
          · exact Or.inr ⟨j, by omega, q, j3⟩
      · rintro (z | ⟨j, j1, j2, j3⟩)
        · exact Or.inl ((mem hi).mpr (Or.inr z))
        · by_cases ej : j = k
          · rw [ej, hc, q_sub_N] at j3
            rcases j3 with q | q | q
            · have : nI i = nI k := ct_inj hw hd hn n _ _ (Nat.le_refl _) (Or.inr ⟨i, hi, rfl⟩) (Or.inr ⟨k, by omega, rfl⟩) (by rw [q, hc])
              have : i = k := (nI_eq (by omega) (by omega)).mp this
              rw [this]
              exact Or.inl ((mem (by omega)).mpr (Or.inr e))
            · rcases w1 with y | ⟨l, l1, l2⟩
              · rw [y, ct_m1] at q; exact q.elim
              · rw [l2] at q
                exact Or.inr ⟨l, l1, (mem (by omega)).mpr (Or.inl (Or.inr l2)), q⟩
            · rcases w2 with y | ⟨l, l1, l2⟩
              · rw [y, ct_m1] at q; exact q.elim
              · rw [l2] at q
                exact Or.inr ⟨l, l1, (mem (by omega)).mpr (Or.inl (Or.inl l2)), q⟩
          · exact Or.inr ⟨j, by omega, (mem (by omega)).mpr (Or.inr j2), j3⟩
    · rw [if_neg e]
      constructor
      · exact fun z => z.imp id fun ⟨j, j1, j2⟩ => ⟨j, by omega, j2⟩
      · refine fun z => z.imp id fun ⟨j, j1, j2, j3⟩ => ⟨j, ?_, j2, j3⟩
        have : j ≠ k := fun q => e (by rw [← q]; exact j2)
        omega
theorem ty_addL_t (hn : n < 2 ^ 31) : ∀ (L : List rwS) (M : Nat → Bool), (∀ s ∈ L, rv n s) → ∀ i, i < n → (ty_addL L M i = true ↔ M i = true ∨ ∃ s ∈ L, s.2 = nI i)
  | [], M, _, i, _ => ⟨Or.inl, fun z => z.elim id fun ⟨s, hs, _⟩ => by cases hs⟩
  | s :: L, M, hv, i, hi => by
    show ty_addL L (ty_addm s.2 M) i = true ↔ _
    obtain ⟨a, a1, a2⟩ := hv s List.mem_cons_self
    rw [ty_addL_t hn L _ (fun x hx => hv x (List.mem_cons_of_mem _ hx)) i hi, a2, ty_addm_at (by omega)]
    constructor
    · rintro ((z | z) | ⟨s', z1, z2⟩)
      · exact Or.inr ⟨s, List.mem_cons_self, by rw [a2, z]⟩
      · exact Or.inl z
      · exact Or.inr ⟨s', List.mem_cons_of_mem _ z1, z2⟩
    · rintro (z | ⟨s', z1, z2⟩)
      · exact Or.inl (Or.inr z)
      · rcases List.mem_cons.mp z1 with rfl | z1
        · exact Or.inl (Or.inl ((nI_eq (by omega) (by omega)).mp (by rw [← a2, z2])).symm)
        · exact Or.inr ⟨s', z1, z2⟩
/-- marks of the types of a stretch -/
noncomputable def ty_mL (T : Nat → Int32 × Int32 × Int32) (n : Nat) (L : List rwS) : Nat → Bool := ty_sp T n (ty_addL L fun _ => false)
theorem ty_mL_t (hw : ty_wf T n) (hd : ty_di T n) (hn : n < 2 ^ 31) {L : List rwS} (hv : ∀ s ∈ L, rv n s) {i : Nat} (hi : i < n) : ty_mL T n L i = true ↔ ∃ s ∈ L.map (rt T n), q_sub (ct T n (nI i)) s.2 := by
  unfold ty_mL
  rw [ty_sp_t hw hd hn n _ (Nat.le_refl _) i hi]
  constructor
  · rintro (z | ⟨j, j1, j2, j3⟩)
    · obtain ⟨s, s1, s2⟩ := ((ty_addL_t hn L _ hv i hi).mp z).resolve_left (by intro q; cases q)
      refine ⟨rt T n s, List.mem_map.mpr ⟨s, s1, rfl⟩, ?_⟩
      show q_sub _ (ct T n s.2)
      rw [s2, ct_at hw hn hi]
      exact q_sub_rf
    · obtain ⟨s, s1, s2⟩ := ((ty_addL_t hn L _ hv j j1).mp j2).resolve_left (by intro q; cases q)
      refine ⟨rt T n s, List.mem_map.mpr ⟨s, s1, rfl⟩, ?_⟩
      show q_sub _ (ct T n s.2)
      rw [s2]
      exact j3
  · intro ⟨q, q1, q2⟩
    obtain ⟨s, s1, s2⟩ := List.mem_map.mp q1
    obtain ⟨a, a1, a2⟩ := hv s s1
    refine Or.inr ⟨a, a1, (ty_addL_t hn L _ hv a a1).mpr (Or.inr ⟨s, s1, a2⟩), ?_⟩
    rw [← s2] at q2
    have : q_sub (ct T n (nI i)) (ct T n s.2) := q2
    rw [a2] at this
    exact this
end MK
/-- types put in for variables -/
def q_sbs (σ : Int32 → Option qT) : qT → qT
  | .leaf _ => qE
  | .branch c l r => if Int32.ofNat c < 0 then (σ (Int32.ofNat c)).getD (qN (Int32.ofNat c) l r) else qN (Int32.ofNat c) (q_sbs σ l) (q_sbs σ r)
theorem q_sbs_N {σ : Int32 → Option qT} {c : Int32} {l r : qT} : q_sbs σ (qN c l r) = if c < 0 then (σ c).getD (qN c l r) else qN c (q_sbs σ l) (q_sbs σ r) := by
  conv => lhs; unfold qN
  show (if Int32.ofNat _ < 0 then (σ (Int32.ofNat _)).getD (qN (Int32.ofNat _) l r) else qN (Int32.ofNat _) (q_sbs σ l) (q_sbs σ r)) = _
  rw [q_code]
theorem q_sbs_E {σ : Int32 → Option qT} : q_sbs σ qE = qE := rfl
theorem q_sbs_F {σ : Int32 → Option qT} {a b : qT} : q_sbs σ (qF a b) = qF (q_sbs σ a) (q_sbs σ b) := by
  unfold qF
  rw [q_sbs_N, if_neg (by decide)]
theorem q_sbs_B {σ : Int32 → Option qT} : q_sbs σ qB = qB := by
  unfold qB
  rw [q_sbs_N, if_neg (by decide)]
  rfl
/-- types put in, in a term -/
def m_rt (σ : Int32 → Option qT) : qM → qM
  | .leaf => .leaf
  | .inner k u _ l r => mN (Int32.ofNat k) (q_sbs σ u) (m_rt σ l) (m_rt σ r)
theorem m_rt_N {σ : Int32 → Option qT} {k : Int32} {u : qT} {l r : qM} : m_rt σ (mN k u l r) = mN k (q_sbs σ u) (m_rt σ l) (m_rt σ r) := by
  conv => lhs; unfold mN
  show mN (Int32.ofNat _) _ _ _ = _
  rw [q_code]
theorem m_rt_fl {σ : Int32 → Option qT} : ∀ M : qM, m_fl (m_rt σ M) = (m_fl M).map fun s => (s.1, q_sbs σ s.2)
  | .leaf => rfl
  | .inner k u _ l r => by
    show m_fl (mN _ _ _ _) = _
    rw [m_fl_N, m_rt_fl l, m_rt_fl r]
    show _ = ((Int32.ofNat k, u) :: (m_fl l ++ m_fl r)).map _
    rw [List.map_cons, List.map_append]
theorem m_rt_ok {σ : Int32 → Option qT} : ∀ M, m_wf M → m_wf (m_rt σ M) ∧ m_ty (m_rt σ M) = q_sbs σ (m_ty M) ∧ m_ht (m_rt σ M) = m_ht M := by
  refine m_wf_cases ?_ ?_ ?_
  · intro u l r w1 w2 hty ⟨a1, a2, a3⟩ ⟨b1, b2, b3⟩
    rw [m_rt_N]
    exact ⟨m_wf_app a1 b1 (by rw [a2, b2, hty, q_sbs_F]), rfl, by rw [m_ht_N, m_ht_N, a3, b3]⟩
  · intro a l w1 ⟨a1, a2, a3⟩
    rw [m_rt_N, q_sbs_F]
    refine ⟨?_, by rw [m_ty_N, m_ty_N, q_sbs_F], by rw [m_ht_N, m_ht_N, a3]; rfl⟩
    have := m_wf_abs (a := q_sbs σ a) a1
    rw [a2] at this
    exact this
  · intro k u hk
    rw [m_rt_N]
    refine ⟨m_wf_lf ⟨hk.1, fun e => ?_⟩, rfl, rfl⟩
    obtain ⟨a, ha⟩ := hk.2 e
    exact ⟨q_sbs σ a, by rw [ha, q_sbs_F, q_sbs_F, q_sbs_B]⟩
/-- what is in a type becomes what is in what it becomes -/
theorem q_sub_sbs {σ : Int32 → Option qT} {k : Int32 → Nat} (hk : ∀ c, c < 0 → k c = 0) (hσ : ∀ c v, σ c = some v → ∃ c' l r, v = qN c' l r) : ∀ (u t : qT), q_ar k u → (∀ c l r, q_sub (.branch c l r) u → c < 2 ^ 32) → q_sub t u → q_sub (q_sbs σ t) (q_sbs σ u)
  | .leaf _, _, _, _, h => h.elim
  | .branch c l r, t, har, hlt, h => by
    have hc : (Lean.RArray.branch c l r : qT) = qN (Int32.ofNat c) l r := by unfold qN; rw [show (Int32.ofNat c).toBitVec.toNat = c from pk_tn (hlt c l r (Or.inl rfl))]
    have rf : q_sub (q_sbs σ (.branch c l r)) (q_sbs σ (.branch c l r)) := by
      rw [hc, q_sbs_N]
      split
      · cases hs : σ (Int32.ofNat c) with
        | none => exact q_sub_rf
        | some v =>
          obtain ⟨c', l', r', e⟩ := hσ _ _ hs
          show q_sub v v
          rw [e]
          exact q_sub_rf
      · exact q_sub_rf
    rcases h with h | h | h
    · rw [h]; exact rf
    · by_cases e : Int32.ofNat c < 0
      · exfalso
        have := har.1.mp (hk _ e)
        rw [this] at h
        exact h
      · have ih := q_sub_sbs hk hσ l t har.2.2.1 (fun c' l' r' z => hlt c' l' r' (Or.inr (Or.inl z))) h
        rw [hc, q_sbs_N, if_neg e, q_sub_N]
        exact Or.inr (Or.inl ih)
    · by_cases e : Int32.ofNat c < 0
      · exfalso
        have := har.2.1.mp (by have := hk _ e; omega)
        rw [this] at h
        exact h
      · have ih := q_sub_sbs hk hσ r t har.2.2.2.1 (fun c' l' r' z => hlt c' l' r' (Or.inr (Or.inr z))) h
        rw [hc, q_sbs_N, if_neg e, q_sub_N]
        exact Or.inr (Or.inr ih)
