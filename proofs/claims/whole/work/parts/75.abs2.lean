/-! WHAT STANDS, apart from class and reference: types are as their constructors take them -/
def q_cd (m : Nat) : qT → Prop
  | .leaf _ => True
  | .branch c l r => Int32.ofNat c < nI m ∧ q_cd m l ∧ q_cd m r
theorem q_cd_N {m : Nat} {c : Int32} {l r : qT} : q_cd m (qN c l r) = (c < nI m ∧ q_cd m l ∧ q_cd m r) := by
  unfold qN
  show (Int32.ofNat _ < nI m ∧ _) = _
  rw [q_code]
/-- a type of the signature -/
def q_ok (tk : List Nat) (t : qT) : Prop := t ≠ qE ∧ q_ar (q_tk tk) t ∧ q_cd tk.length t
def sgk (tk : List Nat) : Prop := tk[0]? = some 0 ∧ tk[1]? = some 0 ∧ tk[2]? = some 2 ∧ tk.length ≤ 40 ∧ ∀ x ∈ tk, x ≤ 2
section QOK
variable {tk : List Nat} {t u a b : qT}
theorem sgk.lt (h : sgk tk) : 3 ≤ tk.length := by have := (List.getElem?_eq_some_iff.mp h.2.2.1).1; omega
theorem sgk.k0 (h : sgk tk) : q_tk tk 0 = 0 := q_tk_at h.1 h.2.2.2.1
theorem sgk.k1 (h : sgk tk) : q_tk tk 1 = 0 := q_tk_at h.2.1 h.2.2.2.1
theorem sgk.k2 (h : sgk tk) : q_tk tk 2 = 2 := q_tk_at h.2.2.1 h.2.2.2.1
theorem q_cd_sub {m : Nat} : ∀ {t : qT}, q_cd m t → q_sub u t → q_cd m u
  | .leaf _, _, h => h.elim
  | .branch c l r, ha, h => by
    rcases h with e | e | e
    · rw [e]; exact ha
    · exact q_cd_sub ha.2.1 e
    · exact q_cd_sub ha.2.2 e
theorem q_sub_ne : ∀ {t : qT}, q_sub u t → u ≠ qE
  | .leaf _, h => h.elim
  | .branch c l r, h => by
    rcases h with e | e | e
    · rw [e]; intro z; unfold qE at z; cases z
    · exact q_sub_ne e
    · exact q_sub_ne e
theorem q_ok.sub (h : q_ok tk t) (k : q_sub u t) : q_ok tk u := ⟨q_sub_ne k, q_ar_sub h.2.1 k, q_cd_sub h.2.2 k⟩
theorem q_ok.F (hs : sgk tk) (ha : q_ok tk a) (hb : q_ok tk b) : q_ok tk (qF a b) := by
  refine ⟨qN_ne, q_ar_F hs.k2 ha.2.1 hb.2.1 ha.1 hb.1, ?_⟩
  unfold qF
  rw [q_cd_N]
  exact ⟨nI_lt (a := 2) (by have := hs.lt; omega) (by have := hs.2.2.2.1; omega), ha.2.2, hb.2.2⟩
theorem q_ok.F1 (h : q_ok tk (qF a b)) (hs : sgk tk) : q_ok tk a ∧ q_ok tk b := by
  obtain ⟨-, h2, h3⟩ := h
  unfold qF at h2 h3
  rw [q_ar_N, hs.k2] at h2
  rw [q_cd_N] at h3
  exact ⟨⟨fun z => absurd (h2.1.mpr z) (by decide), h2.2.2.1, h3.2.1⟩, ⟨fun z => absurd (h2.2.1.mpr z) (by decide), h2.2.2.2.1, h3.2.2⟩⟩
theorem q_ok_c0 {c : Nat} (hc : c < tk.length) (hl : tk.length ≤ 40) (h0 : q_tk tk (nI c) = 0) : q_ok tk (qN (nI c) qE qE) := by
  refine ⟨qN_ne, ?_, ?_⟩
  · rw [q_ar_N, h0]
    refine ⟨⟨fun _ => rfl, fun _ => rfl⟩, ⟨fun _ => rfl, fun _ => by decide⟩, True.intro, True.intro, ?_⟩
    rw [nI_toInt (by omega)]; omega
  · rw [q_cd_N]
    exact ⟨nI_lt hc (by omega), True.intro, True.intro⟩
theorem q_ok.B (hs : sgk tk) : q_ok tk qB := q_ok_c0 (c := 0) (by have := hs.lt; omega) hs.2.2.2.1 hs.k0
theorem q_ok_v {c : Int32} (hl : tk.length ≤ 40) (hc : c < 0) (hc2 : -100000001 ≤ c.toInt) : q_ok tk (q_vr c) := by
  refine ⟨qN_ne, ?_, ?_⟩
  · unfold q_vr
    rw [q_ar_N, q_tk_neg c hc]
    exact ⟨⟨fun _ => rfl, fun _ => rfl⟩, ⟨fun _ => rfl, fun _ => by decide⟩, True.intro, True.intro, hc2⟩
  · unfold q_vr
    rw [q_cd_N]
    refine ⟨?_, True.intro, True.intro⟩
    have e : (0 : Int32).toInt = 0 := rfl
    rw [Int32.lt_iff_toInt_lt] at hc ⊢
    rw [e] at hc
    rw [nI_toInt (by omega)]; omega
theorem q_cd_mono {m m' : Nat} (h : m ≤ m') (h' : m' < 2 ^ 31) : ∀ {t : qT}, q_cd m t → q_cd m' t
  | .leaf _, _ => True.intro
  | .branch c l r, k => by
    refine ⟨?_, q_cd_mono h h' k.2.1, q_cd_mono h h' k.2.2⟩
    have k1 := k.1
    rw [Int32.lt_iff_toInt_lt, nI_toInt (by omega)] at k1 ⊢
    omega
theorem q_tk_ap {k : Nat} {c : Int32} (hl : tk.length ≤ 40) (hc : c < nI tk.length) : q_tk (tk ++ [k]) c = q_tk tk c := by
  unfold q_tk
  by_cases e : c < 0
  · rw [if_pos e, if_pos e]
  · rw [if_neg e, if_neg e]
    obtain ⟨j, hj, rfl⟩ := nI_of e
    rw [nI_ltI hj (by omega)] at hc
    rw [nI_clamp hj, List.getElem?_append_left hc]
theorem q_ar_ap {k : Nat} (hl : tk.length ≤ 40) : ∀ {t : qT}, q_cd tk.length t → q_ar (q_tk tk) t → q_ar (q_tk (tk ++ [k])) t
  | .leaf _, _, _ => True.intro
  | .branch c l r, h, a => by
    obtain ⟨a1, a2, a3, a4, a5⟩ := a
    refine ⟨?_, ?_, q_ar_ap hl h.2.1 a3, q_ar_ap hl h.2.2 a4, a5⟩
    · rw [q_tk_ap hl h.1]; exact a1
    · rw [q_tk_ap hl h.1]; exact a2
theorem q_ok.ap {k : Nat} (hl : tk.length < 40) (h : q_ok tk t) : q_ok (tk ++ [k]) t :=
  ⟨h.1, q_ar_ap (by omega) h.2.2 h.2.1, q_cd_mono (by rw [List.length_append]; omega) (by rw [List.length_append, List.length_singleton]; omega) h.2.2⟩
theorem sgk.ap {k : Nat} (h : sgk tk) (hl : tk.length < 40) (hk : k ≤ 2) : sgk (tk ++ [k]) := by
  have h3 := h.lt
  refine ⟨?_, ?_, ?_, by rw [List.length_append, List.length_singleton]; omega, fun x hx => ?_⟩
  · rw [List.getElem?_append_left (by omega)]; exact h.1
  · rw [List.getElem?_append_left (by omega)]; exact h.2.1
  · rw [List.getElem?_append_left (by omega)]; exact h.2.2.1
  · rcases List.mem_append.mp hx with z | z
    · exact h.2.2.2.2 x z
    · rw [List.mem_singleton.mp z]; exact hk
theorem q_sbs_ok {σ : Int32 → Option qT} (hs : tk.length ≤ 40) (hσ : ∀ c v, σ c = some v → q_ok tk v) : ∀ {t : qT}, q_ar (q_tk tk) t → q_cd tk.length t → q_ar (q_tk tk) (q_sbs σ t) ∧ q_cd tk.length (q_sbs σ t) ∧ (q_sbs σ t = qE ↔ t = qE)
  | .leaf _, _, _ => ⟨True.intro, True.intro, Iff.rfl⟩
  | .branch c l r, a, h => by
    obtain ⟨a1, a2, a3, a4, a5⟩ := a
    obtain ⟨h1, h2, h3⟩ := h
    show q_ar _ (if Int32.ofNat c < 0 then (σ (Int32.ofNat c)).getD (qN (Int32.ofNat c) l r) else qN (Int32.ofNat c) (q_sbs σ l) (q_sbs σ r)) ∧ q_cd _ (if Int32.ofNat c < 0 then (σ (Int32.ofNat c)).getD (qN (Int32.ofNat c) l r) else qN (Int32.ofNat c) (q_sbs σ l) (q_sbs σ r)) ∧ ((if Int32.ofNat c < 0 then (σ (Int32.ofNat c)).getD (qN (Int32.ofNat c) l r) else qN (Int32.ofNat c) (q_sbs σ l) (q_sbs σ r)) = qE ↔ _)
    have hb : ¬ ((Lean.RArray.branch c l r : qT) = qE) := fun z => by unfold qE at z; cases z
    by_cases e : Int32.ofNat c < 0
    · rw [if_pos e]
      cases es : σ (Int32.ofNat c) with
      | some v =>
        obtain ⟨v1, v2, v3⟩ := hσ _ _ es
        exact ⟨v2, v3, ⟨fun z => absurd z v1, fun z => absurd z hb⟩⟩
      | none =>
        refine ⟨?_, ?_, ⟨fun z => absurd z qN_ne, fun z => absurd z hb⟩⟩
        · show q_ar _ (qN _ _ _)
          rw [q_ar_N]; exact ⟨a1, a2, a3, a4, a5⟩
        · show q_cd _ (qN _ _ _)
          rw [q_cd_N]; exact ⟨h1, h2, h3⟩
    · rw [if_neg e]
      obtain ⟨l1, l2, l3⟩ := q_sbs_ok hs hσ a3 h2
      obtain ⟨r1, r2, r3⟩ := q_sbs_ok hs hσ a4 h3
      refine ⟨?_, ?_, ⟨fun z => absurd z qN_ne, fun z => absurd z hb⟩⟩
      · rw [q_ar_N, l3, r3]; exact ⟨a1, a2, l1, r1, a5⟩
      · rw [q_cd_N]; exact ⟨h1, l2, r2⟩
theorem q_ok.sbs {σ : Int32 → Option qT} (hs : tk.length ≤ 40) (hσ : ∀ c v, σ c = some v → q_ok tk v) (h : q_ok tk t) : q_ok tk (q_sbs σ t) := by
  obtain ⟨a1, a2, a3⟩ := q_sbs_ok hs hσ h.2.1 h.2.2
  exact ⟨fun z => h.1 (a3.mp z), a1, a2⟩
end QOK
/-- the types of a term's symbols are of the signature -/
def m_ok (tk : List Nat) (M : qM) : Prop := ∀ s ∈ m_fl M, q_ok tk s.2
section MOK
variable {tk : List Nat} {t : qT} {M X Y l r : qM}
theorem m_ok_lf : m_ok tk .leaf := fun s hs => by cases hs
theorem m_ok_N {c : Int32} : m_ok tk (mN c t l r) ↔ q_ok tk t ∧ m_ok tk l ∧ m_ok tk r := by
  unfold m_ok
  rw [m_fl_N]
  constructor
  · intro h
    exact ⟨h _ List.mem_cons_self, fun s hs => h s (List.mem_cons_of_mem _ (List.mem_append.mpr (Or.inl hs))), fun s hs => h s (List.mem_cons_of_mem _ (List.mem_append.mpr (Or.inr hs)))⟩
  · intro ⟨h1, h2, h3⟩ s hs
    rcases List.mem_cons.mp hs with e | e
    · rw [e]; exact h1
    · rcases List.mem_append.mp e with e | e
      · exact h2 s e
      · exact h3 s e
theorem m_ok.ty (h : m_ok tk M) (hw : m_wf M) : q_ok tk (m_ty M) := by
  rw [m_eta hw] at h
  exact (m_ok_N.mp h).1
theorem m_ok_E (hs : sgk tk) (hX : m_ok tk X) (hY : m_ok tk Y) (ht : q_ok tk (m_ty X)) : m_ok tk (mE X Y) := by
  have hB := q_ok.B hs
  have h1 := q_ok.F hs ht hB
  exact m_ok_N.mpr ⟨hB, m_ok_N.mpr ⟨h1, m_ok_N.mpr ⟨q_ok.F hs ht h1, m_ok_lf, m_ok_lf⟩, hX⟩, hY⟩
theorem m_ok.tr {bd : Bool} {c : Int32} (ht : q_ok tk t) : ∀ {M : qM} {bn : Nat}, m_ok tk M → m_ok tk (m_tr bd c t M bn)
  | .leaf, _, h => h
  | .inner k u x l r, bn, h => by
    have h1 : q_ok tk u := h (Int32.ofNat k, u) List.mem_cons_self
    have h2 : m_ok tk l := fun s hs => h s (List.mem_cons_of_mem _ (List.mem_append.mpr (Or.inl hs)))
    have h3 : m_ok tk r := fun s hs => h s (List.mem_cons_of_mem _ (List.mem_append.mpr (Or.inr hs)))
    refine m_ok_N.mpr ⟨?_, m_ok.tr ht h2, m_ok.tr ht h3⟩
    unfold m_ts
    split
    · split
      · exact ht
      · exact h1
    · split
      · exact ht
      · exact h1
theorem m_ok.sb {c : Int32} {S : qM} (hS : m_ok tk S) : ∀ {M : qM}, m_ok tk M → m_ok tk (m_sb c t S M)
  | .leaf, h => h
  | .inner k u x l r, h => by
    have h1 : q_ok tk u := h (Int32.ofNat k, u) List.mem_cons_self
    have h2 : m_ok tk l := fun s hs => h s (List.mem_cons_of_mem _ (List.mem_append.mpr (Or.inl hs)))
    have h3 : m_ok tk r := fun s hs => h s (List.mem_cons_of_mem _ (List.mem_append.mpr (Or.inr hs)))
    show m_ok tk (@ite _ _ (Classical.propDecidable _) S (mN _ u (m_sb c t S l) (m_sb c t S r)))
    split
    · exact hS
    · exact m_ok_N.mpr ⟨h1, m_ok.sb hS h2, m_ok.sb hS h3⟩
theorem m_ok.rt {σ : Int32 → Option qT} (hs : tk.length ≤ 40) (hσ : ∀ c v, σ c = some v → q_ok tk v) (h : m_ok tk M) : m_ok tk (m_rt σ M) := by
  intro s hs'
  rw [m_rt_fl] at hs'
  obtain ⟨x, x1, x2⟩ := List.mem_map.mp hs'
  rw [← x2]
  exact (h x x1).sbs hs hσ
theorem m_ok.ap {k : Nat} (hl : tk.length < 40) (h : m_ok tk M) : m_ok (tk ++ [k]) M := fun s hs => (h s hs).ap hl
theorem m_ok_of {rows : List qM} (h : ∀ X ∈ rows, m_ok tk X) {t : qT} (ht : q_of rows t) : q_ok tk t := by
  obtain ⟨X, x1, s, s1, s2⟩ := ht
  exact (h X x1 s s1).sub s2
theorem hy_join_sub {e : Option qM} : ∀ {L H : List qM} {M : qM}, M ∈ hy_join e H L → M ∈ H ∨ M ∈ L
  | [], H, M, h => Or.inl h
  | N :: L, H, M, h => by
    rw [hy_join_c] at h
    rcases hy_join_sub h with z | z
    · split at z
      · exact Or.inl z
      · by_cases k : N ∈ H
        · rw [hy_add_y k] at z; exact Or.inl z
        · rw [hy_add_n k] at z
          rcases List.mem_append.mp z with z | z
          · exact Or.inl z
          · rw [List.mem_singleton.mp z]; exact Or.inr List.mem_cons_self
    · exact Or.inr (List.mem_cons_of_mem _ z)
end MOK
