/-! TREES: the types that both sides speak of -/
abbrev qT : Type := Lean.RArray Unit
def qE : qT := .leaf ()
def qN (c : Int32) (l r : qT) : qT := .branch c.toBitVec.toNat l r
def q_sz : qT → Nat
  | .leaf _ => 0
  | .branch _ l r => 1 + q_sz l + q_sz r
def q_ht : qT → Nat
  | .leaf _ => 0
  | .branch _ l r => 1 + max (q_ht l) (q_ht r)
/-- the symbols, in their order -/
def q_fl : qT → List Int32
  | .leaf _ => []
  | .branch c l r => Int32.ofNat c :: (q_fl l ++ q_fl r)
theorem q_code (c : Int32) : Int32.ofNat c.toBitVec.toNat = c := by
  apply Int32.toBitVec_inj.mp
  apply BitVec.eq_of_toNat_eq
  have := c.toBitVec.isLt
  exact pk_tn this
theorem qN_inj {c c' : Int32} {l l' r r' : qT} : qN c l r = qN c' l' r' ↔ c = c' ∧ l = l' ∧ r = r' := by
  refine ⟨fun h => ?_, fun ⟨h1, h2, h3⟩ => by rw [h1, h2, h3]⟩
  unfold qN at h
  injection h with h1 h2 h3
  refine ⟨?_, h2, h3⟩
  rw [← q_code c, h1, q_code]
theorem qN_ne {c : Int32} {l r : qT} : qN c l r ≠ qE := fun h => by
  unfold qN qE at h
  cases h
def ct (T : Nat → Int32 × Int32 × Int32) (n : Nat) (i : Int32) : qT := ty_fold qE qN T n i
theorem ct_m1 {T : Nat → Int32 × Int32 × Int32} {n : Nat} : ct T n (-1) = qE := by unfold ct; cases n <;> simp [ty_fold]
theorem ct_sz {T : Nat → Int32 × Int32 × Int32} : ∀ {n : Nat} {i : Int32}, q_sz (ct T n i) = ty_sz T n i
  | 0, _ => rfl
  | n + 1, i => by
    unfold ct ty_sz
    simp only [ty_fold]
    split
    · rfl
    · show 1 + q_sz _ + q_sz _ = _
      rw [show q_sz (ty_fold qE qN T n (T i.toNatClampNeg).2.1) = _ from ct_sz, show q_sz (ty_fold qE qN T n (T i.toNatClampNeg).2.2) = _ from ct_sz]
      rfl
theorem ct_ht {T : Nat → Int32 × Int32 × Int32} : ∀ {n : Nat} {i : Int32}, q_ht (ct T n i) = ty_ht T n i
  | 0, _ => rfl
  | n + 1, i => by
    unfold ct ty_ht
    simp only [ty_fold]
    split
    · rfl
    · show 1 + max (q_ht _) (q_ht _) = _
      rw [show q_ht (ty_fold qE qN T n (T i.toNatClampNeg).2.1) = _ from ct_ht, show q_ht (ty_fold qE qN T n (T i.toNatClampNeg).2.2) = _ from ct_ht]
      rfl
section SEM1
variable {T T' : Nat → Int32 × Int32 × Int32} {n n' : Nat}
theorem ct_ext (hw : ty_wf T n) (hT : ∀ j, j < n → T' j = T j) (hn : n < 2 ^ 31) (hnn : n ≤ n') {i : Int32} (hi : ty_in n i) : ct T' n' i = ct T n i := (ty_fold_eq hw hT hn n n n' i (Nat.le_refl _) hi (Nat.le_refl _) hnn).symm
theorem ct_at (hw : ty_wf T n) (hn : n < 2 ^ 31) {a : Nat} (ha : a < n) : ct T n (nI a) = qN (T a).1 (ct T n (T a).2.1) (ct T n (T a).2.2) := by
  obtain ⟨h1, h2⟩ := hw a ha
  rw [← ct_ext (T' := T) (n' := n + 1) hw (fun _ _ => rfl) hn (Nat.le_succ n) (Or.inr ⟨a, ha, rfl⟩)]
  show ty_fold qE qN T (n + 1) (nI a) = _
  simp only [ty_fold, if_neg (nI_ne_m1 (show a < 2 ^ 31 by omega)), nI_clamp (show a < 2 ^ 31 by omega)]
  rfl
/-- no type stands twice -/
def ty_di (T : Nat → Int32 × Int32 × Int32) (n : Nat) : Prop := ∀ i j, i < j → j < n → T i ≠ T j
theorem ct_inj (hw : ty_wf T n) (hd : ty_di T n) (hn : n < 2 ^ 31) : ∀ (m : Nat) (i j : Int32), m ≤ n → ty_in m i → ty_in n j → ct T n i = ct T n j → i = j := by
  intro m
  induction m using Nat.strongRecOn with
  | ind m ih =>
    intro i j hm hi hj he
    rcases hi with rfl | ⟨a, ha, rfl⟩
    · rcases hj with rfl | ⟨b, hb, rfl⟩
      · rfl
      · rw [ct_m1, ct_at hw hn hb] at he
        exact absurd he.symm qN_ne
    · rcases hj with rfl | ⟨b, hb, rfl⟩
      · rw [ct_m1, ct_at hw hn (show a < n by omega)] at he
        exact absurd he qN_ne
      · rw [ct_at hw hn hb, ct_at hw hn (show a < n by omega), qN_inj] at he
        obtain ⟨w1, w2⟩ := hw a (by omega)
        obtain ⟨v1, v2⟩ := hw b hb
        have e1 := ih a ha _ _ (by omega) w1 (v1.mono (by omega)) he.2.1
        have e2 := ih a ha _ _ (by omega) w2 (v2.mono (by omega)) he.2.2
        have e : T a = T b := Prod.ext he.1 (Prod.ext e1 e2)
        rcases Nat.lt_trichotomy a b with z | z | z
        · exact absurd e (hd a b z hb)
        · rw [z]
        · exact absurd e.symm (hd b a z (by omega))
/-- a type is there -/
def ct_S (T : Nat → Int32 × Int32 × Int32) (n : Nat) (t : qT) : Prop := ∃ i, i < n ∧ ct T n (nI i) = t
/-- the place of a type -/
def pl (n : Nat) (T : Nat → Int32 × Int32 × Int32) (v : Int32) (t : qT) : Prop := ∃ a, a < n ∧ v = nI a ∧ ct T n v = t
theorem pl.In {v : Int32} {t : qT} (h : pl n T v t) : ty_in n v := by
  obtain ⟨a, h1, h2, -⟩ := h
  exact Or.inr ⟨a, h1, h2⟩
theorem pl.S {v : Int32} {t : qT} (h : pl n T v t) : ct_S T n t := by
  obtain ⟨a, h1, h2, h3⟩ := h
  exact ⟨a, h1, by rw [← h2]; exact h3⟩
theorem pl.ct {v : Int32} {t : qT} (h : pl n T v t) : ct T n v = t := h.choose_spec.2.2
/-- one table goes on where another ends -/
def ty_xt (n : Nat) (T : Nat → Int32 × Int32 × Int32) (n' : Nat) (T' : Nat → Int32 × Int32 × Int32) : Prop := n ≤ n' ∧ ∀ j, j < n → T' j = T j
theorem ty_xt.rf : ty_xt n T n T := ⟨Nat.le_refl _, fun _ _ => rfl⟩
theorem ty_xt.tr {n'' : Nat} {T'' : Nat → Int32 × Int32 × Int32} (h : ty_xt n T n' T') (k : ty_xt n' T' n'' T'') : ty_xt n T n'' T'' := ⟨Nat.le_trans h.1 k.1, fun j hj => (k.2 j (Nat.lt_of_lt_of_le hj h.1)).trans (h.2 j hj)⟩
theorem pl.xt {v : Int32} {t : qT} (h : pl n T v t) (hw : ty_wf T n) (hn : n < 2 ^ 31) (x : ty_xt n T n' T') : pl n' T' v t := by
  have h0 := h.In
  obtain ⟨a, h1, h2, h3⟩ := h
  exact ⟨a, Nat.lt_of_lt_of_le h1 x.1, h2, by rw [ct_ext hw x.2 hn x.1 h0]; exact h3⟩
theorem ct_S.xt {t : qT} (h : ct_S T n t) (hw : ty_wf T n) (hn : n < 2 ^ 31) (x : ty_xt n T n' T') : ct_S T' n' t := by
  obtain ⟨i, h1, h2⟩ := h
  exact ⟨i, Nat.lt_of_lt_of_le h1 x.1, by rw [ct_ext hw x.2 hn x.1 (Or.inr ⟨i, h1, rfl⟩)]; exact h2⟩
theorem pl.eq {v v' : Int32} {t : qT} (h : pl n T v t) (h' : pl n T v' t) (hw : ty_wf T n) (hd : ty_di T n) (hn : n < 2 ^ 31) : v = v' := ct_inj hw hd hn n v v' (Nat.le_refl _) h.In h'.In (h.ct.trans h'.ct.symm)
/-- the limits of a type -/
def q_lim (t : qT) : Prop := q_sz t ≤ 200 ∧ q_ht t ≤ 24
/-- types that may all be there at once -/
def q_good (G : qT → Prop) : Prop := (∀ t, G t → q_lim t) ∧ ∃ l : List qT, l.length ≤ 8000 ∧ ∀ t, G t → t ∈ l
theorem q_pig {α : Type} : ∀ (n : Nat) (f : Nat → α) (l : List α), (∀ i j, i < j → j < n → f i ≠ f j) → (∀ i, i < n → f i ∈ l) → n ≤ l.length
  | 0, _, _, _, _ => Nat.zero_le _
  | n + 1, f, l, hd, hm => by
    obtain ⟨s, t, e⟩ := List.append_of_mem (hm n (Nat.lt_succ_self n))
    have := q_pig n f (s ++ t) (fun i j h1 h2 => hd i j h1 (by omega)) (fun i hi => by
      have h1 := hm i (by omega)
      rw [e] at h1
      rcases List.mem_append.mp h1 with h2 | h2
      · exact List.mem_append.mpr (Or.inl h2)
      · rcases List.mem_cons.mp h2 with h3 | h3
        · exact absurd h3 (hd i n hi (Nat.lt_succ_self n))
        · exact List.mem_append.mpr (Or.inr h3))
    rw [e, List.length_append, List.length_cons]
    rw [List.length_append] at this
    omega
theorem ct_di (hw : ty_wf T n) (hd : ty_di T n) (hn : n < 2 ^ 31) : ∀ i j, i < j → j < n → ct T n (nI i) ≠ ct T n (nI j) := fun i j h1 h2 e => by
  have := ct_inj hw hd hn n _ _ (Nat.le_refl _) (Or.inr ⟨i, by omega, rfl⟩) (Or.inr ⟨j, h2, rfl⟩) e
  have := (nI_eq (by omega) (by omega)).mp this
  omega
/-- where good types are all that there are, and one more of them, there are not 8000 yet -/
theorem q_room {G : qT → Prop} (hw : ty_wf T n) (hd : ty_di T n) (hn : n < 2 ^ 31) (hG : q_good G) (hS : ∀ t, ct_S T n t → G t) {q : qT} (hq : G q) (hne : ¬ ct_S T n q) : n < 8000 := by
  obtain ⟨-, l, hl, hm⟩ := hG
  have := q_pig (n + 1) (fun i => if i = n then q else ct T n (nI i)) l (fun i j h1 h2 => by
    have hi : ¬ i = n := by omega
    simp only [hi, if_false]
    by_cases hj : j = n
    · simp only [hj, if_true]
      exact fun e => hne ⟨i, by omega, e⟩
    · simp only [hj, if_false]
      exact ct_di hw hd hn i j h1 (by omega)) (fun i hi => by
    by_cases e : i = n
    · simp only [e, if_true]; exact hm q hq
    · simp only [e, if_false]; exact hm _ (hS _ ⟨i, by omega, rfl⟩))
  omega
theorem ty_fnd_S (hw : ty_wf T n) (hd : ty_di T n) (hn : n < 2 ^ 31) {q : Int32 × Int32 × Int32} (h1 : ty_in n q.2.1) (h2 : ty_in n q.2.2) : ∀ k, k ≤ n → (ty_fnd T q k = -1 ∧ ∀ i, i < k → ct T n (nI i) ≠ qN q.1 (ct T n q.2.1) (ct T n q.2.2)) ∨ ∃ i, i < k ∧ ty_fnd T q k = nI i ∧ ct T n (nI i) = qN q.1 (ct T n q.2.1) (ct T n q.2.2)
  | 0, _ => Or.inl ⟨rfl, fun i hi => absurd hi (Nat.not_lt_zero i)⟩
  | k + 1, hk => by
    simp only [ty_fnd]
    have ha := ct_at hw hn (show k < n by omega)
    by_cases e : T k = q
    · rw [if_pos e]
      exact Or.inr ⟨k, Nat.lt_succ_self k, rfl, by rw [ha, e]⟩
    · rw [if_neg e]
      rcases ty_fnd_S hw hd hn h1 h2 k (by omega) with ⟨a1, a2⟩ | ⟨i, b1, b2⟩
      · refine Or.inl ⟨a1, fun i hi => ?_⟩
        by_cases ei : i = k
        · rw [ei, ha]
          intro z
          rw [qN_inj] at z
          obtain ⟨w1, w2⟩ := hw k (by omega)
          exact e (Prod.ext z.1 (Prod.ext (ct_inj hw hd hn n _ _ (Nat.le_refl _) (w1.mono (by omega)) h1 z.2.1) (ct_inj hw hd hn n _ _ (Nat.le_refl _) (w2.mono (by omega)) h2 z.2.2)))
        · exact a2 i (by omega)
      · exact Or.inr ⟨i, by omega, b2⟩
/-- the class's table of types, all that it keeps to -/
def tyI (P : hp_P) (n : Nat) (T : Nat → Int32 × Int32 × Int32) : Prop := ty_okk P n T ∧ ty_di T n ∧ 64 ≤ (P.2 700).1
/-- what make comes to: the place of the type, or a refusal for cause -/
def ty_mo (n : Nat) (T : Nat → Int32 × Int32 × Int32) (v : Int32) (n' : Nat) (T' : Nat → Int32 × Int32 × Int32) (q : qT) : Prop :=
  (pl n' T' v q ∧ ∀ t, ct_S T' n' t → ct_S T n t ∨ t = q) ∨ (v = -2 ∧ n' = n ∧ T' = T ∧ ∀ G : qT → Prop, (∀ t, ct_S T n t → G t) → G q → ¬ q_good G)
theorem ty_mk_mo (hw : ty_wf T n) (hd : ty_di T n) (h8 : n ≤ 8000) {q : Int32 × Int32 × Int32} (h1 : ty_in n q.2.1) (h2 : ty_in n q.2.2) :
    ty_mo n T (ty_mk T n q).1 (ty_mk T n q).2.1 (ty_mk T n q).2.2 (qN q.1 (ct T n q.2.1) (ct T n q.2.2)) ∧ ty_di (ty_mk T n q).2.2 (ty_mk T n q).2.1 ∧ ty_xt n T (ty_mk T n q).2.1 (ty_mk T n q).2.2 := by
  have hn : n < 2 ^ 31 := by omega
  have e12 : ¬ (q.2.1 = -2 ∨ q.2.2 = -2) := fun z => z.elim (ty_in_m2 h1 hn) (ty_in_m2 h2 hn)
  rcases ty_fnd_S hw hd hn h1 h2 n (Nat.le_refl _) with ⟨a1, a2⟩ | ⟨i, b1, b2, b3⟩
  · have hne : ¬ ct_S T n (qN q.1 (ct T n q.2.1) (ct T n q.2.2)) := fun ⟨i, hi, e⟩ => a2 i hi e
    by_cases e4 : ty_lim T n q
    · have hm : ty_mk T n q = (nI n, n + 1, ty_add T n q) := by unfold ty_mk; rw [if_neg e12, if_neg (fun z => z a1), if_pos e4]
      rw [hm]
      have hnew : ct (ty_add T n q) (n + 1) (nI n) = qN q.1 (ct T n q.2.1) (ct T n q.2.2) := ty_fold_new hw hn h1 h2
      refine ⟨Or.inl ⟨⟨n, Nat.lt_succ_self n, rfl, hnew⟩, fun t ⟨i, hi, e⟩ => ?_⟩, fun i j hij hj e => ?_, Nat.le_succ _, fun i hi => ty_add_lt hi⟩
      · have hi : i < n + 1 := hi
        by_cases ei : i = n
        · right; rw [← e, ei]; exact hnew
        · left
          refine ⟨i, by omega, ?_⟩
          rw [← e]
          exact (ty_fold_old hw hn (Or.inr ⟨i, by omega, rfl⟩)).symm
      · dsimp only at hj e
        by_cases ej : j = n
        · rw [ej, ty_add_eq, ty_add_lt (by omega)] at e
          refine a2 i (by omega) ?_
          rw [ct_at hw hn (by omega), e]
        · rw [ty_add_lt (by omega), ty_add_lt (by omega)] at e
          exact hd i j hij (by omega) e
    · have hm : ty_mk T n q = (-2, n, T) := by unfold ty_mk; rw [if_neg e12, if_neg (fun z => z a1), if_neg e4]
      rw [hm]
      refine ⟨Or.inr ⟨rfl, rfl, rfl, fun G hS hq hG => e4 ?_⟩, hd, ty_xt.rf⟩
      have hl := hG.1 _ hq
      have hr := q_room hw hd hn hG hS hq hne
      unfold q_lim at hl
      have s : q_sz (qN q.1 (ct T n q.2.1) (ct T n q.2.2)) = 1 + ty_sz T n q.2.1 + ty_sz T n q.2.2 := by
        show 1 + q_sz _ + q_sz _ = _
        rw [ct_sz, ct_sz]
      have t : q_ht (qN q.1 (ct T n q.2.1) (ct T n q.2.2)) = 1 + max (ty_ht T n q.2.1) (ty_ht T n q.2.2) := by
        show 1 + max (q_ht _) (q_ht _) = _
        rw [ct_ht, ct_ht]
      rw [s, t] at hl
      exact ⟨hl.1, hl.2, hr⟩
  · have e3 : ty_fnd T q n ≠ -1 := by rw [b2]; exact nI_ne_m1 (by omega)
    have hm : ty_mk T n q = (ty_fnd T q n, n, T) := by unfold ty_mk; rw [if_neg e12, if_pos e3]
    rw [hm, b2]
    exact ⟨Or.inl ⟨⟨i, b1, rfl, b3⟩, fun t h => Or.inl h⟩, hd, ty_xt.rf⟩
end SEM1
section SEM1B
variable {sa : Nat → Nat} {B : Nat} {ρ : hp_L} {P : hp_P} {n : Nat} {T : Nat → Int32 × Int32 × Int32}
/-- Types.make, by trees -/
theorem tm_make {f d : Nat} (w : hp_w B ρ) (h : tyI P n T) (hf : 10000 ≤ f) {c l r : Int32} (h1 : ty_in n l) (h2 : ty_in n r) :
    ∃ (ρ' : hp_L) (P' : hp_P) (v : Int32) (n' : Nat) (T' : Nat → Int32 × Int32 × Int32), am_call B sa am_dfl am_tb f (d + 3) 3 [.ref (ρ.1 7), .int c, .int l, .int r] (hp_S sa ρ P) = some (some (.int v), hp_S sa ρ' P') ∧ hp_w B ρ' ∧ tyI P' n' T' ∧ hp_fr ty_S 0 ρ P ρ' P' ∧ ty_xt n T n' T' ∧ ty_mo n T v n' T' (qN c (ct T n l) (ct T n r)) ∧ ∀ j, j < n → (P'.2 706).2 j = (P.2 706).2 j := by
  obtain ⟨ρ', P', r1, r2, r3, r4, r5, r6⟩ := ty_make (sa := sa) (d := d) w h.1 h.2.2 hf (q := (c, l, r)) (Or.inl h1) (Or.inl h2)
  obtain ⟨m1, m2, m3⟩ := ty_mk_mo (q := (c, l, r)) h.1.2.1 h.2.1 h.1.1.1.2 h1 h2
  exact ⟨ρ', P', _, _, _, r1, r2, ⟨r3, m2, Nat.le_trans h.2.2 (r4.2.2.2.2.2 700)⟩, r4, m3, m1, r5⟩
/-- Types.make of what is refused already -/
theorem tm_make_no {f d : Nat} {o : Nat} {σ : am_S} {c l r : Int32} (h : l = -2 ∨ r = -2) : am_call B sa am_dfl am_tb (f + 1) (d + 1) 3 [.ref o, .int c, .int l, .int r] σ = some (some (.int (-2)), σ) := by
  rw [am_c_3, am_s3_0]
  by_cases e1 : l = -2
  · simp only [am_c_eq, e1, if_true]
  · have e2 := h.resolve_left e1
    simp only [am_c_eq, am_c_ne, e1, e2, if_false, ne_eq, not_true_eq_false]
end SEM1B
