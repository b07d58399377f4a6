/-! THE REFERENCE, 3: its state while it makes terms -/
/-- the parts of a term, itself among them -/
def m_sub (Y : qM) : qM → Prop
  | .leaf => False
  | .inner c u v l r => Y = .inner c u v l r ∨ m_sub Y l ∨ m_sub Y r
theorem m_sub_N {Y : qM} {c : Int32} {u : qT} {l r : qM} : m_sub Y (mN c u l r) ↔ Y = mN c u l r ∨ m_sub Y l ∨ m_sub Y r := Iff.rfl
theorem m_sub_rf {c : Int32} {u : qT} {l r : qM} : m_sub (mN c u l r) (mN c u l r) := Or.inl rfl
theorem m_sub_tr {X Y : qM} : ∀ {M : qM}, m_sub X Y → m_sub Y M → m_sub X M
  | .leaf, _, h => h.elim
  | .inner c u v l r, h, k => by
    rcases k with e | e | e
    · rw [← e]; exact h
    · exact Or.inr (Or.inl (m_sub_tr h e))
    · exact Or.inr (Or.inr (m_sub_tr h e))
/-- limits: if one is passed, Z holds; G the types, L the terms that may come up -/
def kz (Z : Prop) (G : qT → Prop) (L : List qM) : Prop :=
  (¬ q_good G → Z) ∧ (60000 < L.length → Z) ∧ ∀ X ∈ L, (m_wf X ∧ m_ty X ≠ qE) ∧ (4000 < (m_fl X).length → Z) ∧ (120 < m_ht X → Z) ∧ (∀ t, q_of [X] t → G t) ∧ ∀ Y, m_sub Y X → Y ∈ L
/-- the reference's tables: heap, types, nodes, bad -/
abbrev kS : Type := hp_P × Nat × (Nat → Int32 × Int32 × Int32) × List qM × Bool
def kI (Z : Prop) (G : qT → Prop) (L : List qM) (K : kS) : Prop :=
  tyN K.1 K.2.1 K.2.2.1 ∧ ndN K.1 K.2.1 K.2.2.1 K.2.2.2.1 ∧ K.1.1 945 = bI K.2.2.2.2 ∧ (K.2.2.2.2 = true → Z) ∧ (∀ t, ct_S K.2.2.1 K.2.1 t → G t) ∧ (∀ X ∈ K.2.2.2.1, X ∈ L) ∧ 2 ≤ K.2.1 ∧ K.2.2.1 0 = (-1, -1, -1) ∧ K.2.2.1 1 = (0, -1, -1)
def kx_S : Nat → Bool := fun r => tn_S r || (nn_S r || decide (r = 945))
theorem kx_t {P P' : hp_P} (h : mfr tx_S P P') : mfr kx_S P P' := h.up fun r k => by
  obtain ⟨a, c⟩ := Bool.or_eq_false_iff.mp k
  obtain ⟨_, e⟩ := Bool.or_eq_false_iff.mp c
  exact Bool.or_eq_false_iff.mpr ⟨a, e⟩
theorem kx_n {P P' : hp_P} (h : mfr nx_S P P') : mfr kx_S P P' := h.up fun r k => by
  obtain ⟨a, c⟩ := Bool.or_eq_false_iff.mp k
  exact c
/-- how it goes on -/
def kR (Z : Prop) (G : qT → Prop) (L : List qM) (K K' : kS) : Prop :=
  kI Z G L K' ∧ mfr kx_S K.1 K'.1 ∧ ty_xt K.2.1 K.2.2.1 K'.2.1 K'.2.2.1 ∧ (∃ q, K'.2.2.2.1 = K.2.2.2.1 ++ q) ∧ (K'.2.2.2.2 = false → K.2.2.2.2 = false)
theorem kR.rf {Z : Prop} {G : qT → Prop} {L : List qM} {K : kS} (h : kI Z G L K) : kR Z G L K K := ⟨h, mfr.rf, ty_xt.rf, ⟨[], (List.append_nil _).symm⟩, id⟩
theorem kR.tr {Z : Prop} {G : qT → Prop} {L : List qM} {K K' K'' : kS} (h : kR Z G L K K') (k : kR Z G L K' K'') : kR Z G L K K'' := by
  obtain ⟨q, e⟩ := h.2.2.2.1
  obtain ⟨q', e'⟩ := k.2.2.2.1
  exact ⟨k.1, h.2.1.tr k.2.1, h.2.2.1.tr k.2.2.1, ⟨q ++ q', by rw [e', e, List.append_assoc]⟩, fun z => h.2.2.2.2 (k.2.2.2.2 z)⟩
/-- a node, a node that is there if all is well; a type likewise -/
def nq (K : kS) (v : Int32) (M : qM) : Prop := ∃ i, i < 60000 ∧ v = nI i ∧ K.2.2.2.1[i]? = some M
def nv (K : kS) (v : Int32) (M : qM) : Prop := ∃ i, i < 60000 ∧ v = nI i ∧ (K.2.2.2.2 = false → K.2.2.2.1[i]? = some M)
def tv (K : kS) (v : Int32) (t : qT) : Prop := K.2.2.2.2 = false → pl K.2.1 K.2.2.1 v t
def kO (Z : Prop) (G : qT → Prop) (L : List qM) (sa : Nat → Nat) (ρ : hp_L) (K : kS) (x : Option (Option Value × am_S)) (M : qM) : Prop :=
  ∃ v K', x = some (some (.int v), hp_S sa ρ K'.1) ∧ kR Z G L K K' ∧ nv K' v M
def kT (Z : Prop) (G : qT → Prop) (L : List qM) (sa : Nat → Nat) (ρ : hp_L) (K : kS) (x : Option (Option Value × am_S)) (t : qT) : Prop :=
  ∃ v K', x = some (some (.int v), hp_S sa ρ K'.1) ∧ kR Z G L K K' ∧ tv K' v t
theorem ct_ne {n : Nat} {T : Nat → Int32 × Int32 × Int32} (hw : ty_wf T n) (hn : n < 2 ^ 31) {a : Nat} (ha : a < n) : ct T n (nI a) ≠ qE := by
  rw [ct_at hw hn ha]; intro z; cases z
theorem pl_row {n : Nat} {T : Nat → Int32 × Int32 × Int32} {v c : Int32} {l r : qT} (h : pl n T v (qN c l r)) (hw : ty_wf T n) (hn : n < 2 ^ 31) : ∃ a, a < n ∧ v = nI a ∧ (T a).1 = c ∧ ct T n (T a).2.1 = l ∧ ct T n (T a).2.2 = r := by
  obtain ⟨a, h1, rfl, h3⟩ := h
  rw [ct_at hw hn h1] at h3
  obtain ⟨e1, e2, e3⟩ := qN_inj.mp h3
  exact ⟨a, h1, rfl, e1, e2, e3⟩
theorem pl_in {n : Nat} {T : Nat → Int32 × Int32 × Int32} {v : Int32} {t : qT} (h : ty_in n v) (e : ct T n v = t) (k : t ≠ qE) : pl n T v t := by
  rcases h with z | ⟨a, h1, rfl⟩
  · rw [z, ct_m1] at e; exact absurd e.symm k
  · exact ⟨a, h1, rfl, e⟩
section KI
variable {Z : Prop} {G : qT → Prop} {L : List qM} {sa : Nat → Nat} {B : Nat} {ρ : hp_L} {K K' : kS}
theorem kI.n31 (h : kI Z G L K) : K.2.1 < 2 ^ 31 := h.1.n31
theorem kI.wf (h : kI Z G L K) : ty_wf K.2.2.1 K.2.1 := h.1.2.2.2.1
theorem kI.di (h : kI Z G L K) : ty_di K.2.2.1 K.2.1 := h.1.2.2.2.2.1
theorem nq.v {v : Int32} {M : qM} (h : nq K v M) : nv K v M := by
  obtain ⟨i, a, c, e⟩ := h
  exact ⟨i, a, c, fun _ => e⟩
theorem nv.q {v : Int32} {M : qM} (h : nv K v M) (hb : K.2.2.2.2 = false) : nq K v M := by
  obtain ⟨i, a, c, e⟩ := h
  exact ⟨i, a, c, e hb⟩
theorem nq.go {v : Int32} {M : qM} (h : nq K v M) (r : kR Z G L K K') : nq K' v M := by
  obtain ⟨i, a, c, e⟩ := h
  obtain ⟨q, eq⟩ := r.2.2.2.1
  exact ⟨i, a, c, by rw [eq, List.getElem?_append_left (List.getElem?_eq_some_iff.mp e).1]; exact e⟩
theorem nv.go {v : Int32} {M : qM} (h : nv K v M) (r : kR Z G L K K') : nv K' v M := by
  obtain ⟨i, a, c, e⟩ := h
  refine ⟨i, a, c, fun z => ?_⟩
  have e := e (r.2.2.2.2 z)
  obtain ⟨q, eq⟩ := r.2.2.2.1
  rw [eq, List.getElem?_append_left (List.getElem?_eq_some_iff.mp e).1]
  exact e
theorem tv.go {v : Int32} {t : qT} (h : tv K v t) (k : kI Z G L K) (r : kR Z G L K K') : tv K' v t := fun z => (h (r.2.2.2.2 z)).xt k.wf k.n31 r.2.2.1
theorem tv.pl {v : Int32} {t : qT} (h : tv K v t) (hb : K.2.2.2.2 = false) : pl K.2.1 K.2.2.1 v t := h hb
theorem pl_tv {v : Int32} {t : qT} (h : pl K.2.1 K.2.2.1 v t) : tv K v t := fun _ => h
theorem nv_0 {M : qM} (hb : K.2.2.2.2 = true) : nv K 0 M := ⟨0, by decide, rfl, fun z => by rw [hb] at z; cases z⟩
theorem tv_0 {v : Int32} {t : qT} (hb : K.2.2.2.2 = true) : tv K v t := fun z => by rw [hb] at z; cases z
theorem kI.bad (h : kI Z G L K) (w : hp_w B ρ) : am_geti (hp_S sa ρ K.1) (ρ.1 9) 9 45 = some (bI K.2.2.2.2) := by rw [hg_945 w, h.2.2.1]
theorem kI.row (h : kI Z G L K) {i : Nat} {M : qM} (hi : K.2.2.2.1[i]? = some M) : nd_row K.1 K.2.1 K.2.2.1 K.2.2.2.1 i M := h.2.1.2.2.2.1 i M hi
theorem kI.inL (h : kI Z G L K) {i : Nat} {M : qM} (hi : K.2.2.2.1[i]? = some M) : M ∈ L := h.2.2.2.2.2.1 M (List.mem_of_getElem? hi)
theorem q_of_sub {X Y : qM} (hs : m_sub Y X) : ∀ {t : qT}, q_of [Y] t → q_of [X] t := fun {t} ⟨A, hA, s, hs', ht⟩ => by
  rw [List.mem_singleton.mp hA] at hs'
  refine ⟨X, List.mem_singleton.mpr rfl, s, ?_, ht⟩
  clear hA ht
  have gen : ∀ {X : qM}, m_sub Y X → s ∈ m_fl X := fun {X} => by
    induction X with
    | leaf => exact fun z => z.elim
    | inner c u v l r i1 i2 =>
      intro z
      rcases z with z | z | z
      · rw [← z]; exact hs'
      · exact List.mem_cons_of_mem _ (List.mem_append.mpr (Or.inl (i1 z)))
      · exact List.mem_cons_of_mem _ (List.mem_append.mpr (Or.inr (i2 z)))
  exact gen hs
/-- the type of a term of L is among G -/
theorem kz.ty (k : kz Z G L) {X : qM} (h : X ∈ L) : G (m_ty X) ∧ ∀ t, q_sub t (m_ty X) → G t := by
  obtain ⟨⟨h1, h0⟩, -, -, h4, -⟩ := k.2.2 X h
  have gen : ∀ t, q_sub t (m_ty X) → G t := fun t ht => h4 t ⟨X, List.mem_singleton.mpr rfl, by
    cases X with
    | leaf => exact absurd h1 id
    | inner c u v l r => exact ⟨_, List.mem_cons_self, ht⟩⟩
  refine ⟨?_, gen⟩
  cases hX : m_ty X with
  | leaf =>
    exfalso
    exact h0 (by rw [hX]; rfl)
  | branch c l r => exact gen _ (by rw [hX]; exact Or.inl rfl)
/-- typeOf, of a good state -/
theorem k_typeOf' {f d : Nat} {q : Int32 × Int32 × Int32} (w : hp_w B ρ) (k : kz Z G L) (h : kI Z G L K) (h1 : ty_in K.2.1 q.2.1) (h2 : ty_in K.2.1 q.2.2) (hG : G (qN q.1 (ct K.2.2.1 K.2.1 q.2.1) (ct K.2.2.1 K.2.1 q.2.2))) (hf : 10000 ≤ f) :
    ∃ v K', am_call B sa am_dfl am_tb f (d + 2) 126 [.ref (ρ.1 9), .int q.1, .int q.2.1, .int q.2.2] (hp_S sa ρ K.1) = some (some (.int v), hp_S sa ρ K'.1) ∧ kR Z G L K K' ∧ tv K' v (qN q.1 (ct K.2.2.1 K.2.1 q.2.1) (ct K.2.2.1 K.2.1 q.2.2)) ∧ (ct_S K.2.2.1 K.2.1 (qN q.1 (ct K.2.2.1 K.2.1 q.2.1) (ct K.2.2.1 K.2.1 q.2.2)) → K'.2.2.2.2 = K.2.2.2.2) := by
  obtain ⟨P', v, n', T', b', e1, e2, e3, e4, e5, e6⟩ := mt_typeOf (sa := sa) (f := f) (d := d) w h.1 h.2.2.1 h1 h2 hf
  have nd : ndN P' n' T' K.2.2.2.1 := by
    refine (h.2.1.cg (e4.1 917 rfl).1 fun r a c => (e4.1 r ?_).2).xt h.wf h.n31 e5
    have : ∀ r, 918 ≤ r → r ≤ 927 → tx_S r = false := fun r a c => by
      unfold tx_S tn_S
      rw [Bool.or_eq_false_iff]
      exact ⟨decide_eq_false (by omega), decide_eq_false (by omega)⟩
    exact this r a c
  have h9 := h.2.2.2.2.2.2
  have hx : 2 ≤ n' ∧ T' 0 = (-1, -1, -1) ∧ T' 1 = (0, -1, -1) := ⟨Nat.le_trans h9.1 e5.1, by rw [e5.2 0 (by omega)]; exact h9.2.1, by rw [e5.2 1 (by omega)]; exact h9.2.2⟩
  rcases e6 with ⟨g1, g2, g3⟩ | ⟨g1, g2, g3, g4, g5⟩
  · have kI' : kI Z G L (P', n', T', K.2.2.2.1, b') := ⟨e2, nd, e3, fun z => h.2.2.2.1 (by rw [← g1]; exact z), fun t ht => (g3 t ht).elim (h.2.2.2.2.1 t) (fun z => by rw [z]; exact hG), h.2.2.2.2.2.1, hx⟩
    exact ⟨v, _, e1, ⟨kI', kx_t e4, e5, ⟨[], (List.append_nil _).symm⟩, fun z => by rw [← g1]; exact z⟩, pl_tv g2, fun _ => g1⟩
  · refine ⟨v, (P', n', T', K.2.2.2.1, b'), e1, ⟨⟨e2, nd, e3, fun _ => ?_, ?_, h.2.2.2.2.2.1, hx⟩, kx_t e4, e5, ⟨[], (List.append_nil _).symm⟩, fun z => by rw [show b' = false from z] at g1; cases g1⟩, tv_0 g1, fun z => ?_⟩
    · rcases g5 with z | z
      · exact h.2.2.2.1 z
      · exact k.1 (z G h.2.2.2.2.1 hG)
    · intro t ht
      rw [show (P', n', T', K.2.2.2.1, b').2.2.1 = K.2.2.1 from g4, show (P', n', T', K.2.2.2.1, b').2.1 = K.2.1 from g3] at ht
      exact h.2.2.2.2.1 t ht
    · rcases g5 with y | y
      · exact g1.trans y.symm
      · exact absurd h.1.good (y _ (fun _ x => x) z)
theorem k_typeOf {f d : Nat} {q : Int32 × Int32 × Int32} (w : hp_w B ρ) (k : kz Z G L) (h : kI Z G L K) (h1 : ty_in K.2.1 q.2.1) (h2 : ty_in K.2.1 q.2.2) (hG : G (qN q.1 (ct K.2.2.1 K.2.1 q.2.1) (ct K.2.2.1 K.2.1 q.2.2))) (hf : 10000 ≤ f) :
    kT Z G L sa ρ K (am_call B sa am_dfl am_tb f (d + 2) 126 [.ref (ρ.1 9), .int q.1, .int q.2.1, .int q.2.2] (hp_S sa ρ K.1)) (qN q.1 (ct K.2.2.1 K.2.1 q.2.1) (ct K.2.2.1 K.2.1 q.2.2)) := by
  obtain ⟨v, K', a, b, c, -⟩ := k_typeOf' (sa := sa) (f := f) (d := d) w k h h1 h2 hG hf
  exact ⟨v, K', a, b, c⟩
theorem k_leafT {f d : Nat} {c : Int32} (w : hp_w B ρ) (k : kz Z G L) (h : kI Z G L K) (hG : G (qN c qE qE)) (hf : 10000 ≤ f) :
    kT Z G L sa ρ K (am_call B sa am_dfl am_tb f (d + 2) 126 [.ref (ρ.1 9), .int c, .int (-1), .int (-1)] (hp_S sa ρ K.1)) (qN c qE qE) := by
  have := k_typeOf (sa := sa) (f := f) (d := d) (q := (c, -1, -1)) w k h (Or.inl rfl) (Or.inl rfl) (by rw [ct_m1]; exact hG) hf
  rw [ct_m1] at this
  exact this
theorem k_qA (h : kI Z G L K) : pl K.2.1 K.2.2.1 (nI 0) qA := by
  have h9 := h.2.2.2.2.2.2
  refine ⟨0, by omega, rfl, ?_⟩
  rw [ct_at h.wf h.n31 (by omega), h9.2.1]
  show qN (-1) (ct _ _ (-1)) (ct _ _ (-1)) = _
  rw [ct_m1]; rfl
theorem k_qB (h : kI Z G L K) : pl K.2.1 K.2.2.1 (nI 1) qB := by
  have h9 := h.2.2.2.2.2.2
  refine ⟨1, by omega, rfl, ?_⟩
  rw [ct_at h.wf h.n31 (by omega), h9.2.2]
  show qN 0 (ct _ _ (-1)) (ct _ _ (-1)) = _
  rw [ct_m1]; rfl
theorem k_truths {f d : Nat} (w : hp_w B ρ) (k : kz Z G L) (h : kI Z G L K) (hf : 10000 ≤ f) : ∃ v K', am_call B sa am_dfl am_tb f (d + 3) 127 [.ref (ρ.1 9)] (hp_S sa ρ K.1) = some (some (.int v), hp_S sa ρ K'.1) ∧ kR Z G L K K' ∧ tv K' v qB ∧ K'.2.2.2.2 = K.2.2.2.2 := by
  obtain ⟨f, rfl⟩ : ∃ g, f = g + 1 := ⟨f - 1, by omega⟩
  have := k_typeOf' (sa := sa) (f := f + 1) (d := d) (q := (0, -1, -1)) w k h (Or.inl rfl) (Or.inl rfl) (by rw [ct_m1]; exact h.2.2.2.2.1 _ (k_qB h).S) hf
  rw [ct_m1] at this
  obtain ⟨v, K', e1, e2, e3, e4⟩ := this
  rw [am_c_127, am_s127_0]
  simp only [hx_9 w, Option.bind_some]
  dsimp only at e1
  rw [e1, am_i_some]
  exact ⟨v, K', rfl, e2, e3, e4 (k_qB h).S⟩
theorem k_fun {f d : Nat} {v u : Int32} {t s : qT} (w : hp_w B ρ) (k : kz Z G L) (h : kI Z G L K) (hv : pl K.2.1 K.2.2.1 v t) (hu : pl K.2.1 K.2.2.1 u s) (hG : G (qF t s)) (hf : 10000 ≤ f) : kT Z G L sa ρ K (am_call B sa am_dfl am_tb f (d + 3) 128 [.ref (ρ.1 9), .int v, .int u] (hp_S sa ρ K.1)) (qF t s) := by
  obtain ⟨f, rfl⟩ : ∃ g, f = g + 1 := ⟨f - 1, by omega⟩
  have := k_typeOf (sa := sa) (f := f + 1) (d := d) (q := (2, v, u)) w k h hv.In hu.In (by rw [hv.ct, hu.ct]; exact hG) hf
  dsimp only at this
  rw [hv.ct, hu.ct] at this
  obtain ⟨y, K', e1, e2, e3⟩ := this
  rw [am_c_128, am_s128_0]
  simp only [hx_9 w, Option.bind_some]
  rw [e1, am_i_some]
  exact ⟨y, K', rfl, e2, e3⟩
theorem nodup_sub {α : Type} {a l : List α} (h : a.Nodup) (hs : ∀ x ∈ a, x ∈ l) : a.length ≤ l.length := by
  cases a with
  | nil => exact Nat.zero_le _
  | cons x a =>
    refine q_pig (x :: a).length (fun i => ((x :: a)[i]?).getD x) l (fun i j hij hj e => ?_) (fun i hi => ?_)
    · have hi : i < (x :: a).length := by omega
      rw [List.getElem?_eq_getElem hi, List.getElem?_eq_getElem hj] at e
      have := (List.getElem_inj h).mp (show (x :: a)[i] = (x :: a)[j] from e)
      omega
    · rw [List.getElem?_eq_getElem hi]
      exact hs _ (List.getElem_mem hi)
/-- node, of a good state -/
theorem k_node {f d : Nat} {q : nK} {M : qM} (w : hp_w B ρ) (k : kz Z G L) (h : kI Z G L K) (hk : nd_key K.2.1 K.2.2.1 K.2.2.2.1 K.2.2.2.1.length q M) (hM : M ∈ L) (hf : 70000 ≤ f) :
    kO Z G L sa ρ K (am_call B sa am_dfl am_tb f (d + 2) 131 [.ref (ρ.1 9), .int q.1, .int q.2.1, .int q.2.2.1, .int q.2.2.2] (hp_S sa ρ K.1)) M := by
  obtain ⟨⟨m1, -⟩, m2, m3, m4, m5⟩ := k.2.2 M hM
  obtain ⟨P', v, ns', b', e1, e2, e3, e4, e5⟩ := nd_node (sa := sa) (f := f) (d := d) w h.1 h.2.1 h.2.2.1 hk m1 hf
  have ty : tyN P' K.2.1 K.2.2.1 := h.1.cg (e4.1 904 rfl).1 fun r a c => by
    have : nx_S r = false := by
      unfold nx_S nn_S
      rw [Bool.or_eq_false_iff]
      exact ⟨decide_eq_false (by omega), decide_eq_false (by omega)⟩
    exact (e4.1 r this).2
  rcases e5 with ⟨g1, ⟨i, g2, g3⟩, g4⟩ | ⟨g1, g2, g3, g4⟩
  · have hL : ∀ X ∈ ns', X ∈ L := fun X hX => by
      rcases g4 with z | z
      · rw [z] at hX; exact h.2.2.2.2.2.1 X hX
      · rw [z] at hX
        rcases List.mem_append.mp hX with y | y
        · exact h.2.2.2.2.2.1 X y
        · rw [List.mem_singleton.mp y]; exact hM
    refine ⟨v, (P', K.2.1, K.2.2.1, ns', b'), e1, ⟨⟨ty, e2, e3, fun z => h.2.2.2.1 (by rw [← g1]; exact z), h.2.2.2.2.1, hL, h.2.2.2.2.2.2⟩, kx_n e4, ty_xt.rf, ?_, fun z => by rw [← g1]; exact z⟩, ⟨i, ?_, g2, fun _ => g3⟩⟩
    · rcases g4 with z | z
      · exact ⟨[], by rw [List.append_nil]; exact z⟩
      · exact ⟨[M], z⟩
    · have := (List.getElem?_eq_some_iff.mp g3).1
      have := e2.1.2
      omega
  · refine ⟨v, (P', K.2.1, K.2.2.1, ns', b'), e1, ⟨⟨ty, e2, e3, fun _ => ?_, h.2.2.2.2.1, by rw [g3]; exact h.2.2.2.2.2.1, h.2.2.2.2.2.2⟩, kx_n e4, ty_xt.rf, ⟨[], by rw [List.append_nil]; exact g3⟩, fun z => by rw [show b' = false from z] at g1; cases g1⟩, by rw [g2]; exact nv_0 g1⟩
    rcases g4 with z | z | z | ⟨z, y⟩
    · exact h.2.2.2.1 z
    · exact m2 z
    · exact m3 z
    · refine k.2.1 ?_
      have := nodup_sub (a := M :: K.2.2.2.1) (l := L) (List.nodup_cons.mpr ⟨y, h.2.1.2.2.1⟩) (fun x hx => by
        rcases List.mem_cons.mp hx with e | e
        · rw [e]; exact hM
        · exact h.2.2.2.2.2.1 x e)
      rw [List.length_cons] at this
      omega
theorem bI_cases (b : Bool) : (b = false ∧ bI b = 0) ∨ (b = true ∧ bI b = 1) := by cases b <;> simp [bI]
/-- free, constant -/
theorem k_free {f d x : Nat} {v : Int32} {t : qT} (w : hp_w B ρ) (k : kz Z G L) (h : kI Z G L K) (hv : tv K v t) (hx : x < 2 ^ 28) (hM : mN (nI (4 * x + 1)) t .leaf .leaf ∈ L) (hf : 70000 ≤ f) :
    kO Z G L sa ρ K (am_call B sa am_dfl am_tb f (d + 3) 132 [.ref (ρ.1 9), .int (nI x), .int v] (hp_S sa ρ K.1)) (mN (nI (4 * x + 1)) t .leaf .leaf) := by
  obtain ⟨f, rfl⟩ : ∃ g, f = g + 1 := ⟨f - 1, by omega⟩
  rw [am_c_132, am_s132_0]
  simp only [h.bad w, Option.bind_some, am_c_eq]
  rcases bI_cases K.2.2.2.2 with ⟨eb, e⟩ | ⟨eb, e⟩
  · rw [e, if_pos rfl]
    obtain ⟨y, K', e1, e2, e3⟩ := k_node (sa := sa) (f := f + 1) (d := d) (q := (2, nI x, 0, v)) (M := mN (nI (4 * x + 1)) t .leaf .leaf) w k h ⟨by rw [m_ty_N]; exact hv.pl eb, Or.inr (Or.inr ⟨x, 1, t, Or.inr (Or.inl ⟨rfl, rfl⟩), rfl, hx, rfl, rfl⟩)⟩ hM hf
    simp only [hx_9 w, Option.bind_some]
    dsimp only at e1
    rw [e1, am_i_some]
    exact ⟨y, K', rfl, e2, e3⟩
  · rw [e, if_neg (by decide)]
    exact ⟨0, K, rfl, kR.rf h, nv_0 eb⟩
theorem k_const {f d x : Nat} {v : Int32} {t : qT} (w : hp_w B ρ) (k : kz Z G L) (h : kI Z G L K) (hv : tv K v t) (hx : x < 2 ^ 28) (hM : mN (nI (4 * x + 2)) t .leaf .leaf ∈ L) (hf : 70000 ≤ f) :
    kO Z G L sa ρ K (am_call B sa am_dfl am_tb f (d + 3) 133 [.ref (ρ.1 9), .int (nI x), .int v] (hp_S sa ρ K.1)) (mN (nI (4 * x + 2)) t .leaf .leaf) := by
  obtain ⟨f, rfl⟩ : ∃ g, f = g + 1 := ⟨f - 1, by omega⟩
  rw [am_c_133, am_s133_0]
  simp only [h.bad w, Option.bind_some, am_c_eq]
  rcases bI_cases K.2.2.2.2 with ⟨eb, e⟩ | ⟨eb, e⟩
  · rw [e, if_pos rfl]
    obtain ⟨y, K', e1, e2, e3⟩ := k_node (sa := sa) (f := f + 1) (d := d) (q := (3, nI x, 0, v)) (M := mN (nI (4 * x + 2)) t .leaf .leaf) w k h ⟨by rw [m_ty_N]; exact hv.pl eb, Or.inr (Or.inr ⟨x, 2, t, Or.inr (Or.inr ⟨rfl, rfl⟩), rfl, hx, rfl, rfl⟩)⟩ hM hf
    simp only [hx_9 w, Option.bind_some]
    dsimp only at e1
    rw [e1, am_i_some]
    exact ⟨y, K', rfl, e2, e3⟩
  · rw [e, if_neg (by decide)]
    exact ⟨0, K, rfl, kR.rf h, nv_0 eb⟩
/-- what is read of a type -/
theorem kI.rdT (h : kI Z G L K) {a : Nat} (ha : a < K.2.1) : hp_rd K.1 905 (nI a) = some (K.2.2.1 a).1 ∧ hp_rd K.1 906 (nI a) = some (K.2.2.1 a).2.1 ∧ hp_rd K.1 907 (nI a) = some (K.2.2.1 a).2.2 := by
  have n8 := h.1.1.2
  obtain ⟨e0, e1, e2, -⟩ := h.1.2.2.1 a ha
  have rd : ∀ r, 905 ≤ r → r ≤ 910 → hp_rd K.1 r (nI a) = some ((K.1.2 r).2 a) := fun r x y => hp_rd_nI (by rw [h.1.2.1.1 r x y]; omega) (by omega)
  exact ⟨by rw [rd 905 (by decide) (by decide), e0], by rw [rd 906 (by decide) (by decide), e1], by rw [rd 907 (by decide) (by decide), e2]⟩
/-- what is read of a node -/
theorem kI.rdN (h : kI Z G L K) {i : Nat} {M : qM} (hi : K.2.2.2.1[i]? = some M) : hp_rd K.1 918 (nI i) = some (Nk K.1 i).1 ∧ hp_rd K.1 919 (nI i) = some (Nk K.1 i).2.1 ∧ hp_rd K.1 920 (nI i) = some (Nk K.1 i).2.2.1 ∧ hp_rd K.1 921 (nI i) = some (Nk K.1 i).2.2.2 := by
  have hl := (List.getElem?_eq_some_iff.mp hi).1
  exact ⟨h.2.1.rd (by decide) (by decide) hl, h.2.1.rd (by decide) (by decide) hl, h.2.1.rd (by decide) (by decide) hl, h.2.1.rd (by decide) (by decide) hl⟩
theorem kI.rdt (h : kI Z G L K) {v : Int32} {M : qM} (hv : nq K v M) : ∃ u, hp_rd K.1 921 v = some u ∧ pl K.2.1 K.2.2.1 u (m_ty M) := by
  obtain ⟨i, -, rfl, hi⟩ := hv
  exact ⟨_, (h.rdN hi).2.2.2, (h.row hi).1.1⟩
theorem kI.rdt' (h : kI Z G L K) {v : Int32} {M : qM} (hv : nv K v M) : ∃ u, hp_rd K.1 921 v = some u ∧ (K.2.2.2.2 = false → pl K.2.1 K.2.2.1 u (m_ty M)) := by
  obtain ⟨i, h1, rfl, hi⟩ := hv
  refine ⟨(K.1.2 921).2 i, hp_rd_nI (by rw [h.2.1.2.1.1 921 (by decide) (by decide)]; exact h1) (by omega), fun z => (h.row (hi z)).1.1⟩
/-- apply -/
theorem k_apply {f d : Nat} {v y : Int32} {F X : qM} {u : qT} (w : hp_w B ρ) (k : kz Z G L) (h : kI Z G L K) (hv : nv K v F) (hy : nv K y X) (ht : m_ty F = qF (m_ty X) u) (hM : mN (-1) u F X ∈ L) (hf : 70000 ≤ f) :
    kO Z G L sa ρ K (am_call B sa am_dfl am_tb f (d + 3) 135 [.ref (ρ.1 9), .int v, .int y] (hp_S sa ρ K.1)) (mN (-1) u F X) := by
  obtain ⟨f, rfl⟩ : ∃ g, f = g + 1 := ⟨f - 1, by omega⟩
  rw [am_c_135, am_s135_0]
  simp only [h.bad w, Option.bind_some, am_c_eq]
  rcases bI_cases K.2.2.2.2 with ⟨eb, e⟩ | ⟨eb, e⟩
  · rw [e, if_pos rfl]
    obtain ⟨s, r1, r2⟩ := h.rdt (hv.q eb)
    rw [ht] at r2
    obtain ⟨a, a1, a2, a3, a4, a5⟩ := pl_row r2 h.wf h.n31
    have r3 := (h.rdT a1).2.2
    rw [← a2] at r3
    have un : u ≠ qE := by
      have := (k.2.2 _ hM).1.2
      rw [m_ty_N] at this
      exact this
    have pu : pl K.2.1 K.2.2.1 (K.2.2.1 a).2.2 u := pl_in ((h.wf a a1).2.mono (by omega)) a5 un
    obtain ⟨i, i1, i2, i3⟩ := hv.q eb
    obtain ⟨j, j1, j2, j3⟩ := hy.q eb
    have li := (List.getElem?_eq_some_iff.mp i3).1
    have lj := (List.getElem?_eq_some_iff.mp j3).1
    obtain ⟨z, K', e1, e2, e3⟩ := k_node (sa := sa) (f := f + 1) (d := d) (q := (4, v, y, (K.2.2.1 a).2.2)) (M := mN (-1) u F X) w k h ⟨by rw [m_ty_N]; exact pu, Or.inl ⟨rfl, i, j, F, X, u, li, lj, i2, j2, i3, j3, rfl⟩⟩ hM hf
    simp only [hr_907 w, hr_921 w, hl_921 w, r1, hl_907 w, r3, Option.bind_some, hx_9 w]
    dsimp only at e1
    rw [e1, am_i_some]
    exact ⟨z, K', rfl, e2, e3⟩
  · rw [e, if_neg (by decide)]
    exact ⟨0, K, rfl, kR.rf h, nv_0 eb⟩
/-- abstracted -/
theorem k_abs {f d : Nat} {v y : Int32} {Y : qM} {t : qT} (w : hp_w B ρ) (k : kz Z G L) (h : kI Z G L K) (hv : tv K v t) (hy : nv K y Y) (hM : mN (-2) (qF t (m_ty Y)) Y .leaf ∈ L) (hf : 70000 ≤ f) :
    kO Z G L sa ρ K (am_call B sa am_dfl am_tb f (d + 4) 136 [.ref (ρ.1 9), .int v, .int y] (hp_S sa ρ K.1)) (mN (-2) (qF t (m_ty Y)) Y .leaf) := by
  obtain ⟨f, rfl⟩ : ∃ g, f = g + 1 := ⟨f - 1, by omega⟩
  rw [am_c_136, am_s136_0]
  simp only [h.bad w, Option.bind_some, am_c_eq]
  rcases bI_cases K.2.2.2.2 with ⟨eb, e⟩ | ⟨eb, e⟩
  · rw [e, if_pos rfl]
    obtain ⟨s, r1, r2⟩ := h.rdt (hy.q eb)
    have hG := (k.ty hM).1
    rw [m_ty_N] at hG
    obtain ⟨o, K1, e1, e2, e3⟩ := k_fun (sa := sa) (f := f + 1) (d := d) w k h (hv.pl eb) r2 hG (by omega)
    simp only [hr_921 w, hl_921 w, r1, Option.bind_some, hx_9 w]
    rw [e1, am_i_some]
    simp only [e2.1.bad w, Option.bind_some]
    rcases bI_cases K1.2.2.2.2 with ⟨eb1, g⟩ | ⟨eb1, g⟩
    · rw [g, if_pos rfl]
      obtain ⟨j, j1, j2, j3⟩ := (hy.go e2).q eb1
      have lj := (List.getElem?_eq_some_iff.mp j3).1
      obtain ⟨z, K', q1, q2, q3⟩ := k_node (sa := sa) (f := f + 1) (d := d + 1) (q := (5, v, y, o)) (M := mN (-2) (qF t (m_ty Y)) Y .leaf) w k e2.1 ⟨by rw [m_ty_N]; exact e3.pl eb1, Or.inr (Or.inl ⟨rfl, j, t, Y, lj, (hv.go h e2).pl eb1, j2, j3, rfl⟩)⟩ hM hf
      simp only [hx_9 w, Option.bind_some]
      dsimp only at q1
      rw [q1, am_i_some]
      exact ⟨z, K', rfl, e2.tr q2, q3⟩
    · rw [g, if_neg (by decide)]
      exact ⟨0, K1, rfl, e2, nv_0 eb1⟩
  · rw [e, if_neg (by decide)]
    exact ⟨0, K, rfl, kR.rf h, nv_0 eb⟩
theorem kz.sub (k : kz Z G L) {X Y : qM} (h : X ∈ L) (hs : m_sub Y X) : Y ∈ L := (k.2.2 X h).2.2.2.2 Y hs
theorem m_sub_self {X : qM} (h : m_wf X) : m_sub X X := by
  cases X with
  | leaf => exact absurd h id
  | inner c u v l r => exact Or.inl rfl
theorem mE_eq {X Y : qM} : mE X Y = mN (-1) qB (mN (-1) (qF (m_ty X) qB) (mN 2 (qF (m_ty X) (qF (m_ty X) qB)) .leaf .leaf) X) Y := rfl
/-- equation -/
theorem k_equation {f d : Nat} {v y : Int32} {X Y : qM} (w : hp_w B ρ) (k : kz Z G L) (h : kI Z G L K) (hv : nv K v X) (hy : nv K y Y) (ht : m_ty Y = m_ty X) (hM : mE X Y ∈ L) (hf : 70000 ≤ f) :
    kO Z G L sa ρ K (am_call B sa am_dfl am_tb f (d + 4) 144 [.ref (ρ.1 9), .int v, .int y] (hp_S sa ρ K.1)) (mE X Y) := by
  obtain ⟨f, rfl⟩ : ∃ g, f = g + 1 := ⟨f - 1, by omega⟩
  have hM2 : mN (-1) (qF (m_ty X) qB) (mN 2 (qF (m_ty X) (qF (m_ty X) qB)) .leaf .leaf) X ∈ L := k.sub hM (Or.inr (Or.inl (Or.inl rfl)))
  have hM1 : mN (nI (4 * 0 + 2)) (qF (m_ty X) (qF (m_ty X) qB)) .leaf .leaf ∈ L := k.sub hM2 (Or.inr (Or.inl (Or.inl rfl)))
  have g1 : G (qF (m_ty X) qB) := by have := (k.ty hM2).1; rw [m_ty_N] at this; exact this
  have g2 : G (qF (m_ty X) (qF (m_ty X) qB)) := by have := (k.ty hM1).1; rw [m_ty_N] at this; exact this
  rw [am_c_144, am_s144_0]
  simp only [h.bad w, Option.bind_some, am_c_eq]
  rcases bI_cases K.2.2.2.2 with ⟨eb, e⟩ | ⟨eb, e⟩
  · rw [e, if_pos rfl]
    obtain ⟨s, r1, r2⟩ := h.rdt (hv.q eb)
    obtain ⟨o1, K1, a1, a2, a3, a4⟩ := k_truths (sa := sa) (f := f + 1) (d := d) w k h (by omega)
    simp only [hr_921 w, hl_921 w, r1, Option.bind_some, hx_9 w]
    rw [a1, am_i_some]
    simp only [Option.bind_some, hx_9 w]
    have p1 : pl K1.2.1 K1.2.2.1 s (m_ty X) := r2.xt h.wf h.n31 a2.2.2.1
    have fin : ∀ {K2 : kS} {o : Int32}, kR Z G L K K2 → tv K2 o (qF (m_ty X) (qF (m_ty X) qB)) → kO Z G L sa ρ K (am_i (am_call B sa am_dfl am_tb (f + 1) (d + 3) 133 [.ref (ρ.1 9), .int 0, .int o] (hp_S sa ρ K2.1)) fun v8 g8 => (am_obj g8 (ρ.1 9) 9).bind fun _ => am_i (am_call B sa am_dfl am_tb (f + 1) (d + 3) 135 [.ref (ρ.1 9), .int v8, .int v] g8) fun v9 g9 => (am_obj g9 (ρ.1 9) 9).bind fun _ => am_i (am_call B sa am_dfl am_tb (f + 1) (d + 3) 135 [.ref (ρ.1 9), .int v9, .int y] g9) fun v10 g10 => some (some (.int v10), g10)) (mE X Y) := by
      intro K2 o hr ho
      obtain ⟨x1, K3, b1, b2, b3⟩ := k_const (sa := sa) (f := f + 1) (d := d) (x := 0) w k hr.1 ho (by decide) hM1 hf
      have b1 : am_call B sa am_dfl am_tb (f + 1) (d + 3) 133 [.ref (ρ.1 9), .int 0, .int o] (hp_S sa ρ K2.1) = _ := b1
      rw [b1, am_i_some]
      simp only [hx_9 w, Option.bind_some]
      obtain ⟨x2, K4, c1, c2, c3⟩ := k_apply (sa := sa) (f := f + 1) (d := d) w k b2.1 b3 (hv.go (hr.tr b2)) (u := qF (m_ty X) qB) (by rw [m_ty_N]) hM2 hf
      rw [c1, am_i_some]
      simp only [hx_9 w, Option.bind_some]
      obtain ⟨x3, K5, d1, d2, d3⟩ := k_apply (sa := sa) (f := f + 1) (d := d) w k c2.1 c3 (hy.go ((hr.tr b2).tr c2)) (u := qB) (by rw [m_ty_N, ht]) hM hf
      rw [d1, am_i_some]
      exact ⟨x3, K5, rfl, ((hr.tr b2).tr c2).tr d2, d3⟩
    have eb1 : K1.2.2.2.2 = false := a4.trans eb
    · obtain ⟨o2, K2, b1, b2, b3⟩ := k_fun (sa := sa) (f := f + 1) (d := d) w k a2.1 p1 (a3.pl eb1) g1 (by omega)
      rw [b1, am_i_some]
      simp only [b2.1.bad w, Option.bind_some]
      rcases bI_cases K2.2.2.2.2 with ⟨eb2, e2⟩ | ⟨eb2, e2⟩
      · rw [e2, if_pos rfl]
        obtain ⟨o3, K3, c1, c2, c3⟩ := k_fun (sa := sa) (f := f + 1) (d := d) w k b2.1 (p1.xt a2.1.wf a2.1.n31 b2.2.2.1) (b3.pl eb2) g2 (by omega)
        simp only [hx_9 w, Option.bind_some]
        rw [c1, am_i_some]
        simp only [hx_9 w, Option.bind_some]
        exact fin ((a2.tr b2).tr c2) c3
      · rw [e2, if_neg (by decide)]
        simp only [hx_9 w, Option.bind_some]
        exact fin (a2.tr b2) (tv_0 eb2)
  · rw [e, if_neg (by decide)]
    exact ⟨0, K, rfl, kR.rf h, nv_0 eb⟩
end KI
