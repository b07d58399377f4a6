/-! THE REFERENCE, 45: keep -/
section KP1
variable {Z : Prop} {G : qT → Prop} {L : List qM} {sa : Nat → Nat} {B : Nat} {ρ : hp_L} {K : kS} {P P' : hp_P} {nk nt t k n n' : Nat} {M : qM} {T T' : Nat → Int32 × Int32 × Int32} {ns ns' : List qM}
theorem tyN.im (h : tyN P n T) (fr : mfr im_S P P') : tyN P' n T := by
  obtain ⟨h1, ⟨h2, h3, h4⟩, h5, h6⟩ := h
  have a2 : ∀ {r}, r ≠ 912 → r ≠ 927 → P'.2 r = P.2 r := fun a b => (im_k fr a b).2
  refine ⟨⟨(im_k fr (by decide) (by decide)).1.trans h1.1, h1.2⟩, ⟨fun r a b => (fr.2 r).trans (h2 r a b), (fr.2 912).trans h3, (fr.2 911).trans h4⟩, fun j hj => ?_, ?_⟩
  · rw [a2 (by decide) (by decide), a2 (by decide) (by decide), a2 (by decide) (by decide), a2 (by decide) (by decide), a2 (by decide) (by decide)]
    exact h5 j hj
  · rw [a2 (by decide) (by decide), a2 (by decide) (by decide)]
    exact h6
theorem Nk_im (fr : mfr im_S P P') : Nk P' = Nk P := by
  funext i
  unfold Nk
  rw [(im_k fr (by decide) (by decide)).2, (im_k fr (by decide) (by decide)).2, (im_k fr (by decide) (by decide)).2, (im_k fr (by decide) (by decide)).2]
theorem ndN.im (h : ndN P n T ns) (fr : mfr im_S P P') : ndN P' n T ns := by
  obtain ⟨h1, ⟨h2, h3, h4⟩, h5, h6, h7⟩ := h
  have a2 : ∀ {r}, r ≠ 912 → r ≠ 927 → P'.2 r = P.2 r := fun a b => (im_k fr a b).2
  refine ⟨⟨(im_k fr (by decide) (by decide)).1.trans h1.1, h1.2⟩, ⟨fun r a b => (fr.2 r).trans (h2 r a b), (fr.2 927).trans h3, (fr.2 926).trans h4⟩, h5, fun j X hj => ?_, ?_⟩
  · unfold nd_row
    rw [Nk_im fr, a2 (by decide) (by decide), a2 (by decide) (by decide), a2 (by decide) (by decide)]
    exact h6 j X hj
  · rw [Nk_im fr, a2 (by decide) (by decide), a2 (by decide) (by decide)]
    exact h7
theorem kI.im (h : kI Z G L K) (fr : mfr im_S K.1 P) : kI Z G L (P, K.2) := ⟨h.1.im fr, h.2.1.im fr, (im_k fr (by decide) (by decide)).1.trans h.2.2.1, h.2.2.2⟩
/-- typeOf, where all is well -/
theorem k_typeOf2 {f d : Nat} {q : Int32 × Int32 × Int32} (w : hp_w B ρ) (k : kz False G L) (h : kI False G L (P, n, T, ns, false)) (h1 : ty_in n q.2.1) (h2 : ty_in n q.2.2) (hG : G (qN q.1 (ct T n q.2.1) (ct T n q.2.2))) (hf : 10000 ≤ f) :
    ∃ v P' n' T', am_call B sa am_dfl am_tb f (d + 2) 126 [.ref (ρ.1 9), .int q.1, .int q.2.1, .int q.2.2] (hp_S sa ρ P) = some (some (.int v), hp_S sa ρ P') ∧ kI False G L (P', n', T', ns, false) ∧ mfr tx_S P P' ∧ ty_xt n T n' T' ∧ pl n' T' v (qN q.1 (ct T n q.2.1) (ct T n q.2.2)) ∧ n' ≤ n + 1 ∧ ∀ r j, 905 ≤ r → r ≤ 910 → j ≠ n → (P'.2 r).2 j = (P.2 r).2 j := by
  obtain ⟨P', v, n', T', b', ⟨e1, e0, er⟩, e2, e3, e4, e5, e6⟩ := mt_typeOf2 (sa := sa) (f := f) (d := d) (q := q) w h.1 h.2.2.1 h1 h2 hf
  have nd : ndN P' n' T' ns := by
    refine (h.2.1.cg (e4.1 917 rfl).1 fun r a c => (e4.1 r ?_).2).xt h.wf h.n31 e5
    have : ∀ r, 918 ≤ r → r ≤ 927 → tx_S r = false := fun r a c => by
      unfold tx_S tn_S
      rw [Bool.or_eq_false_iff]
      exact ⟨decide_eq_false (by omega), decide_eq_false (by omega)⟩
    exact this r a c
  have h9 := h.2.2.2.2.2.2
  have h9 : 2 ≤ n ∧ T 0 = (-1, -1, -1) ∧ T 1 = (0, -1, -1) := h9
  have hx : 2 ≤ n' ∧ T' 0 = (-1, -1, -1) ∧ T' 1 = (0, -1, -1) := ⟨Nat.le_trans h9.1 e5.1, by rw [e5.2 0 (by show 0 < n; omega)]; exact h9.2.1, by rw [e5.2 1 (by show 1 < n; omega)]; exact h9.2.2⟩
  rcases e6 with ⟨g1, g2, g3⟩ | ⟨g1, g2, g3, g4, g5⟩
  · have g1 : b' = false := g1
    subst g1
    exact ⟨v, P', n', T', e1, ⟨e2, nd, e3, fun z => Bool.noConfusion z, fun t ht => (g3 t ht).elim (h.2.2.2.2.1 t) (fun z => by rw [z]; exact hG), h.2.2.2.2.2.1, hx⟩, e4, e5, g2, e0, er⟩
  · rcases g5 with z | z
    · exact Bool.noConfusion z
    · exact (k.1 (z G h.2.2.2.2.1 hG)).elim
/-- node, where all is well -/
theorem k_node2 {f d : Nat} {q : nK} {M : qM} (w : hp_w B ρ) (k : kz False G L) (h : kI False G L (P, n, T, ns, false)) (hk : nd_key n T ns ns.length q M) (hM : M ∈ L) (hf : 70000 ≤ f) :
    ∃ v P' ns', am_call B sa am_dfl am_tb f (d + 2) 131 [.ref (ρ.1 9), .int q.1, .int q.2.1, .int q.2.2.1, .int q.2.2.2] (hp_S sa ρ P) = some (some (.int v), hp_S sa ρ P') ∧ kI False G L (P', n, T, ns', false) ∧ mfr nx_S P P' ∧ nq (P', n, T, ns', false) v M ∧ (ns' = ns ∨ ns' = ns ++ [M]) ∧ ∀ r j, 918 ≤ r → r ≤ 925 → j ≠ ns.length → (P'.2 r).2 j = (P.2 r).2 j := by
  obtain ⟨⟨m1, -⟩, m2, m3, m4, m5⟩ := k.2.2 M hM
  obtain ⟨P', v, ns', b', ⟨e1, er⟩, e2, e3, e4, e5⟩ := nd_node2 (sa := sa) (f := f) (d := d) w h.1 h.2.1 h.2.2.1 hk m1 hf
  have ty : tyN P' n T := h.1.cg (e4.1 904 rfl).1 fun r a c => by
    have : nx_S r = false := by
      unfold nx_S nn_S
      rw [Bool.or_eq_false_iff]
      exact ⟨decide_eq_false (by omega), decide_eq_false (by omega)⟩
    exact (e4.1 r this).2
  rcases e5 with ⟨g1, ⟨i, g2, g3⟩, g4⟩ | ⟨g1, g2, g3, g4⟩
  · have g1 : b' = false := g1
    subst g1
    have hL : ∀ X ∈ ns', X ∈ L := fun X hX => by
      rcases g4 with z | z
      · rw [z] at hX; exact h.2.2.2.2.2.1 X hX
      · rw [z] at hX
        rcases List.mem_append.mp hX with y | y
        · exact h.2.2.2.2.2.1 X y
        · rw [List.mem_singleton.mp y]; exact hM
    refine ⟨v, P', ns', e1, ⟨ty, e2, e3, fun z => Bool.noConfusion z, h.2.2.2.2.1, hL, h.2.2.2.2.2.2⟩, e4, ⟨i, ?_, g2, g3⟩, g4, er⟩
    have := (List.getElem?_eq_some_iff.mp g3).1
    have := e2.1.2
    omega
  · exfalso
    rcases g4 with z | z | z | ⟨z, y⟩
    · exact Bool.noConfusion z
    · exact m2 z
    · exact m3 z
    · refine k.2.1 ?_
      have := nodup_sub (a := M :: ns) (l := L) (List.nodup_cons.mpr ⟨y, h.2.1.2.2.1⟩) (fun x hx => by
        rcases List.mem_cons.mp hx with e | e
        · rw [e]; exact hM
        · exact h.2.2.2.2.2.1 x e)
      rw [List.length_cons] at this
      have z : 60000 ≤ ns.length := z
      omega
def tm_S : Nat → Bool := fun r => tx_S r || decide (r = 912)
/-- the types anew -/
def tyL (G : qT → Prop) (L : List qM) (K : kS) (u : Nat → Int32) (nt : Nat) (P3 : hp_P) (ns0 : List qM) (k : Nat) (P : hp_P) (n' : Nat) (T' : Nat → Int32 × Int32 × Int32) : Prop :=
  kI False G L (P, n', T', ns0, false) ∧ ty_xt nt K.2.2.1 n' T' ∧ n' ≤ k ∧
  (∀ i, nt ≤ i → i < k → (u i ≠ -1 → pl n' T' ((P.2 912).2 i) (ct K.2.2.1 K.2.1 (nI i)))) ∧
  (∀ i, k ≤ i → (P.2 912).2 i = u i) ∧
  (∀ r i, 905 ≤ r → r ≤ 907 → k ≤ i → (P.2 r).2 i = (K.1.2 r).2 i) ∧ mfr tm_S P3 P
theorem tx_12 : tx_S 912 = false := rfl
set_option maxHeartbeats 4000000 in
theorem ty_loop {x3 x4 x6 : Int32} {f0 d : Nat} {u : Nat → Int32} {P3 : hp_P} {ns0 : List qM} {Z' : Prop} {G' : qT → Prop} {L' : List qM} (w : hp_w B ρ) (h : kI Z' G' L' K) (kz' : kz False G L) (hnt : nt ≤ K.2.1) (hnt2 : 2 ≤ nt) (hu : ∀ i, nt ≤ i → i < K.2.1 → u i ≠ -1 → G (ct K.2.2.1 K.2.1 (nI i)) ∧ (∀ b, (K.2.2.1 i).2.1 = nI b → nt ≤ b → b < K.2.1 → u b ≠ -1) ∧ ∀ b, (K.2.2.1 i).2.2 = nI b → nt ≤ b → b < K.2.1 → u b ≠ -1) (hf0 : 10000 ≤ f0) :
    ∀ (m k f : Nat) (P : hp_P) (n' : Nat) (T' : Nat → Int32 × Int32 × Int32), K.2.1 - k = m → nt ≤ k → k ≤ K.2.1 → tyL G L K u nt P3 ns0 k P n' T' → m + 1 ≤ f →
    ∃ f' P' n2 T2, f ≤ f' + (m + 1) ∧ am_go B sa am_dfl (am_call B sa am_dfl am_tb f0 (d + 2)) am_r200 f 139 [(0, .ref (ρ.1 9)), (3, .int x3), (4, .int x4), (5, .int (nI nt)), (6, .int x6), (7, .int (nI K.2.1)), (8, .int (nI k))] [] (hp_S sa ρ P) = am_go B sa am_dfl (am_call B sa am_dfl am_tb f0 (d + 2)) am_r200 f' 256 [(0, .ref (ρ.1 9)), (3, .int x3), (4, .int x4), (5, .int (nI nt)), (6, .int x6), (8, .int x4)] [] (hp_S sa ρ P') ∧ tyL G L K u nt P3 ns0 K.2.1 P' n2 T2 := by
  have n8 := h.1.1.2
  intro m
  induction m with
  | zero =>
    intro k f P n' T' hm h1 h2 ht hf
    obtain ⟨f, rfl⟩ : ∃ g, f = g + 1 := ⟨f - 1, by omega⟩
    have : k = K.2.1 := by omega
    subst this
    rw [am_s200_139]
    simp only [am_c_ge]
    rw [if_pos (Int32.le_refl _)]
    exact ⟨f, P, n', T', by omega, rfl, ht⟩
  | succ m ih =>
    intro k f P n' T' hm h1 h2 ht hf
    obtain ⟨f, rfl⟩ : ∃ g, f = g + 1 := ⟨f - 1, by omega⟩
    obtain ⟨t1, t2, t3, t4, t5, t6, t7⟩ := ht
    have kn : k < K.2.1 := by omega
    have l12 : (P.2 912).1 = 9000 := t1.1.2.1.2.1
    have q12 : hp_rd P 912 (nI k) = some (u k) := by rw [← t5 k (Nat.le_refl _)]; exact hp_rd_nI (by rw [l12]; omega) (by omega)
    rw [am_s200_139]
    simp only [am_c_ge, am_c_ne, am_c_lt, hr_912 w, hl_912 w, q12, Option.bind_some, nI_1]
    rw [if_neg (nI_ge kn (by omega))]
    by_cases um : u k = -1
    · rw [if_neg (fun z => z um)]
      obtain ⟨f', P', n2, T2, g1, g2, g3⟩ := ih (k + 1) f P n' T' (by omega) (by omega) (by omega) ⟨t1, t2, by omega, fun i a b c => by
        by_cases e : i = k
        · rw [e] at c; exact absurd um c
        · exact t4 i a (by omega) c, fun i a => t5 i (by omega), fun r i a b c => t6 r i a b (by omega), t7⟩ (by omega)
      exact ⟨f', P', n2, T2, by omega, g2, g3⟩
    · rw [if_pos um]
      obtain ⟨hG, uL, uR⟩ := hu k h1 kn um
      obtain ⟨o5, o6, o7, -⟩ := h.1.2.2.1 k kn
      have r5 : hp_rd P 905 (nI k) = some (K.2.2.1 k).1 := by rw [← o5, ← t6 905 k (by decide) (by decide) (Nat.le_refl _)]; exact hp_rd_nI (by rw [t1.1.2.1.1 905 (by decide) (by decide)]; omega) (by omega)
      have r6 : hp_rd P 906 (nI k) = some (K.2.2.1 k).2.1 := by rw [← o6, ← t6 906 k (by decide) (by decide) (Nat.le_refl _)]; exact hp_rd_nI (by rw [t1.1.2.1.1 906 (by decide) (by decide)]; omega) (by omega)
      have r7 : hp_rd P 907 (nI k) = some (K.2.2.1 k).2.2 := by rw [← o7, ← t6 907 k (by decide) (by decide) (Nat.le_refl _)]; exact hp_rd_nI (by rw [t1.1.2.1.1 907 (by decide) (by decide)]; omega) (by omega)
      obtain ⟨w1, w2⟩ := h.wf k kn
      have hct := ct_at h.wf h.n31 kn
      have low : ∀ {x : Int32}, ty_in nt x → ty_in n' x ∧ ct T' n' x = ct K.2.2.1 K.2.1 x := fun {x} hx => by
        have hwt : ty_wf K.2.2.1 nt := ty_wf_le h.wf hnt
        refine ⟨hx.imp id fun ⟨l, hl, e⟩ => ⟨l, Nat.lt_of_lt_of_le hl t2.1, e⟩, ?_⟩
        rw [ct_ext hwt t2.2 (by omega) t2.1 hx]
        exact ct_le h.wf h.n31 hnt hx
      have img : ∀ {v : Int32}, (v = -1 ∨ ∃ l, l < k ∧ v = nI l) → (∀ b, v = nI b → nt ≤ b → b < K.2.1 → u b ≠ -1) → (v < nI nt ∧ ty_in n' v ∧ ct T' n' v = ct K.2.2.1 K.2.1 v) ∨ (¬ v < nI nt ∧ ∃ y, hp_rd P 912 v = some y ∧ ty_in n' y ∧ ct T' n' y = ct K.2.2.1 K.2.1 v) := fun {v} hv hc => by
        rcases hv with z | ⟨l, hl, z⟩
        · have := low (x := v) (Or.inl z)
          exact Or.inl ⟨by rw [z]; exact i_m1_lt (by omega), this⟩
        · by_cases e : l < nt
          · have := low (x := v) (Or.inr ⟨l, e, z⟩)
            exact Or.inl ⟨by rw [z]; exact nI_lt e (by omega), this⟩
          · obtain ⟨a, a1, a2, a3⟩ := t4 l (by omega) hl (hc l z (by omega) (by omega))
            refine Or.inr ⟨by rw [z]; exact nI_nlt (by omega) (by omega), (P.2 912).2 l, ?_, Or.inr ⟨a, a1, a2⟩, ?_⟩
            · rw [z]; exact hp_rd_nI (by rw [l12]; omega) (by omega)
            · rw [z]; exact a3
      -- behind the images
      have fin : ∀ {y1 y2 : Int32}, ty_in n' y1 → ty_in n' y2 → ct T' n' y1 = ct K.2.2.1 K.2.1 (K.2.2.1 k).2.1 → ct T' n' y2 = ct K.2.2.1 K.2.1 (K.2.2.1 k).2.2 → ∃ f' P' n2 T2, f + 1 ≤ f' + (m + 1 + 1) ∧ (am_i (am_call B sa am_dfl am_tb f0 (d + 2) 126 [.ref (ρ.1 9), .int (K.2.2.1 k).1, .int y1, .int y2] (hp_S sa ρ P)) fun v14 g14 => (am_iast B g14 (ρ.2.1 912) (nI k) v14).bind fun g15 => am_go B sa am_dfl (am_call B sa am_dfl am_tb f0 (d + 2)) am_r200 f 139 [(0, .ref (ρ.1 9)), (3, .int x3), (4, .int x4), (5, .int (nI nt)), (6, .int x6), (7, .int (nI K.2.1)), (8, .int (nI (k + 1)))] [] g15) = am_go B sa am_dfl (am_call B sa am_dfl am_tb f0 (d + 2)) am_r200 f' 256 [(0, .ref (ρ.1 9)), (3, .int x3), (4, .int x4), (5, .int (nI nt)), (6, .int x6), (8, .int x4)] [] (hp_S sa ρ P') ∧ tyL G L K u nt P3 ns0 K.2.1 P' n2 T2 := by
        intro y1 y2 i1 i2 c1 c2
        obtain ⟨v, P1, n1, T1, b1, b2, b3, b4, b5, b6, b7⟩ := k_typeOf2 (sa := sa) (f := f0) (d := d) (q := ((K.2.2.1 k).1, y1, y2)) w kz' t1 i1 i2 (by show G (qN (K.2.2.1 k).1 (ct T' n' y1) (ct T' n' y2)); rw [c1, c2, ← hct]; exact hG) hf0
        have b1 : am_call B sa am_dfl am_tb f0 (d + 2) 126 [.ref (ρ.1 9), .int (K.2.2.1 k).1, .int y1, .int y2] (hp_S sa ρ P) = _ := b1
        have b5 : pl n1 T1 v (qN (K.2.2.1 k).1 (ct T' n' y1) (ct T' n' y2)) := b5
        rw [c1, c2, ← hct] at b5
        have l12' : (P1.2 912).1 = 9000 := b2.1.2.1.2.1
        have ck : hp_ck P1 912 (nI k) = some () := hp_ck_nI (by rw [l12']; omega) (by omega)
        have e12 : P1.2 912 = P.2 912 := (b3.1 912 rfl).2
        rw [b1, am_i_some]
        simp only [ht_912 w, ck, Option.bind_some]
        have fr1 : mfr im_S P1 (hp_sA P1 912 (nI k) v) := mfr.sA rfl
        have at12 : ∀ i, ((hp_sA P1 912 (nI k) v).2 912).2 i = if i = k then v else (P.2 912).2 i := fun i => by
          rw [hA_eq, nI_clamp (by omega), e12]
          show upd (P.2 912).2 k v i = _
          by_cases e : i = k
          · rw [if_pos e, e, pk_us]
          · rw [if_neg e, pk_un e]
        obtain ⟨f', P', n2, T2, g1, g2, g3⟩ := ih (k + 1) f (hp_sA P1 912 (nI k) v) n1 T1 (by omega) (by omega) (by omega) ⟨b2.im (K := (P1, n1, T1, ns0, false)) fr1, t2.tr b4, by omega, fun i a b c => by
          rw [at12]
          by_cases e : i = k
          · rw [if_pos e, e]; exact b5
          · rw [if_neg e]
            exact (t4 i a (by omega) c).xt t1.wf t1.n31 b4, fun i a => by
          rw [at12, if_neg (by omega)]; exact t5 i (by omega), fun r i a b c => by
          rw [(im_k fr1 (by omega) (by omega)).2, b7 r i a (by omega) (by omega)]
          exact t6 r i a b (by omega), t7.tr ((b3.up fun r hr => (Bool.or_eq_false_iff.mp hr).1).tr (mfr.sA rfl))⟩ (by omega)
        exact ⟨f', P', n2, T2, by omega, g2, g3⟩
      simp only [hr_905 w, hl_905 w, r5, hr_906 w, hl_906 w, r6, hr_907 w, hl_907 w, r7, Option.bind_some, hx_9 w]
      rcases img w1 uL with ⟨e1, i1, c1⟩ | ⟨e1, y1, s1, i1, c1⟩
      · rw [if_pos e1]
        rcases img w2 uR with ⟨e2, i2, c2⟩ | ⟨e2, y2, s2, i2, c2⟩
        · rw [if_pos e2]
          exact fin i1 i2 c1 c2
        · rw [if_neg e2]
          simp only [s2, Option.bind_some]
          exact fin i1 i2 c1 c2
      · rw [if_neg e1]
        simp only [s1, Option.bind_some]
        rcases img w2 uR with ⟨e2, i2, c2⟩ | ⟨e2, y2, s2, i2, c2⟩
        · rw [if_pos e2]
          exact fin i1 i2 c1 c2
        · rw [if_neg e2]
          simp only [s2, Option.bind_some]
          exact fin i1 i2 c1 c2
end KP1
