/-! THE REFERENCE, 46: keep, nodes -/
section KP2
variable {Z : Prop} {G : qT → Prop} {L : List qM} {sa : Nat → Nat} {B : Nat} {ρ : hp_L} {K : kS} {P P' : hp_P} {nk nt t k n n' : Nat} {M : qM} {T T' : Nat → Int32 × Int32 × Int32} {ns ns' : List qM}
def nm_S : Nat → Bool := fun r => nx_S r || im_S r
/-- the nodes anew -/
def ndL (G : qT → Prop) (L : List qM) (K : kS) (u uw : Nat → Int32) (nk nt : Nat) (P3 : hp_P) (n' : Nat) (T' : Nat → Int32 × Int32 × Int32) (k : Nat) (P : hp_P) (ns' : List qM) : Prop :=
  kI False G L (P, n', T', ns', false) ∧ (∃ q, ns' = K.2.2.2.1.take nk ++ q) ∧ ns'.length ≤ k ∧
  (∀ i, nt ≤ i → i < K.2.1 → uw i ≠ -1 → pl n' T' ((P.2 912).2 i) (ct K.2.2.1 K.2.1 (nI i))) ∧
  (∀ i X, nk ≤ i → i < k → K.2.2.2.1[i]? = some X → u i ≠ -1 → nq (P, n', T', ns', false) ((P.2 927).2 i) X) ∧
  (∀ i, k ≤ i → (P.2 927).2 i = u i) ∧
  (∀ r i, 918 ≤ r → r ≤ 921 → k ≤ i → (P.2 r).2 i = (K.1.2 r).2 i) ∧ mfr nm_S P3 P
/-- what the marks say -/
def ndU (L : List qM) (K : kS) (u uw : Nat → Int32) (nk nt : Nat) : Prop := ∀ i X, nk ≤ i → K.2.2.2.1[i]? = some X → u i ≠ -1 → X ∈ L ∧
  (∀ b, (Nk K.1 i).2.2.2 = nI b → nt ≤ b → b < K.2.1 → uw b ≠ -1) ∧
  ((Nk K.1 i).1 = 5 → ∀ b, (Nk K.1 i).2.1 = nI b → nt ≤ b → b < K.2.1 → uw b ≠ -1) ∧
  ((Nk K.1 i).1 = 4 → ∀ b, (Nk K.1 i).2.1 = nI b → nk ≤ b → b < K.2.2.2.1.length → u b ≠ -1) ∧
  ((Nk K.1 i).1 = 4 ∨ (Nk K.1 i).1 = 5 → ∀ b, (Nk K.1 i).2.2.1 = nI b → nk ≤ b → b < K.2.2.2.1.length → u b ≠ -1)
theorem nm_im {P' : hp_P} (h : mfr im_S P P') : mfr nm_S P P' := h.up fun r hr => (Bool.or_eq_false_iff.mp hr).2
theorem nm_nx {P' : hp_P} (h : mfr nx_S P P') : mfr nm_S P P' := h.up fun r hr => (Bool.or_eq_false_iff.mp hr).1
set_option maxHeartbeats 8000000 in
theorem nd_loop {x3 : Int32} {f0 d : Nat} {u uw : Nat → Int32} {P3 : hp_P} {Z' : Prop} {G' : qT → Prop} {L' : List qM} (w : hp_w B ρ) (h : kI Z' G' L' K) (kz' : kz False G L) (hnt : nt ≤ K.2.1) (hnk : nk ≤ K.2.2.2.1.length) (hU : ndU L K u uw nk nt) (hx : ty_xt nt K.2.2.1 n' T') (hf0 : 70000 ≤ f0) :
    ∀ (m k f : Nat) (P : hp_P) (ns' : List qM), K.2.2.2.1.length - k = m → nk ≤ k → k ≤ K.2.2.2.1.length → ndL G L K u uw nk nt P3 n' T' k P ns' → 3 * m + 1 ≤ f →
    ∃ f' P' ns2, f ≤ f' + 3 * m ∧ am_go B sa am_dfl (am_call B sa am_dfl am_tb f0 (d + 2)) am_r200 f 256 [(0, .ref (ρ.1 9)), (3, .int x3), (4, .int (nI nk)), (5, .int (nI nt)), (6, .int (nI K.2.2.2.1.length)), (8, .int (nI k))] [] (hp_S sa ρ P) = am_go B sa am_dfl (am_call B sa am_dfl am_tb f0 (d + 2)) am_r200 f' 256 [(0, .ref (ρ.1 9)), (3, .int x3), (4, .int (nI nk)), (5, .int (nI nt)), (6, .int (nI K.2.2.2.1.length)), (8, .int (nI K.2.2.2.1.length))] [] (hp_S sa ρ P') ∧ ndL G L K u uw nk nt P3 n' T' K.2.2.2.1.length P' ns2 := by
  have n8 := h.1.1.2
  have l6 := h.2.1.1.2
  intro m
  induction m with
  | zero =>
    intro k f P ns' hm h1 h2 ht hf
    have : k = K.2.2.2.1.length := by omega
    subst this
    exact ⟨f, P, ns', by omega, rfl, ht⟩
  | succ m ih =>
    intro k f P ns' hm h1 h2 ht hf
    obtain ⟨f, rfl⟩ : ∃ g, f = g + 3 := ⟨f - 3, by omega⟩
    obtain ⟨t1, t2, t3, t4, t5, t6, t7, t8⟩ := ht
    have kn : k < K.2.2.2.1.length := by omega
    have hm' : K.2.2.2.1.length - (k + 1) = m := by omega
    have h1' : nk ≤ k + 1 := by omega
    have hf' : 3 * m + 1 ≤ f := by omega
    have l27 : (P.2 927).1 = 60000 := t1.2.1.2.1.2.1
    have l12 : (P.2 912).1 = 9000 := t1.1.2.1.2.1
    have q27 : hp_rd P 927 (nI k) = some (u k) := by rw [← t6 k (Nat.le_refl _)]; exact hp_rd_nI (by rw [l27]; omega) (by omega)
    rw [am_s200_256]
    simp only [am_c_ge, am_c_ne, am_c_lt, hr_927 w, hl_927 w, q27, Option.bind_some, nI_1]
    rw [if_neg (nI_ge kn (by omega))]
    by_cases um : u k = -1
    · rw [if_neg (fun z => z um)]
      obtain ⟨f', P', ns2, g1, g2, g3⟩ := ih (k + 1) (f + 2) P ns' (by omega) (by omega) (by omega) ⟨t1, t2, by omega, t4, fun i X a b c e => by
        by_cases z : i = k
        · rw [z] at e; exact absurd um e
        · exact t5 i X a (by omega) c e, fun i a => t6 i (by omega), fun r i a b c => t7 r i a b (by omega), t8⟩ (by omega)
      exact ⟨f', P', ns2, by omega, g2, g3⟩
    · rw [if_pos um]
      have hX : K.2.2.2.1[k]? = some K.2.2.2.1[k] := List.getElem?_eq_getElem kn
      revert hX
      generalize K.2.2.2.1[k] = X
      intro hX
      obtain ⟨hXL, uT, uA, uF, uS⟩ := hU k X h1 hX um
      have rd : ∀ r, 918 ≤ r → r ≤ 921 → hp_rd P r (nI k) = some ((K.1.2 r).2 k) := fun r a b => by
        rw [← t7 r k a b (Nat.le_refl _)]
        exact hp_rd_nI (by rw [t1.2.1.2.1.1 r (by omega) (by omega)]; omega) (by omega)
      have r18 : hp_rd P 918 (nI k) = some (Nk K.1 k).1 := rd 918 (by decide) (by decide)
      have r19 : hp_rd P 919 (nI k) = some (Nk K.1 k).2.1 := rd 919 (by decide) (by decide)
      have r20 : hp_rd P 920 (nI k) = some (Nk K.1 k).2.2.1 := rd 920 (by decide) (by decide)
      have r21 : hp_rd P 921 (nI k) = some (Nk K.1 k).2.2.2 := rd 921 (by decide) (by decide)
      obtain ⟨⟨c, c1, c2, c3⟩, key⟩ := (h.row hX).1
      rw [c2] at r21
      have tX : ct K.2.2.1 K.2.1 (nI c) = m_ty X := by rw [← c2]; exact c3
      have imgT : ∀ {c : Nat}, c < K.2.1 → (nt ≤ c → uw c ≠ -1) → (nI c < nI nt ∧ pl n' T' (nI c) (ct K.2.2.1 K.2.1 (nI c))) ∨ (¬ nI c < nI nt ∧ ∃ y, hp_rd P 912 (nI c) = some y ∧ pl n' T' y (ct K.2.2.1 K.2.1 (nI c))) := fun {c} hc hm => by
        by_cases e : c < nt
        · refine Or.inl ⟨nI_lt e (by omega), c, Nat.lt_of_lt_of_le e hx.1, rfl, ?_⟩
          rw [ct_ext (ty_wf_le h.wf hnt) hx.2 (by omega) hx.1 (Or.inr ⟨c, e, rfl⟩)]
          exact ct_le h.wf h.n31 hnt (Or.inr ⟨c, e, rfl⟩)
        · exact Or.inr ⟨nI_nlt (by omega) (by omega), _, hp_rd_nI (by rw [l12]; omega) (by omega), t4 c (by omega) hc (hm (by omega))⟩
      have imgN : ∀ {l : Nat} {Y : qM}, l < k → K.2.2.2.1[l]? = some Y → (nk ≤ l → u l ≠ -1) → (nI l < nI nk ∧ nq (P, n', T', ns', false) (nI l) Y) ∨ (¬ nI l < nI nk ∧ ∃ y, hp_rd P 927 (nI l) = some y ∧ nq (P, n', T', ns', false) y Y) := fun {l Y} hl hY hm => by
        by_cases e : l < nk
        · refine Or.inl ⟨nI_lt e (by omega), l, by omega, rfl, ?_⟩
          obtain ⟨q, eq⟩ := t2
          show ns'[l]? = some Y
          rw [eq, List.getElem?_append_left (by rw [List.length_take]; omega), List.getElem?_take, if_pos e]
          exact hY
        · exact Or.inr ⟨nI_nlt (by omega) (by omega), _, hp_rd_nI (by rw [l27]; omega) (by omega), t5 l Y (by omega) hl hY (hm (by omega))⟩
      -- the end: node
      have fin : ∀ {x9 y0 : Int32}, (∀ ty, pl n' T' ty (m_ty X) → nd_key n' T' ns' ns'.length ((Nk K.1 k).1, x9, y0, ty) X) → ∃ f' P' ns2, f + 3 ≤ f' + 3 * (m + 1) ∧ am_go B sa am_dfl (am_call B sa am_dfl am_tb f0 (d + 2)) am_r200 (f + 1) 400 [(0, .ref (ρ.1 9)), (3, .int x3), (4, .int (nI nk)), (5, .int (nI nt)), (6, .int (nI K.2.2.2.1.length)), (8, .int (nI k)), (9, .int x9)] [.int y0] (hp_S sa ρ P) = am_go B sa am_dfl (am_call B sa am_dfl am_tb f0 (d + 2)) am_r200 f' 256 [(0, .ref (ρ.1 9)), (3, .int x3), (4, .int (nI nk)), (5, .int (nI nt)), (6, .int (nI K.2.2.2.1.length)), (8, .int (nI K.2.2.2.1.length))] [] (hp_S sa ρ P') ∧ ndL G L K u uw nk nt P3 n' T' K.2.2.2.1.length P' ns2 := by
        intro x9 y0 hk
        have aft : ∀ {ty : Int32}, pl n' T' ty (m_ty X) → ∃ f' P' ns2, f + 3 ≤ f' + 3 * (m + 1) ∧ (am_i (am_call B sa am_dfl am_tb f0 (d + 2) 131 [.ref (ρ.1 9), .int (Nk K.1 k).1, .int x9, .int y0, .int ty] (hp_S sa ρ P)) fun v8 g8 => (am_iast B g8 (ρ.2.1 927) (nI k) v8).bind fun g9 => am_go B sa am_dfl (am_call B sa am_dfl am_tb f0 (d + 2)) am_r200 f 256 [(0, .ref (ρ.1 9)), (3, .int x3), (4, .int (nI nk)), (5, .int (nI nt)), (6, .int (nI K.2.2.2.1.length)), (8, .int (nI (k + 1)))] [] g9) = am_go B sa am_dfl (am_call B sa am_dfl am_tb f0 (d + 2)) am_r200 f' 256 [(0, .ref (ρ.1 9)), (3, .int x3), (4, .int (nI nk)), (5, .int (nI nt)), (6, .int (nI K.2.2.2.1.length)), (8, .int (nI K.2.2.2.1.length))] [] (hp_S sa ρ P') ∧ ndL G L K u uw nk nt P3 n' T' K.2.2.2.1.length P' ns2 := by
          intro ty hty
          obtain ⟨v, P1, ns1, b1, b2, b3, b4, b5, b6⟩ := k_node2 (sa := sa) (f := f0) (d := d) (q := ((Nk K.1 k).1, x9, y0, ty)) w kz' t1 (hk ty hty) hXL hf0
          have b1 : am_call B sa am_dfl am_tb f0 (d + 2) 131 [.ref (ρ.1 9), .int (Nk K.1 k).1, .int x9, .int y0, .int ty] (hp_S sa ρ P) = _ := b1
          have ck : hp_ck P1 927 (nI k) = some () := hp_ck_nI (by rw [b3.2 927, l27]; omega) (by omega)
          have e27 : P1.2 927 = P.2 927 := (b3.1 927 rfl).2
          have e12 : P1.2 912 = P.2 912 := (b3.1 912 rfl).2
          rw [b1, am_i_some]
          simp only [ht_927 w, ck, Option.bind_some]
          have fr1 : mfr im_S P1 (hp_sA P1 927 (nI k) v) := mfr.sA rfl
          have at27 : ∀ i, ((hp_sA P1 927 (nI k) v).2 927).2 i = if i = k then v else (P.2 927).2 i := fun i => by
            rw [hA_eq, nI_clamp (by omega), e27]
            show upd (P.2 927).2 k v i = _
            by_cases e : i = k
            · rw [if_pos e, e, pk_us]
            · rw [if_neg e, pk_un e]
          have pre : ∃ q, ns1 = ns' ++ q := by
            rcases b5 with z | z
            · exact ⟨[], by rw [z, List.append_nil]⟩
            · exact ⟨[X], z⟩
          have l1 : ns1.length ≤ k + 1 := by
            rcases b5 with z | z
            · rw [z]; omega
            · rw [z, List.length_append]; show ns'.length + 1 ≤ _; omega
          obtain ⟨q1, eq1⟩ := pre
          have e12' : (hp_sA P1 927 (nI k) v).2 912 = P.2 912 := (hA_ne (by decide)).trans e12
          have nl : ndL G L K u uw nk nt P3 n' T' (k + 1) (hp_sA P1 927 (nI k) v) ns1 := by
            refine ⟨b2.im (K := (P1, n', T', ns1, false)) fr1, ?_, l1, fun i a b c => ?_, fun i Y a b c e => ?_, fun i a => ?_, fun r i a b c => ?_, t8.tr ((nm_nx b3).tr (nm_im fr1))⟩
            · obtain ⟨q, eq⟩ := t2
              exact ⟨q ++ q1, by rw [eq1, eq, List.append_assoc]⟩
            · rw [e12']; exact t4 i a b c
            · rw [at27]
              by_cases z : i = k
              · rw [if_pos z]
                rw [z, hX] at c
                rw [← Option.some.inj c]
                exact b4
              · rw [if_neg z]
                obtain ⟨o, o1, o2, o3⟩ := t5 i Y a (by omega) c e
                refine ⟨o, o1, o2, ?_⟩
                show ns1[o]? = some Y
                rw [eq1, List.getElem?_append_left (List.getElem?_eq_some_iff.mp o3).1]; exact o3
            · rw [at27, if_neg (by omega)]; exact t6 i (by omega)
            · rw [(im_k fr1 (by omega) (by omega)).2, b6 r i a (by omega) (by omega)]
              exact t7 r i a b (by omega)
          obtain ⟨f', P', ns2, g1, g2, g3⟩ := ih (k + 1) f (hp_sA P1 927 (nI k) v) ns1 hm' h1' kn nl hf'
          exact ⟨f', P', ns2, by omega, g2, g3⟩
        rw [am_s200_400]
        simp only [hr_927 w, hr_918 w, hl_918 w, r18, hr_921 w, hl_921 w, r21, Option.bind_some, am_c_lt, hx_9 w, nI_1]
        rcases imgT c1 (fun z => uT c c2 z c1) with ⟨e1, p1⟩ | ⟨e1, y, s1, p1⟩
        · rw [if_pos e1]
          rw [tX] at p1
          exact aft p1
        · rw [if_neg e1]
          simp only [hr_912 w, hl_912 w, s1, Option.bind_some]
          rw [tX] at p1
          exact aft p1
      simp only [hr_919 w, hl_919 w, r19, hr_918 w, hl_918 w, r18, Option.bind_some]
      rcases key with ⟨k1, a, b, F, Y, v, a1, b1, k2, k3, ha, hb, rfl⟩ | ⟨k1, b, s, Y, b1, ⟨e, e1, k2, e3⟩, k3, hb, rfl⟩ | ⟨x, e, v, k1, k2, x28, k3, rfl⟩
      · have imA := imgN a1 ha (fun z => uF k1 a k2 z (by omega))
        have imB := imgN b1 hb (fun z => uS (Or.inl k1) b k3 z (by omega))
        rw [k3] at r20
        have g340 : ∀ {x9 : Int32}, nq (P, n', T', ns', false) x9 F → ∃ f' P' ns2, f + 3 ≤ f' + 3 * (m + 1) ∧ am_go B sa am_dfl (am_call B sa am_dfl am_tb f0 (d + 2)) am_r200 (f + 2) 340 [(0, .ref (ρ.1 9)), (3, .int x3), (4, .int (nI nk)), (5, .int (nI nt)), (6, .int (nI K.2.2.2.1.length)), (8, .int (nI k)), (9, .int x9)] [] (hp_S sa ρ P) = am_go B sa am_dfl (am_call B sa am_dfl am_tb f0 (d + 2)) am_r200 f' 256 [(0, .ref (ρ.1 9)), (3, .int x3), (4, .int (nI nk)), (5, .int (nI nt)), (6, .int (nI K.2.2.2.1.length)), (8, .int (nI K.2.2.2.1.length))] [] (hp_S sa ρ P') ∧ ndL G L K u uw nk nt P3 n' T' K.2.2.2.1.length P' ns2 := by
          rintro x9 ⟨ia, ia1, rfl, ia3⟩
          have f4 : ∀ {y0 : Int32}, nq (P, n', T', ns', false) y0 Y → ∀ ty, pl n' T' ty (m_ty (mN (-1) v F Y)) → nd_key n' T' ns' ns'.length ((Nk K.1 k).1, nI ia, y0, ty) (mN (-1) v F Y) := by
            rintro y0 ⟨ib, ib1, rfl, ib3⟩ ty hty
            exact ⟨hty, Or.inl ⟨k1, ia, ib, F, Y, v, (List.getElem?_eq_some_iff.mp ia3).1, (List.getElem?_eq_some_iff.mp ib3).1, rfl, rfl, ia3, ib3, rfl⟩⟩
          rw [am_s200_340]
          simp only [hr_918 w, hl_918 w, r18, Option.bind_some, am_c_eq, am_c_lt, am_c_ne, hr_920 w, hl_920 w, r20]
          rw [if_pos k1]
          rcases imB with ⟨e2, z⟩ | ⟨e2, y, s2, z⟩
          · rw [if_pos e2]; exact fin (f4 z)
          · rw [if_neg e2]
            simp only [hr_927 w, hl_927 w, s2, Option.bind_some]
            exact fin (f4 z)
        rw [if_neg (fun z => z k1), k2]
        rcases imA with ⟨e2, z⟩ | ⟨e2, y, s2, z⟩
        · rw [if_pos e2, if_pos (by rw [k1]; decide)]; exact g340 z
        · rw [if_neg e2]
          simp only [s2, Option.bind_some]
          rw [if_pos (by rw [k1]; decide)]; exact g340 z
      · have imE := imgT e1 (fun z => uA k1 e k2 z e1)
        have imB := imgN b1 hb (fun z => uS (Or.inr k1) b k3 z (by omega))
        have tE : ct K.2.2.1 K.2.1 (nI e) = s := by rw [← k2]; exact e3
        rw [tE] at imE
        rw [k3] at r20
        have n4 : ¬ (Nk K.1 k).1 = 4 := by rw [k1]; decide
        have g340 : ∀ {x9 : Int32}, pl n' T' x9 s → ∃ f' P' ns2, f + 3 ≤ f' + 3 * (m + 1) ∧ am_go B sa am_dfl (am_call B sa am_dfl am_tb f0 (d + 2)) am_r200 (f + 2) 340 [(0, .ref (ρ.1 9)), (3, .int x3), (4, .int (nI nk)), (5, .int (nI nt)), (6, .int (nI K.2.2.2.1.length)), (8, .int (nI k)), (9, .int x9)] [] (hp_S sa ρ P) = am_go B sa am_dfl (am_call B sa am_dfl am_tb f0 (d + 2)) am_r200 f' 256 [(0, .ref (ρ.1 9)), (3, .int x3), (4, .int (nI nk)), (5, .int (nI nt)), (6, .int (nI K.2.2.2.1.length)), (8, .int (nI K.2.2.2.1.length))] [] (hp_S sa ρ P') ∧ ndL G L K u uw nk nt P3 n' T' K.2.2.2.1.length P' ns2 := by
          intro x9 h9
          have f4 : ∀ {y0 : Int32}, nq (P, n', T', ns', false) y0 Y → ∀ ty, pl n' T' ty (m_ty (mN (-2) (qF s (m_ty Y)) Y .leaf)) → nd_key n' T' ns' ns'.length ((Nk K.1 k).1, x9, y0, ty) (mN (-2) (qF s (m_ty Y)) Y .leaf) := by
            rintro y0 ⟨ib, ib1, rfl, ib3⟩ ty hty
            exact ⟨hty, Or.inr (Or.inl ⟨k1, ib, s, Y, (List.getElem?_eq_some_iff.mp ib3).1, h9, rfl, ib3, rfl⟩)⟩
          rw [am_s200_340]
          simp only [hr_918 w, hl_918 w, r18, Option.bind_some, am_c_eq, am_c_lt, am_c_ne, hr_920 w, hl_920 w, r20]
          rw [if_neg n4, if_neg (fun z => z k1)]
          rcases imB with ⟨e2, z⟩ | ⟨e2, y, s2, z⟩
          · rw [if_pos e2]; exact fin (f4 z)
          · rw [if_neg e2]
            simp only [hr_927 w, hl_927 w, s2, Option.bind_some]
            exact fin (f4 z)
        rw [if_pos n4, if_neg (fun z => z k1), k2]
        rcases imE with ⟨e2, z⟩ | ⟨e2, y, s2, z⟩
        · rw [if_pos e2]; exact g340 z
        · rw [if_neg e2]
          simp only [hr_912 w, hl_912 w, s2, Option.bind_some]
          exact g340 z
      · have n45 : ¬ (Nk K.1 k).1 = 4 ∧ (Nk K.1 k).1 ≠ 5 := by
          rcases k1 with ⟨z, -⟩ | ⟨z, -⟩ | ⟨z, -⟩ <;> rw [z] <;> exact ⟨by decide, by decide⟩
        rw [if_pos n45.1, if_pos n45.2, am_s200_340]
        simp only [hr_918 w, hl_918 w, r18, Option.bind_some, am_c_eq, am_c_ne]
        rw [if_neg n45.1, if_pos n45.2]
        exact fin fun ty hty => ⟨hty, Or.inr (Or.inr ⟨x, e, v, k1, k2, x28, rfl, rfl⟩)⟩
end KP2
