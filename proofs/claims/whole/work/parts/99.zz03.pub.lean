/-! THE REFERENCE, 40: symbols, where there is none; symbols of types -/
section PUB3
variable {Z : Prop} {G : qT → Prop} {L : List qM} {sa : Nat → Nat} {B : Nat} {ρ : hp_L} {K : kS} {A : sV} {S : qT → Prop} {ws : List Int32} {P : hp_P} {flt : Int32}
theorem hys_at2 {sq : List qQ} {c : Nat} {s : qQ} (h : ∀ s ∈ sq, s.1.length ≤ 60) (hs : sq[c]? = some s) (hl : sq.length ≤ 1000) : (hys (sq.take c)).length + s.1.length ≤ 60000 := by
  have e : sq = sq.take c ++ [s] ++ sq.drop (c + 1) := by
    rw [List.append_assoc, List.singleton_append]
    have := List.getElem?_eq_some_iff.mp hs
    rw [← this.2, ← List.drop_eq_getElem_cons, List.take_append_drop]
  have u := hys_len h
  rw [e, hys_ap, hys_ap, List.length_append, List.length_append] at u
  have e1 : (hys [s]).length = s.1.length := by unfold hys; simp
  have : (sq.take c ++ [s] ++ sq.drop (c + 1)).length = sq.length := by rw [← e]
  rw [this, e1] at u
  omega
set_option maxHeartbeats 2000000 in
theorem m_look_no {f d : Nat} {a i k : Int32} (w : hp_w B ρ) (h : mI S A ws flt P) (hq : ∀ q, ¬ sy_at A.1 a i k q) (hf : 5000 ≤ f) :
    am_call B sa am_dfl am_tb f (d + 2) 193 [.ref (ρ.1 9), .int a, .int i, .int k] (hp_S sa ρ P) = some (some (.int (-1)), hp_S sa ρ (hp_sI P 900 1)) := by
  obtain ⟨f, rfl⟩ : ∃ g, f = g + 2 := ⟨f - 2, by omega⟩
  obtain ⟨n, T, ns, J⟩ := h.op
  have l1 : A.1.length ≤ 1000 := J.2.1.2.2.1.1.2
  have e32 : P.1 932 = nI A.1.length := by rw [← J.2.1.2.2.1.1.1]; exact (hI_ne (by decide)).symm
  have mo : ∀ (m : Nat) (x : Int32) σ, m < 2 ^ 31 → am_call B sa am_dfl am_tb (f + 2) (d + 1) 123 [.int x, .int (nI m)] σ = some (some (.int (bP (¬ inR x m))), σ) := fun m x σ hm => m_out hm
  have out : am_go B sa am_dfl (am_call B sa am_dfl am_tb (f + 2) (d + 1)) am_r193 (f + 1) 32 [(0, .ref (ρ.1 9)), (1, .int a), (2, .int i), (3, .int k)] [.int 1, .ref (ρ.1 9)] (hp_S sa ρ P) = some (some (.int (-1)), hp_S sa ρ (hp_sI P 900 1)) := by
    rw [am_s193_32]
    simp only [hs_900 w, hg_900 w, hI_eq, Option.bind_some, am_c_le]
    rw [if_neg (by decide)]
  rw [am_c_193, am_s193_0]
  simp only [hg_932 w, e32, Option.bind_some, am_c_ne]
  rw [mo _ _ _ (by omega), am_i_some]
  by_cases ha : inR a A.1.length
  · rw [bP_f (fun z => z ha), if_neg (fun z => z rfl)]
    obtain ⟨c, cl, rfl⟩ := ha
    have hs : A.1[c]? = some A.1[c] := List.getElem?_eq_getElem cl
    have hen : en_at A.1 (nI c) A.1[c] := ⟨c, rfl, by omega, hs⟩
    revert hs hen
    generalize A.1[c] = s
    intro hs hen
    obtain ⟨q1, q2, q3, q4, q5⟩ := J.2.1.2.2.1.2.2.2.2.2 c s hs
    have q1 : nq (hp_sI P 945 (bI false), n, T, ns, false) ((P.2 935).2 c) s.2 := q1
    have q2 : (P.2 936).2 c = nI (hys (A.1.take c)).length := q2
    have q3 : (P.2 937).2 c = nI s.1.length := q3
    have hz : (hys (A.1.take c)).length + s.1.length ≤ 60000 := hys_at2 (fun x hx => by
      obtain ⟨j, hj, e⟩ := List.mem_iff_getElem.mp hx
      exact (J.2.1.2.2.1.2.2.2.2.2 j x (List.getElem?_eq_some_iff.mpr ⟨hj, e⟩)).2.2.2.1) hs l1
    have rd37 : hp_rd P 937 (nI c) = some (nI s.1.length) := by rw [← q3]; exact J.2.1.r37 (r := 937) (j := c) (by decide) (by decide) (by omega)
    have rd36 : hp_rd (hp_sI P 900 0) 936 (nI c) = some (nI (hys (A.1.take c)).length) := by rw [← q2]; exact J.2.1.r37 (r := 936) (j := c) (by decide) (by decide) (by omega)
    have rd35 : hp_rd (hp_sI P 900 0) 935 (nI c) = some ((P.2 935).2 c) := J.2.1.r37 (r := 935) (j := c) (by decide) (by decide) (by omega)
    have go : ∀ {v : Int32} {X : qM}, nq (hp_sI P 945 (bI false), n, T, ns, false) v X → hp_rd (hp_sI P 900 0) 922 v = some (nI (m_fl X).length) ∧ (m_fl X).length ≤ 4000 := by
      rintro v X ⟨j, j6, rfl, hj⟩
      obtain ⟨-, -, w2, -, -, w4, -⟩ := J.1.row hj
      refine ⟨?_, w4⟩
      rw [← w2]
      exact hp_rd_nI (by have := J.1.2.1.2.1.1 922 (by decide) (by decide); rw [hI_A]; have this : (P.2 922).1 = 60000 := this; omega) (by omega)
    simp only [hr_937 w, hl_937 w, rd37, Option.bind_some, am_c_lt]
    by_cases i1 : i < -1
    · rw [if_pos i1]; exact out
    · rw [if_neg i1]
      by_cases i2 : i < nI s.1.length
      · rw [if_pos i2, am_s193_32]
        simp only [hs_900 w, hg_900 w, hI_eq, Option.bind_some, am_c_le, am_c_ge, am_c_eq]
        rw [if_pos (show (0 : Int32) ≤ 0 by decide)]
        by_cases i3 : i < 0
        · obtain rfl := i_mm1 i3 i1
          rw [if_neg (by decide)]
          obtain ⟨y4, y5⟩ := go q1
          simp only [hr_935 w, hl_935 w, rd35, hr_922 w, hl_922 w, y4, Option.bind_some]
          rw [mo _ _ _ (by omega), am_i_some, bP_t (fun ⟨kk, kl, z⟩ => hq (m_fl s.2)[kk] ⟨s, s.2, kk, hen, Or.inl ⟨rfl, rfl⟩, z, by omega, List.getElem?_eq_getElem kl⟩), if_neg (by decide)]
          simp only [hs_900 w, hp_sI_sI, hg_900 w, hI_eq, Option.bind_some]
          rw [if_neg (by decide)]
        · rcases pk_ix i (show s.1.length < 2 ^ 31 by omega) with z | z | ⟨j, jl, rfl⟩
          · exact absurd z i3
          · exact absurd z (Int32.not_le.mpr i2)
          rw [if_pos (Int32.not_lt.mp i3)]
          have hj : s.1[j]? = some s.1[j] := List.getElem?_eq_getElem jl
          revert hj
          generalize s.1[j] = X
          intro hj
          have hq' : nq (hp_sI P 945 (bI false), n, T, ns, false) ((P.2 943).2 ((hys (A.1.take c)).length + j)) X := q5 j X hj
          obtain ⟨y4, y5⟩ := go hq'
          have rd43 : hp_rd (hp_sI P 900 0) 943 (nI ((hys (A.1.take c)).length + j)) = some ((P.2 943).2 ((hys (A.1.take c)).length + j)) := J.2.1.r43 (by omega)
          simp only [hr_943 w, hr_936 w, hl_936 w, rd36, hl_943 w, nI_add, rd43, hr_922 w, hl_922 w, y4, Option.bind_some]
          rw [mo _ _ _ (by omega), am_i_some, bP_t (fun ⟨kk, kl, z⟩ => hq (m_fl X)[kk] ⟨s, X, kk, hen, Or.inr ⟨j, rfl, by omega, hj⟩, z, by omega, List.getElem?_eq_getElem kl⟩), if_neg (by decide)]
          simp only [hs_900 w, hp_sI_sI, hg_900 w, hI_eq, Option.bind_some]
          rw [if_neg (by decide)]
      · rw [if_neg i2]; exact out
  · rw [bP_t ha, if_pos (by decide)]
    exact out
/-- symbol -/
theorem m_symbol {f d : Nat} {a i k : Int32} {q : qS} (w : hp_w B ρ) (h : mI S A ws flt P) (hq : sy_at A.1 a i k q) (hf : 5000 ≤ f) : am_call B sa am_dfl am_tb f (d + 3) 194 [.ref (ρ.1 9), .int a, .int i, .int k] (hp_S sa ρ P) = some (some (.int q.1), hp_S sa ρ (hp_sI P 900 0)) := by
  obtain ⟨v, Y, n, T, ns, y1, J, ⟨j, j6, rfl, hj⟩, y3⟩ := m_look (sa := sa) (d := d) w h hq hf
  obtain ⟨f, rfl⟩ : ∃ g, f = g + 1 := ⟨f - 1, by omega⟩
  obtain ⟨r1, r2, r3, r4⟩ := J.1.rdN hj
  have r1 : hp_rd (hp_sI P 900 0) 918 (nI j) = some (Nk P j).1 := r1
  have r2 : hp_rd (hp_sI P 900 0) 919 (nI j) = some (Nk P j).2.1 := r2
  obtain ⟨key, -⟩ := J.1.row hj
  rw [am_c_194, am_s194_0]
  simp only [hx_9 w, Option.bind_some, y1, am_i_some, hg_900 w, hI_eq, am_c_le]
  rw [if_pos (by decide)]
  simp only [hr_918 w, hl_918 w, r1, Option.bind_some, am_c_ne, hr_919 w, hl_919 w, r2]
  obtain ⟨-, ⟨q1, a, b, F, X, u, a1, b1, q2, q3, ha, hb, rfl⟩ | ⟨q1, b, t, Y, b1, -, q3, hb, rfl⟩ | ⟨x, e, u, q1, q2, q3, -, rfl⟩⟩ := key
  · have q1 : (Nk P j).1 = 4 := q1
    rw [m_fl_N] at y3
    obtain rfl := Option.some.inj y3
    rw [q1, if_neg (fun z => z rfl)]
  · have q1 : (Nk P j).1 = 5 := q1
    rw [m_fl_N] at y3
    obtain rfl := Option.some.inj y3
    rw [q1, if_pos (by decide), if_neg (fun z => z rfl)]
  · have q2 : (Nk P j).2.1 = nI x := q2
    rw [m_fl_N] at y3
    obtain rfl := Option.some.inj y3
    rw [q2, nI4]
    rcases q1 with ⟨q1, rfl⟩ | ⟨q1, rfl⟩ | ⟨q1, rfl⟩
    · have q1 : (Nk P j).1 = 6 := q1
      rw [q1, if_pos (by decide), if_pos (by decide), if_neg (fun z => z rfl), Int32.add_zero]; rfl
    · have q1 : (Nk P j).1 = 2 := q1
      rw [q1, if_pos (by decide), if_pos (by decide), if_pos (by decide), if_neg (fun z => z rfl), nI_1]
    · have q1 : (Nk P j).1 = 3 := q1
      rw [q1, if_pos (by decide), if_pos (by decide), if_pos (by decide), if_pos (by decide), show (2 : Int32) = nI 2 from rfl, nI_add]
theorem m_symbol_no {f d : Nat} {a i k : Int32} (w : hp_w B ρ) (h : mI S A ws flt P) (hq : ∀ q, ¬ sy_at A.1 a i k q) (hf : 5000 ≤ f) : am_call B sa am_dfl am_tb f (d + 3) 194 [.ref (ρ.1 9), .int a, .int i, .int k] (hp_S sa ρ P) = some (some (.int 0), hp_S sa ρ (hp_sI P 900 1)) := by
  have y1 := m_look_no (sa := sa) (d := d) w h hq hf
  obtain ⟨f, rfl⟩ : ∃ g, f = g + 1 := ⟨f - 1, by omega⟩
  rw [am_c_194, am_s194_0]
  simp only [hx_9 w, Option.bind_some, y1, am_i_some, hg_900 w, hI_eq, am_c_le]
  rw [if_neg (by decide)]
theorem m_tyAt {cl : am_F} {kk : Int32 → Nat} (w : hp_w B ρ) (h : kI Z G L K) (hP : P.2 = K.1.2) (har : ty_ar kk K.2.2.1 K.2.1) : ∀ (a k f : Nat), a < K.2.1 → k < q_sz (ct K.2.2.1 K.2.1 (nI a)) → 2 * k + 1 ≤ f →
    am_go B sa am_dfl cl am_r195 f 64 [(0, .ref (ρ.1 9)), (6, .int (nI a)), (7, .int (nI k))] [] (hp_S sa ρ P) = some (some (.int ((q_fl (ct K.2.2.1 K.2.1 (nI a)))[k]?.getD 0)), hp_S sa ρ P) := by
  obtain ⟨KP, n, T, ns, bb⟩ := K
  have hn8 := h.1.1.2
  have hn8 : n ≤ 8000 := hn8
  have hw : ty_wf T n := h.wf
  intro a
  induction a using Nat.strongRecOn with
  | ind a ih =>
    intro k f ha hk hf
    obtain ⟨f, rfl⟩ : ∃ g, f = g + 1 := ⟨f - 1, by omega⟩
    have ha : a < n := ha
    obtain ⟨r0, r1, r2⟩ := h.rdT ha
    rw [← hp_rd_cg hP] at r0 r1 r2
    have r0 : hp_rd P 905 (nI a) = some (T a).1 := r0
    have r1 : hp_rd P 906 (nI a) = some (T a).2.1 := r1
    have r2 : hp_rd P 907 (nI a) = some (T a).2.2 := r2
    obtain ⟨w1, w2⟩ := hw a ha
    have hct := ct_at hw (by omega) ha
    have h200 : ty_sz T n (nI a) ≤ 200 := (h.1.2.2.1 a ha).2.2.2.2.2.1
    rw [← ct_sz] at h200
    have hk : k < q_sz (ct T n (nI a)) := hk
    show _ = some (some (Value.int ((q_fl (ct T n (nI a)))[k]?.getD 0)), _)
    rw [hct] at hk h200 ⊢
    have hfl : ∀ c l r, q_fl (qN c l r) = c :: (q_fl l ++ q_fl r) := fun c l r => by
      show Int32.ofNat c.toBitVec.toNat :: _ = _
      rw [q_code]
    have hqs : ∀ t, (q_fl t).length = q_sz t := fun t => by
      induction t with
      | leaf u => rfl
      | branch c l r il ir => show (_ :: (q_fl l ++ q_fl r)).length = 1 + q_sz l + q_sz r; rw [List.length_cons, List.length_append, il, ir]; omega
    rw [hfl, am_s195_64]
    cases k with
    | zero =>
      simp only [am_c_le, hr_905 w, hl_905 w, r0, Option.bind_some]
      rw [if_pos (by decide)]
      rfl
    | succ k =>
      obtain ⟨f, rfl⟩ : ∃ g, f = g + 1 := ⟨f - 1, by omega⟩
      have hn0 : (nI (k + 1) ≤ 0) = False := eq_false (nI_nle (by omega) (by omega))
      have hk' : k < q_sz (ct T n (T a).2.1) + q_sz (ct T n (T a).2.2) := by
        have : k + 1 < 1 + q_sz (ct T n (T a).2.1) + q_sz (ct T n (T a).2.2) := hk
        omega
      have h200' : 1 + q_sz (ct T n (T a).2.1) + q_sz (ct T n (T a).2.2) ≤ 200 := h200
      rw [List.getElem?_cons_succ]
      have hL : ∃ l, l < a ∧ (T a).2.1 = nI l := by
        rcases w1 with z | z
        · exfalso
          have h1 := har a ha
          have h1 : q_ar kk (ct T n (nI a)) := h1
          rw [hct, q_ar_N, z, ct_m1] at h1
          have h2 : ct T n (T a).2.2 = qE := h1.2.1.mp (by have := h1.1.mpr rfl; omega)
          rw [z, ct_m1, h2] at hk'
          have : q_sz qE = 0 := rfl
          omega
        · exact z
      obtain ⟨l, hl, el⟩ := hL
      have r3 : hp_rd P 908 (T a).2.1 = some (nI (q_sz (ct T n (T a).2.1))) := by
        rw [el, ct_sz, hp_rd_cg hP, ← (h.1.2.2.1 l (by show l < n; omega)).2.2.2.1]
        exact hp_rd_nI (by rw [h.1.2.1.1 908 (by decide) (by decide)]; omega) (by omega)
      simp only [am_c_le, hn0, if_false, am_c_ge, hr_906 w, hl_906 w, r1, hr_908 w, hl_908 w, r3, Option.bind_some, i_addm1, nI_pred, am_c_eq]
      by_cases e : q_sz (ct T n (T a).2.1) ≤ k
      · rw [if_pos (nI_le e (by omega))]
        have hR : ∃ r, r < a ∧ (T a).2.2 = nI r := by
          rcases w2 with z | z
          · rw [z, ct_m1] at hk'
            have : q_sz qE = 0 := rfl
            omega
          · exact z
        obtain ⟨r, hr, er⟩ := hR
        rw [if_pos True.intro, am_s195_119]
        simp only [am_c_eq, if_true, hr_907 w, hl_907 w, r2, Option.bind_some, pk_sub e]
        rw [List.getElem?_append_right (by rw [hqs]; exact e), hqs, er]
        exact ih r hr _ f (by show r < n; omega) (by show _ < q_sz (ct T n (nI r)); rw [← er]; omega) (by omega)
      · rw [if_neg (fun z => e ((nI_leI (by omega) (by omega)).mp z)), List.getElem?_append_left (by rw [hqs]; omega), el]
        rw [if_neg (show ¬ (1 : Int32) = 0 by decide), am_s195_119]
        simp only [am_c_eq, hr_906 w, hl_906 w, r1, Option.bind_some]
        rw [if_neg (show ¬ (1 : Int32) = 0 by decide), Int32.sub_zero, el]
        exact ih l hl _ f (by show l < n; omega) (by show _ < q_sz (ct T n (nI l)); rw [← el]; omega) (by omega)
/-- typeSymbol -/
theorem m_tsymbol {f d : Nat} {a i k x : Int32} {q : qS} (w : hp_w B ρ) (h : mI S A ws flt P) (hI : aI S A) (hq : sy_at A.1 a i k q) (hf : 5000 ≤ f) :
    (∀ p, x = nI p → p < q_sz q.2 → am_call B sa am_dfl am_tb f (d + 3) 195 [.ref (ρ.1 9), .int a, .int i, .int k, .int x] (hp_S sa ρ P) = some (some (.int ((q_fl q.2)[p]?.getD 0)), hp_S sa ρ (hp_sI P 900 0))) ∧
    ((¬ inR x (q_sz q.2)) → am_call B sa am_dfl am_tb f (d + 3) 195 [.ref (ρ.1 9), .int a, .int i, .int k, .int x] (hp_S sa ρ P) = some (some (.int 0), hp_S sa ρ (hp_sI P 900 1))) := by
  obtain ⟨v, Y, n, T, ns, y1, J, ⟨j, j6, rfl, hj⟩, y3⟩ := m_look (sa := sa) (d := d) w h hq hf
  obtain ⟨f, rfl⟩ : ∃ g, f = g + 1 := ⟨f - 1, by omega⟩
  obtain ⟨r1, r2, r3, r4⟩ := J.1.rdN hj
  have r4 : hp_rd (hp_sI P 900 0) 921 (nI j) = some (Nk P j).2.2.2 := r4
  obtain ⟨key, -⟩ := J.1.row hj
  have et : m_ty Y = q.2 := by
    cases Y with
    | leaf => cases y3
    | inner c t u l r => rw [← Option.some.inj y3]; rfl
  obtain ⟨b, b1, b2, b3⟩ := key.1
  rw [et] at b3
  have b1 : b < n := b1
  have b2 : (Nk P j).2.2.2 = nI b := b2
  have b3 : ct T n (nI b) = q.2 := by rw [← b2]; exact b3
  have n8 : n ≤ 8000 := J.1.1.1.2
  have r5 : hp_rd (hp_sI P 900 0) 908 (nI b) = some (nI (q_sz q.2)) := by
    have := (J.1.1.2.2.1 b b1).2.2.2.1
    have this : (P.2 908).2 b = nI (ty_sz T n (nI b)) := this
    rw [← ct_sz, b3] at this
    rw [← this]
    exact hp_rd_nI (by have := J.1.1.2.1.1 908 (by decide) (by decide); rw [hI_A]; have this : (P.2 908).1 = 9000 := this; omega) (by omega)
  have h200 : q_sz q.2 ≤ 200 := by
    have : ty_sz T n (nI b) ≤ 200 := (J.1.1.2.2.1 b b1).2.2.2.2.2.1
    rw [← ct_sz, b3] at this
    exact this
  have mo : ∀ (m : Nat) (x : Int32) σ, m < 2 ^ 31 → am_call B sa am_dfl am_tb (f + 1) (d + 2) 123 [.int x, .int (nI m)] σ = some (some (.int (bP (¬ inR x m))), σ) := fun m x σ hm => m_out hm
  constructor
  · intro p hp hps
    rw [am_c_195, am_s195_0]
    simp only [hx_9 w, Option.bind_some, y1, am_i_some, hg_900 w, hI_eq, am_c_le]
    rw [if_pos (by decide)]
    simp only [hr_921 w, hl_921 w, r4, b2, hr_908 w, hl_908 w, r5, Option.bind_some, am_c_eq]
    rw [mo _ _ _ (by omega), am_i_some, bP_f (fun z => z ⟨p, hps, hp⟩), if_pos rfl]
    simp only [hs_900 w, hp_sI_sI, hg_900 w, hI_eq, Option.bind_some]
    rw [if_pos (by decide), hp]
    have := m_tyAt (sa := sa) (P := hp_sI P 900 0) (cl := am_call B sa am_dfl am_tb (f + 1) (d + 2)) w J.1 rfl (J.ar hI) b p f b1 (by show _ < q_sz (ct T n (nI b)); rw [b3]; exact hps) (by omega)
    have this : am_go B sa am_dfl (am_call B sa am_dfl am_tb (f + 1) (d + 2)) am_r195 f 64 [(0, .ref (ρ.1 9)), (6, .int (nI b)), (7, .int (nI p))] [] (hp_S sa ρ (hp_sI P 900 0)) = some (some (.int ((q_fl (ct T n (nI b)))[p]?.getD 0)), hp_S sa ρ (hp_sI P 900 0)) := this
    rw [b3] at this
    exact this
  · intro hx
    rw [am_c_195, am_s195_0]
    simp only [hx_9 w, Option.bind_some, y1, am_i_some, hg_900 w, hI_eq, am_c_le]
    rw [if_pos (by decide)]
    simp only [hr_921 w, hl_921 w, r4, b2, hr_908 w, hl_908 w, r5, Option.bind_some, am_c_eq]
    rw [mo _ _ _ (by omega), am_i_some, bP_t hx, if_neg (by decide)]
    simp only [hs_900 w, hp_sI_sI, hg_900 w, hI_eq, Option.bind_some]
    rw [if_neg (by decide)]
theorem m_tsymbol_no {f d : Nat} {a i k x : Int32} (w : hp_w B ρ) (h : mI S A ws flt P) (hq : ∀ q, ¬ sy_at A.1 a i k q) (hf : 5000 ≤ f) : am_call B sa am_dfl am_tb f (d + 3) 195 [.ref (ρ.1 9), .int a, .int i, .int k, .int x] (hp_S sa ρ P) = some (some (.int 0), hp_S sa ρ (hp_sI P 900 1)) := by
  have y1 := m_look_no (sa := sa) (d := d) w h hq hf
  obtain ⟨f, rfl⟩ : ∃ g, f = g + 1 := ⟨f - 1, by omega⟩
  rw [am_c_195, am_s195_0]
  simp only [hx_9 w, Option.bind_some, y1, am_i_some, hg_900 w, hI_eq, am_c_le]
  rw [if_neg (by decide)]
end PUB3
