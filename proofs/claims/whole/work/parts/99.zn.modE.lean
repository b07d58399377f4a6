/-! THE REFERENCE, 26: sequents made, without what there was then -/
def r4 (A : sV) (K : kS) : Prop := r_sg K A.2.2.2.1 A.2.2.2.2.1 ∧ r_en K A.2.2.2.2.2.1 A.2.2.2.2.2.2 ∧ r_sq K A.1 ∧ True ∧ r_sc K
abbrev r4a (A : sV) (K : kS) : Prop := r4 A K
section R4
variable {Z : Prop} {G : qT → Prop} {L : List qM} {sa : Nat → Nat} {B : Nat} {ρ : hp_L} {K K' K0 K1 : kS} {A : sV} {H : List qM} {P : hp_P}
theorem rI.r4 (h : rI A K) : r4a A K := ⟨h.1, h.2.1, h.2.2.1, True.intro, h.2.2.2.2⟩
/-- rI where rows are changed behind what stands -/
theorem r4.ar {P' : hp_P} (h : r4 A K) (h0 : ∀ r, rr_S r = true → P'.1 r = K.1.1 r) (h1 : ∀ r, rr_S r = true → r < 935 → P'.2 r = K.1.2 r) (h2 : ∀ r, 935 ≤ r → r ≤ 942 → ∀ j, j < A.1.length → (P'.2 r).2 j = (K.1.2 r).2 j) (h3 : ∀ i, i < (hys A.1).length → (P'.2 943).2 i = (K.1.2 943).2 i) (hl : ∀ r, (P'.2 r).1 = (K.1.2 r).1) : r4 A (P', K.2) := by
  obtain ⟨g1, g2, g3, g4, g5⟩ := h
  refine ⟨?_, ?_, ⟨?_, ?_, ?_, ?_, ?_, fun j s hj => ?_⟩, True.intro, g5.go (K' := (P', K.2)) hl⟩
  · unfold r_sg
    rw [h0 913 rfl, h0 915 rfl, h1 914 rfl (by decide), h1 916 rfl (by decide)]
    exact g1
  · unfold r_en
    rw [h0 928 rfl, h0 929 rfl, h1 930 rfl (by decide), h1 931 rfl (by decide)]
    exact g2
  · exact ⟨(h0 932 rfl).trans g3.1.1, g3.1.2⟩
  · exact (h0 933 rfl).trans g3.2.1
  · exact ⟨(h0 934 rfl).trans g3.2.2.1.1, g3.2.2.1.2⟩
  · exact fun r a b => (hl r).trans (g3.2.2.2.1 r a b)
  · exact (hl 943).trans g3.2.2.2.2.1
  · have hjl := (List.getElem?_eq_some_iff.mp hj).1
    obtain ⟨q1, q2, q3, q4, q5⟩ := g3.2.2.2.2.2 j s hj
    have hh := hys_at hj
    refine ⟨?_, ?_, ?_, q4, fun i X hi => ?_⟩
    · rw [h2 935 (by decide) (by decide) j hjl]; exact q1
    · rw [h2 936 (by decide) (by decide) j hjl]; exact q2
    · rw [h2 937 (by decide) (by decide) j hjl]; exact q3
    · have := (List.getElem?_eq_some_iff.mp hi).1
      rw [h3 _ (by omega)]; exact q5 i X hi
theorem r4.u60 (h : r4 A K) : (hys A.1).length ≤ 60 * A.1.length := hys_len fun s hs => by
  obtain ⟨j, hj, e⟩ := List.mem_iff_getElem.mp hs
  exact (h.2.2.1.2.2.2.2.2 j s (List.getElem?_eq_some_iff.mpr ⟨hj, e⟩)).2.2.2.1
theorem r4.r37 (h : r4 A K) {r j : Nat} (h1 : 935 ≤ r) (h2 : r ≤ 942) (hj : j ≤ 1001) : hp_rd K.1 r (nI j) = some ((K.1.2 r).2 j) := hp_rd_nI (by rw [h.2.2.1.2.2.2.1 r h1 h2]; omega) (by omega)
theorem r4.r43 (h : r4 A K) {i : Nat} (hi : i < 62000) : hp_rd K.1 943 (nI i) = some ((K.1.2 943).2 i) := hp_rd_nI (by rw [h.2.2.1.2.2.2.2.1]; exact hi) (by omega)
/-- open -/
theorem d_open4 {f d : Nat} (w : hp_w B ρ) (h : kI Z G L K) (hr : r4 A K) (hs : A.1.length < 1000) : ∃ K', am_call B sa am_dfl am_tb (f + 1) (d + 2) 158 [.ref (ρ.1 9)] (hp_S sa ρ K.1) = some (none, hp_S sa ρ K'.1) ∧ kI Z G L K' ∧ r4 A K' ∧ dr A.1 K' [] ∧ kD K K' ∧ K'.2 = K.2 := by
  obtain ⟨⟨s1, s2⟩, s3, -, s5, s6, -⟩ := hr.2.2.1
  rw [am_c_158, am_s158_0]
  have ck6 : hp_ck K.1 936 (nI A.1.length) = some () := hp_ck_nI (by rw [s5 936 (by decide) (by decide)]; omega) (by omega)
  have ck7 : ∀ v, hp_ck (hp_sA K.1 936 (nI A.1.length) v) 937 (nI A.1.length) = some () := fun v => hp_ck_nI (by rw [hA_len, s5 937 (by decide) (by decide)]; omega) (by omega)
  simp only [hr_936 w, hg_932 w, s1, hg_933 w, s3, ht_936 w, ck6, hA_I, hr_937 w, ht_937 w, ck7, Option.bind_some, am_c_ge]
  rw [if_neg (show ¬ (1000 : Int32) ≤ nI A.1.length from nI_ge (b := 1000) hs (by decide))]
  simp only [hx_9 w, Option.bind_some]
  let P' : hp_P := hp_sA (hp_sA K.1 936 (nI A.1.length) (nI (hys A.1).length)) 937 (nI A.1.length) 0
  have h45 : P'.1 945 = bI K.2.2.2.2 := h.2.2.1
  rw [m_need1 w h45 (by decide), am_i_some]
  have ne : ∀ {r : Nat}, r ≠ 936 → r ≠ 937 → P'.2 r = K.1.2 r := fun {r} a b => by rw [hA_ne b, hA_ne a]
  have e6 : (P'.2 936).2 = upd (K.1.2 936).2 A.1.length (nI (hys A.1).length) := by rw [hA_ne (by decide), hA_eq, nI_clamp (by omega)]
  have e7 : (P'.2 937).2 = upd (K.1.2 937).2 A.1.length 0 := by rw [hA_eq, nI_clamp (by omega), hA_ne (by decide)]
  refine ⟨(P', K.2), rfl, h.cg fun r hr' => ⟨rfl, ne (ks_ne hr' rfl) (ks_ne hr' rfl)⟩, hr.ar (fun _ _ => rfl) (fun r _ b => ne (by omega) (by omega)) (fun r a b j hj => ?_) (fun i hi => by rw [ne (by decide) (by decide)]) (fun r => by rw [hA_len, hA_len]), ⟨?_, ?_, by decide, fun i X hi => by cases hi⟩, ⟨(mfr.sA rfl).tr (mfr.sA rfl), ty_xt.rf, ⟨[], (List.append_nil _).symm⟩, id, fun r hr => ⟨rfl, ne (by omega) (by omega)⟩⟩, rfl⟩
  · by_cases z : r = 936
    · rw [z, e6, pk_un (by omega)]
    · by_cases z' : r = 937
      · rw [z', e7, pk_un (by omega)]
      · rw [ne z z']
  · show (P'.2 936).2 A.1.length = _
    rw [e6, pk_us]
  · show (P'.2 937).2 A.1.length = _
    rw [e7, pk_us]; rfl
set_option maxHeartbeats 2000000 in
/-- close -/
theorem d_close4 {f d : Nat} {c st : Int32} {M : qM} (w : hp_w B ρ) (hk : kI Z G L K) (hr : r4 A K) (hd : K.2.2.2.2 = false → dr A.1 K H) (hc : nv K c M) (hz : 20000 < m_tot (sq_rows A.1) + m_tot H + (m_fl M).length → Z) (hs : A.1.length < 1000) (he : A.2.2.2.2.2.1.length < 8000) (hm : A.2.2.2.2.2.2.length < 16000) (hf : 100 ≤ f) :
    ∃ K', am_call B sa am_dfl am_tb f (d + 2) 159 [.ref (ρ.1 9), .int c, .int st] (hp_S sa ρ K.1) = some (none, hp_S sa ρ K'.1) ∧ kDF dW_S K K' ∧ kI Z G L K' ∧ (K'.2.1 = K.2.1 ∧ K'.2.2.1 = K.2.2.1 ∧ K'.2.2.2.1 = K.2.2.2.1) ∧ ((K'.2.2.2.2 = true) ∨ (K'.2.2.2.2 = false ∧ m_tot (sq_rows A.1) + m_tot H + (m_fl M).length ≤ 20000 ∧ H.length ≤ 60 ∧ dN A H M st K K')) := by
  obtain ⟨f, rfl⟩ : ∃ g, f = g + 1 := ⟨f - 1, by omega⟩
  rw [am_c_159, am_s159_0]
  simp only [hk.bad w, Option.bind_some, am_c_eq]
  rcases bI_cases K.2.2.2.2 with ⟨eb, e⟩ | ⟨eb, e⟩
  · rw [e, if_pos rfl]
    obtain ⟨d1, d2, d3, d4⟩ := hd eb
    obtain ⟨⟨s1, s2⟩, s3, ⟨s4, s4'⟩, s5, s6, s7⟩ := hr.2.2.1
    have u60 := hr.u60
    have h45 := hk.2.2.1
    rw [eb] at h45
    have hcq := hc.q eb
    have wd : ∀ {v : Int32} {X : qM}, nq K v X → hp_rd K.1 922 v = some (nI (m_fl X).length) ∧ (m_fl X).length ≤ 4000 := fun {v X} ⟨i, i1, i2, i3⟩ => by
      have row := hk.row i3
      rw [i2, hk.2.1.rd (by decide) (by decide) (List.getElem?_eq_some_iff.mp i3).1, row.2.2.1]
      exact ⟨rfl, row.2.2.2.2.2.1⟩
    obtain ⟨wc, wc4⟩ := wd hcq
    simp only [hr_922 w, hl_922 w, wc, Option.bind_some]
    have r37 := hr.r37 (r := 937) (j := A.1.length) (by decide) (by decide) (by omega)
    rw [d2] at r37
    have tot4 : ∀ k, m_tot (H.take k) ≤ 4000 * k := by
      intro k
      induction k with
      | zero => exact Nat.le_refl _
      | succ k ih =>
        cases hX : H[k]? with
        | none =>
          have : H.take (k + 1) = H.take k := by rw [List.take_add_one, hX]; exact List.append_nil _
          rw [this]; omega
        | some X =>
          rw [m_tot_take hX]
          have := (wd (d4 k X hX)).2
          omega
    -- the end
    have fin : ∀ g, 3 ≤ g → ∃ K', am_go B sa am_dfl (am_call B sa am_dfl am_tb (f + 1) (d + 1)) am_r159 g 18 [(0, .ref (ρ.1 9)), (1, .int c), (2, .int st), (3, .int (nI ((m_fl M).length + m_tot H))), (4, .int (nI H.length))] [] (hp_S sa ρ K.1) = some (none, hp_S sa ρ K'.1) ∧ kDF dW_S K K' ∧ kI Z G L K' ∧ (K'.2.1 = K.2.1 ∧ K'.2.2.1 = K.2.2.1 ∧ K'.2.2.2.1 = K.2.2.2.1) ∧ ((K'.2.2.2.2 = true) ∨ (K'.2.2.2.2 = false ∧ m_tot (sq_rows A.1) + m_tot H + (m_fl M).length ≤ 20000 ∧ H.length ≤ 60 ∧ dN A H M st K K')) := by
      intro g hg
      obtain ⟨g, rfl⟩ : ∃ k, g = k + 1 + 1 := ⟨g - 2, by omega⟩
      have t4 := tot4 H.length
      rw [List.take_length] at t4
      rw [am_s159_18]
      simp only [hr_937 w, hg_932 w, s1, hl_937 w, r37, Option.bind_some, am_c_ge, am_c_gt, hg_934 w, s4, nI_add]
      rw [if_pos (Int32.le_refl _)]
      by_cases c1 : m_tot (sq_rows A.1) + ((m_fl M).length + m_tot H) ≤ 20000
      · rw [if_neg (show ¬ (20000 : Int32) < nI (m_tot (sq_rows A.1) + ((m_fl M).length + m_tot H)) from nI_nlt (a := 20000) c1 (by decide)), am_s159_76]
        simp only [hx_9 w, Option.bind_some]
        rw [m_need1 w h45 (by decide), am_i_some]
        simp only [am_c_ne]
        rw [if_pos (by decide)]
        have ck5 : hp_ck K.1 935 (nI A.1.length) = some () := hp_ck_nI (by rw [s5 935 (by decide) (by decide)]; omega) (by omega)
        have ck8 : hp_ck (hp_sA K.1 935 (nI A.1.length) c) 938 (nI A.1.length) = some () := hp_ck_nI (by rw [hA_len, s5 938 (by decide) (by decide)]; omega) (by omega)
        have r37' : ∀ v, hp_rd (hp_sI (hp_sA (hp_sA K.1 935 (nI A.1.length) c) 938 (nI A.1.length) st) 934 v) 937 (nI A.1.length) = some (nI H.length) := fun v => by
          rw [hp_rd_nI (by rw [hI_A, hA_len, hA_len, s5 937 (by decide) (by decide)]; omega) (by omega), hI_A, hA_ne (by decide), hA_ne (by decide), d2]
        have i33 : ∀ v, (hp_sI (hp_sA (hp_sA K.1 935 (nI A.1.length) c) 938 (nI A.1.length) st) 934 v).1 933 = nI (hys A.1).length := fun v => by rw [hI_ne (by decide)]; exact s3
        have i32 : ∀ v, (hp_sI (hp_sA (hp_sA K.1 935 (nI A.1.length) c) 938 (nI A.1.length) st) 934 v).1 932 = nI A.1.length := fun v => by rw [hI_ne (by decide)]; exact s1
        have i32' : ∀ v u, (hp_sI (hp_sI (hp_sA (hp_sA K.1 935 (nI A.1.length) c) 938 (nI A.1.length) st) 934 v) 933 u).1 932 = nI A.1.length := fun v u => by rw [hI_ne (by decide), hI_ne (by decide)]; exact s1
        simp only [hr_935 w, hg_932 w, s1, ht_935 w, ck5, hA_I, hr_938 w, ht_938 w, ck8, hg_934 w, s4, hs_934 w, hg_933 w, i33, i32, hr_937 w, hl_937 w, r37', hs_933 w, i32', hs_932 w, hI_eq, nI_add, nI_1, nI_pred, hx_9 w, Option.bind_some]
        have q17 : (cl_P K.1 A.1.length c st (m_tot (sq_rows A.1) + ((m_fl M).length + m_tot H)) ((hys A.1).length + H.length)).1 917 = nI K.2.2.2.1.length := (cl_1 (by decide) (by decide) (by decide)).trans hk.2.1.1.1
        have q04 : (cl_P K.1 A.1.length c st (m_tot (sq_rows A.1) + ((m_fl M).length + m_tot H)) ((hys A.1).length + H.length)).1 904 = nI K.2.1 := (cl_1 (by decide) (by decide) (by decide)).trans hk.1.1.1
        have q28 : (cl_P K.1 A.1.length c st (m_tot (sq_rows A.1) + ((m_fl M).length + m_tot H)) ((hys A.1).length + H.length)).1 928 = nI A.2.2.2.2.2.1.length := (cl_1 (by decide) (by decide) (by decide)).trans hr.2.1.1
        have q29 : (cl_P K.1 A.1.length c st (m_tot (sq_rows A.1) + ((m_fl M).length + m_tot H)) ((hys A.1).length + H.length)).1 929 = nI A.2.2.2.2.2.2.length := (cl_1 (by decide) (by decide) (by decide)).trans hr.2.1.2.2.2.1
        have nt := d_note (sa := sa) (f := f) (d := d) (s := A.1.length) w q17 q04 q28 q29 (fun r a b => cl_l.trans (s5 r (by omega) (by omega))) (by omega)
        have nt' : am_call B sa am_dfl am_tb (f + 1) (d + 1) 160 [.ref (ρ.1 9), .int (nI A.1.length)] (hp_S sa ρ (hp_sI (hp_sI (hp_sI (hp_sA (hp_sA K.1 935 (nI A.1.length) c) 938 (nI A.1.length) st) 934 (nI (m_tot (sq_rows A.1) + ((m_fl M).length + m_tot H)))) 933 (nI ((hys A.1).length + H.length))) 932 (nI (A.1.length + 1)))) = _ := nt
        rw [nt', am_v_some]
        obtain ⟨c5, c8, c32, c33, c34⟩ := cl_r (P := K.1) (s := A.1.length) (c := c) (st := st) (tot := m_tot (sq_rows A.1) + ((m_fl M).length + m_tot H)) (us := (hys A.1).length + H.length) (by omega)
        generalize hQ : cl_P K.1 A.1.length c st (m_tot (sq_rows A.1) + ((m_fl M).length + m_tot H)) ((hys A.1).length + H.length) = Q at *
        have Q2 : ∀ {r}, r ≠ 935 → r ≠ 938 → Q.2 r = K.1.2 r := fun {r} a b => by rw [← hQ]; exact cl_2 a b
        have Q1 : ∀ {r}, r ≠ 932 → r ≠ 933 → r ≠ 934 → Q.1 r = K.1.1 r := fun {r} a b c => by rw [← hQ]; exact cl_1 a b c
        have Ql : ∀ r, (Q.2 r).1 = (K.1.2 r).1 := fun r => by rw [← hQ]; exact cl_l
        obtain ⟨n9, n0, n1, n2⟩ := nt_r (P := Q) (s := A.1.length) (a := K.2.2.2.1.length) (b := K.2.1) (c := A.2.2.2.2.2.1.length) (e := A.2.2.2.2.2.2.length) (by omega)
        generalize hR : nt_P Q A.1.length K.2.2.2.1.length K.2.1 A.2.2.2.2.2.1.length A.2.2.2.2.2.2.length = R at *
        have R2 : ∀ {r}, ¬ (939 ≤ r ∧ r ≤ 942) → R.2 r = Q.2 r := fun {r} a => by rw [← hR]; exact nt_2 a
        have R1 : ∀ {r}, R.1 r = Q.1 r := fun {r} => by rw [← hR]; rfl
        have Rl : ∀ r, (R.2 r).1 = (K.1.2 r).1 := fun r => by rw [← hR, nt_l]; exact Ql r
        have kS' : ∀ r, ks_S r = true → R.1 r = K.1.1 r ∧ R.2 r = K.1.2 r := fun r hr' => by
          have z1 := ks_ne hr' (s := 932) rfl
          have z2 := ks_ne hr' (s := 933) rfl
          have z3 := ks_ne hr' (s := 934) rfl
          have z4 := ks_ne hr' (s := 935) rfl
          have z5 := ks_ne hr' (s := 938) rfl
          have y1 := ks_ne hr' (s := 939) rfl
          have y2 := ks_ne hr' (s := 940) rfl
          have y3 := ks_ne hr' (s := 941) rfl
          have y4 := ks_ne hr' (s := 942) rfl
          exact ⟨R1.trans (Q1 z1 z2 z3), (R2 (by omega)).trans (Q2 z4 z5)⟩
        refine ⟨(R, K.2), rfl, ⟨?_, ty_xt.rf, ⟨[], (List.append_nil _).symm⟩, id, fun r hr => ⟨R1.trans (Q1 (by omega) (by omega) (by omega)), (R2 (by omega)).trans (Q2 (by omega) (by omega))⟩⟩, hk.cg kS', ⟨rfl, rfl, rfl⟩, Or.inr ⟨eb, by omega, d3, ?_, ?_, ⟨⟨?_, ?_⟩, ?_, ⟨?_, ?_⟩, fun r a b => (Rl r).trans (s5 r a b), (Rl 943).trans s6, fun j t hj => ?_⟩, hr.2.2.2.2.go (K' := (R, K.2)) Rl, ?_, fun j hj => ?_, fun j nk nt a b hj ht => ?_, ?_⟩⟩
        · rw [← hR, ← hQ]
          exact ((((((((mfr.sA rfl).tr (mfr.sA rfl)).tr (mfr.sI rfl)).tr (mfr.sI rfl)).tr (mfr.sI rfl)).tr (mfr.sA rfl)).tr (mfr.sA rfl)).tr (mfr.sA rfl)).tr (mfr.sA rfl)
        · unfold r_sg
          rw [R1, Q1 (by decide) (by decide) (by decide), R2 (by decide), Q2 (by decide) (by decide), R1, Q1 (by decide) (by decide) (by decide), R2 (by decide), Q2 (by decide) (by decide)]
          exact hr.1
        · unfold r_en
          rw [R1, Q1 (by decide) (by decide) (by decide), R2 (by decide), Q2 (by decide) (by decide), R1, Q1 (by decide) (by decide) (by decide), R2 (by decide), Q2 (by decide) (by decide)]
          exact hr.2.1
        · rw [List.length_append]; exact R1.trans c32
        · rw [List.length_append]; show A.1.length + 1 ≤ 1000; omega
        · rw [hys_ap, List.length_append]
          refine R1.trans (c33.trans ?_)
          show _ = nI (_ + (H ++ []).length)
          rw [List.append_nil]
        · refine R1.trans (c34.trans ?_)
          rw [show sq_rows (A.1 ++ [(H, M)]) = sq_rows A.1 ++ (H ++ [M]) from by unfold sq_rows; rw [List.flatMap_append]; show _ ++ ((H ++ [M]) ++ []) = _; rw [List.append_nil], m_tot_ap, m_tot_ap]
          show nI _ = nI (_ + (_ + ((m_fl M).length + 0)))
          congr 1
          omega
        · rw [show sq_rows (A.1 ++ [(H, M)]) = sq_rows A.1 ++ (H ++ [M]) from by unfold sq_rows; rw [List.flatMap_append]; show _ ++ ((H ++ [M]) ++ []) = _; rw [List.append_nil], m_tot_ap, m_tot_ap]
          show _ + (_ + ((m_fl M).length + 0)) ≤ _
          omega
        · unfold r_row
          rw [show (R, K.2).1 = R from rfl, R2 (r := 935) (by decide), c5, R2 (r := 936) (by decide), Q2 (r := 936) (by decide) (by decide), R2 (r := 937) (by decide), Q2 (r := 937) (by decide) (by decide), R2 (r := 943) (by decide), Q2 (r := 943) (by decide) (by decide)]
          rcases rw_push_g hj with z | ⟨z1, z2⟩
          · have hjl := (List.getElem?_eq_some_iff.mp z).1
            rw [pk_un (by omega), List.take_append_of_le_length (by omega)]
            exact s7 j t z
          · subst z1 z2
            rw [pk_us, List.take_append_of_le_length (Nat.le_refl _), List.take_length]
            exact ⟨hcq, d1, d2, d3, d4⟩
        · show (R.2 938).2 _ = _
          rw [R2 (by decide), c8, pk_us]
        · show (R.2 938).2 j = _
          rw [R2 (by decide), c8, pk_un (by omega)]
        · refine ⟨fun e0 => ?_, fun e0 => ?_⟩
          · show R.1 944 = _ ∧ _
            rw [R1, Q1 (by decide) (by decide) (by decide)]; exact ht.1 e0
          · show (R.2 939).2 _ = _ ∧ (R.2 940).2 _ = _ ∧ (R.2 941).2 _ = _ ∧ (R.2 942).2 _ = _
            rw [n9, n0, n1, n2, pk_un (by omega), pk_un (by omega), pk_un (by omega), pk_un (by omega), Q2 (by decide) (by decide), Q2 (by decide) (by decide), Q2 (by decide) (by decide), Q2 (by decide) (by decide)]
            exact ht.2 e0
        · refine ⟨fun e0 => by omega, fun e0 => ?_⟩
          show (R.2 939).2 _ = _ ∧ (R.2 940).2 _ = _ ∧ (R.2 941).2 _ = _ ∧ (R.2 942).2 _ = _
          rw [n9, n0, n1, n2, Nat.add_sub_cancel, pk_us, pk_us, pk_us, pk_us]
          exact ⟨rfl, rfl, rfl, rfl⟩
      · rw [if_pos (show (20000 : Int32) < nI (m_tot (sq_rows A.1) + ((m_fl M).length + m_tot H)) from nI_lt (a := 20000) (by omega) (by omega)), am_s159_76]
        simp only [hx_9 w, Option.bind_some]
        rw [m_need0 w h45, am_i_some]
        simp only [am_c_ne]
        rw [if_neg (fun z => z rfl)]
        exact ⟨kB K true, rfl, ⟨kB.dx.W, ty_xt.rf, ⟨[], (List.append_nil _).symm⟩, fun z => Bool.noConfusion z, fun r hr => ⟨hI_ne (by omega), rfl⟩⟩, kB.I hk fun _ => hz (by omega), ⟨rfl, rfl, rfl⟩, Or.inl rfl⟩
    -- the loop
    have loop : ∀ (j k g : Nat), H.length - k = j → k ≤ H.length → j + 3 ≤ g → am_go B sa am_dfl (am_call B sa am_dfl am_tb (f + 1) (d + 1)) am_r159 g 18 [(0, .ref (ρ.1 9)), (1, .int c), (2, .int st), (3, .int (nI ((m_fl M).length + m_tot (H.take k)))), (4, .int (nI k))] [] (hp_S sa ρ K.1) = am_go B sa am_dfl (am_call B sa am_dfl am_tb (f + 1) (d + 1)) am_r159 (g - j) 18 [(0, .ref (ρ.1 9)), (1, .int c), (2, .int st), (3, .int (nI ((m_fl M).length + m_tot H))), (4, .int (nI H.length))] [] (hp_S sa ρ K.1) := by
      intro j
      induction j with
      | zero =>
        intro k g hj hk' hg
        have : k = H.length := by omega
        rw [this, List.take_length, Nat.sub_zero]
      | succ j ih =>
        intro k g hj hk' hg
        obtain ⟨g, rfl⟩ : ∃ x, g = x + 1 := ⟨g - 1, by omega⟩
        have kH : k < H.length := by omega
        have hX := List.getElem?_eq_getElem kH
        obtain ⟨wx, wx4⟩ := wd (d4 k _ hX)
        have r43 := hr.r43 (i := (hys A.1).length + k) (by omega)
        rw [← nI_add] at r43
        conv => lhs; rw [am_s159_18]
        simp only [hr_937 w, hg_932 w, s1, hl_937 w, r37, Option.bind_some, am_c_ge, hr_922 w, hr_943 w, hg_933 w, s3, hl_943 w, r43, hl_922 w, wx]
        rw [if_neg (nI_ge kH (by omega)), nI_add, nI_1, show (m_fl M).length + m_tot (H.take k) + (m_fl H[k]).length = (m_fl M).length + m_tot (H.take (k + 1)) from by rw [m_tot_take hX]; omega, ih (k + 1) g (by omega) (by omega) (by omega)]
        congr 1
        omega
    have h0 := loop H.length 0 f (by omega) (by omega) (by omega)
    have h0' : am_go B sa am_dfl (am_call B sa am_dfl am_tb (f + 1) (d + 1)) am_r159 f 18 [(0, .ref (ρ.1 9)), (1, .int c), (2, .int st), (3, .int (nI (m_fl M).length)), (4, .int 0)] [] (hp_S sa ρ K.1) = _ := h0
    rw [h0']
    exact fin _ (by omega)
  · rw [e, if_neg (by decide)]
    exact ⟨K, rfl, kDF.W kD.rf, hk, ⟨rfl, rfl, rfl⟩, Or.inl eb⟩
end R4
