/-! CUTTING of the class: what stands when types, entries, sequents are cut -/
section CUT
variable {sa : Nat → Nat} {B : Nat} {ρ : hp_L} {P P' : hp_P} {n m : Nat} {T : Nat → Int32 × Int32 × Int32} {C : sC}
theorem pl_cut {v : Int32} {t : qT} (h : pl n T v t) (hm : m ≤ n) (hw : ty_wf T n) (hd : ty_di T n) (hn : n < 2 ^ 31) (hS : ct_S T m t) : pl m T v t := by
  obtain ⟨i, i1, i2⟩ := hS
  have hw' : ty_wf T m := fun j hj => hw j (by omega)
  have e : ct T n (nI i) = ct T m (nI i) := ct_ext hw' (fun _ _ => rfl) (by omega) hm (Or.inr ⟨i, i1, rfl⟩)
  obtain ⟨a, a1, a2, a3⟩ := h
  have : v = nI i := ct_inj hw hd hn n v (nI i) (Nat.le_refl _) (Or.inr ⟨a, a1, a2⟩) (Or.inr ⟨i, by omega, rfl⟩) (by rw [a3, e, i2])
  rw [this]
  exact ⟨i, i1, rfl, i2⟩
theorem enI.cut {et : List qT} {em : List qM} {a b : Nat} (h : enI P n T et em) (hm : m ≤ n) (hw : ty_wf T n) (hd : ty_di T n) (hn : n < 2 ^ 31) (ha : a ≤ et.length) (hb : b ≤ em.length) (h1 : ∀ t ∈ et.take a, ct_S T m t) (h2 : ∀ M ∈ em.take b, ct_S T m (m_ty M)) (k1 : P'.1 103 = nI a) (k2 : P'.1 111 = nI b) (k3 : ∀ r, 102 ≤ r → r ≤ 113 → P'.2 r = P.2 r) : enI P' m T (et.take a) (em.take b) := by
  obtain ⟨⟨a1, a2, a3, a4, a5⟩, ⟨b1, ⟨len, b2, b3, b4, b5⟩, b6⟩, c1, c2⟩ := h
  have la : (et.take a).length = a := by rw [List.length_take]; omega
  have lb : (em.take b).length = b := by rw [List.length_take]; omega
  refine ⟨⟨by rw [k1, la], ?_, ?_, ?_, fun j t hj => ?_⟩, ⟨by rw [k2, lb], ⟨len, b2, b3, by omega, fun r p q => by rw [k3 r (by omega) (by omega)]; exact b5 r p q⟩, fun j M hj => ?_⟩, ?_, ?_⟩
  · rw [k3 102 (by decide) (by decide)]; omega
  · rw [k3 102 (by decide) (by decide)]; exact a3
  · rw [k3 102 (by decide) (by decide)]; exact a4
  · rw [k3 102 (by decide) (by decide)]
    have hj' : j < a := by have := (List.getElem?_eq_some_iff.mp hj).1; omega
    refine pl_cut (a5 j t ?_) hm hw hd hn (h1 t (List.mem_of_getElem? hj))
    rw [List.getElem?_take_of_lt hj'] at hj; exact hj
  · have hj' : j < b := by have := (List.getElem?_eq_some_iff.mp hj).1; omega
    have hM := h2 M (List.mem_of_getElem? hj)
    rw [List.getElem?_take_of_lt hj'] at hj
    obtain ⟨d1, d2, d3, d4, d5, d6⟩ := b6 j M hj
    have ch : ∀ {v : Int32} {X : qM}, en_ch em j v X → en_ch (em.take b) j v X := fun h => h.imp id fun ⟨k, z1, z2, z3⟩ => ⟨k, z1, z2, by rw [List.getElem?_take_of_lt (by omega)]; exact z3⟩
    refine ⟨d1, by rw [k3 104 (by decide) (by decide)]; exact d2, by rw [k3 105 (by decide) (by decide)]; exact pl_cut d3 hm hw hd hn hM, by rw [k3 106 (by decide) (by decide)]; exact ch d4, by rw [k3 107 (by decide) (by decide)]; exact ch d5, ?_⟩
    rw [k3 108 (by decide) (by decide), k3 109 (by decide) (by decide), k3 110 (by decide) (by decide)]
    exact d6
  · rw [k3 112 (by decide) (by decide)]; exact c1
  · rw [k3 113 (by decide) (by decide)]; exact c2
/-- the signature stands with fewer types -/
theorem sgW.cut {tk : List Nat} {ow : List qT} (h : sgW P n T tk ow) (hm : m ≤ n) (hw : ty_wf T n) (hd : ty_di T n) (hn : n < 2 ^ 31) (h1 : ∀ t ∈ ow, ct_S T m t) (k1 : P'.1 502 = nI tk.length) (k2 : P'.1 503 = nI ow.length) (l1 : 3 ≤ tk.length) (l2 : tk.length ≤ 40) (l3 : 2 ≤ ow.length) (l4 : ow.length ≤ 200) (k3 : P'.2 500 = P.2 500) (k4 : P'.2 501 = P.2 501) : sgI P' m T tk ow := by
  obtain ⟨a1, a2, a3, a4⟩ := h
  exact ⟨⟨k1, l1, l2, by rw [k3]; exact a1, by rw [k3]; exact a3⟩, ⟨k2, l3, l4, by rw [k4]; exact a2, fun c t hc => by rw [k4]; exact pl_cut (a4 c t hc) hm hw hd hn (h1 t (List.mem_of_getElem? hc))⟩⟩
theorem sq_k_len {sq : List qQ} {j : Nat} (hj : sq.length ≤ j) : sq_k sq j = (sq_rows sq).length := by unfold sq_k; rw [List.take_of_length_le hj]
theorem sq_rows_take {sq : List qQ} {j : Nat} : sq_rows (sq.take j) = (sq_rows sq).take (sq_k sq j) := by
  have : sq_rows sq = sq_rows (sq.take j) ++ sq_rows (sq.drop j) := by rw [← sq_rows_ap, List.take_append_drop]
  rw [this]
  unfold sq_k
  rw [List.take_append_of_le_length (Nat.le_refl _), List.take_length]
/-- the rows of sequents stand with fewer types -/
theorem rsI.cut {Rb : List (List rwS)} {rows : List qM} {k : Nat} (h : rsI n T Rb rows) (hv : ∀ s ∈ Rb.flatten, rv n s) (hm : m ≤ n) (hw : ty_wf T n) (hd : ty_di T n) (hn : n < 2 ^ 31) (hS : ∀ t, q_of (rows.take k) t → ct_S T m t) : rsI m T (Rb.take k) (rows.take k) ∧ ∀ s ∈ (Rb.take k).flatten, rv m s := by
  have e : (Rb.take k).map (fun R => R.map (rt T n)) = (rows.take k).map m_fl := by rw [List.map_take, h.1, List.map_take]
  have hpl : ∀ R ∈ Rb.take k, ∀ s ∈ R, pl m T s.2 (rt T n s).2 := by
    intro R hR s hs
    have hr : rv n s := hv s (List.mem_flatten.mpr ⟨R, List.mem_of_mem_take hR, hs⟩)
    refine pl_cut hr.pl hm hw hd hn (hS _ ?_)
    have : R.map (rt T n) ∈ (rows.take k).map m_fl := by rw [← e]; exact List.mem_map.mpr ⟨R, hR, rfl⟩
    obtain ⟨X, x1, x2⟩ := List.mem_map.mp this
    exact ⟨X, x1, rt T n s, by rw [x2]; exact List.mem_map.mpr ⟨s, hs, rfl⟩, q_sub_self (ct_S_ne hw hn (hr.pl (T := T)).S)⟩
  refine ⟨⟨?_, fun M hM => h.2 M (List.mem_of_mem_take hM)⟩, fun s hs => ?_⟩
  · rw [← e]
    refine List.map_congr_left fun R hR => List.map_congr_left fun s hs => ?_
    show (s.1, ct T m s.2) = (s.1, ct T n s.2)
    rw [(hpl R hR s hs).ct]
    rfl
  · obtain ⟨R, hR, hs⟩ := List.mem_flatten.mp hs
    obtain ⟨a, a1, a2, -⟩ := hpl R hR s hs
    exact ⟨a, a1, a2⟩
/-- Sequents.shorten -/
theorem s_shorten {f d j : Nat} {sq : List qQ} {fm : Nat} {th : Nat → Nat × Nat × Nat} {Rs : List (List rwS)} {O : List rwS} {b : Bool} (w : hp_w B ρ) (hs : sqA P sq fm th) (hr : rwI P Rs O b) (hj : j ≤ sq.length) (hfm : fm ≤ j) (hk : sq_k sq j ≤ Rs.length) :
    ∃ P', am_call B sa am_dfl am_tb (f + 2) (d + 2) 73 [.ref (ρ.1 4), .int (nI j)] (hp_S sa ρ P) = some (none, hp_S sa ρ P') ∧ sqA P' (sq.take j) fm th ∧ rwI P' (Rs.take (sq_k sq j)) [] false ∧ P'.2 = P.2 ∧ (∀ r, r ≠ 403 → rw_S r = false → P'.1 r = P.1 r) ∧ hp_fr cl_S 0 ρ P ρ P' := by
  obtain ⟨a1, a2, a3, a4, ⟨len, l1, l2, l3, l4⟩, a5⟩ := hs
  obtain ⟨P', r1, r2, r3, r4⟩ := rw_shorten (sa := sa) (f := f + 1) (d := d) (ρ := ρ) (P := hp_sI P 403 (nI j)) w (hr.cg fun r p q => ⟨hI_ne (by omega), rfl⟩) hk
  have e405 : hp_rd (hp_sI P 403 (nI j)) 405 (nI j) = some (nI (sq_k sq j)) := by
    rw [hp_rd_nI (by rw [hI_A, l4 405 (by decide) (by decide)]; omega) (by omega), hI_A, (a5 j hj).1]
    rfl
  have fr : hp_fr cl_S 0 ρ P ρ P' := hp_fr.tr0 (hp_fr.sI (by decide)) (r3.weaken fun r h => wt_S_rw (st_S_w (cl_st h)))
  have p1 : ∀ r, rw_S r = false → P'.1 r = (hp_sI P 403 (nI j)).1 r := fun r h => (r3.2.1 r h).1
  have lj : (sq.take j).length = j := by rw [List.length_take]; omega
  refine ⟨P', ?_, ⟨?_, ?_, by omega, by omega, ⟨len, l1, l2, by omega, fun r p q => by rw [r4]; exact l4 r p q⟩, fun i hi => ?_⟩, r2, r4, fun r h1 h2 => by rw [p1 r h2, hI_ne h1], fr⟩
  · rw [am_c_73, am_s73_0]
    simp only [hs_403 w, Option.bind_some, ho_402 w, hr_405 w, hl_405 w, e405, hx_3 w, r1, am_v_some]
  · rw [p1 403 (by decide), hI_eq, lj]
  · rw [p1 404 (by decide), hI_ne (by decide)]; exact a2
  · rw [lj] at hi
    rw [r4, List.take_take, Nat.min_eq_left hi]
    exact a5 i (by omega)
/-- Entries.shorten -/
theorem e_shorten {f d a b : Nat} (w : hp_w B ρ) : am_call B sa am_dfl am_tb (f + 1) (d + 1) 30 [.ref (ρ.1 1), .int (nI a), .int (nI b)] (hp_S sa ρ P) = some (none, hp_S sa ρ (hp_sI (hp_sI P 103 (nI a)) 111 (nI b))) := by
  rw [am_c_30, am_s30_0]
  simp only [hs_103 w, hs_111 w, Option.bind_some]
end CUT
