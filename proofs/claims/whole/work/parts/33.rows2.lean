/-! ROWS of the class, 2: shorten, drop, isLow, close -/
/-- only the contents of the array of one role have changed -/
def ao (r : Nat) (P P' : hp_P) : Prop := P'.1 = P.1 ∧ (∀ x, x ≠ r → P'.2 x = P.2 x) ∧ (P'.2 r).1 = (P.2 r).1
theorem ao.rf {r : Nat} {P : hp_P} : ao r P P := ⟨rfl, fun _ _ => rfl, rfl⟩
theorem ao.tr {r : Nat} {P P' P'' : hp_P} (h : ao r P P') (k : ao r P' P'') : ao r P P'' := ⟨k.1.trans h.1, fun x hx => (k.2.1 x hx).trans (h.2.1 x hx), k.2.2.trans h.2.2⟩
theorem ao.sA {r : Nat} {P : hp_P} {i v : Int32} : ao r P (hp_sA P r i v) := ⟨rfl, fun _ hx => hA_ne hx, hA_len⟩
theorem ao.len {r : Nat} {P P' : hp_P} (h : ao r P P') (x : Nat) : (P'.2 x).1 = (P.2 x).1 := by
  by_cases e : x = r
  · rw [e]; exact h.2.2
  · rw [h.2.1 x e]
theorem ao.hlen {r : Nat} {P P' : hp_P} (h : ao r P P') : hp_len P' = hp_len P := by
  unfold hp_len
  congr 1
  exact List.map_congr_left fun x _ => h.len x
theorem ao.fr {r : Nat} {S : Nat → Bool} {ρ : hp_L} {P P' : hp_P} (h : ao r P P') (hS : S r = true) : hp_fr S 0 ρ P ρ P' := by
  refine ⟨rfl, fun x hx => ⟨by rw [h.1], h.2.1 x (fun e => ?_), rfl⟩, fun _ _ h => h, by rw [h.hlen]; omega, by rw [h.hlen]; omega, fun x => by rw [h.len]; exact Nat.le_refl _⟩
  rw [e, hS] at hx
  cases hx
section RW2
variable {sa : Nat → Nat} {B : Nat} {ρ : hp_L} {P : hp_P} {Rs : List (List rwS)} {O : List rwS} {b : Bool}
theorem rwI.ao {P' : hp_P} (h : rwI P Rs O b) (k : ao 307 P P') : rwI P' Rs O b := by
  obtain ⟨a1, ⟨len, a2⟩, a3, a4, a5, a6⟩ := h
  refine ⟨by rw [k.1]; exact a1, ⟨len, ?_⟩, ?_, ?_, ⟨by rw [k.1]; exact a5.1, by rw [k.2.2]; exact a5.2⟩, a6⟩
  · rw [k.2.1 301 (by decide), k.2.1 302 (by decide)]; exact a2
  · rw [k.2.1 301 (by decide), k.2.1 302 (by decide)]; exact a3
  · rw [k.1, k.2.1 304 (by decide)]; exact a4
theorem rwI.rd {k : Nat} {s : rwS} (h : rwI P Rs O b) (hs : (Rs.flatten ++ O)[k]? = some s) : hp_rd P 301 (nI k) = some s.1 ∧ hp_rd P 302 (nI k) = some s.2 ∧ k < 2 ^ 31 := by
  obtain ⟨len, b1, b2, b3, b4, b5⟩ := h.2.1
  have hk : k < (Rs.flatten ++ O).length := (List.getElem?_eq_some_iff.mp hs).1
  obtain ⟨e1, e2⟩ := h.2.2.1 k s hs
  exact ⟨by rw [hp_rd_nI (by omega) (by omega), e1], by rw [hp_rd_nI (by omega) (by omega), e2], by omega⟩
theorem rwI.Xle (h : rwI P Rs O b) : (Rs.flatten ++ O).length ≤ 24000 := by
  have h1 := h.2.2.2.2.2.1
  have h2 := h.2.2.2.2.2.2.1
  rw [List.length_append]
  omega
/-- Rows.shorten -/
theorem rw_shorten {f d m : Nat} (w : hp_w B ρ) (h : rwI P Rs O b) (hm : m ≤ Rs.length) :
    ∃ P', am_call B sa am_dfl am_tb (f + 1) (d + 1) 50 [.ref (ρ.1 3), .int (nI m)] (hp_S sa ρ P) = some (none, hp_S sa ρ P') ∧ rwI P' (Rs.take m) [] false ∧ hp_fr rw_S 0 ρ P ρ P' ∧ P'.2 = P.2 := by
  have hc := h.2.2.2.1
  have hRl := rw_len_Rs h.2.2.2.2.2.2.2
  have h20 := h.2.2.2.2.2.1
  have hfl : (Rs.take m).flatten.length ≤ Rs.flatten.length := by
    conv => rhs; rw [← List.take_append_drop m Rs, List.flatten_append, List.length_append]
    omega
  refine ⟨hp_sI (hp_sI (hp_sI P 305 (nI m)) 303 (nI (Rs.take m).flatten.length)) 306 0, ?_, ?_, hp_fr.tr0 (hp_fr.tr0 (hp_fr.sI (rw_S_t (by decide))) (hp_fr.sI (rw_S_t (by decide)))) (hp_fr.sI (rw_S_t (by decide))), rfl⟩
  · rw [am_c_50, am_s50_0]
    have r4 : hp_rd (hp_sI P 305 (nI m)) 304 (nI m) = some (nI (Rs.take m).flatten.length) := by rw [hp_rd_nI (by rw [hI_A]; omega) (by omega), hI_A, hc.2.2.2.2 m hm]
    simp only [hs_305 w, hr_304 w, hl_304 w, r4, hs_303 w, Option.bind_some, true_or, if_true, hs_306 w]
  · obtain ⟨a1, ⟨len, a2⟩, a3, a4, a5, a6, a7, a8⟩ := h
    have hX : Rs.flatten ++ O = (Rs.take m).flatten ++ ((Rs.drop m).flatten ++ O) := by
      rw [← List.append_assoc, ← List.flatten_append, List.take_append_drop]
    refine ⟨?_, ⟨len, a2.1, a2.2.1, a2.2.2.1, a2.2.2.2.1, ?_⟩, fun k s hs => ?_, ⟨?_, ?_, hc.2.2.1, hc.2.2.2.1, fun j hj => ?_⟩, ⟨by rw [hI_eq]; rfl, a5.2⟩, by omega, Nat.zero_le _, fun r hr => a8 r (List.mem_of_mem_take hr)⟩
    · rw [hI_ne (by decide), hI_eq, List.append_nil]
    · have := a2.2.2.2.2
      rw [List.length_append] at this
      rw [List.append_nil]
      omega
    · refine a3 k s ?_
      rw [hX, List.getElem?_append_left]
      · rw [List.append_nil] at hs; exact hs
      · rw [List.append_nil] at hs; exact (List.getElem?_eq_some_iff.mp hs).1
    · rw [hI_ne (by decide), hI_ne (by decide), hI_eq, List.length_take, Nat.min_eq_left hm]
    · rw [List.length_take, Nat.min_eq_left hm]
      show m < (P.2 304).1
      omega
    · rw [List.length_take, Nat.min_eq_left hm] at hj
      rw [List.take_take, Nat.min_eq_left hj]
      exact hc.2.2.2.2 j (by omega)
/-- Rows.drop -/
theorem rw_drop {f d : Nat} (w : hp_w B ρ) (h : rwI P Rs O b) :
    ∃ P', am_call B sa am_dfl am_tb (f + 1) (d + 1) 57 [.ref (ρ.1 3)] (hp_S sa ρ P) = some (none, hp_S sa ρ P') ∧ rwI P' Rs [] b ∧ hp_fr rw_S 0 ρ P ρ P' := by
  have hc := h.2.2.2.1
  have hRl := rw_len_Rs h.2.2.2.2.2.2.2
  have h20 := h.2.2.2.2.2.1
  refine ⟨hp_sI P 303 (nI Rs.flatten.length), ?_, ?_, hp_fr.sI (rw_S_t (by decide))⟩
  · rw [am_c_57, am_s57_0]
    have r4 : hp_rd P 304 (nI Rs.length) = some (nI Rs.flatten.length) := by rw [hp_rd_nI (by omega) (by omega), h.last]
    simp only [hr_304 w, hg_305 w, hl_304 w, hc.1, r4, hs_303 w, Option.bind_some]
  · obtain ⟨a1, ⟨len, a2⟩, a3, a4, a5, a6, a7, a8⟩ := h
    refine ⟨?_, ⟨len, a2.1, a2.2.1, a2.2.2.1, a2.2.2.2.1, ?_⟩, fun k s hs => ?_, ?_, ?_, a6, Nat.zero_le _, a8⟩
    · rw [hI_eq, List.append_nil]
    · have := a2.2.2.2.2
      rw [List.length_append] at this
      rw [List.append_nil]
      omega
    · refine a3 k s ?_
      rw [List.append_nil] at hs
      rw [List.getElem?_append_left (List.getElem?_eq_some_iff.mp hs).1]
      exact hs
    · rw [hI_ne (by decide)]; exact a4
    · rw [hI_ne (by decide)]; exact a5
/-- whether a row is low enough: codes, levels to come back to, the level -/
def rw_low {α : Type} : List (Int32 × α) → List Nat → Nat → Bool
  | [], _, _ => true
  | s :: M, st, lv => if 120 < lv then false else if s.1 = -1 then rw_low M ((lv + 1) :: st) (lv + 1) else if s.1 = -2 then rw_low M st (lv + 1) else match st with
    | [] => rw_low M [] lv
    | p :: st => rw_low M st p
/-- a stack of numbers in the array of a role -/
def rw_st (P : hp_P) (r : Nat) (st : List Nat) : Prop := ∀ i x, st.reverse[i]? = some x → (P.2 r).2 i = nI x
theorem rw_st_push {r lv : Nat} {st : List Nat} (h : rw_st P r st) (hl : st.length < 2 ^ 31) : rw_st (hp_sA P r (nI st.length) (nI lv)) r (lv :: st) := by
  intro i x hx
  rw [hA_eq, nI_clamp hl]
  show upd _ _ _ i = _
  rw [List.reverse_cons, List.getElem?_append] at hx
  split at hx
  · rename_i hi
    rw [List.length_reverse] at hi
    rw [pk_un (by omega)]
    exact h i x hx
  · rename_i hi
    rw [List.length_reverse] at hx hi
    have : i - st.length = 0 := by
      by_cases e : i - st.length = 0
      · exact e
      · obtain ⟨j, hj⟩ : ∃ j, i - st.length = j + 1 := ⟨i - st.length - 1, by omega⟩
        rw [hj] at hx
        simp at hx
    rw [this] at hx
    simp at hx
    rw [show i = st.length by omega, pk_us, hx]
theorem rw_st_pop {r p : Nat} {st : List Nat} (h : rw_st P r (p :: st)) : rw_st P r st ∧ (P.2 r).2 st.length = nI p := by
  refine ⟨fun i x hx => h i x ?_, h st.length p ?_⟩
  · rw [List.reverse_cons, List.getElem?_append_left (List.getElem?_eq_some_iff.mp hx).1]; exact hx
  · rw [List.reverse_cons, List.getElem?_append_right (by rw [List.length_reverse]; exact Nat.le_refl _), List.length_reverse]
    simp
set_option maxHeartbeats 2000000 in
theorem rw_low_loop {cl : am_F} (w : hp_w B ρ) : ∀ (M A Z : List rwS) (st : List Nat) (lv f : Nat) (P : hp_P), rwI P Rs O b → Rs.flatten ++ O = A ++ (M ++ Z) → rw_st P 307 st → st.length + 1 ≤ lv → lv ≤ 121 → (∀ i x, st.reverse[i]? = some x → i + 2 ≤ x ∧ x ≤ 121) → M.length + 1 ≤ f →
    ∃ P', am_go B sa am_dfl cl am_r59 f 8 [(0, .ref (ρ.1 3)), (2, .int (nI (A.length + M.length))), (3, .int (nI st.length)), (4, .int (nI lv)), (5, .int (nI A.length))] [] (hp_S sa ρ P) = some (some (.int (if rw_low M st lv = true then 1 else 0)), hp_S sa ρ P') ∧ ao 307 P P' := by
  intro M
  induction M with
  | nil =>
    intro A Z st lv f P h hX hst h1 h2 h3 hf
    obtain ⟨f, rfl⟩ : ∃ g, f = g + 1 := ⟨f - 1, by omega⟩
    refine ⟨P, ?_, ao.rf⟩
    rw [am_s59_8]
    simp only [List.length_nil, Nat.add_zero, am_c_ge, Int32.le_refl, if_true, rw_low, am_rz_1]
  | cons s M ih =>
    intro A Z st lv f P h hX hst h1 h2 h3 hf
    obtain ⟨f, rfl⟩ : ∃ g, f = g + 1 := ⟨f - 1, by omega⟩
    have hs : (Rs.flatten ++ O)[A.length]? = some s := by rw [hX]; simp
    obtain ⟨r1, r2, k31⟩ := h.rd hs
    have hX' : Rs.flatten ++ O = (A ++ [s]) ++ (M ++ Z) := by rw [hX]; simp
    have hlen := h.Xle
    have hXl : A.length + (M.length + 1) ≤ 24000 := by
      rw [hX] at hlen
      simp only [List.length_append, List.length_cons] at hlen
      omega
    have hA1 : (A ++ [s]).length = A.length + 1 := by simp
    have hfl : M.length + 1 ≤ f := by simp only [List.length_cons] at hf; omega
    have hge : (nI (A.length + (s :: M).length) ≤ nI A.length) = False := eq_false (nI_ge (by simp only [List.length_cons]; omega) (by simp only [List.length_cons]; omega))
    have hen : A.length + (s :: M).length = (A ++ [s]).length + M.length := by simp only [List.length_cons, hA1]; omega
    have hle : (nI lv ≤ (120 : Int32)) = (lv ≤ 120) := by rw [show (120 : Int32) = nI 120 from rfl]; exact propext (nI_leI (by omega) (by omega))
    rw [am_s59_8]
    simp only [am_c_ge, hge, if_false, am_c_le, hle, hr_301 w, hl_301 w, r1, Option.bind_some, am_c_ne, nI_1]
    by_cases c0 : lv ≤ 120
    · rw [if_pos c0]
      have hl0 : ¬ 120 < lv := by omega
      by_cases c1 : s.1 = -1
      · have hm : rw_low (s :: M) st lv = rw_low M ((lv + 1) :: st) (lv + 1) := by simp only [rw_low, hl0, c1, if_false, if_true]
        have c7 : hp_ck P 307 (nI st.length) = some () := hp_ck_nI (by rw [h.2.2.2.2.1.2]; omega) (by omega)
        obtain ⟨P', i1, i2⟩ := ih (A ++ [s]) Z ((lv + 1) :: st) (lv + 1) f (hp_sA P 307 (nI st.length) (nI (lv + 1))) (h.ao ao.sA) hX' (rw_st_push hst (by omega)) (by simp only [List.length_cons]; omega) (by omega) (fun i x hx => by
          rw [List.reverse_cons, List.getElem?_append] at hx
          split at hx
          · exact h3 i x hx
          · rename_i hi
            rw [List.length_reverse] at hx hi
            have : i - st.length = 0 := by
              by_cases e : i - st.length = 0
              · exact e
              · obtain ⟨j, hj⟩ : ∃ j, i - st.length = j + 1 := ⟨i - st.length - 1, by omega⟩
                rw [hj] at hx
                simp at hx
            rw [this] at hx
            simp at hx
            omega) hfl
        refine ⟨P', ?_, ao.sA.tr i2⟩
        rw [hm, if_neg (fun z => z c1), hen]
        simp only [hr_307 w, ht_307 w, Option.bind_some, c7]
        rw [hA1] at i1
        rw [hA1]
        exact i1
      · rw [if_pos c1]
        by_cases c2 : s.1 = -2
        · have hm : rw_low (s :: M) st lv = rw_low M st (lv + 1) := by simp only [rw_low, hl0, if_false]; rw [if_neg c1, if_pos c2]
          obtain ⟨P', i1, i2⟩ := ih (A ++ [s]) Z st (lv + 1) f P h hX' hst (by omega) (by omega) h3 hfl
          refine ⟨P', ?_, i2⟩
          rw [hm, if_neg (fun z => z c2), hen]
          rw [hA1] at i1
          rw [hA1]
          exact i1
        · rw [if_pos c2]
          cases st with
          | nil =>
            have hm : rw_low (s :: M) [] lv = rw_low M [] lv := by simp only [rw_low, hl0, c1, c2, if_false]
            obtain ⟨P', i1, i2⟩ := ih (A ++ [s]) Z [] lv f P h hX' hst h1 h2 h3 hfl
            refine ⟨P', ?_, i2⟩
            have : (nI ([] : List Nat).length ≤ 0) = True := eq_true (by decide)
            simp only [this, if_true]
            rw [hm, hen]
            rw [hA1] at i1
            rw [hA1]
            exact i1
          | cons p st =>
            have hm : rw_low (s :: M) (p :: st) lv = rw_low M st p := by simp only [rw_low, hl0, c1, c2, if_false]
            obtain ⟨q1, q2⟩ := rw_st_pop hst
            have hp := h3 st.length p (by rw [List.reverse_cons, List.getElem?_append_right (by rw [List.length_reverse]; exact Nat.le_refl _), List.length_reverse]; simp)
            simp only [List.length_cons] at h1
            obtain ⟨P', i1, i2⟩ := ih (A ++ [s]) Z st p f P h hX' q1 (by omega) (by omega) (fun i x hx => h3 i x (by rw [List.reverse_cons, List.getElem?_append_left (List.getElem?_eq_some_iff.mp hx).1]; exact hx)) hfl
            refine ⟨P', ?_, i2⟩
            have hn0 : (nI (p :: st).length ≤ 0) = False := eq_false (nI_nle (by simp) (by simp only [List.length_cons]; omega))
            have hpre : nI (p :: st).length + Int32.ofInt (-1) = nI st.length := by rw [i_addm1, List.length_cons, nI_pred]
            have r7 : hp_rd P 307 (nI st.length) = some (nI p) := by rw [hp_rd_nI (by rw [h.2.2.2.2.1.2]; omega) (by omega), q2]
            simp only [hn0, if_false, hr_307 w, hl_307 w, Option.bind_some, hpre, r7]
            rw [hm, hen]
            rw [hA1] at i1
            rw [hA1]
            exact i1
    · rw [if_neg c0]
      have hl0 : 120 < lv := by omega
      refine ⟨P, ?_, ao.rf⟩
      simp only [rw_low, hl0, if_true, am_rz_0]
      rfl
/-- what close makes of the rows -/
def rw_c (Rs : List (List rwS)) (O : List rwS) (b : Bool) : List (List rwS) × List rwS × Bool := if b = true then (Rs, O, true) else if rw_low O [] 1 = true ∧ Rs.flatten.length + O.length ≤ 20000 then (Rs ++ [O], [], false) else (Rs, O, true)
theorem rw_addrow_I (h : rwI P Rs O false) (hO : O ≠ []) (h2 : Rs.flatten.length + O.length ≤ 20000) {g : Nat → Int32} {len : Nat} (hl : Rs.length + 1 < len) (h50 : len ≤ 50000) (h64 : 64 ≤ len) (hg : ∀ j, j ≤ Rs.length → g j = nI (Rs.take j).flatten.length) :
    rwI (hp_sA (hp_sI (hp_sR P 304 (len, g)) 305 (nI (Rs.length + 1))) 304 (nI (Rs.length + 1)) (nI (Rs.flatten.length + O.length))) (Rs ++ [O]) [] false := by
  obtain ⟨a1, ⟨len', a2⟩, a3, a4, a5, a6, a7, a8⟩ := h
  have hfl : (Rs ++ [O]).flatten = Rs.flatten ++ O := by simp
  have hln : (Rs ++ [O]).length = Rs.length + 1 := by simp
  unfold rwI
  rw [hfl, List.append_nil, hln]
  refine ⟨?_, ⟨len', ?_⟩, ?_, ⟨?_, ?_, ?_, ?_, fun j hj => ?_⟩, ⟨?_, ?_⟩, ?_, Nat.zero_le _, fun r hr => ?_⟩
  · rw [hA_I, hI_ne (by decide), hR_I]; exact a1
  · rw [hA_ne (by decide), hA_ne (by decide), hI_A, hR_ne (by decide), hR_ne (by decide)]; exact a2
  · rw [hA_ne (by decide), hA_ne (by decide), hI_A, hR_ne (by decide), hR_ne (by decide)]; exact a3
  · rw [hA_I, hI_eq]
  · rw [hA_len, hI_A, hR_eq]; exact hl
  · rw [hA_len, hI_A, hR_eq]; exact h64
  · rw [hA_len, hI_A, hR_eq]; exact h50
  · rw [hA_eq, hI_A, hR_eq, nI_clamp (by omega)]
    show upd g _ _ j = _
    by_cases e : j = Rs.length + 1
    · rw [e, pk_us, List.take_of_length_le (by rw [hln]; exact Nat.le_refl _), hfl, List.length_append]
    · rw [pk_un e, hg j (by omega), List.take_append_of_le_length (by omega)]
  · rw [hA_I, hI_ne (by decide), hR_I]; exact a5.1
  · rw [hA_ne (by decide), hI_A, hR_ne (by decide)]; exact a5.2
  · rw [List.length_append]; exact h2
  · rcases List.mem_append.mp hr with z | z
    · exact a8 r z
    · rw [List.mem_singleton.mp z]; exact hO
theorem hp_sR_self {r : Nat} : hp_sR P r (P.2 r) = P := by
  refine Prod.ext rfl ?_
  funext y
  show (if y = r then P.2 r else P.2 y) = P.2 y
  split
  · rename_i e; rw [e]
  · rfl
/-- Rows.isLow of the row that is being written -/
theorem rw_isLow {f d : Nat} (w : hp_w B ρ) (h : rwI P Rs O b) (hf : 10000 ≤ f) :
    ∃ P', am_call B sa am_dfl am_tb f (d + 1) 59 [.ref (ρ.1 3), .int (nI Rs.flatten.length), .int (nI (Rs.flatten.length + O.length))] (hp_S sa ρ P) = some (some (.int (if rw_low O [] 1 = true then 1 else 0)), hp_S sa ρ P') ∧ ao 307 P P' := by
  obtain ⟨f, rfl⟩ : ∃ g, f = g + 1 := ⟨f - 1, by omega⟩
  have h7 := h.2.2.2.2.2.2.1
  obtain ⟨P', i1, i2⟩ := rw_low_loop (sa := sa) (cl := am_call B sa am_dfl am_tb (f + 1) d) w O Rs.flatten [] [] 1 f P h (by rw [List.append_nil]) (fun i x hx => by simp at hx) (by simp) (by omega) (fun i x hx => by simp at hx) (by omega)
  refine ⟨P', ?_, i2⟩
  rw [am_c_59, am_s59_0]
  exact i1
/-- Rows.close -/
theorem rw_close {f d : Nat} (w : hp_w B ρ) (h : rwI P Rs O b) (hO : b = false → O ≠ []) (hf : 10000 ≤ f) :
    ∃ ρ' P', am_call B sa am_dfl am_tb f (d + 3) 58 [.ref (ρ.1 3)] (hp_S sa ρ P) = some (none, hp_S sa ρ' P') ∧ hp_w B ρ' ∧ rwI P' (rw_c Rs O b).1 (rw_c Rs O b).2.1 (rw_c Rs O b).2.2 ∧ hp_fr rw_S 0 ρ P ρ' P' := by
  have h5 := h.2.2.2.2.1.1
  have hc := h.2.2.2.1
  have hRl := rw_len_Rs h.2.2.2.2.2.2.2
  have h20 := h.2.2.2.2.2.1
  have h40 := h.2.2.2.2.2.2.1
  obtain ⟨f, rfl⟩ : ∃ g, f = g + 1 := ⟨f - 1, by omega⟩
  rw [am_c_58, am_s58_0]
  have i1 : ((1 : Int32) = 0 ∨ (1 : Int32) = 1) = True := eq_true (Or.inr rfl)
  cases b with
  | true =>
    have h5 : P.1 306 = 1 := h5
    refine ⟨ρ, hp_sI P 306 1, ?_, w, h.bad, hp_fr.sI (rw_S_t (by decide))⟩
    simp only [hg_306 w, Option.bind_some, h5, am_c_ne, or_true, if_true, hs_306 w]
    rw [if_pos (by decide)]
  | false =>
    have h5 : P.1 306 = 0 := h5
    obtain ⟨P1, l1, l2⟩ := rw_isLow (sa := sa) (f := f + 1) (d := d + 1) w h hf
    have r4 : hp_rd P 304 (nI Rs.length) = some (nI Rs.flatten.length) := by rw [hp_rd_nI (by omega) (by omega), h.last]
    have h' := h.ao l2
    have ne0 : ¬ ((0 : Int32) ≠ 0) := fun z => z rfl
    simp only [hg_306 w, Option.bind_some, h5, am_c_ne, ne0, if_false, hr_304 w, hg_305 w, hl_304 w, hc.1, r4, hg_303 w, h.top, hx_3 w, l1, am_i_some, am_c_eq]
    by_cases e1 : rw_low O [] 1 = true
    · rw [if_pos e1, if_neg (show ¬ (1 : Int32) = 0 by decide)]
      have hle : (nI (Rs.flatten.length + O.length) ≤ (20000 : Int32)) = (Rs.flatten.length + O.length ≤ 20000) := by rw [show (20000 : Int32) = nI 20000 from rfl]; exact propext (nI_leI (by omega) (by omega))
      simp only [h'.top, am_c_le, hle, h'.2.2.2.1.1]
      by_cases e2 : Rs.flatten.length + O.length ≤ 20000
      · have hm : rw_c Rs O false = (Rs ++ [O], [], false) := by
          unfold rw_c
          rw [if_neg (by decide), if_pos ⟨e1, e2⟩]
        rw [hm, if_pos e2]
        obtain ⟨c1, c2, c3, c4, c5⟩ := h'.2.2.2.1
        have hal : am_alen (hp_S sa ρ P1) (ρ.2.1 304) = some (nI (P1.2 304).1) := by rw [hp_alen w (by decide)]; rfl
        simp only [hal, Option.bind_some, nI_1]
        by_cases e3 : Rs.length + 1 = (P1.2 304).1
        · rw [if_neg (fun z => z (by rw [e3]))]
          have hgr := rw_addrow_I (g := hp_ext (P1.2 304)) (len := 2 * (P1.2 304).1) h' (hO rfl) e2 (by omega) (by omega) (by omega) (fun j hj => by rw [hp_ext_lt (by omega), c5 j hj])
          have w1 := ty_g1_w (len := (P1.2 304).1) (r := 304) (x := (ρ, P1)) w (by decide)
          refine ⟨_, _, ?_, w1, hgr, ?_⟩
          · rw [hp_longer w (show 304 ∈ hp_rs by decide) rfl (by omega) (by omega), am_p_some, hd_304 w, Option.bind_some]
            have w1' : hp_w B (hp_ad ρ 304 (P1.2 304) (2 * (P1.2 304).1)) := w1
            have ho : ∀ {x : Nat}, (hp_ad ρ 304 (P1.2 304) x).1 3 = ρ.1 3 := rfl
            have ck : hp_ck (hp_sI (hp_sR P1 304 (2 * (P1.2 304).1, hp_ext (P1.2 304))) 305 (nI (Rs.length + 1))) 304 (nI (Rs.length + 1)) = some () := hp_ck_nI (by rw [hI_A, hR_eq]; show Rs.length + 1 < 2 * (P1.2 304).1; omega) (by omega)
            have q1 := hg_305 (sa := sa) (P := hp_sR P1 304 (2 * (P1.2 304).1, hp_ext (P1.2 304))) w1'
            have q2 := hs_305 (sa := sa) (P := hp_sR P1 304 (2 * (P1.2 304).1, hp_ext (P1.2 304))) (v := nI (Rs.length + 1)) w1'
            have q3 := hr_304 (sa := sa) (P := hp_sI (hp_sR P1 304 (2 * (P1.2 304).1, hp_ext (P1.2 304))) 305 (nI (Rs.length + 1))) w1'
            have q4 := hg_305 (sa := sa) (P := hp_sI (hp_sR P1 304 (2 * (P1.2 304).1, hp_ext (P1.2 304))) 305 (nI (Rs.length + 1))) w1'
            have q5 := hg_303 (sa := sa) (P := hp_sI (hp_sR P1 304 (2 * (P1.2 304).1, hp_ext (P1.2 304))) 305 (nI (Rs.length + 1))) w1'
            have q6 := ht_304 (sa := sa) (P := hp_sI (hp_sR P1 304 (2 * (P1.2 304).1, hp_ext (P1.2 304))) 305 (nI (Rs.length + 1))) (i := nI (Rs.length + 1)) (v := nI (Rs.flatten.length + O.length)) w1'
            rw [ho] at q1 q2 q3 q4 q5
            have t3 : (hp_sI (hp_sR P1 304 (2 * (P1.2 304).1, hp_ext (P1.2 304))) 305 (nI (Rs.length + 1))).1 303 = nI (Rs.flatten.length + O.length) := h'.top
            have t5 : (hp_sR P1 304 (2 * (P1.2 304).1, hp_ext (P1.2 304))).1 305 = nI Rs.length := c1
            simp only [q1, q2, q3, q4, q5, Option.bind_some, t3, t5, nI_1, hI_eq, q6, ck]
            rfl
          · exact hp_fr.tr0 (l2.fr (rw_S_t (by decide))) (hp_fr.tr0 (hp_fr.grow w (rw_S_t (by decide)) (by decide) rfl (by omega)) (hp_fr.tr0 (hp_fr.sI (rw_S_t (by decide))) (hp_fr.sA (rw_S_t (by decide)))))
        · rw [if_pos (fun z => e3 ((nI_eq (by omega) (by omega)).mp z))]
          have hgr := rw_addrow_I (g := (P1.2 304).2) (len := (P1.2 304).1) h' (hO rfl) e2 (by omega) (by omega) (by omega) c5
          rw [show hp_sR P1 304 ((P1.2 304).1, (P1.2 304).2) = P1 from hp_sR_self] at hgr
          refine ⟨ρ, _, ?_, w, hgr, hp_fr.tr0 (l2.fr (rw_S_t (by decide))) (hp_fr.tr0 (hp_fr.sI (rw_S_t (by decide))) (hp_fr.sA (rw_S_t (by decide))))⟩
          have ck : hp_ck (hp_sI P1 305 (nI (Rs.length + 1))) 304 (nI (Rs.length + 1)) = some () := hp_ck_nI (by rw [hI_A]; omega) (by omega)
          have t3 : (hp_sI P1 305 (nI (Rs.length + 1))).1 303 = nI (Rs.flatten.length + O.length) := h'.top
          simp only [hs_305 w, hr_304 w, hg_305 w, hg_303 w, ht_304 w, Option.bind_some, nI_1, hI_eq, t3, ck]
      · have hm : rw_c Rs O false = (Rs, O, true) := by
          unfold rw_c
          rw [if_neg (by decide), if_neg (fun z => e2 z.2)]
        rw [hm, if_neg e2]
        refine ⟨ρ, _, ?_, w, h'.bad, hp_fr.tr0 (l2.fr (rw_S_t (by decide))) (hp_fr.sI (rw_S_t (by decide)))⟩
        simp only [or_true, if_true, hs_306 w, Option.bind_some]
    · have hm : rw_c Rs O false = (Rs, O, true) := by
        unfold rw_c
        rw [if_neg (by decide), if_neg (fun z => e1 z.1)]
      rw [hm, if_neg e1, if_pos rfl]
      refine ⟨ρ, _, ?_, w, h'.bad, hp_fr.tr0 (l2.fr (rw_S_t (by decide))) (hp_fr.sI (rw_S_t (by decide)))⟩
      simp only [or_true, if_true, hs_306 w, Option.bind_some]
end RW2
