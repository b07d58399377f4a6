/-! THE REFERENCE, 1: chains; need; typeOf -/
def lk (h : Nat → Int32) (c : Int32) : Nat → Int32
  | 0 => -1
  | n + 1 => if h n = c then nI n else lk h c n
/-- chains of rows: heads by bucket, and what stands behind each row -/
def ch_ok (hd bh h : Nat → Int32) (n : Nat) : Prop := (∀ c : Nat, c < 4096 → hd c = lk h (nI c) n) ∧ ∀ i, i < n → bh i = lk h (h i) i
def c4 (a b c d : Int32) : Int32 := ((31 * ((31 * ((31 * a) + b)) + c)) + d) &&& 4095
theorem c4_in (a b c d : Int32) : ∃ k : Nat, k < 4096 ∧ c4 a b c d = nI k := pk_andE _ 12 (by decide)
theorem lk_cg {h h' : Nat → Int32} {c : Int32} : ∀ {n : Nat}, (∀ i, i < n → h' i = h i) → lk h' c n = lk h c n
  | 0, _ => rfl
  | n + 1, k => by
    unfold lk
    rw [k n (Nat.lt_succ_self n), lk_cg fun i hi => k i (by omega)]
theorem ch_ok.add {hd bh h h' : Nat → Int32} {n c : Nat} (k : ch_ok hd bh h n) (hc : c < 4096) (e : h' n = nI c) (he : ∀ i, i < n → h' i = h i) : ch_ok (upd hd c (nI n)) (upd bh n (hd c)) h' (n + 1) := by
  refine ⟨fun c' hc' => ?_, fun i hi => ?_⟩
  · unfold lk
    by_cases z : c' = c
    · rw [z, pk_us, if_pos e]
    · rw [pk_un z, if_neg (fun y => z ((nI_eq (by omega) (by omega)).mp (by rw [← y, e]))), k.1 c' hc', lk_cg he]
  · by_cases z : i = n
    · rw [z, pk_us, e, k.1 c hc, lk_cg he]
    · rw [pk_un z, k.2 i (by omega), he i (by omega), lk_cg fun j hj => he j (by omega)]
theorem ch_ok.cut {hd bh h : Nat → Int32} {n c : Nat} (k : ch_ok hd bh h (n + 1)) (hc : c < 4096) (e : h n = nI c) : ch_ok (upd hd c (bh n)) bh h n := by
  refine ⟨fun c' hc' => ?_, fun i hi => k.2 i (by omega)⟩
  by_cases z : c' = c
  · rw [z, pk_us, k.2 n (Nat.lt_succ_self n), e]
  · rw [pk_un z, k.1 c' hc']
    show (if h n = nI c' then nI n else lk h (nI c') n) = _
    rw [if_neg (fun y => z ((nI_eq (by omega) (by omega)).mp (by rw [← y, e])))]
theorem ch_ok.cg {hd bh h h' : Nat → Int32} {n : Nat} (k : ch_ok hd bh h n) (he : ∀ i, i < n → h' i = h i) : ch_ok hd bh h' n :=
  ⟨fun c hc => by rw [k.1 c hc, lk_cg he], fun i hi => by rw [k.2 i hi, he i hi, lk_cg fun j hj => he j (by omega)]⟩
/-- what stays over a work of the reference -/
def mfr (F : Nat → Bool) (P P' : hp_P) : Prop := (∀ r, F r = false → P'.1 r = P.1 r ∧ P'.2 r = P.2 r) ∧ ∀ r, (P'.2 r).1 = (P.2 r).1
theorem mfr.rf {F : Nat → Bool} {P : hp_P} : mfr F P P := ⟨fun _ _ => ⟨rfl, rfl⟩, fun _ => rfl⟩
theorem mfr.tr {F : Nat → Bool} {P P' P'' : hp_P} (h : mfr F P P') (k : mfr F P' P'') : mfr F P P'' := ⟨fun r hr => ⟨(k.1 r hr).1.trans (h.1 r hr).1, (k.1 r hr).2.trans (h.1 r hr).2⟩, fun r => (k.2 r).trans (h.2 r)⟩
theorem mfr.sI {F : Nat → Bool} {P : hp_P} {r : Nat} {v : Int32} (h : F r = true) : mfr F P (hp_sI P r v) := ⟨fun x hx => ⟨hI_ne (fun e => by rw [e, h] at hx; cases hx), rfl⟩, fun _ => rfl⟩
theorem mfr.sA {F : Nat → Bool} {P : hp_P} {r : Nat} {i v : Int32} (h : F r = true) : mfr F P (hp_sA P r i v) := ⟨fun x hx => ⟨rfl, hA_ne (fun e => by rw [e, h] at hx; cases hx)⟩, fun _ => hA_len⟩
theorem mfr.up {F F' : Nat → Bool} {P P' : hp_P} (h : mfr F P P') (k : ∀ r, F' r = false → F r = false) : mfr F' P P' := ⟨fun r hr => h.1 r (k r hr), h.2⟩
theorem hp_sI_self {P : hp_P} {r : Nat} {v : Int32} (h : P.1 r = v) : hp_sI P r v = P := by
  refine Prod.ext (funext fun x => ?_) rfl
  by_cases e : x = r
  · rw [e, hI_eq, h]
  · rw [hI_ne e]
theorem nI_ne_m2 {n : Nat} (h : n < 2 ^ 31) : nI n ≠ -2 := fun e => by
  have h1 := nI_pos' h
  rw [e] at h1
  exact absurd h1 (by decide)
theorem ty_fnd_ne {T : Nat → Int32 × Int32 × Int32} {q : Int32 × Int32 × Int32} : ∀ {n : Nat}, ty_fnd T q n ≠ -1 → n < 2 ^ 31 → ty_fnd T q n ≠ -2
  | 0, h, _ => absurd rfl h
  | n + 1, h, hn => by
    unfold ty_fnd at h ⊢
    split
    · exact nI_ne_m2 (by omega)
    · rename_i z
      rw [if_neg z] at h
      exact ty_fnd_ne h (by omega)
section MO1
variable {sa : Nat → Nat} {B : Nat} {ρ : hp_L} {P : hp_P} {n : Nat} {T : Nat → Int32 × Int32 × Int32} {b : Bool}
theorem bI_t : bI true = 1 := rfl
theorem bI_f : bI false = 0 := rfl
/-- need, when all is well -/
theorem m_need1 {f d : Nat} {x : Int32} (w : hp_w B ρ) (hb : P.1 945 = bI b) (hx : x ≠ 0) : am_call B sa am_dfl am_tb (f + 1) (d + 1) 124 [.ref (ρ.1 9), .int x] (hp_S sa ρ P) = some (some (.int (bI !b)), hp_S sa ρ P) := by
  rw [am_c_124, am_s124_0]
  simp only [hg_945 w, hb, Option.bind_some, am_c_ne]
  cases b with
  | true =>
    rw [if_pos (by decide), if_pos (Or.inr True.intro)]
    simp only [hs_945 w, Option.bind_some, hg_945 w, hI_eq]
    rw [if_pos (by decide), hp_sI_self (v := 1) hb]
    exact am_rz_0
  | false =>
    rw [if_neg (fun z => z rfl), if_pos hx, if_pos (Or.inl True.intro)]
    simp only [hs_945 w, Option.bind_some, hg_945 w, hI_eq]
    rw [if_neg (fun z => z rfl), hp_sI_self (v := 0) hb]
    exact am_rz_1
theorem m_need0 {f d : Nat} (w : hp_w B ρ) (hb : P.1 945 = bI b) : am_call B sa am_dfl am_tb (f + 1) (d + 1) 124 [.ref (ρ.1 9), .int 0] (hp_S sa ρ P) = some (some (.int 0), hp_S sa ρ (hp_sI P 945 1)) := by
  rw [am_c_124, am_s124_0]
  simp only [hg_945 w, hb, Option.bind_some, am_c_ne]
  cases b with
  | true =>
    rw [if_pos (by decide), if_pos (Or.inr True.intro)]
    simp only [hs_945 w, Option.bind_some, hg_945 w, hI_eq]
    rw [if_pos (by decide)]
    exact am_rz_0
  | false =>
    rw [if_neg (fun z => z rfl), if_neg (fun z => z rfl), if_pos (Or.inr True.intro)]
    simp only [hs_945 w, Option.bind_some, hg_945 w, hI_eq]
    rw [if_pos (by decide)]
    exact am_rz_0
/-- need, of a truth -/
theorem m_need {f d : Nat} {p : Prop} (w : hp_w B ρ) (hb : P.1 945 = bI false) : am_call B sa am_dfl am_tb (f + 1) (d + 1) 124 [.ref (ρ.1 9), .int (bP p)] (hp_S sa ρ P) = some (some (.int (bP p)), hp_S sa ρ (@ite _ p (Classical.propDecidable p) P (hp_sI P 945 1))) := by
  by_cases e : p
  · rw [bP_t e, if_pos e]; exact m_need1 w hb (by decide)
  · rw [bP_f e, if_neg e]; exact m_need0 w hb
theorem m_chain {f d : Nat} {x y z u : Int32} {σ : am_S} : am_call B sa am_dfl am_tb (f + 1) (d + 1) 125 [.int x, .int y, .int z, .int u] σ = some (some (.int (c4 x y z u)), σ) := by
  rw [am_c_125, am_s125_0]
  rfl
/-- the reference's table of types -/
def tyN (P : hp_P) (n : Nat) (T : Nat → Int32 × Int32 × Int32) : Prop :=
  (P.1 904 = nI n ∧ n ≤ 8000) ∧ ((∀ r, 905 ≤ r → r ≤ 910 → (P.2 r).1 = 9000) ∧ (P.2 912).1 = 9000 ∧ (P.2 911).1 = 4096) ∧
  (∀ j, j < n → (P.2 905).2 j = (T j).1 ∧ (P.2 906).2 j = (T j).2.1 ∧ (P.2 907).2 j = (T j).2.2 ∧ (P.2 908).2 j = nI (ty_sz T n (nI j)) ∧ (P.2 909).2 j = nI (ty_ht T n (nI j)) ∧ ty_sz T n (nI j) ≤ 200 ∧ ty_ht T n (nI j) ≤ 24) ∧
  ty_wf T n ∧ ty_di T n ∧ ch_ok (P.2 911).2 (P.2 910).2 (fun i => c4 (T i).1 (T i).2.1 (T i).2.2 0) n
theorem tyN.n31 (h : tyN P n T) : n < 2 ^ 31 := by have := h.1.2; omega
theorem tyN.cg {P' : hp_P} (h : tyN P n T) (h1 : P'.1 904 = P.1 904) (h2 : ∀ r, 905 ≤ r → r ≤ 912 → P'.2 r = P.2 r) : tyN P' n T := by
  unfold tyN
  rw [h1, h2 905 (by decide) (by decide), h2 906 (by decide) (by decide), h2 907 (by decide) (by decide), h2 908 (by decide) (by decide), h2 909 (by decide) (by decide), h2 910 (by decide) (by decide), h2 911 (by decide) (by decide), h2 912 (by decide) (by decide)]
  refine ⟨h.1, ⟨fun r a b => by rw [h2 r a (by omega)]; exact h.2.1.1 r a b, h.2.1.2⟩, h.2.2⟩
theorem tyN.good (h : tyN P n T) : q_good (ct_S T n) := by
  refine ⟨fun t ⟨i, hi, e⟩ => ?_, (List.range n).map (fun i => ct T n (nI i)), ?_, fun t ⟨i, hi, e⟩ => ?_⟩
  · have := (h.2.2.1 i hi).2.2.2.2.2
    rw [← ct_sz, ← ct_ht, e] at this
    exact this
  · rw [List.length_map, List.length_range]
    exact h.1.2
  · rw [← e]
    exact List.mem_map.mpr ⟨i, List.mem_range.mpr hi, rfl⟩
theorem mt_find {q : Int32 × Int32 × Int32} {f0 d : Nat} {R : Option (Option Value × am_S)} (w : hp_w B ρ) (h : tyN P n T) (hR : ∀ f, 10 ≤ f → am_go B sa am_dfl (am_call B sa am_dfl am_tb f0 d) am_r126 f 18 [(0, .ref (ρ.1 9)), (1, .int q.1), (2, .int q.2.1), (3, .int q.2.2), (4, .int (c4 q.1 q.2.1 q.2.2 0)), (5, .int (-1))] [] (hp_S sa ρ P) = R) : ∀ (m f : Nat), m ≤ n → m + 10 ≤ f →
    am_go B sa am_dfl (am_call B sa am_dfl am_tb f0 d) am_r126 f 18 [(0, .ref (ρ.1 9)), (1, .int q.1), (2, .int q.2.1), (3, .int q.2.2), (4, .int (c4 q.1 q.2.1 q.2.2 0)), (5, .int (lk (fun i => c4 (T i).1 (T i).2.1 (T i).2.2 0) (c4 q.1 q.2.1 q.2.2 0) m))] [] (hp_S sa ρ P) = if ty_fnd T q m ≠ -1 then some (some (.int (ty_fnd T q m)), hp_S sa ρ P) else R := by
  have n8 := h.1.2
  intro m
  induction m with
  | zero =>
    intro f _ hf
    rw [if_neg (fun z => z rfl)]
    exact hR f (by omega)
  | succ m ih =>
    intro f hm hf
    by_cases hb : c4 (T m).1 (T m).2.1 (T m).2.2 0 = c4 q.1 q.2.1 q.2.2 0
    · have hl : lk (fun i => c4 (T i).1 (T i).2.1 (T i).2.2 0) (c4 q.1 q.2.1 q.2.2 0) (m + 1) = nI m := if_pos hb
      rw [hl]
      obtain ⟨f, rfl⟩ : ∃ g, f = g + 1 := ⟨f - 1, by omega⟩
      obtain ⟨e0, e1, e2, -⟩ := h.2.2.1 m (by omega)
      have ln := h.2.1.1
      have rd : ∀ r, 905 ≤ r → r ≤ 910 → hp_rd P r (nI m) = some ((P.2 r).2 m) := fun r a b => hp_rd_nI (by rw [ln r a b]; omega) (by omega)
      have r0 : hp_rd P 905 (nI m) = some (T m).1 := by rw [rd 905 (by decide) (by decide), e0]
      have r1 : hp_rd P 906 (nI m) = some (T m).2.1 := by rw [rd 906 (by decide) (by decide), e1]
      have r2 : hp_rd P 907 (nI m) = some (T m).2.2 := by rw [rd 907 (by decide) (by decide), e2]
      have r5 : hp_rd P 910 (nI m) = some (lk (fun i => c4 (T i).1 (T i).2.1 (T i).2.2 0) (c4 q.1 q.2.1 q.2.2 0) m) := by rw [rd 910 (by decide) (by decide), h.2.2.2.2.2.2 m (by omega)]; dsimp only; rw [hb]
      have hih := ih f (by omega) (by omega)
      rw [am_s126_18]
      simp only [am_c_eq, am_c_ne]
      rw [if_neg (nI_ne_m1 (show m < 2 ^ 31 by omega))]
      simp only [hr_905 w, hl_905 w, r0, hr_906 w, hl_906 w, r1, hr_907 w, hl_907 w, r2, hr_910 w, hl_910 w, r5, Option.bind_some]
      have hf1 : ty_fnd T q (m + 1) = if T m = q then nI m else ty_fnd T q m := rfl
      have hf2 : T m ≠ q → ty_fnd T q (m + 1) = ty_fnd T q m := fun z => if_neg z
      by_cases g1 : (T m).1 = q.1
      · rw [if_neg (fun z => z g1)]
        by_cases g2 : (T m).2.1 = q.2.1
        · rw [if_neg (fun z => z g2)]
          by_cases g3 : (T m).2.2 = q.2.2
          · rw [if_neg (fun z => z g3), hf1, if_pos (Prod.ext g1 (Prod.ext g2 g3)), if_pos (nI_ne_m1 (by omega))]
          · rw [if_pos g3, hf2 (fun z => g3 (by rw [z]))]; exact hih
        · rw [if_pos g2, hf2 (fun z => g2 (by rw [z]))]; exact hih
      · rw [if_pos g1, hf2 (fun z => g1 (by rw [z]))]; exact hih
    · have hl : lk (fun i => c4 (T i).1 (T i).2.1 (T i).2.2 0) (c4 q.1 q.2.1 q.2.2 0) (m + 1) = lk (fun i => c4 (T i).1 (T i).2.1 (T i).2.2 0) (c4 q.1 q.2.1 q.2.2 0) m := if_neg hb
      have hf1 : ty_fnd T q (m + 1) = ty_fnd T q m := if_neg (fun z => hb (by rw [z]))
      rw [hl, hf1]
      exact ih f (by omega) (by omega)
/-- one type more -/
def tn_P (P : hp_P) (n c : Nat) (q : Int32 × Int32 × Int32) (s h : Nat) : hp_P :=
  hp_sI (hp_sA (hp_sA (hp_sA (hp_sA (hp_sA (hp_sA (hp_sA P 905 (nI n) q.1) 906 (nI n) q.2.1) 907 (nI n) q.2.2) 908 (nI n) (nI s)) 909 (nI n) (nI h)) 910 (nI n) ((P.2 911).2 c)) 911 (nI c) (nI n)) 904 (nI (n + 1))
def tn_S : Nat → Bool := fun r => decide (904 ≤ r ∧ r ≤ 911)
theorem tn_fr {c s h : Nat} {q : Int32 × Int32 × Int32} : mfr tn_S P (tn_P P n c q s h) :=
  (((((((mfr.sA rfl).tr (mfr.sA rfl)).tr (mfr.sA rfl)).tr (mfr.sA rfl)).tr (mfr.sA rfl)).tr (mfr.sA rfl)).tr (mfr.sA rfl)).tr (mfr.sI rfl)
theorem tn_rows {c s h : Nat} {q : Int32 × Int32 × Int32} (hn : n < 2 ^ 31) (hc : c < 4096) : ((tn_P P n c q s h).2 905).2 = upd (P.2 905).2 n q.1 ∧ ((tn_P P n c q s h).2 906).2 = upd (P.2 906).2 n q.2.1 ∧ ((tn_P P n c q s h).2 907).2 = upd (P.2 907).2 n q.2.2 ∧ ((tn_P P n c q s h).2 908).2 = upd (P.2 908).2 n (nI s) ∧ ((tn_P P n c q s h).2 909).2 = upd (P.2 909).2 n (nI h) ∧ ((tn_P P n c q s h).2 910).2 = upd (P.2 910).2 n ((P.2 911).2 c) ∧ ((tn_P P n c q s h).2 911).2 = upd (P.2 911).2 c (nI n) := by
  unfold tn_P
  simp only [hI_A]
  refine ⟨?_, ?_, ?_, ?_, ?_, ?_, ?_⟩
  all_goals (simp only [hp_sA, nI_clamp hn, nI_clamp (show c < 2 ^ 31 by omega)]; rfl)
theorem tn_row {c s h : Nat} {q : Int32 × Int32 × Int32} (hc : c < 4096) (hn : n < 2 ^ 31) {r j : Nat} (h1 : 905 ≤ r) (h2 : r ≤ 910) (hj : j ≠ n) : ((tn_P P n c q s h).2 r).2 j = (P.2 r).2 j := by
  obtain ⟨a5, a6, a7, a8, a9, a10, -⟩ := tn_rows (P := P) (c := c) (s := s) (h := h) (q := q) hn hc
  have e : r = 905 ∨ r = 906 ∨ r = 907 ∨ r = 908 ∨ r = 909 ∨ r = 910 := by omega
  rcases e with rfl | rfl | rfl | rfl | rfl | rfl
  · rw [a5, pk_un hj]
  · rw [a6, pk_un hj]
  · rw [a7, pk_un hj]
  · rw [a8, pk_un hj]
  · rw [a9, pk_un hj]
  · rw [a10, pk_un hj]
theorem tn_ok {c : Nat} {q : Int32 × Int32 × Int32} (h : tyN P n T) (h1 : ty_in n q.2.1) (h2 : ty_in n q.2.2) (hlim : ty_lim T n q) (hc : c < 4096) (ec : c4 q.1 q.2.1 q.2.2 0 = nI c) (hd : ty_di (ty_add T n q) (n + 1)) : tyN (tn_P P n c q (1 + ty_sz T n q.2.1 + ty_sz T n q.2.2) (1 + max (ty_ht T n q.2.1) (ty_ht T n q.2.2))) (n + 1) (ty_add T n q) := by
  have hn := h.n31
  have hw := h.2.2.2.1
  obtain ⟨e5, e6, e7, e8, e9, e10, e11⟩ := tn_rows (P := P) (q := q) (s := 1 + ty_sz T n q.2.1 + ty_sz T n q.2.2) (h := 1 + max (ty_ht T n q.2.1) (ty_ht T n q.2.2)) hn hc
  have fl := (tn_fr (P := P) (n := n) (c := c) (q := q) (s := 1 + ty_sz T n q.2.1 + ty_sz T n q.2.2) (h := 1 + max (ty_ht T n q.2.1) (ty_ht T n q.2.2))).2
  refine ⟨⟨hI_eq, hlim.2.2⟩, ⟨fun r a b => by rw [fl r]; exact h.2.1.1 r a b, by rw [fl 912]; exact h.2.1.2.1, by rw [fl 911]; exact h.2.1.2.2⟩, fun j hj => ?_, ty_wf_add hw h1 h2, hd, ?_⟩
  · rw [e5, e6, e7, e8, e9]
    by_cases z : j = n
    · rw [z, pk_us, pk_us, pk_us, pk_us, pk_us, ty_add_eq]
      have s : ty_sz (ty_add T n q) (n + 1) (nI n) = 1 + ty_sz T n q.2.1 + ty_sz T n q.2.2 := ty_fold_new hw hn h1 h2
      have t : ty_ht (ty_add T n q) (n + 1) (nI n) = 1 + max (ty_ht T n q.2.1) (ty_ht T n q.2.2) := ty_fold_new hw hn h1 h2
      rw [s, t]
      exact ⟨rfl, rfl, rfl, rfl, rfl, hlim.1, hlim.2.1⟩
    · have hj' : j < n := by omega
      rw [pk_un z, pk_un z, pk_un z, pk_un z, pk_un z, ty_add_lt hj']
      have s : ty_sz (ty_add T n q) (n + 1) (nI j) = ty_sz T n (nI j) := ty_fold_old hw hn (Or.inr ⟨j, hj', rfl⟩)
      have t : ty_ht (ty_add T n q) (n + 1) (nI j) = ty_ht T n (nI j) := ty_fold_old hw hn (Or.inr ⟨j, hj', rfl⟩)
      rw [s, t]
      exact h.2.2.1 j hj'
  · rw [e10, e11]
    exact h.2.2.2.2.2.add hc (by rw [ty_add_eq]; exact ec) fun i hi => by rw [ty_add_lt hi]
/-- what typeOf comes to -/
def tmo (b : Bool) (n : Nat) (T : Nat → Int32 × Int32 × Int32) (v : Int32) (b' : Bool) (n' : Nat) (T' : Nat → Int32 × Int32 × Int32) (q : qT) : Prop :=
  (b' = b ∧ pl n' T' v q ∧ ∀ t, ct_S T' n' t → ct_S T n t ∨ t = q) ∨ (b' = true ∧ v = 0 ∧ n' = n ∧ T' = T ∧ (b = true ∨ ∀ G : qT → Prop, (∀ t, ct_S T n t → G t) → G q → ¬ q_good G))
/-- the roles that types change -/
def tx_S : Nat → Bool := fun r => tn_S r || decide (r = 945)
theorem tx_tn {P' : hp_P} (h : mfr tn_S P P') : mfr tx_S P P' := h.up fun r k => (Bool.or_eq_false_iff.mp k).1
set_option maxHeartbeats 2000000 in
/-- typeOf -/
theorem mt_typeOf2 {f d : Nat} {q : Int32 × Int32 × Int32} (w : hp_w B ρ) (h : tyN P n T) (hb : P.1 945 = bI b) (h1 : ty_in n q.2.1) (h2 : ty_in n q.2.2) (hf : 10000 ≤ f) :
    ∃ P' v n' T' b', (am_call B sa am_dfl am_tb f (d + 2) 126 [.ref (ρ.1 9), .int q.1, .int q.2.1, .int q.2.2] (hp_S sa ρ P) = some (some (.int v), hp_S sa ρ P') ∧ n' ≤ n + 1 ∧ ∀ r j, 905 ≤ r → r ≤ 910 → j ≠ n → (P'.2 r).2 j = (P.2 r).2 j) ∧ tyN P' n' T' ∧ P'.1 945 = bI b' ∧ mfr tx_S P P' ∧ ty_xt n T n' T' ∧ tmo b n T v b' n' T' (qN q.1 (ct T n q.2.1) (ct T n q.2.2)) := by
  have hw := h.2.2.2.1
  have hd := h.2.2.2.2.1
  have n8 := h.1.2
  have n31 := h.n31
  obtain ⟨c, hc, ec⟩ := c4_in q.1 q.2.1 q.2.2 0
  have r11 : hp_rd P 911 (c4 q.1 q.2.1 q.2.2 0) = some ((P.2 911).2 c) := by rw [ec, hp_rd_nI (by rw [h.2.1.2.2]; exact hc) (by omega)]
  have e11 : (P.2 911).2 c = lk (fun i => c4 (T i).1 (T i).2.1 (T i).2.2 0) (c4 q.1 q.2.1 q.2.2 0) n := by rw [h.2.2.2.2.2.1 c hc, ec]
  obtain ⟨f, rfl⟩ : ∃ g, f = g + 1 := ⟨f - 1, by omega⟩
  rw [am_c_126, am_s126_0]
  simp only [m_chain, am_i_some, hr_911 w, hl_911 w, r11, Option.bind_some]
  rw [e11]
  obtain ⟨mo1, mo2, mo3⟩ := ty_mk_mo hw hd n8 h1 h2 (q := q)
  have e12 : ¬ (q.2.1 = -2 ∨ q.2.2 = -2) := fun z => z.elim (ty_in_m2 h1 n31) (ty_in_m2 h2 n31)
  -- sizes and heights read
  have rd8 : ∀ {x : Int32}, ty_in n x → x ≠ -1 → hp_rd P 908 x = some (nI (ty_sz T n x)) ∧ hp_rd P 909 x = some (nI (ty_ht T n x)) ∧ ty_sz T n x ≤ 200 ∧ ty_ht T n x ≤ 24 := fun {x} hx hne => by
    obtain ⟨j, hj, rfl⟩ := hx.resolve_left hne
    obtain ⟨-, -, -, a8, a9, a10, a11⟩ := h.2.2.1 j hj
    exact ⟨by rw [hp_rd_nI (by rw [h.2.1.1 908 (by decide) (by decide)]; omega) (by omega), a8], by rw [hp_rd_nI (by rw [h.2.1.1 909 (by decide) (by decide)]; omega) (by omega), a9], a10, a11⟩
  have le8 : ∀ {x : Int32}, ty_in n x → ty_sz T n x ≤ 200 ∧ ty_ht T n x ≤ 24 := fun {x} hx => by
    by_cases e : x = -1
    · rw [e, ty_sz_m1, ty_ht_m1]; omega
    · exact (rd8 hx e).2.2
  have l1 := le8 h1
  have l2 := le8 h2
  -- the end, where the type isn't there
  have fin : ∀ g, 5 ≤ g → am_go B sa am_dfl (am_call B sa am_dfl am_tb (f + 1) (d + 1)) am_r126 g 156 [(0, .ref (ρ.1 9)), (1, .int q.1), (2, .int q.2.1), (3, .int q.2.2), (4, .int (nI c)), (5, .int (nI (1 + ty_sz T n q.2.1 + ty_sz T n q.2.2)))] [.int (nI (max (ty_ht T n q.2.1) (ty_ht T n q.2.2))), .int 1] (hp_S sa ρ P) = @ite _ (ty_lim T n q) (Classical.propDecidable _) (if b = true then some (some (.int 0), hp_S sa ρ P) else some (some (.int (nI n)), hp_S sa ρ (tn_P P n c q (1 + ty_sz T n q.2.1 + ty_sz T n q.2.2) (1 + max (ty_ht T n q.2.1) (ty_ht T n q.2.2))))) (some (some (.int 0), hp_S sa ρ (hp_sI P 945 1))) := by
    intro g hg
    obtain ⟨g, rfl⟩ : ∃ k, g = k + 2 := ⟨g - 2, by omega⟩
    have no : am_go B sa am_dfl (am_call B sa am_dfl am_tb (f + 1) (d + 1)) am_r126 (g + 1) 190 [(0, .ref (ρ.1 9)), (1, .int q.1), (2, .int q.2.1), (3, .int q.2.2), (4, .int (nI c)), (5, .int (nI (1 + ty_sz T n q.2.1 + ty_sz T n q.2.2))), (8, .int (nI (1 + max (ty_ht T n q.2.1) (ty_ht T n q.2.2))))] [.int 0, .ref (ρ.1 9)] (hp_S sa ρ P) = some (some (.int 0), hp_S sa ρ (hp_sI P 945 1)) := by
      rw [am_s126_190]
      simp only [hx_9 w, Option.bind_some, m_need0 w hb, am_i_some, am_c_ne]
      rw [if_neg (fun z => z rfl)]
    rw [am_s126_156]
    simp only [am_c_gt, am_c_ge, hg_904 w, h.1.1, Option.bind_some]
    rw [show (1 : Int32) + nI (max (ty_ht T n q.2.1) (ty_ht T n q.2.2)) = nI (1 + max (ty_ht T n q.2.1) (ty_ht T n q.2.2)) from nI_add 1 _, show (200 : Int32) = nI 200 from rfl, show (24 : Int32) = nI 24 from rfl, show (8000 : Int32) = nI 8000 from rfl]
    by_cases c1 : 1 + ty_sz T n q.2.1 + ty_sz T n q.2.2 ≤ 200
    · rw [if_neg (nI_nlt c1 (by omega))]
      by_cases c2 : 1 + max (ty_ht T n q.2.1) (ty_ht T n q.2.2) ≤ 24
      · rw [if_neg (nI_nlt c2 (by omega))]
        by_cases c3 : n + 1 ≤ 8000
        · rw [if_neg (nI_ge (show n < 8000 by omega) (by omega)), if_pos (show ty_lim T n q from ⟨c1, c2, c3⟩), am_s126_190]
          simp only [hx_9 w, Option.bind_some, m_need1 w hb (show (1 : Int32) ≠ 0 by decide), am_i_some, am_c_ne]
          cases b with
          | true =>
            rw [if_neg (fun z => z rfl), if_pos rfl]
          | false =>
            rw [if_pos (by decide), if_neg (by decide)]
            have ck : ∀ (Q : hp_P) r, (Q.2 r).1 = 9000 → hp_ck Q r (nI n) = some () := fun Q r e => hp_ck_nI (by rw [e]; omega) n31
            have ln := h.2.1.1
            have k5 : hp_ck P 905 (nI n) = some () := ck _ _ (ln 905 (by decide) (by decide))
            have k6 : ∀ v, hp_ck (hp_sA P 905 (nI n) v) 906 (nI n) = some () := fun v => ck _ _ (by rw [hA_len]; exact ln 906 (by decide) (by decide))
            have k7 : ∀ v u, hp_ck (hp_sA (hp_sA P 905 (nI n) v) 906 (nI n) u) 907 (nI n) = some () := fun v u => ck _ _ (by rw [hA_len, hA_len]; exact ln 907 (by decide) (by decide))
            have k8 : ∀ v u x, hp_ck (hp_sA (hp_sA (hp_sA P 905 (nI n) v) 906 (nI n) u) 907 (nI n) x) 908 (nI n) = some () := fun v u x => ck _ _ (by rw [hA_len, hA_len, hA_len]; exact ln 908 (by decide) (by decide))
            have k9 : ∀ v u x y, hp_ck (hp_sA (hp_sA (hp_sA (hp_sA P 905 (nI n) v) 906 (nI n) u) 907 (nI n) x) 908 (nI n) y) 909 (nI n) = some () := fun v u x y => ck _ _ (by rw [hA_len, hA_len, hA_len, hA_len]; exact ln 909 (by decide) (by decide))
            have k10 : ∀ v u x y z, hp_ck (hp_sA (hp_sA (hp_sA (hp_sA (hp_sA P 905 (nI n) v) 906 (nI n) u) 907 (nI n) x) 908 (nI n) y) 909 (nI n) z) 910 (nI n) = some () := fun v u x y z => ck _ _ (by rw [hA_len, hA_len, hA_len, hA_len, hA_len]; exact ln 910 (by decide) (by decide))
            have q11 : ∀ v u x y z, hp_rd (hp_sA (hp_sA (hp_sA (hp_sA (hp_sA P 905 (nI n) v) 906 (nI n) u) 907 (nI n) x) 908 (nI n) y) 909 (nI n) z) 911 (nI c) = some ((P.2 911).2 c) := fun v u x y z => by
              rw [hp_rd_nI (by rw [hA_len, hA_len, hA_len, hA_len, hA_len, h.2.1.2.2]; exact hc) (by omega), hA_ne (by decide), hA_ne (by decide), hA_ne (by decide), hA_ne (by decide), hA_ne (by decide)]
            have k11 : ∀ v u x y z t, hp_ck (hp_sA (hp_sA (hp_sA (hp_sA (hp_sA (hp_sA P 905 (nI n) v) 906 (nI n) u) 907 (nI n) x) 908 (nI n) y) 909 (nI n) z) 910 (nI n) t) 911 (nI c) = some () := fun v u x y z t => hp_ck_nI (by rw [hA_len, hA_len, hA_len, hA_len, hA_len, hA_len, h.2.1.2.2]; exact hc) (by omega)
            simp only [hr_905 w, hg_904 w, h.1.1, ht_905 w, k5, Option.bind_some, hA_I, hr_906 w, ht_906 w, k6, hr_907 w, ht_907 w, k7, hr_908 w, ht_908 w, k8, hr_909 w, ht_909 w, k9, hr_910 w, hr_911 w, hl_911 w, q11, ht_910 w, k10, ht_911 w, k11, hs_904 w, hI_eq, nI_1, nI_pred]
            rfl
        · rw [if_pos (nI_le (show 8000 ≤ n by omega) n31), no, if_neg (show ¬ ty_lim T n q from fun z => c3 z.2.2)]
      · rw [if_pos (nI_lt (by omega) (by omega)), no, if_neg (show ¬ ty_lim T n q from fun z => c2 z.2.1)]
    · rw [if_pos (nI_lt (by omega) (by omega)), no, if_neg (show ¬ ty_lim T n q from fun z => c1 z.1)]
  -- the heights
  have mid : ∀ g, 6 ≤ g → am_go B sa am_dfl (am_call B sa am_dfl am_tb (f + 1) (d + 1)) am_r126 g 104 [(0, .ref (ρ.1 9)), (1, .int q.1), (2, .int q.2.1), (3, .int q.2.2), (4, .int (nI c))] [.int (nI (ty_sz T n q.2.2)), .int (nI (1 + ty_sz T n q.2.1))] (hp_S sa ρ P) = am_go B sa am_dfl (am_call B sa am_dfl am_tb (f + 1) (d + 1)) am_r126 (g - 1) 156 [(0, .ref (ρ.1 9)), (1, .int q.1), (2, .int q.2.1), (3, .int q.2.2), (4, .int (nI c)), (5, .int (nI (1 + ty_sz T n q.2.1 + ty_sz T n q.2.2)))] [.int (nI (max (ty_ht T n q.2.1) (ty_ht T n q.2.2))), .int 1] (hp_S sa ρ P) := by
    intro g hg
    obtain ⟨g, rfl⟩ : ∃ k, g = k + 1 := ⟨g - 1, by omega⟩
    have mx : ∀ {a e : Nat}, a ≤ 200 → e ≤ 200 → ∀ {γ : Type} (F : Int32 → γ), (if nI a ≤ nI e then F (nI e) else F (nI a)) = F (nI (max a e)) := fun {a e} ha he {γ} F => by
      by_cases z : a ≤ e
      · rw [if_pos (nI_le z (by omega)), Nat.max_eq_right z]
      · rw [if_neg (nI_ge (by omega) (by omega)), Nat.max_eq_left (by omega)]
    rw [am_s126_104, Nat.add_sub_cancel]
    simp only [am_c_ne, am_c_le, nI_add]
    by_cases e1 : q.2.1 = -1
    · rw [if_neg (fun z => z e1)]
      have t1 : ty_ht T n q.2.1 = 0 := by rw [e1, ty_ht_m1]
      by_cases e2 : q.2.2 = -1
      · rw [if_neg (fun z => z e2)]
        have t2 : ty_ht T n q.2.2 = 0 := by rw [e2, ty_ht_m1]
        rw [t1, t2, if_pos (Int32.le_refl 0)]
        rfl
      · rw [if_pos e2]
        obtain ⟨-, r9, -, -⟩ := rd8 h2 e2
        simp only [hr_909 w, hl_909 w, r9, Option.bind_some]
        rw [if_pos (nI_pos' (by omega)), t1, Nat.max_eq_right (Nat.zero_le _)]
    · rw [if_pos e1]
      obtain ⟨-, r9, -, -⟩ := rd8 h1 e1
      simp only [hr_909 w, hl_909 w, r9, Option.bind_some]
      by_cases e2 : q.2.2 = -1
      · rw [if_neg (fun z => z e2)]
        have t2 : ty_ht T n q.2.2 = 0 := by rw [e2, ty_ht_m1]
        have := mx (a := ty_ht T n q.2.1) (e := 0) (by omega) (by omega) (fun x => am_go B sa am_dfl (am_call B sa am_dfl am_tb (f + 1) (d + 1)) am_r126 g 156 [(0, .ref (ρ.1 9)), (1, .int q.1), (2, .int q.2.1), (3, .int q.2.2), (4, .int (nI c)), (5, .int (nI (1 + ty_sz T n q.2.1 + ty_sz T n q.2.2)))] [.int x, .int 1] (hp_S sa ρ P))
        rw [t2]
        exact this
      · rw [if_pos e2]
        obtain ⟨-, r9', -, -⟩ := rd8 h2 e2
        simp only [hr_909 w, hl_909 w, r9', Option.bind_some]
        exact mx (by omega) (by omega) (fun x => am_go B sa am_dfl (am_call B sa am_dfl am_tb (f + 1) (d + 1)) am_r126 g 156 [(0, .ref (ρ.1 9)), (1, .int q.1), (2, .int q.2.1), (3, .int q.2.2), (4, .int (nI c)), (5, .int (nI (1 + ty_sz T n q.2.1 + ty_sz T n q.2.2)))] [.int x, .int 1] (hp_S sa ρ P))
  have hR : ∀ g, 10 ≤ g → am_go B sa am_dfl (am_call B sa am_dfl am_tb (f + 1) (d + 1)) am_r126 g 18 [(0, .ref (ρ.1 9)), (1, .int q.1), (2, .int q.2.1), (3, .int q.2.2), (4, .int (c4 q.1 q.2.1 q.2.2 0)), (5, .int (-1))] [] (hp_S sa ρ P) = @ite _ (ty_lim T n q) (Classical.propDecidable _) (if b = true then some (some (.int 0), hp_S sa ρ P) else some (some (.int (nI n)), hp_S sa ρ (tn_P P n c q (1 + ty_sz T n q.2.1 + ty_sz T n q.2.2) (1 + max (ty_ht T n q.2.1) (ty_ht T n q.2.2))))) (some (some (.int 0), hp_S sa ρ (hp_sI P 945 1))) := by
    intro g hg
    obtain ⟨g, rfl⟩ : ∃ k, g = k + 1 := ⟨g - 1, by omega⟩
    rw [am_s126_18, ← fin (g - 1) (by omega), ← mid g (by omega), ec]
    simp only [am_c_eq, if_true, am_c_ne]
    by_cases e1 : q.2.1 = -1
    · rw [if_neg (fun z => z e1)]
      have t1 : ty_sz T n q.2.1 = 0 := by rw [e1, ty_sz_m1]
      by_cases e2 : q.2.2 = -1
      · rw [if_neg (fun z => z e2)]
        have t2 : ty_sz T n q.2.2 = 0 := by rw [e2, ty_sz_m1]
        rw [t1, t2]
        rfl
      · rw [if_pos e2]
        obtain ⟨r8, -, -, -⟩ := rd8 h2 e2
        simp only [hr_908 w, hl_908 w, r8, Option.bind_some]
        rw [t1]
        rfl
    · rw [if_pos e1]
      obtain ⟨r8, -, -, -⟩ := rd8 h1 e1
      simp only [hr_908 w, hl_908 w, r8, Option.bind_some]
      rw [show (1 : Int32) + nI (ty_sz T n q.2.1) = nI (1 + ty_sz T n q.2.1) from nI_add 1 _]
      by_cases e2 : q.2.2 = -1
      · rw [if_neg (fun z => z e2)]
        have t2 : ty_sz T n q.2.2 = 0 := by rw [e2, ty_sz_m1]
        rw [t2]
        rfl
      · rw [if_pos e2]
        obtain ⟨r8', -, -, -⟩ := rd8 h2 e2
        simp only [hr_908 w, hl_908 w, r8', Option.bind_some]
  rw [mt_find w h hR n f (Nat.le_refl _) (by omega)]
  by_cases e3 : ty_fnd T q n ≠ -1
  · rw [if_pos e3]
    have hm : ty_mk T n q = (ty_fnd T q n, n, T) := by unfold ty_mk; rw [if_neg e12, if_pos e3]
    rw [hm] at mo1
    refine ⟨P, _, n, T, b, ⟨rfl, Nat.le_succ n, fun _ _ _ _ _ => rfl⟩, h, hb, mfr.rf, ty_xt.rf, Or.inl ⟨rfl, ?_⟩⟩
    rcases mo1 with z | ⟨z, -⟩
    · exact z
    · exact absurd z (ty_fnd_ne e3 n31)
  · rw [if_neg e3]
    by_cases e4 : ty_lim T n q
    · rw [if_pos e4]
      have hm : ty_mk T n q = (nI n, n + 1, ty_add T n q) := by unfold ty_mk; rw [if_neg e12, if_neg e3, if_pos e4]
      rw [hm] at mo1 mo2 mo3
      cases b with
      | true => exact ⟨P, 0, n, T, true, ⟨rfl, Nat.le_succ n, fun _ _ _ _ _ => rfl⟩, h, hb, mfr.rf, ty_xt.rf, Or.inr ⟨rfl, rfl, rfl, rfl, Or.inl rfl⟩⟩
      | false =>
        refine ⟨_, nI n, n + 1, _, false, ⟨rfl, Nat.le_refl _, fun r j x y z => tn_row hc n31 x y z⟩, tn_ok h h1 h2 e4 hc ec mo2, ?_, tx_tn tn_fr, mo3, Or.inl ⟨rfl, ?_⟩⟩
        · rw [(tn_fr.1 945 rfl).1]; exact hb
        · rcases mo1 with z | ⟨z, -⟩
          · exact z
          · exact absurd z (nI_ne_m2 n31)
    · rw [if_neg e4]
      have hm : ty_mk T n q = (-2, n, T) := by unfold ty_mk; rw [if_neg e12, if_neg e3, if_neg e4]
      rw [hm] at mo1
      refine ⟨_, 0, n, T, true, ⟨rfl, Nat.le_succ n, fun _ _ _ _ _ => rfl⟩, h.cg (hI_ne (by decide)) (fun _ _ _ => rfl), hI_eq, mfr.sI (by decide), ty_xt.rf, Or.inr ⟨rfl, rfl, rfl, rfl, Or.inr ?_⟩⟩
      rcases mo1 with ⟨⟨a, a1, a2, -⟩, -⟩ | ⟨-, -, -, z⟩
      · exact absurd a2.symm (nI_ne_m2 (by have : a < n := a1; omega))
      · exact z
theorem mt_typeOf {f d : Nat} {q : Int32 × Int32 × Int32} (w : hp_w B ρ) (h : tyN P n T) (hb : P.1 945 = bI b) (h1 : ty_in n q.2.1) (h2 : ty_in n q.2.2) (hf : 10000 ≤ f) :
    ∃ P' v n' T' b', am_call B sa am_dfl am_tb f (d + 2) 126 [.ref (ρ.1 9), .int q.1, .int q.2.1, .int q.2.2] (hp_S sa ρ P) = some (some (.int v), hp_S sa ρ P') ∧ tyN P' n' T' ∧ P'.1 945 = bI b' ∧ mfr tx_S P P' ∧ ty_xt n T n' T' ∧ tmo b n T v b' n' T' (qN q.1 (ct T n q.2.1) (ct T n q.2.2)) := by
  obtain ⟨P', v, n', T', b', ⟨e1, -⟩, e2⟩ := mt_typeOf2 (sa := sa) (f := f) (d := d) w h hb h1 h2 hf
  exact ⟨P', v, n', T', b', e1, e2⟩
end MO1
