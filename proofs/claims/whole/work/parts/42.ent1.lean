/-! ENTRIES of the class, 1: how they are held; what is asked of them; addType, addTerm -/
def m_c : qM → Int32
  | .leaf => 0
  | .inner c _ _ _ _ => Int32.ofNat c
def m_l : qM → qM
  | .leaf => .leaf
  | .inner _ _ _ l _ => l
def m_r : qM → qM
  | .leaf => .leaf
  | .inner _ _ _ _ r => r
/-- how many abstractions outside of it a term needs -/
def m_lo : qM → Nat
  | .leaf => 0
  | .inner c _ _ l r => if Int32.ofNat c = -1 then max (m_lo l) (m_lo r) else if Int32.ofNat c = -2 then m_lo l - 1 else if c % 4 = 0 then c / 4 + 1 else 0
theorem m_c_N {c : Int32} {t : qT} {l r : qM} : m_c (mN c t l r) = c := q_code c
theorem m_l_N {c : Int32} {t : qT} {l r : qM} : m_l (mN c t l r) = l := rfl
theorem m_r_N {c : Int32} {t : qT} {l r : qM} : m_r (mN c t l r) = r := rfl
theorem m_lo_N {c : Int32} {t : qT} {l r : qM} : m_lo (mN c t l r) = if c = -1 then max (m_lo l) (m_lo r) else if c = -2 then m_lo l - 1 else if c.toBitVec.toNat % 4 = 0 then c.toBitVec.toNat / 4 + 1 else 0 := by
  unfold mN
  show (if Int32.ofNat _ = -1 then _ else _) = _
  rw [q_code]
theorem m_lo_le {M : qM} (h : m_wf M) : m_lo M ≤ 2 ^ 30 := by
  refine m_wf_cases (C := fun M => m_lo M ≤ 2 ^ 30) ?_ ?_ ?_ M h
  · intro t l r _ _ _ h1 h2
    rw [m_lo_N, if_pos rfl]
    omega
  · intro a l _ h1
    rw [m_lo_N, if_neg (by decide), if_pos rfl]
    omega
  · intro c t hc
    rw [m_lo_N, if_neg (m_lf_ne hc).1, if_neg (m_lf_ne hc).2]
    have := c.toBitVec.isLt
    split
    · omega
    · omega
theorem m_eta {M : qM} (h : m_wf M) : M = mN (m_c M) (m_ty M) (m_l M) (m_r M) := by
  cases M with
  | leaf => exact h.elim
  | inner c t u l r => exact mN_eta h.1
/-- a part of the entry j: none, or an earlier one -/
def en_ch (em : List qM) (j : Nat) (v : Int32) (M : qM) : Prop := (v = -1 ∧ M = .leaf) ∨ ∃ k, k < j ∧ v = nI k ∧ em[k]? = some M
def en_row (P : hp_P) (n : Nat) (T : Nat → Int32 × Int32 × Int32) (em : List qM) (j : Nat) (M : qM) : Prop :=
  m_wf M ∧ (P.2 104).2 j = m_c M ∧ pl n T ((P.2 105).2 j) (m_ty M) ∧ en_ch em j ((P.2 106).2 j) (m_l M) ∧ en_ch em j ((P.2 107).2 j) (m_r M) ∧
  (P.2 108).2 j = nI (m_fl M).length ∧ (P.2 109).2 j = nI (m_ht M) ∧ (P.2 110).2 j = nI (m_lo M) ∧ (m_fl M).length ≤ 4000 ∧ m_ht M ≤ 120
/-- the entries: types, terms -/
def enI (P : hp_P) (n : Nat) (T : Nat → Int32 × Int32 × Int32) (et : List qT) (em : List qM) : Prop :=
  (P.1 103 = nI et.length ∧ et.length ≤ (P.2 102).1 ∧ 64 ≤ (P.2 102).1 ∧ (P.2 102).1 ≤ 16000 ∧ ∀ j t, et[j]? = some t → pl n T ((P.2 102).2 j) t) ∧
  (P.1 111 = nI em.length ∧ (∃ len, 64 ≤ len ∧ len ≤ 32000 ∧ em.length ≤ len ∧ ∀ r, 104 ≤ r → r ≤ 110 → (P.2 r).1 = len) ∧ ∀ j M, em[j]? = some M → en_row P n T em j M) ∧
  (P.2 112).1 = 122 ∧ (P.2 113).1 = 122
def en_S : Nat → Bool := fun r => decide (102 ≤ r ∧ r ≤ 113)
theorem en_S_t {r : Nat} (h : 102 ≤ r ∧ r ≤ 113) : en_S r = true := decide_eq_true h
/-- the entry of a number -/
def en_at {α : Type} (em : List α) (x : Int32) (M : α) : Prop := ∃ j, x = nI j ∧ j < 2 ^ 31 ∧ em[j]? = some M
theorem en_at_inj {α : Type} {em : List α} {x : Int32} {M M' : α} (h : en_at em x M) (h' : en_at em x M') : M = M' := by
  obtain ⟨j, h1, h2, h3⟩ := h
  obtain ⟨k, k1, k2, k3⟩ := h'
  have : j = k := (nI_eq h2 k2).mp (h1.symm.trans k1)
  rw [this, k3] at h3
  exact (Option.some.inj h3).symm
theorem en_at_R {α : Type} {em : List α} {x : Int32} (hl : em.length < 2 ^ 31) : inR x em.length ↔ ∃ M, en_at em x M := by
  constructor
  · intro ⟨j, h1, h2⟩
    exact ⟨em[j], j, h2, by omega, List.getElem?_eq_getElem h1⟩
  · intro ⟨M, j, h1, h2, h3⟩
    exact ⟨j, (List.getElem?_eq_some_iff.mp h3).1, h1⟩
section EN1
variable {sa : Nat → Nat} {B : Nat} {ρ : hp_L} {P : hp_P} {n : Nat} {T : Nat → Int32 × Int32 × Int32} {et : List qT} {em : List qM}
theorem en_ch.ap {j : Nat} {v : Int32} {M M' : qM} (h : en_ch em j v M) : en_ch (em ++ [M']) j v M := by
  rcases h with h | ⟨k, h1, h2, h3⟩
  · exact Or.inl h
  · exact Or.inr ⟨k, h1, h2, by rw [List.getElem?_append_left (List.getElem?_eq_some_iff.mp h3).1]; exact h3⟩
theorem enI.cg {P' : hp_P} (h : enI P n T et em) (h0 : P'.1 103 = P.1 103) (h1 : P'.1 111 = P.1 111) (h2 : ∀ r, 102 ≤ r → r ≤ 113 → P'.2 r = P.2 r) : enI P' n T et em := by
  unfold enI en_row
  rw [h0, h1, h2 102 (by decide) (by decide), h2 104 (by decide) (by decide), h2 105 (by decide) (by decide), h2 106 (by decide) (by decide), h2 107 (by decide) (by decide), h2 108 (by decide) (by decide), h2 109 (by decide) (by decide), h2 110 (by decide) (by decide), h2 112 (by decide) (by decide), h2 113 (by decide) (by decide)]
  refine ⟨h.1, ⟨h.2.1.1, ?_, h.2.1.2.2⟩, h.2.2⟩
  obtain ⟨len, a1, a2, a3, a4⟩ := h.2.1.2.1
  exact ⟨len, a1, a2, a3, fun r b1 b2 => by rw [h2 r (by omega) (by omega)]; exact a4 r b1 b2⟩
theorem enI.fr {S : Nat → Bool} {e : Nat} {ρ' : hp_L} {P' : hp_P} (h : enI P n T et em) (k : hp_fr S e ρ P ρ' P') (hS : ∀ r, 102 ≤ r → r ≤ 113 → S r = false) : enI P' n T et em :=
  h.cg (k.2.1 103 (hS 103 (by decide) (by decide))).1 (k.2.1 111 (hS 111 (by decide) (by decide))).1 fun r h1 h2 => (k.2.1 r (hS r h1 h2)).2.1
theorem enI.xt {n' : Nat} {T' : Nat → Int32 × Int32 × Int32} (h : enI P n T et em) (hw : ty_wf T n) (hn : n < 2 ^ 31) (x : ty_xt n T n' T') : enI P n' T' et em := by
  obtain ⟨⟨a1, a2, a3, a4, a5⟩, ⟨b1, b2, b3⟩, c⟩ := h
  refine ⟨⟨a1, a2, a3, a4, fun j t hj => (a5 j t hj).xt hw hn x⟩, ⟨b1, b2, fun j M hj => ?_⟩, c⟩
  obtain ⟨r1, r2, r3, r4⟩ := b3 j M hj
  exact ⟨r1, r2, r3.xt hw hn x, r4⟩
theorem enI.lt (h : enI P n T et em) : et.length ≤ 16000 ∧ em.length ≤ 32000 := by
  obtain ⟨⟨a1, a2, a3, a4, a5⟩, ⟨b1, ⟨len, l1, l2, l3, l4⟩, b3⟩, c⟩ := h
  exact ⟨by omega, by omega⟩
/-- what the rows tell of a term of an entry -/
theorem en_rd {x : Int32} {M : qM} (h : enI P n T et em) (hx : en_at em x M) :
    m_wf M ∧ hp_rd P 104 x = some (m_c M) ∧ (∃ v, hp_rd P 105 x = some v ∧ pl n T v (m_ty M)) ∧ (∃ l, hp_rd P 106 x = some l ∧ ((l = -1 ∧ m_l M = .leaf) ∨ en_at em l (m_l M))) ∧ (∃ r, hp_rd P 107 x = some r ∧ ((r = -1 ∧ m_r M = .leaf) ∨ en_at em r (m_r M))) ∧ hp_rd P 108 x = some (nI (m_fl M).length) ∧ hp_rd P 109 x = some (nI (m_ht M)) ∧ hp_rd P 110 x = some (nI (m_lo M)) ∧ (m_fl M).length ≤ 4000 ∧ m_ht M ≤ 120 := by
  obtain ⟨j, rfl, h31, hj⟩ := hx
  obtain ⟨-, ⟨b1, ⟨len, l1, l2, l3, l4⟩, b3⟩, -⟩ := h
  have hlt : j < em.length := (List.getElem?_eq_some_iff.mp hj).1
  obtain ⟨r0, r1, r2, r3, r4, r5, r6, r7, r8, r9⟩ := b3 j M hj
  have rd : ∀ r, 104 ≤ r → r ≤ 110 → hp_rd P r (nI j) = some ((P.2 r).2 j) := fun r z1 z2 => hp_rd_nI (by rw [l4 r z1 z2]; omega) h31
  have ch : ∀ {v : Int32} {N : qM}, en_ch em j v N → (v = -1 ∧ N = .leaf) ∨ en_at em v N := fun h => h.imp id fun ⟨k, k1, k2, k3⟩ => ⟨k, k2, by omega, k3⟩
  refine ⟨r0, by rw [rd 104 (by decide) (by decide), r1], ⟨_, rd 105 (by decide) (by decide), r2⟩, ⟨_, rd 106 (by decide) (by decide), ch r3⟩, ⟨_, rd 107 (by decide) (by decide), ch r4⟩, by rw [rd 108 (by decide) (by decide), r5], by rw [rd 109 (by decide) (by decide), r6], by rw [rd 110 (by decide) (by decide), r7], r8, r9⟩
theorem et_rd {x : Int32} {t : qT} (h : enI P n T et em) (hx : en_at et x t) : ∃ v, hp_rd P 102 x = some v ∧ pl n T v t := by
  obtain ⟨j, rfl, h31, hj⟩ := hx
  have hlt : j < et.length := (List.getElem?_eq_some_iff.mp hj).1
  exact ⟨_, hp_rd_nI (by have := h.1.2.1; omega) h31, h.1.2.2.2.2 j t hj⟩
/-- hasType -/
theorem en_hasType {f d : Nat} {x : Int32} (w : hp_w B ρ) (h : enI P n T et em) : am_call B sa am_dfl am_tb (f + 1) (d + 1) 31 [.ref (ρ.1 1), .int x] (hp_S sa ρ P) = some (some (.int (bP (∃ t, en_at et x t))), hp_S sa ρ P) := by
  rw [am_c_31, am_s31_0]
  simp only [hg_103 w, h.1.1, Option.bind_some, am_c_lt, am_c_ge]
  rw [← bP_c (en_at_R (x := x) (by have := h.lt.1; omega))]
  exact rng_ck (by have := h.lt.1; omega)
/-- hasTerm -/
theorem en_hasTerm {f d : Nat} {x : Int32} (w : hp_w B ρ) (h : enI P n T et em) : am_call B sa am_dfl am_tb (f + 1) (d + 1) 32 [.ref (ρ.1 1), .int x] (hp_S sa ρ P) = some (some (.int (bP (∃ M, en_at em x M))), hp_S sa ρ P) := by
  rw [am_c_32, am_s32_0]
  simp only [hg_111 w, h.2.1.1, Option.bind_some, am_c_lt, am_c_ge]
  rw [← bP_c (en_at_R (x := x) (by have := h.lt.2; omega))]
  exact rng_ck (by have := h.lt.2; omega)
/-- isClosed -/
theorem en_isClosed {f d : Nat} {x : Int32} (w : hp_w B ρ) (h : enI P n T et em) : am_call B sa am_dfl am_tb (f + 1) (d + 2) 33 [.ref (ρ.1 1), .int x] (hp_S sa ρ P) = some (some (.int (bP (∃ M, en_at em x M ∧ m_lo M = 0))), hp_S sa ρ P) := by
  rw [am_c_33, am_s33_0]
  simp only [hx_1 w, Option.bind_some, en_hasTerm w h, am_i_some, am_c_eq]
  by_cases e : ∃ M, en_at em x M
  · rw [if_neg (bP_y e)]
    obtain ⟨M, hM⟩ := e
    obtain ⟨q0, -, -, -, -, -, -, q7, -, -⟩ := en_rd h hM
    have hlo := m_lo_le q0
    simp only [hr_110 w, hl_110 w, q7, Option.bind_some, am_c_ne]
    by_cases e0 : m_lo M = 0
    · rw [e0, if_neg (fun z => z rfl), bP_t ⟨M, hM, e0⟩, am_rz_1]
    · rw [if_pos (nI_ne0 (by omega) (by omega)), bP_f (fun ⟨M', h1, h2⟩ => e0 (by rw [en_at_inj hM h1]; exact h2)), am_rz_0]
  · rw [if_pos (bP_n e), bP_f (fun ⟨M', h1, _⟩ => e ⟨M', h1⟩), am_rz_0]
/-- isFree -/
theorem en_isFree {f d : Nat} {x : Int32} (w : hp_w B ρ) (h : enI P n T et em) : am_call B sa am_dfl am_tb (f + 1) (d + 2) 34 [.ref (ρ.1 1), .int x] (hp_S sa ρ P) = some (some (.int (bP (∃ M, en_at em x M ∧ q_fr (m_c M)))), hp_S sa ρ P) := by
  rw [am_c_34, am_s34_0]
  simp only [hx_1 w, Option.bind_some, en_hasTerm w h, am_i_some, am_c_eq]
  by_cases e : ∃ M, en_at em x M
  · rw [if_neg (bP_y e)]
    obtain ⟨M, hM⟩ := e
    obtain ⟨q0, q1, -⟩ := en_rd h hM
    have key : bP (∃ M, en_at em x M ∧ q_fr (m_c M)) = bP (q_fr (m_c M)) := bP_c ⟨fun ⟨M', h1, h2⟩ => by rw [en_at_inj hM h1]; exact h2, fun z => ⟨M, hM, z⟩⟩
    simp only [hr_104 w, hl_104 w, q1, Option.bind_some, am_c_ne, am_c_lt]
    rw [key, if_neg (show ¬ (4 : Int32) = 0 by decide)]
    by_cases e1 : m_c M < 0
    · rw [if_pos e1, bP_f (fun z => Int32.not_lt.mpr z.1 e1), am_rz_0]
    · rw [if_neg e1]
      by_cases e2 : m_c M - m_c M / 4 * 4 = 1
      · rw [if_neg (fun z => z e2), bP_t ⟨Int32.not_lt.mp e1, e2⟩, am_rz_1]
      · rw [if_pos e2, bP_f (fun z => e2 z.2), am_rz_0]
  · rw [if_pos (bP_n e), bP_f (fun ⟨M', h1, _⟩ => e ⟨M', h1⟩), am_rz_0]
/-- isName -/
theorem is_name {f d : Nat} {x : Int32} {σ : am_S} : am_call B sa am_dfl am_tb (f + 1) (d + 1) 120 [.int x] σ = some (some (.int (bP (inR x 100000000))), σ) := by
  rw [am_c_120, am_s120_0]
  simp only [am_c_lt, am_c_gt]
  rw [← rng_ck (show 100000000 < 2 ^ 31 by decide)]
  have : ((99999999 : Int32) < x) = (nI 100000000 ≤ x) := by
    have e1 : (99999999 : Int32).toInt = 99999999 := by decide
    have e2 : (nI 100000000).toInt = 100000000 := by decide
    exact propext ⟨fun z => Int32.le_iff_toInt_le.mpr (by have := Int32.lt_iff_toInt_lt.mp z; omega), fun z => Int32.lt_iff_toInt_lt.mpr (by have := Int32.le_iff_toInt_le.mp z; omega)⟩
  simp only [this]
end EN1
