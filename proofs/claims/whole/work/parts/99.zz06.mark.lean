/-! THE REFERENCE, 43: mark -/
def im_S : Nat → Bool := fun r => decide (r = 912 ∨ r = 927)
/-- a mark -/
def wrm (P : hp_P) (r lo b : Nat) : hp_P := if b < lo then P else hp_sA P r (nI b) 0
/-- marks grow -/
def mkM (P P' : hp_P) : Prop := (∀ i, (P.2 927).2 i ≠ -1 → (P'.2 927).2 i ≠ -1) ∧ ∀ i, (P.2 912).2 i ≠ -1 → (P'.2 912).2 i ≠ -1
/-- what a marked node has marked -/
def mkC (K : kS) (nk nt i : Nat) (P : hp_P) : Prop :=
  (∀ b, (Nk K.1 i).2.2.2 = nI b → nt ≤ b → b < K.2.1 → (P.2 912).2 b ≠ -1) ∧
  ((Nk K.1 i).1 = 5 → ∀ b, (Nk K.1 i).2.1 = nI b → nt ≤ b → b < K.2.1 → (P.2 912).2 b ≠ -1) ∧
  ((Nk K.1 i).1 = 4 → ∀ b, (Nk K.1 i).2.1 = nI b → nk ≤ b → b < K.2.2.2.1.length → (P.2 927).2 b ≠ -1) ∧
  ((Nk K.1 i).1 = 4 ∨ (Nk K.1 i).1 = 5 → ∀ b, (Nk K.1 i).2.2.1 = nI b → nk ≤ b → b < K.2.2.2.1.length → (P.2 927).2 b ≠ -1)
def mkI (K : kS) (nk nt t : Nat) (M : qM) (k : Nat) (P : hp_P) : Prop :=
  (∀ i, nk ≤ i → i < K.2.2.2.1.length → (P.2 927).2 i = -1 ∨ (P.2 927).2 i = 0) ∧
  (∀ i, nt ≤ i → i < K.2.1 → (P.2 912).2 i = -1 ∨ (P.2 912).2 i = 0) ∧
  (∀ i X, nk ≤ i → K.2.2.2.1[i]? = some X → (P.2 927).2 i ≠ -1 → m_sub X M) ∧
  (∀ i, nt ≤ i → i < K.2.1 → (P.2 912).2 i ≠ -1 → q_of [M] (ct K.2.2.1 K.2.1 (nI i))) ∧
  (nk ≤ t → (P.2 927).2 t ≠ -1) ∧
  ∀ i, nk ≤ i → k ≤ i → i < K.2.2.2.1.length → (P.2 927).2 i ≠ -1 → mkC K nk nt i P
def mkT (K : kS) (nt k : Nat) (P : hp_P) : Prop := ∀ i, nt ≤ i → k ≤ i → i < K.2.1 → (P.2 912).2 i ≠ -1 → (∀ b, (K.2.2.1 i).2.1 = nI b → nt ≤ b → b < K.2.1 → (P.2 912).2 b ≠ -1) ∧ ∀ b, (K.2.2.1 i).2.2 = nI b → nt ≤ b → b < K.2.1 → (P.2 912).2 b ≠ -1
section MK
variable {Z : Prop} {G : qT → Prop} {L : List qM} {sa : Nat → Nat} {B : Nat} {ρ : hp_L} {K : kS} {P P' : hp_P} {nk nt t k : Nat} {M : qM}
theorem mkM.rf : mkM P P := ⟨fun _ h => h, fun _ h => h⟩
theorem mkM.tr {P2 : hp_P} (h : mkM P P') (g : mkM P' P2) : mkM P P2 := ⟨fun i z => g.1 i (h.1 i z), fun i z => g.2 i (h.2 i z)⟩
theorem mkC.up {i : Nat} (h : mkC K nk nt i P) (g : mkM P P') : mkC K nk nt i P' := ⟨fun b x y z => g.2 b (h.1 b x y z), fun w b x y z => g.2 b (h.2.1 w b x y z), fun w b x y z => g.1 b (h.2.2.1 w b x y z), fun w b x y z => g.1 b (h.2.2.2 w b x y z)⟩
theorem wrm_at {r lo b : Nat} (hb : b < 2 ^ 31) {i : Nat} : ((wrm P r lo b).2 r).2 i = if i = b ∧ lo ≤ b then 0 else (P.2 r).2 i := by
  unfold wrm
  by_cases h : b < lo
  · rw [if_pos h, if_neg (by omega)]
  · rw [if_neg h, hA_eq, nI_clamp hb]
    show upd (P.2 r).2 b 0 i = _
    by_cases e : i = b
    · rw [if_pos (by omega), e, pk_us]
    · rw [if_neg (by omega), pk_un e]
theorem wrm_ne {r lo b x : Nat} (h : x ≠ r) : (wrm P r lo b).2 x = P.2 x := by
  unfold wrm
  split
  · rfl
  · exact hA_ne h
theorem wrm_fr {r lo b : Nat} (h : im_S r = true) : mfr im_S P (wrm P r lo b) := by
  unfold wrm
  split
  · exact mfr.rf
  · exact mfr.sA h
theorem i0_ne : (0 : Int32) ≠ -1 := by decide
theorem wrm_M {r lo b : Nat} (hb : b < 2 ^ 31) (hr : r = 912 ∨ r = 927) : mkM P (wrm P r lo b) := by
  rcases hr with rfl | rfl
  · refine ⟨fun i h => by rw [wrm_ne (by decide)]; exact h, fun i h => ?_⟩
    rw [wrm_at hb]
    split
    · exact i0_ne
    · exact h
  · refine ⟨fun i h => ?_, fun i h => by rw [wrm_ne (by decide)]; exact h⟩
    rw [wrm_at hb]
    split
    · exact i0_ne
    · exact h
theorem mkI.N (h : mkI K nk nt t M k P) {b : Nat} (hb : b < 2 ^ 31) (hk : b < k) (hs : ∀ X, K.2.2.2.1[b]? = some X → m_sub X M) : mkI K nk nt t M k (wrm P 927 nk b) := by
  obtain ⟨h1, h2, h3, h4, h5, h6⟩ := h
  have mo := wrm_M (P := P) (lo := nk) hb (Or.inr rfl)
  have e2 : ((wrm P 927 nk b).2 912) = P.2 912 := wrm_ne (by decide)
  refine ⟨fun i a c => ?_, by rw [e2]; exact h2, fun i X a c e => ?_, by rw [e2]; exact h4, fun a => mo.1 t (h5 a), fun i a c e g => ?_⟩
  · rw [wrm_at hb]
    split
    · exact Or.inr rfl
    · exact h1 i a c
  · rw [wrm_at hb] at e
    split at e
    · rename_i z; rw [z.1] at c; exact hs X c
    · exact h3 i X a c e
  · rw [wrm_at hb, if_neg (by omega)] at g
    exact (h6 i a c e g).up mo
theorem mkI.T (h : mkI K nk nt t M k P) {b : Nat} (hb : b < 2 ^ 31) (hs : q_of [M] (ct K.2.2.1 K.2.1 (nI b))) : mkI K nk nt t M k (wrm P 912 nt b) := by
  obtain ⟨h1, h2, h3, h4, h5, h6⟩ := h
  have mo := wrm_M (P := P) (lo := nt) hb (Or.inl rfl)
  have e2 : ((wrm P 912 nt b).2 927) = P.2 927 := wrm_ne (by decide)
  refine ⟨by rw [e2]; exact h1, fun i a c => ?_, by rw [e2]; exact h3, fun i a c e => ?_, by rw [e2]; exact h5, fun i a c e g => ?_⟩
  · rw [wrm_at hb]
    split
    · exact Or.inr rfl
    · exact h2 i a c
  · rw [wrm_at hb] at e
    split at e
    · rename_i z; rw [z.1]; exact hs
    · exact h4 i a c e
  · rw [e2] at g
    exact (h6 i a c e g).up mo
theorem mkI.dn {i : Nat} (h : mkI K nk nt t M (i + 1) P) (c : (P.2 927).2 i ≠ -1 → mkC K nk nt i P) : mkI K nk nt t M i P := by
  obtain ⟨h1, h2, h3, h4, h5, h6⟩ := h
  refine ⟨h1, h2, h3, h4, h5, fun l a b e g => ?_⟩
  by_cases z : l = i
  · rw [z] at g ⊢; exact c g
  · exact h6 l a (by omega) e g
theorem hp_rd_c1 {P Q : hp_P} {r : Nat} {i : Int32} (h : P.2 r = Q.2 r) : hp_rd P r i = hp_rd Q r i := by
  unfold hp_rd
  rw [h]
theorem im_k {r : Nat} (h : mfr im_S P P') (h1 : r ≠ 912) (h2 : r ≠ 927) : P'.1 r = P.1 r ∧ P'.2 r = P.2 r := h.1 r (decide_eq_false (by omega))
/-- nodes filled -/
theorem mk_fill1 {cl : am_F} {len nk nt t : Nat} (w : hp_w B ρ) (hl : len ≤ 60000) (ht : t < 60000) : ∀ (m k f : Nat) (P : hp_P), len - k = m → k ≤ len → (P.2 927).1 = 60000 → m + 1 ≤ f →
    ∃ f' P', f ≤ f' + (m + 1) ∧ am_go B sa am_dfl cl am_r199 f 9 [(0, .ref (ρ.1 9)), (1, .int (nI t)), (2, .int (nI nk)), (3, .int (nI nt)), (4, .int (nI len)), (5, .int (nI k))] [] (hp_S sa ρ P) = am_go B sa am_dfl cl am_r199 f' 43 [(0, .ref (ρ.1 9)), (2, .int (nI nk)), (3, .int (nI nt)), (4, .int (nI len)), (5, .int (nI nt))] [] (hp_S sa ρ P') ∧ mfr im_S P P' ∧ P'.1 = P.1 ∧ P'.2 912 = P.2 912 ∧ ∀ i, (P'.2 927).2 i = if k ≤ i ∧ i < len then (if i = t then 0 else -1) else (P.2 927).2 i := by
  intro m
  induction m with
  | zero =>
    intro k f P hm hk h27 hf
    obtain ⟨f, rfl⟩ : ∃ g, f = g + 1 := ⟨f - 1, by omega⟩
    rw [am_s199_9]
    simp only [am_c_ge]
    rw [if_pos (nI_le (by omega) (by omega))]
    exact ⟨f, P, by omega, rfl, mfr.rf, rfl, rfl, fun i => by rw [if_neg (by omega)]⟩
  | succ m ih =>
    intro k f P hm hk h27 hf
    obtain ⟨f, rfl⟩ : ∃ g, f = g + 1 := ⟨f - 1, by omega⟩
    have ck : hp_ck P 927 (nI k) = some () := hp_ck_nI (by rw [h27]; omega) (by omega)
    rw [am_s199_9]
    simp only [am_c_ge, am_c_ne, hr_927 w, ht_927 w, ck, Option.bind_some, nI_1]
    rw [if_neg (nI_ge (by omega) (by omega))]
    have go : ∀ v, (v = if k = t then (0 : Int32) else -1) → ∃ f' P', f + 1 ≤ f' + (m + 1 + 1) ∧ am_go B sa am_dfl cl am_r199 f 9 [(0, .ref (ρ.1 9)), (1, .int (nI t)), (2, .int (nI nk)), (3, .int (nI nt)), (4, .int (nI len)), (5, .int (nI (k + 1)))] [] (hp_S sa ρ (hp_sA P 927 (nI k) v)) = am_go B sa am_dfl cl am_r199 f' 43 [(0, .ref (ρ.1 9)), (2, .int (nI nk)), (3, .int (nI nt)), (4, .int (nI len)), (5, .int (nI nt))] [] (hp_S sa ρ P') ∧ mfr im_S P P' ∧ P'.1 = P.1 ∧ P'.2 912 = P.2 912 ∧ ∀ i, (P'.2 927).2 i = if k ≤ i ∧ i < len then (if i = t then 0 else -1) else (P.2 927).2 i := by
      intro v hv
      obtain ⟨f', P', g1, g2, g3, g4, g5, g6⟩ := ih (k + 1) f (hp_sA P 927 (nI k) v) (by omega) (by omega) (by rw [hA_len]; exact h27) (by omega)
      refine ⟨f', P', by omega, g2, (mfr.sA rfl).tr g3, g4, g5.trans (hA_ne (by decide)), fun i => ?_⟩
      rw [g6, hA_eq, nI_clamp (by omega)]
      show (if k + 1 ≤ i ∧ i < len then _ else upd (P.2 927).2 k v i) = _
      by_cases e : i = k
      · rw [if_neg (by omega), if_pos (by omega), e, pk_us, hv]
      · rw [pk_un e]
        by_cases z : k ≤ i ∧ i < len
        · rw [if_pos (by omega), if_pos z]
        · rw [if_neg (by omega), if_neg z]
    by_cases e : k = t
    · rw [if_neg (fun z => z (by rw [e]))]
      exact go 0 (by rw [if_pos e])
    · rw [if_pos (fun z => e ((nI_eq (by omega) (by omega)).mp z))]
      exact go (-1) (by rw [if_neg e])
/-- types filled -/
theorem mk_fill2 {cl : am_F} {len nk nt n : Nat} (w : hp_w B ρ) (hn : n ≤ 8000) : ∀ (m k f : Nat) (P : hp_P), n - k = m → k ≤ n → P.1 904 = nI n → (P.2 912).1 = 9000 → m + 1 ≤ f →
    ∃ f' P', f ≤ f' + (m + 1) ∧ am_go B sa am_dfl cl am_r199 f 43 [(0, .ref (ρ.1 9)), (2, .int (nI nk)), (3, .int (nI nt)), (4, .int (nI len)), (5, .int (nI k))] [] (hp_S sa ρ P) = am_go B sa am_dfl cl am_r199 f' 72 [(0, .ref (ρ.1 9)), (2, .int (nI nk)), (3, .int (nI nt)), (5, .int (nI len - 1))] [] (hp_S sa ρ P') ∧ mfr im_S P P' ∧ P'.1 = P.1 ∧ P'.2 927 = P.2 927 ∧ ∀ i, (P'.2 912).2 i = if k ≤ i ∧ i < n then -1 else (P.2 912).2 i := by
  intro m
  induction m with
  | zero =>
    intro k f P hm hk h04 h12 hf
    obtain ⟨f, rfl⟩ : ∃ g, f = g + 1 := ⟨f - 1, by omega⟩
    rw [am_s199_43]
    simp only [am_c_ge, hg_904 w, h04, Option.bind_some]
    rw [if_pos (nI_le (by omega) (by omega))]
    exact ⟨f, P, by omega, rfl, mfr.rf, rfl, rfl, fun i => by rw [if_neg (by omega)]⟩
  | succ m ih =>
    intro k f P hm hk h04 h12 hf
    obtain ⟨f, rfl⟩ : ∃ g, f = g + 1 := ⟨f - 1, by omega⟩
    have ck : hp_ck P 912 (nI k) = some () := hp_ck_nI (by rw [h12]; omega) (by omega)
    rw [am_s199_43]
    simp only [am_c_ge, hg_904 w, h04, hr_912 w, ht_912 w, ck, Option.bind_some, nI_1]
    rw [if_neg (nI_ge (by omega) (by omega))]
    obtain ⟨f', P', g1, g2, g3, g4, g5, g6⟩ := ih (k + 1) f (hp_sA P 912 (nI k) (-1)) (by omega) (by omega) h04 (by rw [hA_len]; exact h12) (by omega)
    refine ⟨f', P', by omega, g2, (mfr.sA rfl).tr g3, g4, g5.trans (hA_ne (by decide)), fun i => ?_⟩
    rw [g6, hA_eq, nI_clamp (by omega)]
    show (if k + 1 ≤ i ∧ i < n then _ else upd (P.2 912).2 k (-1) i) = _
    by_cases e : i = k
    · rw [if_neg (by omega), if_pos (by omega), e, pk_us]
    · rw [pk_un e]
      by_cases z : k ≤ i ∧ i < n
      · rw [if_pos (by omega), if_pos z]
      · rw [if_neg (by omega), if_neg z]
theorem wrm_t {r lo b : Nat} (hb : b < 2 ^ 31) (hl : lo < 2 ^ 31) {α : Type} {x : α} {F : hp_P → α} (hx : x = F (hp_sA P r (nI b) 0)) : (if nI b < nI lo then F P else x) = F (wrm P r lo b) := by
  unfold wrm
  by_cases h : b < lo
  · rw [if_pos (nI_lt h hl), if_pos h]
  · rw [if_neg (nI_nlt (by omega) (by omega)), if_neg h, hx]
theorem wrm_self {r lo b : Nat} (hb : b < 2 ^ 31) (h : lo ≤ b) : ((wrm P r lo b).2 r).2 b ≠ -1 := by
  rw [wrm_at hb, if_pos ⟨rfl, h⟩]; exact i0_ne
set_option maxHeartbeats 4000000 in
/-- one node -/
theorem mk_step {cl : am_F} {i : Nat} {X : qM} (w : hp_w B ρ) (h : kI Z G L K) (hi : K.2.2.2.1[i]? = some X) (fr : mfr im_S K.1 P) (hm : mkI K nk nt t M (i + 1) P) (hk : nk ≤ i) (hnt : nt ≤ K.2.1) : ∀ f, 3 ≤ f →
    ∃ f' P', f ≤ f' + 3 ∧ am_go B sa am_dfl cl am_r199 f 72 [(0, .ref (ρ.1 9)), (2, .int (nI nk)), (3, .int (nI nt)), (5, .int (nI i))] [] (hp_S sa ρ P) = am_go B sa am_dfl cl am_r199 f' 72 [(0, .ref (ρ.1 9)), (2, .int (nI nk)), (3, .int (nI nt)), (5, .int (nI i - 1))] [] (hp_S sa ρ P') ∧ mfr im_S P P' ∧ mkI K nk nt t M i P' := by
  intro f hf
  obtain ⟨f, rfl⟩ : ∃ g, f = g + 3 := ⟨f - 3, by omega⟩
  have l6 := h.2.1.1.2
  have n8 := h.1.1.2
  have il := (List.getElem?_eq_some_iff.mp hi).1
  obtain ⟨r1, r2, r3, r4⟩ := h.rdN hi
  have rr : ∀ {Q : hp_P} {r : Nat}, mfr im_S P Q → r ≠ 912 → r ≠ 927 → Q.2 r = K.1.2 r := fun {Q r} g a b => (im_k g a b).2.trans (im_k fr a b).2
  have q27 : hp_rd P 927 (nI i) = some ((P.2 927).2 i) := hp_rd_nI (by rw [fr.2 927, h.2.1.2.1.2.1]; omega) (by omega)
  have ckn : ∀ {Q : hp_P} {b : Nat}, mfr im_S P Q → b < 60000 → hp_ck Q 927 (nI b) = some () := fun {Q b} g hb => hp_ck_nI (by rw [g.2 927, fr.2 927, h.2.1.2.1.2.1]; omega) (by omega)
  have ckt : ∀ {Q : hp_P} {b : Nat}, mfr im_S P Q → b < 9000 → hp_ck Q 912 (nI b) = some () := fun {Q b} g hb => hp_ck_nI (by rw [g.2 912, fr.2 912, h.1.2.1.2.1]; omega) (by omega)
  rw [am_s199_72]
  simp only [am_c_lt, am_c_ne, hr_927 w, hl_927 w, q27, Option.bind_some, i_addm1]
  rw [if_neg (nI_nlt (by omega) (by omega))]
  by_cases um : (P.2 927).2 i = -1
  · rw [if_neg (fun z => z um)]
    exact ⟨f + 2, P, by omega, rfl, mfr.rf, hm.dn fun z => absurd um z⟩
  · rw [if_pos um]
    have hs : m_sub X M := hm.2.2.1 i X hk hi um
    have wX : m_wf X := (h.row hi).2.1
    obtain ⟨⟨c, c1, c2, c3⟩, key⟩ := (h.row hi).1
    have ne := ct_ne h.wf h.n31 c1
    have tX : ct K.2.2.1 K.2.1 (nI c) = m_ty X := by rw [← c2]; exact c3
    have hc : q_of [M] (ct K.2.2.1 K.2.1 (nI c)) := q_of_sub hs (q_of_ty wX (by rw [tX]; rw [tX] at ne; exact q_sub_self ne))
    rw [c2] at r4
    have q4 : hp_rd P 921 (nI i) = some (nI c) := by rw [hp_rd_c1 (rr mfr.rf (by decide) (by decide))]; exact r4
    have ck1 := ckt (Q := P) (b := c) mfr.rf (by omega)
    have f1 : mfr im_S P (hp_sA P 912 (nI c) 0) := mfr.sA rfl
    have fw : mfr im_S P (wrm P 912 nt c) := wrm_fr rfl
    have m1 := hm.T (b := c) (by omega) hc
    have M1 := wrm_M (P := P) (r := 912) (lo := nt) (b := c) (by omega) (Or.inl rfl)
    have ee : ∀ {b b' : Nat}, b < 2 ^ 31 → b' < 2 ^ 31 → nI b = nI b' → b = b' := fun x y z => (nI_eq x y).mp z
    rcases key with ⟨k1, a, b, F, Y, u, a1, b1, k2, k3, ha, hb, rfl⟩ | ⟨k1, b, s, Y, b1, ⟨e, e1, k2, e3⟩, k3, hb, rfl⟩ | ⟨x, e, u, k1, k2, x28, k3, rfl⟩
    · rw [k1] at r1
      rw [k2] at r2
      rw [k3] at r3
      have q1 : ∀ {Q : hp_P}, mfr im_S P Q → hp_rd Q 918 (nI i) = some 4 := fun {Q} g => by rw [hp_rd_c1 (rr g (by decide) (by decide))]; exact r1
      have q2 : ∀ {Q : hp_P}, mfr im_S P Q → hp_rd Q 919 (nI i) = some (nI a) := fun {Q} g => by rw [hp_rd_c1 (rr g (by decide) (by decide))]; exact r2
      have q3 : ∀ {Q : hp_P}, mfr im_S P Q → hp_rd Q 920 (nI i) = some (nI b) := fun {Q} g => by rw [hp_rd_c1 (rr g (by decide) (by decide))]; exact r3
      simp only [hr_921 w, hl_921 w, q4, Option.bind_some, hr_918 w, hl_918 w, q1 mfr.rf, hr_912 w, ht_912 w, ck1, q1 f1]
      rw [if_pos (show (4 : Int32) ≠ 5 by decide), if_pos (show (4 : Int32) ≠ 5 by decide)]
      rw [wrm_t (lo := nt) (b := c) (by omega) (by omega) (F := fun Q => am_go B sa am_dfl cl am_r199 (f + 2) 151 [(0, .ref (ρ.1 9)), (2, .int (nI nk)), (3, .int (nI nt)), (5, .int (nI i))] [] (hp_S sa ρ Q)) rfl]
      show ∃ f' P', _ ∧ am_go B sa am_dfl cl am_r199 (f + 2) 151 _ [] (hp_S sa ρ (wrm P 912 nt c)) = _ ∧ _
      generalize hP1 : wrm P 912 nt c = P1 at *
      have ck2 := ckn (Q := P1) (b := a) fw (by omega)
      rw [am_s199_151]
      simp only [hr_918 w, hl_918 w, q1 fw, Option.bind_some, am_c_ne, am_c_lt, hr_919 w, hl_919 w, q2 fw, hr_927 w, ht_927 w, ck2]
      rw [if_neg (fun z => z rfl)]
      rw [wrm_t (lo := nk) (b := a) (by omega) (by omega) (F := fun Q => am_go B sa am_dfl cl am_r199 (f + 1) 186 [(0, .ref (ρ.1 9)), (2, .int (nI nk)), (3, .int (nI nt)), (5, .int (nI i))] [] (hp_S sa ρ Q)) rfl]
      show ∃ f' P', _ ∧ am_go B sa am_dfl cl am_r199 (f + 1) 186 _ [] (hp_S sa ρ (wrm P1 927 nk a)) = _ ∧ _
      have fw2 : mfr im_S P (wrm P1 927 nk a) := fw.tr (wrm_fr rfl)
      have m2 := m1.N (b := a) (by omega) (by omega) (fun X' hX' => by rw [ha] at hX'; rw [← Option.some.inj hX']; exact m_sub_tr (m_sub_N.mpr (Or.inr (Or.inl (m_sub_self (h.row ha).2.1)))) hs)
      have M2 := wrm_M (P := P1) (r := 927) (lo := nk) (b := a) (by omega) (Or.inr rfl)
      have s2 : nk ≤ a → ((wrm P1 927 nk a).2 927).2 a ≠ -1 := wrm_self (by omega)
      have s1 : nt ≤ c → (P1.2 912).2 c ≠ -1 := by rw [← hP1]; exact wrm_self (by omega)
      generalize hP2 : wrm P1 927 nk a = P2 at *
      have ck3 := ckn (Q := P2) (b := b) fw2 (by omega)
      rw [am_s199_186]
      simp only [hr_918 w, hl_918 w, q1 fw2, Option.bind_some, am_c_eq, am_c_lt, hr_920 w, hl_920 w, q3 fw2, hr_927 w, ht_927 w, ck3, i_addm1]
      rw [if_neg (show ¬ (4 : Int32) < 4 by decide), if_neg (show ¬ (4 : Int32) = 6 by decide)]
      rw [wrm_t (lo := nk) (b := b) (by omega) (by omega) (F := fun Q => am_go B sa am_dfl cl am_r199 f 72 [(0, .ref (ρ.1 9)), (2, .int (nI nk)), (3, .int (nI nt)), (5, .int (nI i - 1))] [] (hp_S sa ρ Q)) rfl]
      have m3 := m2.N (b := b) (by omega) (by omega) (fun X' hX' => by rw [hb] at hX'; rw [← Option.some.inj hX']; exact m_sub_tr (m_sub_N.mpr (Or.inr (Or.inr (m_sub_self (h.row hb).2.1)))) hs)
      have M3 := wrm_M (P := P2) (r := 927) (lo := nk) (b := b) (by omega) (Or.inr rfl)
      have s3 : nk ≤ b → ((wrm P2 927 nk b).2 927).2 b ≠ -1 := wrm_self (by omega)
      refine ⟨f, _, by omega, rfl, fw2.tr (wrm_fr rfl), m3.dn fun _ => ⟨fun b' z y1 y2 => ?_, fun z => ?_, fun _ b' z y1 y2 => ?_, fun _ b' z y1 y2 => ?_⟩⟩
      · rw [c2] at z
        have := ee (by omega) (by omega) z
        rw [← this] at y1 ⊢
        exact M3.2 _ (M2.2 _ (s1 y1))
      · rw [k1] at z; exact absurd z (by decide)
      · rw [k2] at z
        have := ee (by omega) (by omega) z
        rw [← this] at y1 ⊢
        exact M3.1 _ (s2 y1)
      · rw [k3] at z
        have := ee (by omega) (by omega) z
        rw [← this] at y1 ⊢
        exact s3 y1
    · rw [k1] at r1
      rw [k2] at r2
      rw [k3] at r3
      have q1 : ∀ {Q : hp_P}, mfr im_S P Q → hp_rd Q 918 (nI i) = some 5 := fun {Q} g => by rw [hp_rd_c1 (rr g (by decide) (by decide))]; exact r1
      have q2 : ∀ {Q : hp_P}, mfr im_S P Q → hp_rd Q 919 (nI i) = some (nI e) := fun {Q} g => by rw [hp_rd_c1 (rr g (by decide) (by decide))]; exact r2
      have q3 : ∀ {Q : hp_P}, mfr im_S P Q → hp_rd Q 920 (nI i) = some (nI b) := fun {Q} g => by rw [hp_rd_c1 (rr g (by decide) (by decide))]; exact r3
      have ck1' := ckt (Q := P) (b := e) mfr.rf (by omega)
      have ck1'' := ckt (Q := hp_sA P 912 (nI c) 0) (b := e) f1 (by omega)
      have tE : ct K.2.2.1 K.2.1 (nI e) = s := by rw [← k2]; exact e3
      have he : q_of [M] (ct K.2.2.1 K.2.1 (nI e)) := q_of_sub hs (q_of_ty wX (Or.inr (Or.inl (by
        rw [tE]
        have := ct_ne h.wf h.n31 e1
        rw [tE] at this
        exact q_sub_self this))))
      simp only [hr_921 w, hl_921 w, q4, Option.bind_some, hr_918 w, hl_918 w, q1 mfr.rf, hr_912 w, ht_912 w, ck1, q1 f1, hr_919 w, hl_919 w, q2 mfr.rf, q2 f1, ck1', ck1'']
      rw [if_neg (show ¬ (5 : Int32) ≠ 5 from fun z => z rfl), if_neg (show ¬ (5 : Int32) ≠ 5 from fun z => z rfl)]
      rw [wrm_t (P := P) (lo := nt) (b := e) (by omega) (by omega) (F := fun Q => am_go B sa am_dfl cl am_r199 (f + 2) 151 [(0, .ref (ρ.1 9)), (2, .int (nI nk)), (3, .int (nI nt)), (5, .int (nI i))] [] (hp_S sa ρ Q)) rfl]
      rw [wrm_t (P := hp_sA P 912 (nI c) 0) (lo := nt) (b := e) (by omega) (by omega) (F := fun Q => am_go B sa am_dfl cl am_r199 (f + 2) 151 [(0, .ref (ρ.1 9)), (2, .int (nI nk)), (3, .int (nI nt)), (5, .int (nI i))] [] (hp_S sa ρ Q)) rfl]
      rw [wrm_t (P := P) (lo := nt) (b := c) (by omega) (by omega) (F := fun Q => am_go B sa am_dfl cl am_r199 (f + 2) 151 [(0, .ref (ρ.1 9)), (2, .int (nI nk)), (3, .int (nI nt)), (5, .int (nI i))] [] (hp_S sa ρ (wrm Q 912 nt e))) rfl]
      show ∃ f' P', _ ∧ am_go B sa am_dfl cl am_r199 (f + 2) 151 _ [] (hp_S sa ρ (wrm (wrm P 912 nt c) 912 nt e)) = _ ∧ _
      have s1 : nt ≤ c → ((wrm P 912 nt c).2 912).2 c ≠ -1 := wrm_self (by omega)
      generalize hP1 : wrm P 912 nt c = P1 at *
      have fw1 : mfr im_S P (wrm P1 912 nt e) := fw.tr (wrm_fr rfl)
      have m2 := m1.T (b := e) (by omega) he
      have M2 := wrm_M (P := P1) (r := 912) (lo := nt) (b := e) (by omega) (Or.inl rfl)
      have s2 : nt ≤ e → ((wrm P1 912 nt e).2 912).2 e ≠ -1 := wrm_self (by omega)
      generalize hP2 : wrm P1 912 nt e = P2 at *
      rw [am_s199_151]
      simp only [hr_918 w, hl_918 w, q1 fw1, Option.bind_some, am_c_ne]
      rw [if_pos (show (5 : Int32) ≠ 4 by decide)]
      have ck3 := ckn (Q := P2) (b := b) fw1 (by omega)
      rw [am_s199_186]
      simp only [hr_918 w, hl_918 w, q1 fw1, Option.bind_some, am_c_eq, am_c_lt, hr_920 w, hl_920 w, q3 fw1, hr_927 w, ht_927 w, ck3, i_addm1]
      rw [if_neg (show ¬ (5 : Int32) < 4 by decide), if_neg (show ¬ (5 : Int32) = 6 by decide)]
      rw [wrm_t (lo := nk) (b := b) (by omega) (by omega) (F := fun Q => am_go B sa am_dfl cl am_r199 f 72 [(0, .ref (ρ.1 9)), (2, .int (nI nk)), (3, .int (nI nt)), (5, .int (nI i - 1))] [] (hp_S sa ρ Q)) rfl]
      have m3 := m2.N (b := b) (by omega) (by omega) (fun X' hX' => by rw [hb] at hX'; rw [← Option.some.inj hX']; exact m_sub_tr (m_sub_N.mpr (Or.inr (Or.inl (m_sub_self (h.row hb).2.1)))) hs)
      have M3 := wrm_M (P := P2) (r := 927) (lo := nk) (b := b) (by omega) (Or.inr rfl)
      have s3 : nk ≤ b → ((wrm P2 927 nk b).2 927).2 b ≠ -1 := wrm_self (by omega)
      refine ⟨f, _, by omega, rfl, fw1.tr (wrm_fr rfl), m3.dn fun _ => ⟨fun b' z y1 y2 => ?_, fun _ b' z y1 y2 => ?_, fun z => ?_, fun _ b' z y1 y2 => ?_⟩⟩
      · rw [c2] at z
        have := ee (by omega) (by omega) z
        rw [← this] at y1 ⊢
        exact M3.2 _ (M2.2 _ (s1 y1))
      · rw [k2] at z
        have := ee (by omega) (by omega) z
        rw [← this] at y1 ⊢
        exact M3.2 _ (s2 y1)
      · rw [k1] at z; exact absurd z (by decide)
      · rw [k3] at z
        have := ee (by omega) (by omega) z
        rw [← this] at y1 ⊢
        exact s3 y1
    · have q1 : ∀ {Q : hp_P}, mfr im_S P Q → hp_rd Q 918 (nI i) = some (Nk K.1 i).1 := fun {Q} g => by rw [hp_rd_c1 (rr g (by decide) (by decide))]; exact r1
      have n45 : (Nk K.1 i).1 ≠ 4 ∧ (Nk K.1 i).1 ≠ 5 ∧ ((Nk K.1 i).1 < 4 ∨ (Nk K.1 i).1 = 6) := by
        rcases k1 with ⟨z, -⟩ | ⟨z, -⟩ | ⟨z, -⟩ <;> rw [z] <;> exact ⟨by decide, by decide, by decide⟩
      simp only [hr_921 w, hl_921 w, q4, Option.bind_some, hr_918 w, hl_918 w, q1 mfr.rf, hr_912 w, ht_912 w, ck1, q1 f1]
      rw [if_pos n45.2.1, if_pos n45.2.1]
      rw [wrm_t (lo := nt) (b := c) (by omega) (by omega) (F := fun Q => am_go B sa am_dfl cl am_r199 (f + 2) 151 [(0, .ref (ρ.1 9)), (2, .int (nI nk)), (3, .int (nI nt)), (5, .int (nI i))] [] (hp_S sa ρ Q)) rfl]
      show ∃ f' P', _ ∧ am_go B sa am_dfl cl am_r199 (f + 2) 151 _ [] (hp_S sa ρ (wrm P 912 nt c)) = _ ∧ _
      have s1 : nt ≤ c → ((wrm P 912 nt c).2 912).2 c ≠ -1 := wrm_self (by omega)
      generalize hP1 : wrm P 912 nt c = P1 at *
      rw [am_s199_151]
      simp only [hr_918 w, hl_918 w, q1 fw, Option.bind_some, am_c_ne]
      rw [if_pos n45.1, am_s199_186]
      simp only [hr_918 w, hl_918 w, q1 fw, Option.bind_some, am_c_eq, am_c_lt, i_addm1]
      have fin : am_go B sa am_dfl cl am_r199 f 72 [(0, .ref (ρ.1 9)), (2, .int (nI nk)), (3, .int (nI nt)), (5, .int (nI i - 1))] [] (hp_S sa ρ P1) = am_go B sa am_dfl cl am_r199 f 72 [(0, .ref (ρ.1 9)), (2, .int (nI nk)), (3, .int (nI nt)), (5, .int (nI i - 1))] [] (hp_S sa ρ P1) := rfl
      have res : mkI K nk nt t M i P1 := m1.dn fun _ => ⟨fun b' z y1 y2 => by
        rw [c2] at z
        have := ee (by omega) (by omega) z
        rw [← this] at y1 ⊢
        exact s1 y1, fun z => absurd z n45.2.1, fun z => absurd z n45.1, fun z => z.elim (fun y => absurd y n45.1) fun y => absurd y n45.2.1⟩
      by_cases z : (Nk K.1 i).1 < 4
      · rw [if_pos z]
        exact ⟨f, P1, by omega, rfl, fw, res⟩
      · rw [if_neg z, if_pos (n45.2.2.resolve_left z)]
        exact ⟨f, P1, by omega, rfl, fw, res⟩
end MK
