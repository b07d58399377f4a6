/-! THE REFERENCE, 2: node -/
abbrev nK : Type := Int32 × Int32 × Int32 × Int32
def Nk (P : hp_P) (i : Nat) : nK := ((P.2 918).2 i, (P.2 919).2 i, (P.2 920).2 i, (P.2 921).2 i)
def c4' (q : nK) : Int32 := c4 q.1 q.2.1 q.2.2.1 q.2.2.2
/-- a node's key, and the tree that it stands for -/
def nd_key (n : Nat) (T : Nat → Int32 × Int32 × Int32) (ns : List qM) (j : Nat) (q : nK) (M : qM) : Prop :=
  pl n T q.2.2.2 (m_ty M) ∧
  ((q.1 = 4 ∧ ∃ a b F X u, a < j ∧ b < j ∧ q.2.1 = nI a ∧ q.2.2.1 = nI b ∧ ns[a]? = some F ∧ ns[b]? = some X ∧ M = mN (-1) u F X) ∨
   (q.1 = 5 ∧ ∃ b t Y, b < j ∧ pl n T q.2.1 t ∧ q.2.2.1 = nI b ∧ ns[b]? = some Y ∧ M = mN (-2) (qF t (m_ty Y)) Y .leaf) ∨
   (∃ x e u, ((q.1 = 6 ∧ e = 0) ∨ (q.1 = 2 ∧ e = 1) ∨ (q.1 = 3 ∧ e = 2)) ∧ q.2.1 = nI x ∧ x < 2 ^ 28 ∧ q.2.2.1 = 0 ∧ M = mN (nI (4 * x + e)) u .leaf .leaf))
def nd_row (P : hp_P) (n : Nat) (T : Nat → Int32 × Int32 × Int32) (ns : List qM) (j : Nat) (M : qM) : Prop :=
  nd_key n T ns j (Nk P j) M ∧ m_wf M ∧ (P.2 922).2 j = nI (m_fl M).length ∧ (P.2 923).2 j = nI (m_ht M) ∧ (P.2 924).2 j = nI (m_lo M) ∧ (m_fl M).length ≤ 4000 ∧ m_ht M ≤ 120
/-- the reference's table of terms -/
def ndN (P : hp_P) (n : Nat) (T : Nat → Int32 × Int32 × Int32) (ns : List qM) : Prop :=
  (P.1 917 = nI ns.length ∧ ns.length ≤ 60000) ∧ ((∀ r, 918 ≤ r → r ≤ 925 → (P.2 r).1 = 60000) ∧ (P.2 927).1 = 60000 ∧ (P.2 926).1 = 4096) ∧ ns.Nodup ∧ (∀ j M, ns[j]? = some M → nd_row P n T ns j M) ∧ ch_ok (P.2 926).2 (P.2 925).2 (fun i => c4' (Nk P i)) ns.length
/-- the last row of a key below m -/
noncomputable def nfnd (N : Nat → nK) (q : nK) : Nat → Int32
  | 0 => -1
  | m + 1 => @ite _ (N m = q) (Classical.propDecidable _) (nI m) (nfnd N q m)
theorem nfnd_some {N : Nat → nK} {q : nK} : ∀ {m : Nat}, nfnd N q m ≠ -1 → ∃ i, i < m ∧ N i = q ∧ nfnd N q m = nI i
  | 0, h => absurd rfl h
  | m + 1, h => by
    unfold nfnd at h ⊢
    by_cases e : N m = q
    · rw [if_pos e]; exact ⟨m, Nat.lt_succ_self m, e, rfl⟩
    · rw [if_neg e] at h ⊢
      obtain ⟨i, i1, i2, i3⟩ := nfnd_some h
      exact ⟨i, by omega, i2, i3⟩
theorem nfnd_none {N : Nat → nK} {q : nK} : ∀ {m : Nat}, nfnd N q m = -1 → m < 2 ^ 31 → ∀ i, i < m → N i ≠ q
  | 0, _, _, i, hi => absurd hi (Nat.not_lt_zero i)
  | m + 1, h, hm, i, hi => by
    unfold nfnd at h
    by_cases e : N m = q
    · rw [if_pos e] at h; exact absurd h (nI_ne_m1 (by omega))
    · rw [if_neg e] at h
      by_cases z : i = m
      · rw [z]; exact e
      · exact nfnd_none h (by omega) i (by omega)
section MO2
variable {sa : Nat → Nat} {B : Nat} {ρ : hp_L} {P : hp_P} {n : Nat} {T : Nat → Int32 × Int32 × Int32} {b : Bool} {ns : List qM}
theorem nd_nodup (h : ns.Nodup) {i j : Nat} {M : qM} (hi : ns[i]? = some M) (hj : ns[j]? = some M) : i = j := by
  obtain ⟨a1, a2⟩ := List.getElem?_eq_some_iff.mp hi
  obtain ⟨b1, b2⟩ := List.getElem?_eq_some_iff.mp hj
  exact (List.getElem_inj h).mp (a2.trans b2.symm)
theorem nd_code {x e x' e' : Nat} (h : x < 2 ^ 28) (h' : x' < 2 ^ 28) (he : e < 4) (he' : e' < 4) (k : nI (4 * x + e) = nI (4 * x' + e')) : x = x' ∧ e = e' := by
  have := (nI_eq (by omega) (by omega)).mp k
  omega
theorem nd_code_m1 {x e : Nat} (h : x < 2 ^ 28) (he : e < 4) : nI (4 * x + e) ≠ -1 ∧ nI (4 * x + e) ≠ -2 := ⟨nI_ne_m1 (by omega), nI_ne_m2 (by omega)⟩
/-- a tree has one key -/
theorem nd_key.uq {j j' : Nat} {q q' : nK} {M : qM} (hn : ns.Nodup) (hw : ty_wf T n) (hd : ty_di T n) (h31 : n < 2 ^ 31) (h : nd_key n T ns j q M) (h' : nd_key n T ns j' q' M) : q = q' := by
  obtain ⟨h1, h2⟩ := h
  obtain ⟨g1, g2⟩ := h'
  have et := h1.eq g1 hw hd h31
  have key : q.1 = q'.1 ∧ q.2.1 = q'.2.1 ∧ q.2.2.1 = q'.2.2.1 := by
    rcases h2 with ⟨k, a, b, F, X, u, -, -, a3, a4, a5, a6, a7⟩ | ⟨k, b, t, Y, -, a2, a3, a4, a5⟩ | ⟨x, e, u, k, a1, a2, a3, a4⟩ <;> rcases g2 with ⟨k', a', b', F', X', u', -, -, c3, c4, c5, c6, c7⟩ | ⟨k', b', t', Y', -, c2, c3, c4, c5⟩ | ⟨x', e', u', k', c1, c2, c3, c4⟩
    · rw [a7] at c7
      obtain ⟨-, -, rfl, rfl⟩ := mN_inj c7
      rw [k, k', a3, a4, c3, c4, nd_nodup hn a5 c5, nd_nodup hn a6 c6]
      exact ⟨rfl, rfl, rfl⟩
    · rw [a7] at c5; exact absurd (mN_inj c5).1 (by decide)
    · rw [a7] at c4; exact absurd (mN_inj c4).1.symm (nd_code_m1 c2 (by omega)).1
    · rw [a5] at c7; exact absurd (mN_inj c7).1 (by decide)
    · rw [a5] at c5
      obtain ⟨-, e2, rfl, -⟩ := mN_inj c5
      obtain ⟨rfl, -⟩ := qF_inj e2
      rw [k, k', a3, c3, a2.eq c2 hw hd h31, nd_nodup hn a4 c4]
      exact ⟨rfl, rfl, rfl⟩
    · rw [a5] at c4; exact absurd (mN_inj c4).1.symm (nd_code_m1 c2 (by omega)).2
    · rw [a4] at c7; exact absurd (mN_inj c7).1 (nd_code_m1 a2 (by omega)).1
    · rw [a4] at c5; exact absurd (mN_inj c5).1 (nd_code_m1 a2 (by omega)).2
    · rw [a4] at c4
      obtain ⟨e1, e2⟩ := nd_code a2 c2 (by omega) (by omega) (mN_inj c4).1
      rw [a1, c1, a3, c3, e1]
      refine ⟨?_, rfl, rfl⟩
      rcases k with ⟨k, z⟩ | ⟨k, z⟩ | ⟨k, z⟩ <;> rcases k' with ⟨k', z'⟩ | ⟨k', z'⟩ | ⟨k', z'⟩ <;> first | omega | (rw [k, k'])
  exact Prod.ext key.1 (Prod.ext key.2.1 (Prod.ext key.2.2 et))
/-- a key stands for one tree -/
theorem nd_key.uM {j j' : Nat} {q : nK} {M M' : qM} (h31 : n < 2 ^ 31) (hl : ns.length < 2 ^ 31) (h : nd_key n T ns j q M) (h' : nd_key n T ns j' q M') : M = M' := by
  obtain ⟨h1, h2⟩ := h
  obtain ⟨g1, g2⟩ := h'
  have et : m_ty M = m_ty M' := h1.ct.symm.trans g1.ct
  have at' : ∀ {a b : Nat} {F X : qM} {v : Int32}, v = nI a → v = nI b → ns[a]? = some F → ns[b]? = some X → F = X := fun {a b F X v} e1 e2 e3 e4 => by
    have k1 := (List.getElem?_eq_some_iff.mp e3).1
    have k2 := (List.getElem?_eq_some_iff.mp e4).1
    have := (nI_eq (by omega) (by omega)).mp (e1.symm.trans e2)
    rw [this, e4] at e3
    exact (Option.some.inj e3).symm
  rcases h2 with ⟨k, a, b, F, X, u, -, -, a3, a4, a5, a6, a7⟩ | ⟨k, b, t, Y, -, a2, a3, a4, a5⟩ | ⟨x, e, u, k, a1, a2, a3, a4⟩ <;> rcases g2 with ⟨k', a', b', F', X', u', -, -, c3, c4, c5, c6, c7⟩ | ⟨k', b', t', Y', -, c2, c3, c4, c5⟩ | ⟨x', e', u', k', c1, c2, c3, c4⟩
  · rw [a7, c7, m_ty_N, m_ty_N] at et
    rw [a7, c7, et, at' a3 c3 a5 c5, at' a4 c4 a6 c6]
  · rw [k] at k'; exact absurd k' (by decide)
  · rw [k] at k'; rcases k' with ⟨z, _⟩ | ⟨z, _⟩ | ⟨z, _⟩ <;> exact absurd z (by decide)
  · rw [k] at k'; exact absurd k' (by decide)
  · have e1 := a2.ct.symm.trans c2.ct
    obtain rfl := at' a3 c3 a4 c4
    rw [a5, c5, e1]
  · rw [k] at k'; rcases k' with ⟨z, _⟩ | ⟨z, _⟩ | ⟨z, _⟩ <;> exact absurd z (by decide)
  · rw [k'] at k; rcases k with ⟨z, _⟩ | ⟨z, _⟩ | ⟨z, _⟩ <;> exact absurd z (by decide)
  · rw [k'] at k; rcases k with ⟨z, _⟩ | ⟨z, _⟩ | ⟨z, _⟩ <;> exact absurd z (by decide)
  · rw [a4, c4, m_ty_N, m_ty_N] at et
    have : x = x' := (nI_eq (by omega) (by omega)).mp (a1.symm.trans c1)
    have e2 : e = e' := by
      rcases k with ⟨k, z⟩ | ⟨k, z⟩ | ⟨k, z⟩ <;> rcases k' with ⟨k', z'⟩ | ⟨k', z'⟩ | ⟨k', z'⟩ <;> first | omega | (rw [k] at k'; exact absurd k' (by decide))
    rw [a4, c4, et, this, e2]
theorem nd_key.up {j j' : Nat} {q : nK} {M : qM} {ns' : List qM} (h : nd_key n T ns j q M) (hj : j ≤ j') (hs : ∀ i X, i < j → ns[i]? = some X → ns'[i]? = some X) : nd_key n T ns' j' q M := by
  obtain ⟨h1, h2⟩ := h
  refine ⟨h1, ?_⟩
  rcases h2 with ⟨k, a, b, F, X, u, b1, b2, a3, a4, a5, a6, a7⟩ | ⟨k, b, t, Y, b1, a2, a3, a4, a5⟩ | z
  · exact Or.inl ⟨k, a, b, F, X, u, by omega, by omega, a3, a4, hs a F b1 a5, hs b X b2 a6, a7⟩
  · exact Or.inr (Or.inl ⟨k, b, t, Y, by omega, a2, a3, hs b Y b1 a4, a5⟩)
  · exact Or.inr (Or.inr z)
theorem nd_key.xt {j : Nat} {q : nK} {M : qM} {n' : Nat} {T' : Nat → Int32 × Int32 × Int32} (h : nd_key n T ns j q M) (hw : ty_wf T n) (hn : n < 2 ^ 31) (x : ty_xt n T n' T') : nd_key n' T' ns j q M := by
  obtain ⟨h1, h2⟩ := h
  refine ⟨h1.xt hw hn x, ?_⟩
  rcases h2 with z | ⟨k, b, t, Y, b1, a2, a3, a4, a5⟩ | z
  · exact Or.inl z
  · exact Or.inr (Or.inl ⟨k, b, t, Y, b1, a2.xt hw hn x, a3, a4, a5⟩)
  · exact Or.inr (Or.inr z)
theorem ndN.xt {n' : Nat} {T' : Nat → Int32 × Int32 × Int32} (h : ndN P n T ns) (hw : ty_wf T n) (hn : n < 2 ^ 31) (x : ty_xt n T n' T') : ndN P n' T' ns := ⟨h.1, h.2.1, h.2.2.1, fun j M hj => ⟨(h.2.2.2.1 j M hj).1.xt hw hn x, (h.2.2.2.1 j M hj).2⟩, h.2.2.2.2⟩
theorem ndN.cg {P' : hp_P} (h : ndN P n T ns) (h1 : P'.1 917 = P.1 917) (h2 : ∀ r, 918 ≤ r → r ≤ 927 → P'.2 r = P.2 r) : ndN P' n T ns := by
  unfold ndN nd_row Nk at h ⊢
  rw [h1, h2 918 (by decide) (by decide), h2 919 (by decide) (by decide), h2 920 (by decide) (by decide), h2 921 (by decide) (by decide), h2 922 (by decide) (by decide), h2 923 (by decide) (by decide), h2 924 (by decide) (by decide), h2 925 (by decide) (by decide), h2 926 (by decide) (by decide), h2 927 (by decide) (by decide)]
  exact ⟨h.1, ⟨fun r a b => by rw [h2 r a (by omega)]; exact h.2.1.1 r a b, h.2.1.2⟩, h.2.2⟩
theorem ndN.rd (h : ndN P n T ns) {r j : Nat} (h1 : 918 ≤ r) (h2 : r ≤ 925) (hj : j < ns.length) : hp_rd P r (nI j) = some ((P.2 r).2 j) := hp_rd_nI (by rw [h.2.1.1 r h1 h2]; have := h.1.2; omega) (by have := h.1.2; omega)
theorem nd_find {q : nK} {f0 d : Nat} {R : Option (Option Value × am_S)} (w : hp_w B ρ) (h : ndN P n T ns) (hR : ∀ f, 10 ≤ f → am_go B sa am_dfl (am_call B sa am_dfl am_tb f0 d) am_r131 f 19 [(0, .ref (ρ.1 9)), (1, .int q.1), (2, .int q.2.1), (3, .int q.2.2.1), (4, .int q.2.2.2), (5, .int (c4' q)), (6, .int (-1))] [] (hp_S sa ρ P) = R) : ∀ (m f : Nat), m ≤ ns.length → m + 10 ≤ f →
    am_go B sa am_dfl (am_call B sa am_dfl am_tb f0 d) am_r131 f 19 [(0, .ref (ρ.1 9)), (1, .int q.1), (2, .int q.2.1), (3, .int q.2.2.1), (4, .int q.2.2.2), (5, .int (c4' q)), (6, .int (lk (fun i => c4' (Nk P i)) (c4' q) m))] [] (hp_S sa ρ P) = if nfnd (Nk P) q m ≠ -1 then some (some (.int (nfnd (Nk P) q m)), hp_S sa ρ P) else R := by
  have n8 := h.1.2
  intro m
  induction m with
  | zero =>
    intro f _ hf
    rw [if_neg (fun z => z rfl)]
    exact hR f (by omega)
  | succ m ih =>
    intro f hm hf
    have hf2 : Nk P m ≠ q → nfnd (Nk P) q (m + 1) = nfnd (Nk P) q m := fun z => if_neg z
    by_cases hb : c4' (Nk P m) = c4' q
    · have hl : lk (fun i => c4' (Nk P i)) (c4' q) (m + 1) = nI m := if_pos hb
      rw [hl]
      obtain ⟨f, rfl⟩ : ∃ g, f = g + 1 := ⟨f - 1, by omega⟩
      have r0 : hp_rd P 918 (nI m) = some (Nk P m).1 := h.rd (by decide) (by decide) (by omega)
      have r1 : hp_rd P 919 (nI m) = some (Nk P m).2.1 := h.rd (by decide) (by decide) (by omega)
      have r2 : hp_rd P 920 (nI m) = some (Nk P m).2.2.1 := h.rd (by decide) (by decide) (by omega)
      have r3 : hp_rd P 921 (nI m) = some (Nk P m).2.2.2 := h.rd (by decide) (by decide) (by omega)
      have r5 : hp_rd P 925 (nI m) = some (lk (fun i => c4' (Nk P i)) (c4' q) m) := by rw [h.rd (by decide) (by decide) (by omega), h.2.2.2.2.2 m (by omega)]; dsimp only; rw [hb]
      have hih := ih f (by omega) (by omega)
      rw [am_s131_19]
      simp only [am_c_eq, am_c_ne]
      rw [if_neg (nI_ne_m1 (show m < 2 ^ 31 by omega))]
      simp only [hr_918 w, hl_918 w, r0, hr_919 w, hl_919 w, r1, hr_920 w, hl_920 w, r2, hr_921 w, hl_921 w, r3, hr_925 w, hl_925 w, r5, Option.bind_some]
      by_cases g1 : (Nk P m).1 = q.1
      · rw [if_neg (fun z => z g1)]
        by_cases g2 : (Nk P m).2.1 = q.2.1
        · rw [if_neg (fun z => z g2)]
          by_cases g3 : (Nk P m).2.2.1 = q.2.2.1
          · rw [if_neg (fun z => z g3)]
            by_cases g4 : (Nk P m).2.2.2 = q.2.2.2
            · have e1 : nfnd (Nk P) q (m + 1) = nI m := if_pos (Prod.ext g1 (Prod.ext g2 (Prod.ext g3 g4)))
              rw [if_neg (fun z => z g4), e1, if_pos (nI_ne_m1 (by omega))]
            · rw [if_pos g4, hf2 (fun z => g4 (by rw [z]))]; exact hih
          · rw [if_pos g3, hf2 (fun z => g3 (by rw [z]))]; exact hih
        · rw [if_pos g2, hf2 (fun z => g2 (by rw [z]))]; exact hih
      · rw [if_pos g1, hf2 (fun z => g1 (by rw [z]))]; exact hih
    · have hl : lk (fun i => c4' (Nk P i)) (c4' q) (m + 1) = lk (fun i => c4' (Nk P i)) (c4' q) m := if_neg hb
      rw [hl, hf2 (fun z => hb (by rw [z]))]
      exact ih f (by omega) (by omega)
/-- one node more -/
def nn_P (P : hp_P) (k c : Nat) (q : nK) (s h r : Nat) : hp_P :=
  hp_sI (hp_sA (hp_sA (hp_sA (hp_sA (hp_sA (hp_sA (hp_sA (hp_sA (hp_sA P 918 (nI k) q.1) 919 (nI k) q.2.1) 920 (nI k) q.2.2.1) 921 (nI k) q.2.2.2) 922 (nI k) (nI s)) 923 (nI k) (nI h)) 924 (nI k) (nI r)) 925 (nI k) ((P.2 926).2 c)) 926 (nI c) (nI k)) 917 (nI (k + 1))
def nn_S : Nat → Bool := fun r => decide (917 ≤ r ∧ r ≤ 926)
theorem nn_fr {k c s h r : Nat} {q : nK} : mfr nn_S P (nn_P P k c q s h r) :=
  (((((((((mfr.sA rfl).tr (mfr.sA rfl)).tr (mfr.sA rfl)).tr (mfr.sA rfl)).tr (mfr.sA rfl)).tr (mfr.sA rfl)).tr (mfr.sA rfl)).tr (mfr.sA rfl)).tr (mfr.sA rfl)).tr (mfr.sI rfl)
theorem nn_rows {k c s h r : Nat} {q : nK} (hn : k < 2 ^ 31) (hc : c < 4096) : ((nn_P P k c q s h r).2 918).2 = upd (P.2 918).2 k q.1 ∧ ((nn_P P k c q s h r).2 919).2 = upd (P.2 919).2 k q.2.1 ∧ ((nn_P P k c q s h r).2 920).2 = upd (P.2 920).2 k q.2.2.1 ∧ ((nn_P P k c q s h r).2 921).2 = upd (P.2 921).2 k q.2.2.2 ∧ ((nn_P P k c q s h r).2 922).2 = upd (P.2 922).2 k (nI s) ∧ ((nn_P P k c q s h r).2 923).2 = upd (P.2 923).2 k (nI h) ∧ ((nn_P P k c q s h r).2 924).2 = upd (P.2 924).2 k (nI r) ∧ ((nn_P P k c q s h r).2 925).2 = upd (P.2 925).2 k ((P.2 926).2 c) ∧ ((nn_P P k c q s h r).2 926).2 = upd (P.2 926).2 c (nI k) := by
  unfold nn_P
  simp only [hI_A]
  refine ⟨?_, ?_, ?_, ?_, ?_, ?_, ?_, ?_, ?_⟩
  all_goals (simp only [hp_sA, nI_clamp hn, nI_clamp (show c < 2 ^ 31 by omega)]; rfl)
theorem nn_row {k c s h r' : Nat} {q : nK} (hc : c < 4096) (hn : k < 2 ^ 31) {r j : Nat} (h1 : 918 ≤ r) (h2 : r ≤ 925) (hj : j ≠ k) : ((nn_P P k c q s h r').2 r).2 j = (P.2 r).2 j := by
  obtain ⟨a1, a2, a3, a4, a5, a6, a7, a8, -⟩ := nn_rows (P := P) (c := c) (s := s) (h := h) (r := r') (q := q) hn hc
  have e : r = 918 ∨ r = 919 ∨ r = 920 ∨ r = 921 ∨ r = 922 ∨ r = 923 ∨ r = 924 ∨ r = 925 := by omega
  rcases e with rfl | rfl | rfl | rfl | rfl | rfl | rfl | rfl
  · rw [a1, pk_un hj]
  · rw [a2, pk_un hj]
  · rw [a3, pk_un hj]
  · rw [a4, pk_un hj]
  · rw [a5, pk_un hj]
  · rw [a6, pk_un hj]
  · rw [a7, pk_un hj]
  · rw [a8, pk_un hj]
theorem nn_ok {c : Nat} {q : nK} {M : qM} (h : ndN P n T ns) (hk : nd_key n T ns ns.length q M) (hM : m_wf M) (hno : M ∉ ns) (hl : ns.length < 60000) (h1 : (m_fl M).length ≤ 4000) (h2 : m_ht M ≤ 120) (hc : c < 4096) (ec : c4' q = nI c) : ndN (nn_P P ns.length c q (m_fl M).length (m_ht M) (m_lo M)) n T (ns ++ [M]) := by
  have hn : ns.length < 2 ^ 31 := by omega
  obtain ⟨e1, e2, e3, e4, e5, e6, e7, e8, e9⟩ := nn_rows (P := P) (q := q) (s := (m_fl M).length) (h := m_ht M) (r := m_lo M) hn hc
  have fl := (nn_fr (P := P) (k := ns.length) (c := c) (q := q) (s := (m_fl M).length) (h := m_ht M) (r := m_lo M)).2
  have hll : (ns ++ [M]).length = ns.length + 1 := by rw [List.length_append]; rfl
  have nk : ∀ i, i < ns.length → Nk (nn_P P ns.length c q (m_fl M).length (m_ht M) (m_lo M)) i = Nk P i := fun i hi => by
    unfold Nk
    rw [e1, e2, e3, e4, pk_un (by omega), pk_un (by omega), pk_un (by omega), pk_un (by omega)]
  have nk' : Nk (nn_P P ns.length c q (m_fl M).length (m_ht M) (m_lo M)) ns.length = q := by
    unfold Nk
    rw [e1, e2, e3, e4, pk_us, pk_us, pk_us, pk_us]
  refine ⟨⟨by rw [hll]; exact hI_eq, by omega⟩, ⟨fun r a b => by rw [fl r]; exact h.2.1.1 r a b, by rw [fl 927]; exact h.2.1.2.1, by rw [fl 926]; exact h.2.1.2.2⟩, ?_, fun j X hj => ?_, ?_⟩
  · rw [List.nodup_append]
    refine ⟨h.2.2.1, List.nodup_cons.mpr ⟨List.not_mem_nil, List.nodup_nil⟩, fun a ha b hb e => hno ?_⟩
    rw [List.mem_singleton.mp hb] at e
    rw [← e]; exact ha
  · have pre : ∀ {m : Nat}, m ≤ ns.length → ∀ i X, i < m → ns[i]? = some X → (ns ++ [M])[i]? = some X := fun hm i X hi hx => by rw [List.getElem?_append_left (by omega)]; exact hx
    rcases rw_push_g hj with z | ⟨z1, z2⟩
    · have hjl : j < ns.length := (List.getElem?_eq_some_iff.mp z).1
      obtain ⟨r1, r2, r3, r4, r5, r6⟩ := h.2.2.2.1 j X z
      refine ⟨by rw [nk j hjl]; exact r1.up (Nat.le_refl _) (pre (by omega)), r2, ?_, ?_, ?_, r6⟩
      · rw [e5, pk_un (by omega)]; exact r3
      · rw [e6, pk_un (by omega)]; exact r4
      · rw [e7, pk_un (by omega)]; exact r5
    · subst z1 z2
      refine ⟨by rw [nk']; exact hk.up (Nat.le_refl _) (pre (Nat.le_refl _)), hM, ?_, ?_, ?_, h1, h2⟩
      · rw [e5, pk_us]
      · rw [e6, pk_us]
      · rw [e7, pk_us]
  · rw [hll, e8, e9]
    exact h.2.2.2.2.add hc (by rw [nk']; exact ec) fun i hi => by rw [nk i hi]
/-- what node comes to -/
def nmo (b : Bool) (ns : List qM) (v : Int32) (b' : Bool) (ns' : List qM) (M : qM) : Prop :=
  (b' = b ∧ (∃ i, v = nI i ∧ ns'[i]? = some M) ∧ (ns' = ns ∨ ns' = ns ++ [M])) ∨ (b' = true ∧ v = 0 ∧ ns' = ns ∧ (b = true ∨ 4000 < (m_fl M).length ∨ 120 < m_ht M ∨ (60000 ≤ ns.length ∧ M ∉ ns)))
def nx_S : Nat → Bool := fun r => nn_S r || decide (r = 945)
theorem nx_nn {P' : hp_P} (h : mfr nn_S P P') : mfr nx_S P P' := h.up fun r k => (Bool.or_eq_false_iff.mp k).1
theorem m_lo_leaf {x e : Nat} {u : qT} (hx : x < 2 ^ 28) (he : e < 3) : m_lo (mN (nI (4 * x + e)) u .leaf .leaf) = if e = 0 then x + 1 else 0 := by
  rw [m_lo_N, if_neg (nd_code_m1 hx (by omega)).1, if_neg (nd_code_m1 hx (by omega)).2, pk_tn (by omega)]
  by_cases z : e = 0
  · rw [if_pos (by omega), if_pos z]; omega
  · rw [if_neg (by omega), if_neg z]
set_option maxHeartbeats 4000000 in
/-- node -/
theorem nd_node2 {f d : Nat} {q : nK} {M : qM} (w : hp_w B ρ) (ty : tyN P n T) (h : ndN P n T ns) (hb : P.1 945 = bI b) (hk : nd_key n T ns ns.length q M) (hM : m_wf M) (hf : 70000 ≤ f) :
    ∃ P' v ns' b', (am_call B sa am_dfl am_tb f (d + 2) 131 [.ref (ρ.1 9), .int q.1, .int q.2.1, .int q.2.2.1, .int q.2.2.2] (hp_S sa ρ P) = some (some (.int v), hp_S sa ρ P') ∧ ∀ r j, 918 ≤ r → r ≤ 925 → j ≠ ns.length → (P'.2 r).2 j = (P.2 r).2 j) ∧ ndN P' n T ns' ∧ P'.1 945 = bI b' ∧ mfr nx_S P P' ∧ nmo b ns v b' ns' M := by
  have hw := ty.2.2.2.1
  have hd := ty.2.2.2.2.1
  have n31 := ty.n31
  have l6 := h.1.2
  obtain ⟨c, hc, ec⟩ := c4_in q.1 q.2.1 q.2.2.1 q.2.2.2
  have ec : c4' q = nI c := ec
  have r26 : hp_rd P 926 (c4' q) = some ((P.2 926).2 c) := by rw [ec, hp_rd_nI (by rw [h.2.1.2.2]; exact hc) (by omega)]
  have e26 : (P.2 926).2 c = lk (fun i => c4' (Nk P i)) (c4' q) ns.length := by rw [h.2.2.2.2.1 c hc, ec]
  obtain ⟨f, rfl⟩ : ∃ g, f = g + 1 := ⟨f - 1, by omega⟩
  rw [am_c_131, am_s131_0]
  have hch : ∀ σ, am_call B sa am_dfl am_tb (f + 1) (d + 1) 125 [.int q.1, .int q.2.1, .int q.2.2.1, .int q.2.2.2] σ = some (some (.int (c4' q)), σ) := fun σ => m_chain
  simp only [hch, am_i_some, hr_926 w, hl_926 w, r26, Option.bind_some]
  rw [e26]
  have key : M ∈ ns ↔ nfnd (Nk P) q ns.length ≠ -1 := by
    constructor
    · intro z e
      obtain ⟨i, hi, e'⟩ := List.mem_iff_getElem.mp z
      have hi' : ns[i]? = some M := List.getElem?_eq_some_iff.mpr ⟨hi, e'⟩
      exact nfnd_none e (by omega) i hi (nd_key.uq h.2.2.1 hw hd n31 (h.2.2.2.1 i M hi').1 hk)
    · intro z
      obtain ⟨i, i1, i2, i3⟩ := nfnd_some z
      have hi' : ns[i]? = some ns[i] := List.getElem?_eq_some_iff.mpr ⟨i1, rfl⟩
      have := (h.2.2.2.1 i _ hi').1
      rw [i2] at this
      rw [nd_key.uM n31 (by omega) hk this]
      exact List.getElem_mem i1
  -- the end, where the node isn't there
  have fin : ∀ g, 5 ≤ g → (m_fl M).length < 2 ^ 31 → m_ht M < 2 ^ 31 → am_go B sa am_dfl (am_call B sa am_dfl am_tb (f + 1) (d + 1)) am_r131 g 249 [(0, .ref (ρ.1 9)), (1, .int q.1), (2, .int q.2.1), (3, .int q.2.2.1), (4, .int q.2.2.2), (5, .int (nI c)), (6, .int (nI (m_fl M).length)), (7, .int (nI (m_ht M))), (8, .int (nI (m_lo M)))] [] (hp_S sa ρ P) = if (m_fl M).length ≤ 4000 ∧ m_ht M ≤ 120 ∧ ns.length < 60000 then (if b = true then some (some (.int 0), hp_S sa ρ P) else some (some (.int (nI ns.length)), hp_S sa ρ (nn_P P ns.length c q (m_fl M).length (m_ht M) (m_lo M)))) else some (some (.int 0), hp_S sa ρ (hp_sI P 945 1)) := by
    intro g hg hl1 hl2
    obtain ⟨g, rfl⟩ : ∃ k, g = k + 2 := ⟨g - 2, by omega⟩
    have no : am_go B sa am_dfl (am_call B sa am_dfl am_tb (f + 1) (d + 1)) am_r131 (g + 1) 279 [(0, .ref (ρ.1 9)), (1, .int q.1), (2, .int q.2.1), (3, .int q.2.2.1), (4, .int q.2.2.2), (5, .int (nI c)), (6, .int (nI (m_fl M).length)), (7, .int (nI (m_ht M))), (8, .int (nI (m_lo M)))] [.int 0, .ref (ρ.1 9)] (hp_S sa ρ P) = some (some (.int 0), hp_S sa ρ (hp_sI P 945 1)) := by
      rw [am_s131_279]
      simp only [hx_9 w, Option.bind_some, m_need0 w hb, am_i_some, am_c_ne]
      rw [if_neg (fun z => z rfl)]
    rw [am_s131_249]
    simp only [am_c_gt, am_c_ge, hg_917 w, h.1.1, Option.bind_some]
    rw [show (4000 : Int32) = nI 4000 from rfl, show (120 : Int32) = nI 120 from rfl, show (60000 : Int32) = nI 60000 from rfl]
    by_cases c1 : (m_fl M).length ≤ 4000
    · rw [if_neg (nI_nlt c1 (by omega))]
      by_cases c2 : m_ht M ≤ 120
      · rw [if_neg (nI_nlt c2 (by omega))]
        by_cases c3 : ns.length < 60000
        · rw [if_neg (nI_ge c3 (by omega)), if_pos (show (m_fl M).length ≤ 4000 ∧ m_ht M ≤ 120 ∧ ns.length < 60000 from ⟨c1, c2, c3⟩), am_s131_279]
          simp only [hx_9 w, Option.bind_some, m_need1 w hb (show (1 : Int32) ≠ 0 by decide), am_i_some, am_c_ne]
          cases b with
          | true => rw [if_neg (fun z => z rfl), if_pos rfl]
          | false =>
            rw [if_pos (by decide), if_neg (by decide)]
            have ln := h.2.1.1
            have ck : ∀ (Q : hp_P) r, (Q.2 r).1 = 60000 → hp_ck Q r (nI ns.length) = some () := fun Q r e => hp_ck_nI (by rw [e]; omega) (by omega)
            have k1 : hp_ck P 918 (nI ns.length) = some () := ck _ _ (ln 918 (by decide) (by decide))
            have k2 : ∀ v, hp_ck (hp_sA P 918 (nI ns.length) v) 919 (nI ns.length) = some () := fun v => ck _ _ (by rw [hA_len]; exact ln 919 (by decide) (by decide))
            have k3 : ∀ v u, hp_ck (hp_sA (hp_sA P 918 (nI ns.length) v) 919 (nI ns.length) u) 920 (nI ns.length) = some () := fun v u => ck _ _ (by rw [hA_len, hA_len]; exact ln 920 (by decide) (by decide))
            have k4 : ∀ v u x, hp_ck (hp_sA (hp_sA (hp_sA P 918 (nI ns.length) v) 919 (nI ns.length) u) 920 (nI ns.length) x) 921 (nI ns.length) = some () := fun v u x => ck _ _ (by rw [hA_len, hA_len, hA_len]; exact ln 921 (by decide) (by decide))
            have k5 : ∀ v u x y, hp_ck (hp_sA (hp_sA (hp_sA (hp_sA P 918 (nI ns.length) v) 919 (nI ns.length) u) 920 (nI ns.length) x) 921 (nI ns.length) y) 922 (nI ns.length) = some () := fun v u x y => ck _ _ (by rw [hA_len, hA_len, hA_len, hA_len]; exact ln 922 (by decide) (by decide))
            have k6 : ∀ v u x y z, hp_ck (hp_sA (hp_sA (hp_sA (hp_sA (hp_sA P 918 (nI ns.length) v) 919 (nI ns.length) u) 920 (nI ns.length) x) 921 (nI ns.length) y) 922 (nI ns.length) z) 923 (nI ns.length) = some () := fun v u x y z => ck _ _ (by rw [hA_len, hA_len, hA_len, hA_len, hA_len]; exact ln 923 (by decide) (by decide))
            have k7 : ∀ v u x y z t, hp_ck (hp_sA (hp_sA (hp_sA (hp_sA (hp_sA (hp_sA P 918 (nI ns.length) v) 919 (nI ns.length) u) 920 (nI ns.length) x) 921 (nI ns.length) y) 922 (nI ns.length) z) 923 (nI ns.length) t) 924 (nI ns.length) = some () := fun v u x y z t => ck _ _ (by rw [hA_len, hA_len, hA_len, hA_len, hA_len, hA_len]; exact ln 924 (by decide) (by decide))
            have k8 : ∀ v u x y z t s, hp_ck (hp_sA (hp_sA (hp_sA (hp_sA (hp_sA (hp_sA (hp_sA P 918 (nI ns.length) v) 919 (nI ns.length) u) 920 (nI ns.length) x) 921 (nI ns.length) y) 922 (nI ns.length) z) 923 (nI ns.length) t) 924 (nI ns.length) s) 925 (nI ns.length) = some () := fun v u x y z t s => ck _ _ (by rw [hA_len, hA_len, hA_len, hA_len, hA_len, hA_len, hA_len]; exact ln 925 (by decide) (by decide))
            have q9 : ∀ v u x y z t s, hp_rd (hp_sA (hp_sA (hp_sA (hp_sA (hp_sA (hp_sA (hp_sA P 918 (nI ns.length) v) 919 (nI ns.length) u) 920 (nI ns.length) x) 921 (nI ns.length) y) 922 (nI ns.length) z) 923 (nI ns.length) t) 924 (nI ns.length) s) 926 (nI c) = some ((P.2 926).2 c) := fun v u x y z t s => by
              rw [hp_rd_nI (by rw [hA_len, hA_len, hA_len, hA_len, hA_len, hA_len, hA_len, h.2.1.2.2]; exact hc) (by omega), hA_ne (by decide), hA_ne (by decide), hA_ne (by decide), hA_ne (by decide), hA_ne (by decide), hA_ne (by decide), hA_ne (by decide)]
            have k9 : ∀ v u x y z t s o, hp_ck (hp_sA (hp_sA (hp_sA (hp_sA (hp_sA (hp_sA (hp_sA (hp_sA P 918 (nI ns.length) v) 919 (nI ns.length) u) 920 (nI ns.length) x) 921 (nI ns.length) y) 922 (nI ns.length) z) 923 (nI ns.length) t) 924 (nI ns.length) s) 925 (nI ns.length) o) 926 (nI c) = some () := fun v u x y z t s o => hp_ck_nI (by rw [hA_len, hA_len, hA_len, hA_len, hA_len, hA_len, hA_len, hA_len, h.2.1.2.2]; exact hc) (by omega)
            simp only [hr_918 w, hg_917 w, h.1.1, ht_918 w, k1, Option.bind_some, hA_I, hr_919 w, ht_919 w, k2, hr_920 w, ht_920 w, k3, hr_921 w, ht_921 w, k4, hr_922 w, ht_922 w, k5, hr_923 w, ht_923 w, k6, hr_924 w, ht_924 w, k7, hr_925 w, hr_926 w, hl_926 w, q9, ht_925 w, k8, ht_926 w, k9, hs_917 w, hI_eq, nI_1, nI_pred]
            rfl
        · rw [if_pos (nI_le (show 60000 ≤ ns.length by omega) (by omega)), no, if_neg (fun z => c3 z.2.2)]
      · rw [if_pos (nI_lt (by omega) (by omega)), no, if_neg (fun z => c2 z.2.1)]
    · rw [if_pos (nI_lt (by omega) (by omega)), no, if_neg (fun z => c1 z.1)]
  -- width, height, reach
  have sub : ∀ {a : Nat} {X : qM}, ns[a]? = some X → hp_rd P 922 (nI a) = some (nI (m_fl X).length) ∧ hp_rd P 923 (nI a) = some (nI (m_ht X)) ∧ hp_rd P 924 (nI a) = some (nI (m_lo X)) ∧ (m_fl X).length ≤ 4000 ∧ m_ht X ≤ 120 ∧ m_lo X ≤ 2 ^ 30 := fun {a X} ha => by
    have hal := (List.getElem?_eq_some_iff.mp ha).1
    obtain ⟨-, s1, s2, s3, s4, s5, s6⟩ := h.2.2.2.1 a X ha
    exact ⟨by rw [h.rd (by decide) (by decide) hal, s2], by rw [h.rd (by decide) (by decide) hal, s3], by rw [h.rd (by decide) (by decide) hal, s4], s5, s6, m_lo_le s1⟩
  have mx : ∀ {a e : Nat}, a < 2 ^ 31 → e < 2 ^ 31 → ∀ {γ : Type} (F : Int32 → γ), (if nI a ≤ nI e then F (nI e) else F (nI a)) = F (nI (max a e)) := fun {a e} ha he {γ} F => by
    by_cases z : a ≤ e
    · rw [if_pos (nI_le z (by omega)), Nat.max_eq_right z]
    · rw [if_neg (nI_ge (by omega) (by omega)), Nat.max_eq_left (by omega)]
  have hR : ∀ g, 10 ≤ g → am_go B sa am_dfl (am_call B sa am_dfl am_tb (f + 1) (d + 1)) am_r131 g 19 [(0, .ref (ρ.1 9)), (1, .int q.1), (2, .int q.2.1), (3, .int q.2.2.1), (4, .int q.2.2.2), (5, .int (c4' q)), (6, .int (-1))] [] (hp_S sa ρ P) = if (m_fl M).length ≤ 4000 ∧ m_ht M ≤ 120 ∧ ns.length < 60000 then (if b = true then some (some (.int 0), hp_S sa ρ P) else some (some (.int (nI ns.length)), hp_S sa ρ (nn_P P ns.length c q (m_fl M).length (m_ht M) (m_lo M)))) else some (some (.int 0), hp_S sa ρ (hp_sI P 945 1)) := by
    intro g hg
    obtain ⟨g, rfl⟩ : ∃ k, g = k + 3 := ⟨g - 3, by omega⟩
    rw [am_s131_19, ec]
    simp only [am_c_eq, if_true, am_c_ne]
    obtain ⟨-, hk2⟩ := hk
    rcases hk2 with ⟨k, a, b', F, X, u, -, -, a3, a4, a5, a6, a7⟩ | ⟨k, b', t, Y, -, a2, a3, a4, a5⟩ | ⟨x, e, u, k, a1, a2, a3, a4⟩
    · obtain ⟨f1, f2, f3, f4, f5, f6⟩ := sub a5
      obtain ⟨x1, x2, x3, x4, x5, x6⟩ := sub a6
      have eL : (m_fl M).length = 1 + ((m_fl F).length + (m_fl X).length) := by rw [a7, m_fl_N, List.length_cons, List.length_append]; omega
      have eH : m_ht M = 1 + max (m_ht F) (m_ht X) := by rw [a7]; exact m_ht_N
      have eR : m_lo M = max (m_lo F) (m_lo X) := by rw [a7, m_lo_N, if_pos rfl]
      have FF := fin g (by omega) (by omega) (by omega)
      rw [eL, eH, eR] at FF
      rw [eL, eH, eR, k, if_pos (by decide), am_s131_104]
      simp only [am_c_ne, am_c_le]
      rw [if_neg (fun z => z rfl), a3, a4]
      simp only [hr_922 w, hl_922 w, f1, x1, hr_923 w, hl_923 w, f2, x2, Option.bind_some]
      rw [k, a3, a4] at FF
      rw [mx (by omega) (by omega) (fun y => am_go B sa am_dfl (am_call B sa am_dfl am_tb (f + 1) (d + 1)) am_r131 (g + 1) 161 [(0, .ref (ρ.1 9)), (1, .int 4), (2, .int (nI a)), (3, .int (nI b')), (4, .int q.2.2.2), (5, .int (nI c)), (6, .int (1 + (nI (m_fl F).length + nI (m_fl X).length)))] [.int y, .int 1] (hp_S sa ρ P)), am_s131_161]
      simp only [hr_924 w, hl_924 w, f3, x3, Option.bind_some, am_c_le]
      rw [mx (by omega) (by omega) (fun y => am_go B sa am_dfl (am_call B sa am_dfl am_tb (f + 1) (d + 1)) am_r131 g 249 [(0, .ref (ρ.1 9)), (1, .int 4), (2, .int (nI a)), (3, .int (nI b')), (4, .int q.2.2.2), (5, .int (nI c)), (6, .int (1 + (nI (m_fl F).length + nI (m_fl X).length))), (7, .int (1 + nI (max (m_ht F) (m_ht X)))), (8, .int y)] [] (hp_S sa ρ P))]
      rw [show (1 : Int32) = nI 1 from rfl, nI_add, nI_add, nI_add]
      exact FF
    · obtain ⟨x1, x2, x3, x4, x5, x6⟩ := sub a4
      have eL : (m_fl M).length = 1 + (m_fl Y).length := by rw [a5, m_fl_N, List.length_cons, List.length_append]; show _ + 0 + 1 = _; omega
      have eH : m_ht M = 1 + m_ht Y := by rw [a5, m_ht_N]; show 1 + max (m_ht Y) 0 = _; rw [Nat.max_eq_left (Nat.zero_le _)]
      have eR : m_lo M = m_lo Y - 1 := by rw [a5, m_lo_N, if_neg (by decide), if_pos rfl]
      have FF := fin (g + 1) (by omega) (by omega) (by omega)
      rw [eL, eH, eR, k, a3] at FF
      rw [eL, eH, eR, k, if_pos (by decide), am_s131_104]
      simp only [am_c_ne, am_c_le]
      rw [if_pos (by decide), if_neg (fun z => z rfl), a3]
      simp only [hr_922 w, hl_922 w, x1, hr_923 w, hl_923 w, x2, hr_924 w, hl_924 w, x3, Option.bind_some]
      rw [show (1 : Int32) = nI 1 from rfl, nI_add, nI_add]
      by_cases z : m_lo Y = 0
      · rw [z, if_pos (by decide)]
        rw [z] at FF
        exact FF
      · rw [if_neg (nI_nle (by omega) (by omega)), pk_sub (by omega)]
        exact FF
    · have eL : (m_fl M).length = 1 := by rw [a4, m_fl_N]; rfl
      have eH : m_ht M = 1 := by rw [a4]; rfl
      have he3 : e < 3 := by omega
      have eR : m_lo M = if e = 0 then x + 1 else 0 := by rw [a4]; exact m_lo_leaf a2 he3
      have FF := fin (g + 1) (by omega) (by omega) (by omega)
      rw [eL, eH, eR] at FF
      rw [eL, eH, eR]
      have go : ∀ y, y = (if e = 0 then nI (x + 1) else 0) → am_go B sa am_dfl (am_call B sa am_dfl am_tb (f + 1) (d + 1)) am_r131 (g + 2) 104 [(0, .ref (ρ.1 9)), (1, .int q.1), (2, .int q.2.1), (3, .int q.2.2.1), (4, .int q.2.2.2), (5, .int (nI c)), (6, .int 1), (7, .int 1)] [.int y] (hp_S sa ρ P) = am_go B sa am_dfl (am_call B sa am_dfl am_tb (f + 1) (d + 1)) am_r131 (g + 1) 249 [(0, .ref (ρ.1 9)), (1, .int q.1), (2, .int q.2.1), (3, .int q.2.2.1), (4, .int q.2.2.2), (5, .int (nI c)), (6, .int (nI 1)), (7, .int (nI 1)), (8, .int (nI (if e = 0 then x + 1 else 0)))] [] (hp_S sa ρ P) := by
        intro y hy
        rw [am_s131_104]
        simp only [am_c_ne]
        have n4 : q.1 ≠ 4 ∧ q.1 ≠ 5 := by rcases k with ⟨k, _⟩ | ⟨k, _⟩ | ⟨k, _⟩ <;> rw [k] <;> exact ⟨by decide, by decide⟩
        rw [if_pos n4.1, if_pos n4.2, hy]
        by_cases z : e = 0
        · rw [if_pos z, if_pos z]; rfl
        · rw [if_neg z, if_neg z]; rfl
      by_cases z : q.1 = 6
      · rw [if_neg (fun y => y z)]
        have ez : e = 0 := by rcases k with ⟨k, z'⟩ | ⟨k, z'⟩ | ⟨k, z'⟩ <;> first | exact z' | (rw [z] at k; exact absurd k (by decide))
        rw [go _ (by rw [if_pos ez, a1, nI_1])]
        exact FF
      · rw [if_pos z]
        have ez : e ≠ 0 := by rcases k with ⟨k, z'⟩ | ⟨k, z'⟩ | ⟨k, z'⟩ <;> first | exact absurd k z | omega
        rw [go _ (by rw [if_neg ez])]
        exact FF
  by_cases hin : M ∈ ns
  · have e3 := key.mp hin
    obtain ⟨i, i1, i2, i3⟩ := nfnd_some e3
    have hgo : am_go B sa am_dfl (am_call B sa am_dfl am_tb (f + 1) (d + 1)) am_r131 f 19 [(0, .ref (ρ.1 9)), (1, .int q.1), (2, .int q.2.1), (3, .int q.2.2.1), (4, .int q.2.2.2), (5, .int (c4' q)), (6, .int (lk (fun i => c4' (Nk P i)) (c4' q) ns.length))] [] (hp_S sa ρ P) = some (some (.int (nI i)), hp_S sa ρ P) := by
      rw [nd_find w h hR ns.length f (Nat.le_refl _) (by omega), if_pos e3, i3]
    refine ⟨P, nI i, ns, b, ⟨hgo, fun _ _ _ _ _ => rfl⟩, h, hb, mfr.rf, Or.inl ⟨rfl, ⟨i, rfl, ?_⟩, Or.inl rfl⟩⟩
    have hi' : ns[i]? = some ns[i] := List.getElem?_eq_some_iff.mpr ⟨i1, rfl⟩
    have := (h.2.2.2.1 i _ hi').1
    rw [i2] at this
    rw [nd_key.uM n31 (by omega) hk this]
    exact hi'
  · rw [nd_find w h hR ns.length f (Nat.le_refl _) (by omega), if_neg (fun z => hin (key.mpr z))]
    by_cases e4 : (m_fl M).length ≤ 4000 ∧ m_ht M ≤ 120 ∧ ns.length < 60000
    · rw [if_pos e4]
      cases b with
      | true => exact ⟨P, 0, ns, true, ⟨rfl, fun _ _ _ _ _ => rfl⟩, h, hb, mfr.rf, Or.inr ⟨rfl, rfl, rfl, Or.inl rfl⟩⟩
      | false =>
        refine ⟨_, nI ns.length, ns ++ [M], false, ⟨rfl, fun r j x y z => nn_row hc (by omega) x y z⟩, nn_ok h hk hM hin e4.2.2 e4.1 e4.2.1 hc ec, ?_, nx_nn nn_fr, Or.inl ⟨rfl, ⟨ns.length, rfl, ?_⟩, Or.inr rfl⟩⟩
        · rw [(nn_fr.1 945 rfl).1]; exact hb
        · rw [List.getElem?_append_right (Nat.le_refl _), Nat.sub_self]; rfl
    · rw [if_neg e4]
      refine ⟨_, 0, ns, true, ⟨rfl, fun _ _ _ _ _ => rfl⟩, h.cg (hI_ne (by decide)) (fun _ _ _ => rfl), hI_eq, mfr.sI (by decide), Or.inr ⟨rfl, rfl, rfl, Or.inr ?_⟩⟩
      by_cases c1 : (m_fl M).length ≤ 4000
      · by_cases c2 : m_ht M ≤ 120
        · exact Or.inr (Or.inr ⟨by omega, hin⟩)
        · exact Or.inr (Or.inl (by omega))
      · exact Or.inl (by omega)
theorem nd_node {f d : Nat} {q : nK} {M : qM} (w : hp_w B ρ) (ty : tyN P n T) (h : ndN P n T ns) (hb : P.1 945 = bI b) (hk : nd_key n T ns ns.length q M) (hM : m_wf M) (hf : 70000 ≤ f) :
    ∃ P' v ns' b', am_call B sa am_dfl am_tb f (d + 2) 131 [.ref (ρ.1 9), .int q.1, .int q.2.1, .int q.2.2.1, .int q.2.2.2] (hp_S sa ρ P) = some (some (.int v), hp_S sa ρ P') ∧ ndN P' n T ns' ∧ P'.1 945 = bI b' ∧ mfr nx_S P P' ∧ nmo b ns v b' ns' M := by
  obtain ⟨P', v, ns', b', ⟨e1, -⟩, e2⟩ := nd_node2 (sa := sa) (f := f) (d := d) w ty h hb hk hM hf
  exact ⟨P', v, ns', b', e1, e2⟩
end MO2
