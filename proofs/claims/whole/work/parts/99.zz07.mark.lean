/-! THE REFERENCE, 44: mark -/
section MK2
variable {Z : Prop} {G : qT → Prop} {L : List qM} {sa : Nat → Nat} {B : Nat} {ρ : hp_L} {K : kS} {P P' : hp_P} {nk nt t k : Nat} {M : qM}
theorem wrm_w {r lo b : Nat} (h : lo ≤ b) : wrm P r lo b = hp_sA P r (nI b) 0 := by
  unfold wrm
  rw [if_neg (by omega)]
theorem mk_loop {cl : am_F} (w : hp_w B ρ) (h : kI Z G L K) (hnt : nt ≤ K.2.1) : ∀ (m k f : Nat) (P : hp_P), k - nk = m → nk ≤ k → k ≤ K.2.2.2.1.length → mfr im_S K.1 P → mkI K nk nt t M k P → 3 * m + 3 ≤ f →
    ∃ f' P', f ≤ f' + 3 * m ∧ am_go B sa am_dfl cl am_r199 f 72 [(0, .ref (ρ.1 9)), (2, .int (nI nk)), (3, .int (nI nt)), (5, .int (nI k - 1))] [] (hp_S sa ρ P) = am_go B sa am_dfl cl am_r199 f' 72 [(0, .ref (ρ.1 9)), (2, .int (nI nk)), (3, .int (nI nt)), (5, .int (nI nk - 1))] [] (hp_S sa ρ P') ∧ mfr im_S P P' ∧ mkI K nk nt t M nk P' := by
  intro m
  induction m with
  | zero =>
    intro k f P hm h1 h2 fr hk hf
    have : k = nk := by omega
    subst this
    exact ⟨f, P, by omega, rfl, mfr.rf, hk⟩
  | succ m ih =>
    intro k f P hm h1 h2 fr hk hf
    obtain ⟨i, rfl⟩ : ∃ i, k = i + 1 := ⟨k - 1, by omega⟩
    have hi : K.2.2.2.1[i]? = some K.2.2.2.1[i] := List.getElem?_eq_getElem (by omega)
    obtain ⟨f1, P1, g1, g2, g3, g4⟩ := mk_step (sa := sa) (cl := cl) w h hi fr hk (by omega) hnt f (by omega)
    obtain ⟨f2, P2, k1, k2, k3, k4⟩ := ih i f1 P1 (by omega) (by omega) (by omega) (fr.tr g3) g4 (by omega)
    exact ⟨f2, P2, by omega, by rw [nI_pred, g2, k2], g3.tr k3, k4⟩
theorem i_m1_lt {x : Nat} (h : x < 2 ^ 31) : (-1 : Int32) < nI x := Int32.lt_of_lt_of_le (by decide) (Int32.not_lt.mp (nI_pos h))
theorem mkT.up {b : Nat} (h : mkT K nt k P) (hb : b < 2 ^ 31) (hk : b < k) : mkT K nt k (wrm P 912 nt b) := by
  have mo := wrm_M (P := P) (lo := nt) hb (Or.inl rfl)
  intro i a c e g
  rw [wrm_at hb, if_neg (by omega)] at g
  obtain ⟨z1, z2⟩ := h i a c e g
  exact ⟨fun b' x y z => mo.2 _ (z1 b' x y z), fun b' x y z => mo.2 _ (z2 b' x y z)⟩
theorem mkT.dn {i : Nat} (h : mkT K nt (i + 1) P) (c : (P.2 912).2 i ≠ -1 → (∀ b, (K.2.2.1 i).2.1 = nI b → nt ≤ b → b < K.2.1 → (P.2 912).2 b ≠ -1) ∧ ∀ b, (K.2.2.1 i).2.2 = nI b → nt ≤ b → b < K.2.1 → (P.2 912).2 b ≠ -1) : mkT K nt i P := by
  intro l a b e g
  by_cases z : l = i
  · rw [z] at g ⊢; exact c g
  · exact h l a (by omega) e g
set_option maxHeartbeats 4000000 in
/-- one type -/
theorem mk_stepT {cl : am_F} {i : Nat} (w : hp_w B ρ) (h : kI Z G L K) (hi : i < K.2.1) (fr : mfr im_S K.1 P) (hm : mkI K nk nt t M nk P) (hT : mkT K nt (i + 1) P) (hk : nt ≤ i) : ∀ f, 1 ≤ f →
    ∃ f' P', f ≤ f' + 1 ∧ am_go B sa am_dfl cl am_r199 f 247 [(0, .ref (ρ.1 9)), (3, .int (nI nt)), (5, .int (nI i))] [] (hp_S sa ρ P) = am_go B sa am_dfl cl am_r199 f' 247 [(0, .ref (ρ.1 9)), (3, .int (nI nt)), (5, .int (nI i - 1))] [] (hp_S sa ρ P') ∧ mfr im_S P P' ∧ mkI K nk nt t M nk P' ∧ mkT K nt i P' := by
  intro f hf
  obtain ⟨f, rfl⟩ : ∃ g, f = g + 1 := ⟨f - 1, by omega⟩
  have n8 := h.1.1.2
  obtain ⟨-, r1, r2⟩ := h.rdT hi
  have rr : ∀ {Q : hp_P} {r : Nat}, mfr im_S P Q → r ≠ 912 → r ≠ 927 → Q.2 r = K.1.2 r := fun {Q r} g a b => (im_k g a b).2.trans (im_k fr a b).2
  have q1 : ∀ {Q : hp_P}, mfr im_S P Q → hp_rd Q 906 (nI i) = some (K.2.2.1 i).2.1 := fun {Q} g => by rw [hp_rd_c1 (rr g (by decide) (by decide))]; exact r1
  have q2 : ∀ {Q : hp_P}, mfr im_S P Q → hp_rd Q 907 (nI i) = some (K.2.2.1 i).2.2 := fun {Q} g => by rw [hp_rd_c1 (rr g (by decide) (by decide))]; exact r2
  have q12 : hp_rd P 912 (nI i) = some ((P.2 912).2 i) := hp_rd_nI (by rw [fr.2 912, h.1.2.1.2.1]; omega) (by omega)
  have ckt : ∀ {Q : hp_P} {b : Nat}, mfr im_S P Q → b < 9000 → hp_ck Q 912 (nI b) = some () := fun {Q b} g hb => hp_ck_nI (by rw [g.2 912, fr.2 912, h.1.2.1.2.1]; omega) (by omega)
  rw [am_s199_247]
  simp only [am_c_lt, am_c_ne, hr_912 w, hl_912 w, q12, Option.bind_some, i_addm1]
  rw [if_neg (nI_nlt (by omega) (by omega))]
  by_cases um : (P.2 912).2 i = -1
  · rw [if_neg (fun z => z um)]
    exact ⟨f, P, by omega, rfl, mfr.rf, hm, hT.dn fun z => absurd um z⟩
  · rw [if_pos um]
    have hq := hm.2.2.2.1 i hk hi um
    obtain ⟨w1, w2⟩ := h.wf i hi
    have hct := ct_at h.wf h.n31 hi
    have ee : ∀ {b b' : Nat}, b < 2 ^ 31 → b' < 2 ^ 31 → nI b = nI b' → b = b' := fun x y z => (nI_eq x y).mp z
    have sub : ∀ {u : qT}, q_sub u (ct K.2.2.1 K.2.1 (nI i)) → q_of [M] u := fun {u} hu => by
      obtain ⟨X, hX, s, hs, hq⟩ := hq
      exact ⟨X, hX, s, hs, q_sub_tr hu _ hq⟩
    have subL : ∀ {l : Nat}, l < i → (K.2.2.1 i).2.1 = nI l → q_of [M] (ct K.2.2.1 K.2.1 (nI l)) := fun {l} hl e => sub (by
      rw [hct, e, q_sub_N]; exact Or.inr (Or.inl (q_sub_self (ct_ne h.wf h.n31 (by omega)))))
    have subR : ∀ {l : Nat}, l < i → (K.2.2.1 i).2.2 = nI l → q_of [M] (ct K.2.2.1 K.2.1 (nI l)) := fun {l} hl e => sub (by
      rw [hct, e, q_sub_N]; exact Or.inr (Or.inr (q_sub_self (ct_ne h.wf h.n31 (by omega)))))
    have ext : ∀ {v : Int32}, (v = -1 ∨ ∃ l, l < i ∧ v = nI l) → (v < nI nt ∧ ∀ b, v = nI b → nt ≤ b → b < K.2.1 → False) ∨ (¬ v < nI nt ∧ ∃ l, l < i ∧ v = nI l ∧ nt ≤ l) := fun {v} hv => by
      rcases hv with z | ⟨l, hl, z⟩
      · exact Or.inl ⟨by rw [z]; exact i_m1_lt (by omega), fun b y _ y2 => nI_ne_m1 (by omega) (y.symm.trans z)⟩
      · by_cases e : l < nt
        · refine Or.inl ⟨by rw [z]; exact nI_lt e (by omega), fun b y1 y2 y3 => ?_⟩
          have := ee (by omega) (by omega) (z.symm.trans y1)
          omega
        · exact Or.inr ⟨by rw [z]; exact nI_nlt (by omega) (by omega), l, hl, z, by omega⟩
    simp only [hr_906 w, hl_906 w, q1 mfr.rf, hr_907 w, hl_907 w, q2 mfr.rf, Option.bind_some]
    rcases ext w1 with ⟨e1, x1⟩ | ⟨e1, l, hl, el, nl⟩
    · rw [if_pos e1]
      rcases ext w2 with ⟨e2, x2⟩ | ⟨e2, r, hr, er, nr⟩
      · rw [if_pos e2]
        exact ⟨f, P, by omega, rfl, mfr.rf, hm, hT.dn fun _ => ⟨fun b y1 y2 y3 => (x1 b y1 y2 y3).elim, fun b y1 y2 y3 => (x2 b y1 y2 y3).elim⟩⟩
      · have ck := ckt (Q := P) (b := r) mfr.rf (by omega)
        rw [if_neg e2, er]
        simp only [ht_912 w, ck, Option.bind_some]
        rw [← wrm_w nr]
        refine ⟨f, _, by omega, rfl, wrm_fr rfl, hm.T (by omega) (subR hr er), (hT.up (by omega) (by omega)).dn fun _ => ⟨fun b y1 y2 y3 => (x1 b y1 y2 y3).elim, fun b y1 y2 y3 => ?_⟩⟩
        rw [← ee (by omega) (by omega) (er.symm.trans y1)]
        exact wrm_self (by omega) nr
    · have ck := ckt (Q := P) (b := l) mfr.rf (by omega)
      have f1 : mfr im_S P (hp_sA P 912 (nI l) 0) := mfr.sA rfl
      rw [if_neg e1, el]
      simp only [ht_912 w, ck, Option.bind_some, hr_907 w, hl_907 w, q2 f1]
      have m1 := hm.T (b := l) (by omega) (subL hl el)
      have t1 := hT.up (b := l) (by omega) (by omega)
      rw [wrm_w nl] at m1 t1
      have s1 : ((hp_sA P 912 (nI l) 0).2 912).2 l ≠ -1 := by rw [← wrm_w nl]; exact wrm_self (by omega) nl
      rcases ext w2 with ⟨e2, x2⟩ | ⟨e2, r, hr, er, nr⟩
      · rw [if_pos e2]
        refine ⟨f, _, by omega, rfl, f1, m1, t1.dn fun _ => ⟨fun b y1 y2 y3 => ?_, fun b y1 y2 y3 => (x2 b y1 y2 y3).elim⟩⟩
        rw [← ee (by omega) (by omega) (el.symm.trans y1)]
        exact s1
      · have ck2 := ckt (Q := hp_sA P 912 (nI l) 0) (b := r) f1 (by omega)
        rw [if_neg e2, er]
        simp only [hr_912 w, ht_912 w, ck2, Option.bind_some]
        rw [← wrm_w (P := hp_sA P 912 (nI l) 0) nr]
        refine ⟨f, _, by omega, rfl, f1.tr (wrm_fr rfl), m1.T (by omega) (subR hr er), (t1.up (by omega) (by omega)).dn fun _ => ⟨fun b y1 y2 y3 => ?_, fun b y1 y2 y3 => ?_⟩⟩
        · rw [← ee (by omega) (by omega) (el.symm.trans y1)]
          exact (wrm_M (by omega) (Or.inl rfl)).2 _ s1
        · rw [← ee (by omega) (by omega) (er.symm.trans y1)]
          exact wrm_self (by omega) nr
theorem mk_loopT {cl : am_F} (w : hp_w B ρ) (h : kI Z G L K) : ∀ (m k f : Nat) (P : hp_P), k - nt = m → nt ≤ k → k ≤ K.2.1 → mfr im_S K.1 P → mkI K nk nt t M nk P → mkT K nt k P → m + 1 ≤ f →
    ∃ P', am_go B sa am_dfl cl am_r199 f 247 [(0, .ref (ρ.1 9)), (3, .int (nI nt)), (5, .int (nI k - 1))] [] (hp_S sa ρ P) = some (none, hp_S sa ρ P') ∧ mfr im_S P P' ∧ mkI K nk nt t M nk P' ∧ mkT K nt nt P' := by
  have n8 := h.1.1.2
  intro m
  induction m with
  | zero =>
    intro k f P hm h1 h2 fr hk hT hf
    obtain ⟨f, rfl⟩ : ∃ g, f = g + 1 := ⟨f - 1, by omega⟩
    have : k = nt := by omega
    subst this
    rw [am_s199_247]
    simp only [am_c_lt]
    rw [if_pos (by rw [nI_m1_lt (by omega) (by omega)]; exact Nat.le_refl _)]
    exact ⟨P, rfl, mfr.rf, hk, hT⟩
  | succ m ih =>
    intro k f P hm h1 h2 fr hk hT hf
    obtain ⟨i, rfl⟩ : ∃ i, k = i + 1 := ⟨k - 1, by omega⟩
    obtain ⟨f1, P1, g1, g2, g3, g4, g5⟩ := mk_stepT (sa := sa) (cl := cl) w h (by omega) fr hk hT (by omega) f (by omega)
    obtain ⟨P2, k2, k3, k4, k5⟩ := ih i f1 P1 (by omega) (by omega) (by omega) (fr.tr g3) g4 g5 (by omega)
    exact ⟨P2, by rw [nI_pred, g2, k2], g3.tr k3, k4, k5⟩
/-- mark -/
theorem m_mark {f d : Nat} (w : hp_w B ρ) (h : kI Z G L K) (hP : mfr im_S K.1 P) (hnt : nt ≤ K.2.1) (hnk : nk ≤ K.2.2.2.1.length) (ht : K.2.2.2.1[t]? = some M) (hf : 300000 ≤ f) :
    ∃ P', am_call B sa am_dfl am_tb f (d + 1) 199 [.ref (ρ.1 9), .int (nI t), .int (nI nk), .int (nI nt)] (hp_S sa ρ P) = some (none, hp_S sa ρ P') ∧ mfr im_S P P' ∧ mkI K nk nt t M nk P' ∧ mkT K nt nt P' := by
  obtain ⟨f, rfl⟩ : ∃ g, f = g + 1 := ⟨f - 1, by omega⟩
  have l6 := h.2.1.1.2
  have n8 := h.1.1.2
  have tl := (List.getElem?_eq_some_iff.mp ht).1
  have e17 : P.1 917 = nI K.2.2.2.1.length := by rw [(im_k hP (by decide) (by decide)).1]; exact h.2.1.1.1
  have e04 : P.1 904 = nI K.2.1 := by rw [(im_k hP (by decide) (by decide)).1]; exact h.1.1.1
  rw [am_c_199, am_s199_0]
  simp only [hg_917 w, e17, Option.bind_some]
  obtain ⟨f1, P1, a1, a2, a3, a4, a5, a6⟩ := mk_fill1 (sa := sa) (cl := am_call B sa am_dfl am_tb (f + 1) d) (nt := nt) w l6 (show t < 60000 by omega) _ nk f P rfl hnk (by rw [hP.2 927]; exact h.2.1.2.1.2.1) (by omega)
  rw [a2]
  obtain ⟨f2, P2, b1, b2, b3, b4, b5, b6⟩ := mk_fill2 (sa := sa) (cl := am_call B sa am_dfl am_tb (f + 1) d) (len := K.2.2.2.1.length) (nk := nk) w n8 _ nt f1 P1 rfl hnt (by rw [a4]; exact e04) (by rw [a5, hP.2 912]; exact h.1.2.1.2.1) (by omega)
  rw [b2]
  have fr2 : mfr im_S K.1 P2 := (hP.tr a3).tr b3
  have i0 : mkI K nk nt t M K.2.2.2.1.length P2 := by
    refine ⟨fun i x y => ?_, fun i x y => ?_, fun i X x y z => ?_, fun i x y z => ?_, fun x => ?_, fun i x y z => by omega⟩
    · rw [b5, a6, if_pos ⟨x, y⟩]
      split
      · exact Or.inr rfl
      · exact Or.inl rfl
    · rw [b6, if_pos ⟨x, y⟩]; exact Or.inl rfl
    · have yl := (List.getElem?_eq_some_iff.mp y).1
      rw [b5, a6, if_pos ⟨x, yl⟩] at z
      by_cases e : i = t
      · rw [e, ht] at y
        rw [← Option.some.inj y]
        exact m_sub_self (h.row ht).2.1
      · rw [if_neg e] at z; exact absurd rfl z
    · rw [b6, if_pos ⟨x, y⟩] at z; exact absurd rfl z
    · rw [b5, a6, if_pos ⟨x, tl⟩, if_pos rfl]; exact i0_ne
  obtain ⟨f3, P3, c1, c2, c3, c4⟩ := mk_loop (sa := sa) (cl := am_call B sa am_dfl am_tb (f + 1) d) w h hnt _ _ f2 P2 rfl hnk (Nat.le_refl _) fr2 i0 (by omega)
  rw [c2]
  obtain ⟨f3, rfl⟩ : ∃ g, f3 = g + 1 := ⟨f3 - 1, by omega⟩
  have fr3 := fr2.tr c3
  have e04' : P3.1 904 = nI K.2.1 := by rw [(im_k fr3 (by decide) (by decide)).1]; exact h.1.1.1
  rw [am_s199_72]
  simp only [am_c_lt, hg_904 w, e04', Option.bind_some]
  rw [if_pos (by rw [nI_m1_lt (by omega) (by omega)]; exact Nat.le_refl _)]
  obtain ⟨P4, d2, d3, d4, d5⟩ := mk_loopT (sa := sa) (cl := am_call B sa am_dfl am_tb (f + 1) d) w h _ K.2.1 f3 P3 rfl hnt (Nat.le_refl _) fr3 c4 (fun i x y z => by omega) (by omega)
  exact ⟨P4, d2, ((a3.tr b3).tr c3).tr d3, d4, d5⟩
end MK2
