/-! THE REFERENCE, 31: the terms of the axioms -/
def m_tsc (c : Int32) (t : qT) (bn : Nat) (s : qS) : qS := if s.1 == c && q_beq s.2 t then (4 * nI bn, t) else s
def m_trc (c : Int32) (t : qT) : qM → Nat → qM
  | .leaf, _ => .leaf
  | .inner k u _ l r, bn => mN (m_tsc c t bn (Int32.ofNat k, u)).1 (m_tsc c t bn (Int32.ofNat k, u)).2 (m_trc c t l (if Int32.ofNat k = -2 then bn + 1 else bn)) (m_trc c t r bn)
theorem q_beq_rf : ∀ {a : qT}, q_beq a a = true
  | .leaf _ => rfl
  | .branch c l r => by
    simp only [q_beq, Bool.and_eq_true, beq_self_eq_true, true_and]
    exact ⟨q_beq_rf, q_beq_rf⟩
theorem m_tsc_eq {c : Int32} {t : qT} {bn : Nat} {s : qS} : m_tsc c t bn s = m_ts true c t bn s := by
  unfold m_tsc m_ts
  rw [if_pos rfl]
  by_cases e : s = (c, t)
  · rw [if_pos e, if_pos (by rw [e]; simp only [beq_self_eq_true, Bool.true_and]; exact q_beq_rf)]
  · rw [if_neg e, if_neg (fun z => e ?_)]
    simp only [Bool.and_eq_true, beq_iff_eq] at z
    exact Prod.ext z.1 (q_beq_eq z.2)
theorem m_trc_eq {c : Int32} {t : qT} : ∀ {M : qM} {bn : Nat}, m_trc c t M bn = m_tr true c t M bn
  | .leaf, _ => rfl
  | .inner k u v l r, bn => by
    show mN _ _ _ _ = mN _ _ _ _
    rw [m_tsc_eq, m_trc_eq (M := l), m_trc_eq (M := r)]
def mLc (c : Int32) (t : qT) (X : qM) : qM := mN (-2) (qF t (m_ty X)) (m_trc c t X 0) .leaf
theorem mL_c {c : Int32} {t : qT} {X : qM} : mL c t X = mLc c t X := by unfold mL mLc; rw [m_trc_eq]
def tC (n : Nat) : Int32 := nI (4 * (100000000 + n) + 1)
def tN (n : Nat) (t : qT) : qM := mN (tC n) t .leaf .leaf
def tT : qM := mE (mLc (tC 0) qB (tN 0 qB)) (mLc (tC 0) qB (tN 0 qB))
def qO2 : qT := qF qB (qF qB qB)
def tA1 (p : qM) : qM := mN (-1) (qF qB qB) (tN 1 qO2) p
def tA2 (p q : qM) : qM := mN (-1) qB (tA1 p) q
def tA (p q : qM) : qM := mE (mLc (tC 1) qO2 (tA2 p q)) (mLc (tC 1) qO2 (tA2 tT tT))
def tIm (p q : qM) : qM := mE (tA p q) p
def tAl (c : Int32) (t : qT) (p : qM) : qM := mE (mLc c t p) (mLc c t tT)
def tHc (a : qT) : qM := mN (nI (4 * 1 + 2)) (qF (qF a qB) a) .leaf .leaf
def tH (a : qT) (F : qM) : qM := mN (-1) a (tHc a) F
def tS (c : Int32) (t : qT) (p : qM) : qM := mN (-1) qB (mLc c t p) (tH t (mLc c t p))
def tK (p : qM) : qM := tIm p (tAl (tC 2) qB (tN 2 qB))
def lT : List qM := [tN 0 qB, mLc (tC 0) qB (tN 0 qB), tT]
def lA (p q : qM) : List qM := lT ++ [tN 1 qO2, tA1 p, tA2 p q, mLc (tC 1) qO2 (tA2 p q), tA1 tT, tA2 tT tT, mLc (tC 1) qO2 (tA2 tT tT), tA p q]
def lI (p q : qM) : List qM := lA p q ++ [tIm p q]
def lL (c : Int32) (t : qT) (p : qM) : List qM := lT ++ [mLc c t p, mLc c t tT, tAl c t p]
def lH (a : qT) (F : qM) : List qM := [tHc a, tH a F]
def lS (c : Int32) (t : qT) (p : qM) : List qM := lH t (mLc c t p) ++ [mLc c t p, tS c t p]
def lK (p : qM) : List qM := lI p (tAl (tC 2) qB (tN 2 qB)) ++ (lL (tC 2) qB (tN 2 qB) ++ [tN 2 qB])
theorem tC_fr {n : Nat} (h : n < 100) : q_fr (tC n) := q_fr_1 (x := 100000000 + n) (by omega)
theorem tN_wf {n : Nat} {t : qT} (h : n < 100) : m_wf (tN n t) := m_wf_lf (m_lf_n (by omega) (by omega))
theorem mLc_wf {c : Int32} {t : qT} {X : qM} (hc : q_fr c) (h : m_wf X) (hh : m_ht X ≤ 1000) : m_wf (mLc c t X) := by rw [← mL_c]; exact mL_wf hc h hh
theorem mLc_ht {c : Int32} {t : qT} {X : qM} (hc : q_fr c) (h : m_wf X) (hh : m_ht X ≤ 1000) : m_ht (mLc c t X) = 1 + m_ht X := by
  unfold mLc
  rw [m_ht_N, m_trc_eq, (m_tr_b hc X h 0 (by omega)).2.2]
  show 1 + max (m_ht X) 0 = _
  rw [Nat.max_eq_left (Nat.zero_le _)]
theorem mE_ht {X Y : qM} : m_ht (mE X Y) ≤ 3 + max (m_ht X) (m_ht Y) := by
  rw [mE_eq, m_ht_N, m_ht_N, m_ht_N]
  show 1 + max (1 + max (1 + max 0 0) (m_ht X)) (m_ht Y) ≤ _
  omega
theorem tT_wf : m_wf tT := mE_wf (mLc_wf (tC_fr (by decide)) (tN_wf (by decide)) (by decide)) (mLc_wf (tC_fr (by decide)) (tN_wf (by decide)) (by decide)) rfl
theorem tT_ht : m_ht tT ≤ 10 := by
  have h1 := mLc_ht (t := qB) (tC_fr (n := 0) (by decide)) (tN_wf (t := qB) (by decide)) (show m_ht (tN 0 qB) ≤ 1000 by decide)
  have h2 : m_ht (tN 0 qB) = 1 := rfl
  have := mE_ht (X := mLc (tC 0) qB (tN 0 qB)) (Y := mLc (tC 0) qB (tN 0 qB))
  unfold tT
  omega
/-- truths: a term of truth of bounded height -/
def tB (h : Nat) (p : qM) : Prop := m_wf p ∧ m_ty p = qB ∧ m_ht p ≤ h
theorem tT_B : tB 10 tT := ⟨tT_wf, rfl, tT_ht⟩
theorem tA2_B {h : Nat} {p q : qM} (hp : tB h p) (hq : tB h q) : tB (h + 3) (tA2 p q) := by
  refine ⟨m_wf_app (m_wf_app (tN_wf (by decide)) hp.1 ?_) hq.1 ?_, rfl, ?_⟩
  · show qO2 = _
    rw [hp.2.1]; rfl
  · show qF qB qB = _
    rw [hq.2.1]
  · unfold tA2 tA1
    rw [m_ht_N, m_ht_N]
    have e : m_ht (tN 1 qO2) = 1 := rfl
    have := hp.2.2
    have := hq.2.2
    omega
theorem tA_B {h : Nat} {p q : qM} (hp : tB h p) (hq : tB h q) (h10 : 10 ≤ h) (h9 : h ≤ 900) : tB (h + 7) (tA p q) := by
  have a := tA2_B hp hq
  have b := tA2_B tT_B tT_B
  have c := tC_fr (n := 1) (by decide)
  refine ⟨mE_wf (mLc_wf c a.1 (by have := a.2.2; omega)) (mLc_wf c b.1 (by have := b.2.2; omega)) rfl, rfl, ?_⟩
  have h1 := mLc_ht (t := qO2) c a.1 (by have := a.2.2; omega)
  have h2 := mLc_ht (t := qO2) c b.1 (by have := b.2.2; omega)
  have := mE_ht (X := mLc (tC 1) qO2 (tA2 p q)) (Y := mLc (tC 1) qO2 (tA2 tT tT))
  have := a.2.2
  have := b.2.2
  unfold tA
  omega
theorem mE_B {h : Nat} {X Y : qM} (wx : m_wf X) (wy : m_wf Y) (e : m_ty Y = m_ty X) (hx : m_ht X ≤ h) (hy : m_ht Y ≤ h) : tB (h + 3) (mE X Y) := by
  refine ⟨mE_wf wx wy e, rfl, ?_⟩
  have := mE_ht (X := X) (Y := Y)
  omega
theorem tI_B {h : Nat} {p q : qM} (hp : tB h p) (hq : tB h q) (h10 : 10 ≤ h) (h9 : h ≤ 900) : tB (h + 10) (tIm p q) := by
  have a := tA_B hp hq h10 h9
  exact mE_B a.1 hp.1 (by rw [hp.2.1, a.2.1]) a.2.2 (by have := hp.2.2; omega)
theorem tL_B {h : Nat} {c : Int32} {t : qT} {p : qM} (hc : q_fr c) (hp : tB h p) (h10 : 10 ≤ h) (h9 : h ≤ 900) : tB (h + 4) (tAl c t p) := by
  have e1 := mLc_ht (t := t) hc hp.1 (by have := hp.2.2; omega)
  have e2 := mLc_ht (t := t) hc tT_wf (by have := tT_ht; omega)
  have := hp.2.2
  have := tT_ht
  exact mE_B (h := h + 1) (mLc_wf hc hp.1 (by omega)) (mLc_wf hc tT_wf (by omega)) (by unfold mLc; rw [m_ty_N, m_ty_N, hp.2.1]; rfl) (by omega) (by omega)
theorem tH_wf {a : qT} {F : qM} (hF : m_wf F) (ht : m_ty F = qF a qB) : m_wf (tH a F) := m_wf_app (m_wf_lf (m_lf_n (by decide) (by decide))) hF (by show qF (qF a qB) a = _; rw [ht])
theorem tS_B {h : Nat} {c : Int32} {t : qT} {p : qM} (hc : q_fr c) (hp : tB h p) (h10 : 10 ≤ h) (h9 : h ≤ 900) : tB (h + 3) (tS c t p) := by
  have e1 := mLc_ht (t := t) hc hp.1 (by have := hp.2.2; omega)
  have wF := mLc_wf (t := t) hc hp.1 (by have := hp.2.2; omega)
  have tF : m_ty (mLc c t p) = qF t qB := by unfold mLc; rw [m_ty_N, hp.2.1]
  refine ⟨m_wf_app wF (tH_wf wF tF) (by rw [tF]; rfl), rfl, ?_⟩
  unfold tS tH
  rw [m_ht_N, m_ht_N]
  have e : m_ht (tHc t) = 1 := rfl
  have := hp.2.2
  omega
theorem tK_B {h : Nat} {p : qM} (hp : tB h p) (h10 : 20 ≤ h) (h9 : h ≤ 900) : tB (h + 10) (tK p) := by
  have q0 : tB 10 (tN 2 qB) := ⟨tN_wf (by decide), rfl, by decide⟩
  have a := tL_B (t := qB) (tC_fr (n := 2) (by decide)) q0 (by decide) (by decide)
  exact tI_B hp ⟨a.1, a.2.1, by have := a.2.2; omega⟩ (by omega) h9
section AXK
variable {Z : Prop} {G : qT → Prop} {L : List qM} {sa : Nat → Nat} {B : Nat} {ρ : hp_L} {K K' : kS}
theorem k_lamc {f d : Nat} {c : Int32} {t : qT} {X : qM} {v x : Int32} (hc : q_fr c) (w : hp_w B ρ) (k : kz Z G L) (h : kI Z G L K) (hv : nv K v (mN c t .leaf .leaf)) (hx : nv K x X) (hX : m_wf X) (hh : m_ht X ≤ 150) (hM : mLc c t X ∈ L) (hf : 70000 ≤ f) :
    kO Z G L sa ρ K (am_call B sa am_dfl am_tb f (d + 156) 138 [.ref (ρ.1 9), .int v, .int x] (hp_S sa ρ K.1)) (mLc c t X) := by
  have := k_lam (sa := sa) (f := f) (d := d) hc w k h hv hx hX hh (by rw [mL_c]; exact hM) hf
  rw [mL_c] at this
  exact this
/-- named -/
theorem k_named {f d n : Nat} {v : Int32} {t : qT} (w : hp_w B ρ) (k : kz Z G L) (h : kI Z G L K) (hn : n < 100) (hv : tv K v t) (hM : tN n t ∈ L) (hf : 70000 ≤ f) : kO Z G L sa ρ K (am_call B sa am_dfl am_tb f (d + 4) 173 [.ref (ρ.1 9), .int (nI n), .int v] (hp_S sa ρ K.1)) (tN n t) := by
  obtain ⟨f, rfl⟩ : ∃ g, f = g + 1 := ⟨f - 1, by omega⟩
  obtain ⟨y, K1, a1, a2, a3⟩ := k_free (sa := sa) (f := f + 1) (d := d) (x := 100000000 + n) w k h hv (by omega) hM hf
  rw [am_c_173, am_s173_0]
  simp only [hx_9 w, Option.bind_some]
  rw [show (100000000 : Int32) + nI n = nI (100000000 + n) from nI_add 100000000 n, a1, am_i_some]
  exact ⟨y, K1, rfl, a2, a3⟩
/-- truth -/
theorem k_truth {f d : Nat} (w : hp_w B ρ) (k : kz Z G L) (h : kI Z G L K) (hL : ∀ X ∈ lT, X ∈ L) (hf : 70000 ≤ f) : kO Z G L sa ρ K (am_call B sa am_dfl am_tb f (d + 160) 174 [.ref (ρ.1 9)] (hp_S sa ρ K.1)) tT := by
  obtain ⟨f, rfl⟩ : ∃ g, f = g + 1 := ⟨f - 1, by omega⟩
  have m0 := hL (tN 0 qB) List.mem_cons_self
  have m1 := hL (mLc (tC 0) qB (tN 0 qB)) (List.mem_cons_of_mem _ List.mem_cons_self)
  have m2 := hL tT (List.mem_cons_of_mem _ (List.mem_cons_of_mem _ List.mem_cons_self))
  obtain ⟨v1, K1, a1, a2, a3, -⟩ := k_truths (sa := sa) (f := f + 1) (d := d + 156) w k h (by omega)
  obtain ⟨v2, K2, b1, b2, b3⟩ := k_named (sa := sa) (f := f + 1) (d := d + 155) (n := 0) w k a2.1 (by decide) a3 m0 hf
  have b1 : am_call B sa am_dfl am_tb (f + 1) (d + 159) 173 [.ref (ρ.1 9), .int 0, .int v1] (hp_S sa ρ K1.1) = _ := b1
  rw [am_c_174, am_s174_0]
  simp only [hx_9 w, Option.bind_some]
  rw [a1, am_i_some]
  simp only [hx_9 w, Option.bind_some]
  rw [b1, am_i_some]
  simp only [b2.1.bad w, Option.bind_some, am_c_eq]
  have fin : ∀ {K3 : kS} {x : Int32}, kR Z G L K K3 → nv K3 x (mLc (tC 0) qB (tN 0 qB)) → kO Z G L sa ρ K (am_i (am_call B sa am_dfl am_tb (f + 1) (d + 159) 144 [.ref (ρ.1 9), .int x, .int x] (hp_S sa ρ K3.1)) fun v5 g5 => some (some (.int v5), g5)) tT := by
    intro K3 x r hx
    obtain ⟨v5, K5, c1, c2, c3⟩ := k_equation (sa := sa) (f := f + 1) (d := d + 155) w k r.1 hx hx rfl m2 hf
    rw [c1, am_i_some]
    exact ⟨v5, K5, rfl, r.tr c2, c3⟩
  rcases bI_cases K2.2.2.2.2 with ⟨eb, e⟩ | ⟨eb, e⟩
  · rw [e, if_pos rfl]
    simp only [hx_9 w, Option.bind_some]
    obtain ⟨v3, K3, c1, c2, c3⟩ := k_lamc (sa := sa) (f := f + 1) (d := d + 3) (tC_fr (n := 0) (by decide)) w k b2.1 b3 b3 (tN_wf (by decide)) (by decide) m1 hf
    rw [c1, am_i_some]
    simp only [hx_9 w, Option.bind_some]
    exact fin ((a2.tr b2).tr c2) c3
  · rw [e, if_neg (by decide)]
    simp only [hx_9 w, Option.bind_some]
    exact fin (a2.tr b2) (nv_0 eb)
set_option maxHeartbeats 4000000 in
/-- and -/
theorem k_and {f d : Nat} {x y : Int32} {p q : qM} (w : hp_w B ρ) (k : kz Z G L) (h : kI Z G L K) (hp : tB 140 p) (hq : tB 140 q) (hx : nv K x p) (hy : nv K y q) (hL : ∀ X ∈ lA p q, X ∈ L) (hf : 70000 ≤ f) : kO Z G L sa ρ K (am_call B sa am_dfl am_tb f (d + 170) 175 [.ref (ρ.1 9), .int x, .int y] (hp_S sa ρ K.1)) (tA p q) := by
  obtain ⟨f, rfl⟩ : ∃ g, f = g + 1 := ⟨f - 1, by omega⟩
  have hLT : ∀ X ∈ lT, X ∈ L := fun X hX => hL X (List.mem_append.mpr (Or.inl hX))
  have at' : ∀ (i : Nat) {X : qM}, [tN 1 qO2, tA1 p, tA2 p q, mLc (tC 1) qO2 (tA2 p q), tA1 tT, tA2 tT tT, mLc (tC 1) qO2 (tA2 tT tT), tA p q][i]? = some X → X ∈ L := fun i {X} e => hL X (List.mem_append.mpr (Or.inr (List.mem_of_getElem? e)))
  have m0 := at' 0 rfl
  have m1 := at' 1 rfl
  have m2 := at' 2 rfl
  have m3 := at' 3 rfl
  have m4 := at' 4 rfl
  have m5 := at' 5 rfl
  have m6 := at' 6 rfl
  have m7 := at' 7 rfl
  have g0 := (k.ty m0).1
  have g1 := (k.ty m0).2 (qF qB qB) (Or.inr (Or.inr (Or.inl rfl)))
  have a2B := tA2_B hp hq
  have bB := tA2_B tT_B tT_B
  obtain ⟨v1, K1, a1, a2, a3⟩ := k_truth (sa := sa) (f := f + 1) (d := d + 9) w k h hLT hf
  rw [am_c_175, am_s175_0]
  simp only [hx_9 w, Option.bind_some]
  rw [a1, am_i_some]
  simp only [a2.1.bad w, Option.bind_some, am_c_eq]
  rcases bI_cases K1.2.2.2.2 with ⟨eb1, e⟩ | ⟨eb1, e⟩
  · rw [e, if_pos rfl]
    simp only [hx_9 w, Option.bind_some]
    obtain ⟨v3, K2, b1, b2, b3, b4⟩ := k_truths (sa := sa) (f := f + 1) (d := d + 166) w k a2.1 (by omega)
    have eb2 : K2.2.2.2.2 = false := b4.trans eb1
    rw [b1, am_i_some]
    simp only [hx_9 w, Option.bind_some]
    obtain ⟨v4, K3, c1, c2, c3⟩ := k_fun (sa := sa) (f := f + 1) (d := d + 166) w k b2.1 (b3.pl eb2) (b3.pl eb2) g1 (by omega)
    rw [c1, am_i_some]
    simp only [c2.1.bad w, Option.bind_some]
    have R3 := (a2.tr b2).tr c2
    -- with the name
    have rest : ∀ {K4 : kS} {v6 : Int32}, kR Z G L K3 K4 → tv K4 v6 qO2 → kO Z G L sa ρ K (am_i (am_call B sa am_dfl am_tb (f + 1) (d + 169) 173 [.ref (ρ.1 9), .int 1, .int v6] (hp_S sa ρ K4.1)) fun v7 g7 => (am_geti g7 (ρ.1 9) 9 45).bind fun v8 => if v8 = 0 then ((am_obj g7 (ρ.1 9) 9).bind fun _ => am_i (am_call B sa am_dfl am_tb (f + 1) (d + 169) 135 [.ref (ρ.1 9), .int v7, .int x] g7) fun v9 g9 => (am_obj g9 (ρ.1 9) 9).bind fun _ => am_i (am_call B sa am_dfl am_tb (f + 1) (d + 169) 135 [.ref (ρ.1 9), .int v9, .int y] g9) fun v10 g10 => (am_obj g10 (ρ.1 9) 9).bind fun _ => am_i (am_call B sa am_dfl am_tb (f + 1) (d + 169) 138 [.ref (ρ.1 9), .int v7, .int v10] g10) fun v11 g11 => (am_geti g11 (ρ.1 9) 9 45).bind fun v12 => if v12 = 0 then ((am_obj g11 (ρ.1 9) 9).bind fun _ => am_i (am_call B sa am_dfl am_tb (f + 1) (d + 169) 135 [.ref (ρ.1 9), .int v7, .int v1] g11) fun v13 g13 => (am_obj g13 (ρ.1 9) 9).bind fun _ => am_i (am_call B sa am_dfl am_tb (f + 1) (d + 169) 135 [.ref (ρ.1 9), .int v13, .int v1] g13) fun v14 g14 => (am_obj g14 (ρ.1 9) 9).bind fun _ => am_i (am_call B sa am_dfl am_tb (f + 1) (d + 169) 138 [.ref (ρ.1 9), .int v7, .int v14] g14) fun v15 g15 => (am_obj g15 (ρ.1 9) 9).bind fun _ => am_i (am_call B sa am_dfl am_tb (f + 1) (d + 169) 144 [.ref (ρ.1 9), .int v11, .int v15] g15) fun v16 g16 => some (some (.int v16), g16)) else (some (some (.int 0), g11))) else (some (some (.int 0), g7))) (tA p q) := by
      intro K4 v6 r4 t6
      have R4 := R3.tr r4
      obtain ⟨v7, K5, i1, i2, i3⟩ := k_named (sa := sa) (f := f + 1) (d := d + 165) (n := 1) w k r4.1 (by decide) t6 m0 hf
      have i1 : am_call B sa am_dfl am_tb (f + 1) (d + 169) 173 [.ref (ρ.1 9), .int 1, .int v6] (hp_S sa ρ K4.1) = _ := i1
      rw [i1, am_i_some]
      have R5 := R4.tr i2
      simp only [i2.1.bad w, Option.bind_some]
      rcases bI_cases K5.2.2.2.2 with ⟨eb5, e5⟩ | ⟨eb5, e5⟩
      · rw [e5, if_pos rfl]
        simp only [hx_9 w, Option.bind_some]
        obtain ⟨v9, K6, j1, j2, j3⟩ := k_apply (sa := sa) (f := f + 1) (d := d + 166) w k R5.1 i3 (hx.go R5) (u := qF qB qB) (by rw [hp.2.1]; rfl) m1 hf
        rw [j1, am_i_some]
        have R6 := R5.tr j2
        simp only [hx_9 w, Option.bind_some]
        obtain ⟨v10, K7, l1, l2, l3⟩ := k_apply (sa := sa) (f := f + 1) (d := d + 166) w k R6.1 j3 (hy.go R6) (u := qB) (by rw [hq.2.1]; rfl) m2 hf
        rw [l1, am_i_some]
        have R7 := R6.tr l2
        simp only [hx_9 w, Option.bind_some]
        obtain ⟨v11, K8, n1, n2, n3⟩ := k_lamc (sa := sa) (f := f + 1) (d := d + 13) (X := tA2 p q) (tC_fr (n := 1) (by decide)) w k R7.1 ((i3.go j2).go l2) l3 a2B.1 (by have := a2B.2.2; omega) m3 hf
        rw [n1, am_i_some]
        have R8 := R7.tr n2
        simp only [n2.1.bad w, Option.bind_some]
        rcases bI_cases K8.2.2.2.2 with ⟨eb8, e8⟩ | ⟨eb8, e8⟩
        · rw [e8, if_pos rfl]
          simp only [hx_9 w, Option.bind_some]
          have tt8 : nv K8 v1 tT := a3.go (((((b2.tr c2).tr r4).tr i2).tr j2).tr (l2.tr n2))
          have f8 : nv K8 v7 (tN 1 qO2) := ((i3.go j2).go l2).go n2
          obtain ⟨v13, K9, o1, o2, o3⟩ := k_apply (sa := sa) (f := f + 1) (d := d + 166) w k R8.1 f8 tt8 (u := qF qB qB) rfl m4 hf
          rw [o1, am_i_some]
          simp only [hx_9 w, Option.bind_some]
          obtain ⟨v14, K10, p1, p2, p3⟩ := k_apply (sa := sa) (f := f + 1) (d := d + 166) w k o2.1 o3 (tt8.go o2) (u := qB) rfl m5 hf
          rw [p1, am_i_some]
          simp only [hx_9 w, Option.bind_some]
          obtain ⟨v15, K11, q1, q2, q3⟩ := k_lamc (sa := sa) (f := f + 1) (d := d + 13) (X := tA2 tT tT) (tC_fr (n := 1) (by decide)) w k p2.1 ((f8.go o2).go p2) p3 bB.1 (by have := bB.2.2; omega) m6 hf
          rw [q1, am_i_some]
          simp only [hx_9 w, Option.bind_some]
          obtain ⟨v16, K12, s1, s2, s3⟩ := k_equation (sa := sa) (f := f + 1) (d := d + 165) w k q2.1 (((n3.go o2).go p2).go q2) q3 rfl m7 hf
          rw [s1, am_i_some]
          exact ⟨v16, K12, rfl, (((R8.tr o2).tr p2).tr q2).tr s2, s3⟩
        · rw [e8, if_neg (by decide)]
          exact ⟨0, K8, rfl, R8, nv_0 eb8⟩
      · rw [e5, if_neg (by decide)]
        exact ⟨0, K5, rfl, R5, nv_0 eb5⟩
    rcases bI_cases K3.2.2.2.2 with ⟨eb3, e3⟩ | ⟨eb3, e3⟩
    · rw [e3, if_pos rfl]
      simp only [hx_9 w, Option.bind_some]
      obtain ⟨v6, K4, i1, i2, i3⟩ := k_fun (sa := sa) (f := f + 1) (d := d + 166) w k c2.1 ((b3.go b2.1 c2).pl eb3) (c3.pl eb3) g0 (by omega)
      rw [i1, am_i_some]
      simp only [hx_9 w, Option.bind_some]
      exact rest i2 i3
    · rw [e3, if_neg (by decide)]
      simp only [hx_9 w, Option.bind_some]
      exact rest (kR.rf c2.1) (v6 := 0) (tv_0 eb3)
  · rw [e, if_neg (by decide)]
    exact ⟨0, K1, rfl, a2, nv_0 eb1⟩
/-- implies -/
theorem k_imp {f d : Nat} {x y : Int32} {p q : qM} (w : hp_w B ρ) (k : kz Z G L) (h : kI Z G L K) (hp : tB 140 p) (hq : tB 140 q) (hx : nv K x p) (hy : nv K y q) (hL : ∀ X ∈ lI p q, X ∈ L) (hf : 70000 ≤ f) : kO Z G L sa ρ K (am_call B sa am_dfl am_tb f (d + 171) 176 [.ref (ρ.1 9), .int x, .int y] (hp_S sa ρ K.1)) (tIm p q) := by
  obtain ⟨f, rfl⟩ : ∃ g, f = g + 1 := ⟨f - 1, by omega⟩
  obtain ⟨v1, K1, a1, a2, a3⟩ := k_and (sa := sa) (f := f + 1) (d := d) w k h hp hq hx hy (fun X hX => hL X (List.mem_append.mpr (Or.inl hX))) hf
  rw [am_c_176, am_s176_0]
  simp only [hx_9 w, Option.bind_some]
  rw [a1, am_i_some]
  simp only [hx_9 w, Option.bind_some]
  obtain ⟨v2, K2, b1, b2, b3⟩ := k_equation (sa := sa) (f := f + 1) (d := d + 166) w k a2.1 a3 (hx.go a2) (by rw [hp.2.1]; rfl) (hL (tIm p q) (List.mem_append.mpr (Or.inr (List.mem_singleton.mpr rfl)))) hf
  rw [b1, am_i_some]
  exact ⟨v2, K2, rfl, a2.tr b2, b3⟩
/-- all -/
theorem k_all {f d : Nat} {c : Int32} {t : qT} {v x : Int32} {p : qM} (hc : q_fr c) (w : hp_w B ρ) (k : kz Z G L) (h : kI Z G L K) (hp : tB 140 p) (hv : nv K v (mN c t .leaf .leaf)) (hx : nv K x p) (hL : ∀ X ∈ lL c t p, X ∈ L) (hf : 70000 ≤ f) : kO Z G L sa ρ K (am_call B sa am_dfl am_tb f (d + 170) 177 [.ref (ρ.1 9), .int v, .int x] (hp_S sa ρ K.1)) (tAl c t p) := by
  obtain ⟨f, rfl⟩ : ∃ g, f = g + 1 := ⟨f - 1, by omega⟩
  have hLT : ∀ X ∈ lT, X ∈ L := fun X hX => hL X (List.mem_append.mpr (Or.inl hX))
  have at' : ∀ (i : Nat) {X : qM}, [mLc c t p, mLc c t tT, tAl c t p][i]? = some X → X ∈ L := fun i {X} e => hL X (List.mem_append.mpr (Or.inr (List.mem_of_getElem? e)))
  have m0 := at' 0 rfl
  have m1 := at' 1 rfl
  have m2 := at' 2 rfl
  have ety : m_ty (mLc c t tT) = m_ty (mLc c t p) := by unfold mLc; rw [m_ty_N, m_ty_N, hp.2.1]; rfl
  -- from l on
  have rest : ∀ {K2 : kS} {l : Int32}, kR Z G L K K2 → nv K2 l (mLc c t p) → kO Z G L sa ρ K (am_i (am_call B sa am_dfl am_tb (f + 1) (d + 169) 174 [.ref (ρ.1 9)] (hp_S sa ρ K2.1)) fun v3 g3 => (am_geti g3 (ρ.1 9) 9 45).bind fun v4 => if v4 = 0 then ((am_obj g3 (ρ.1 9) 9).bind fun _ => am_i (am_call B sa am_dfl am_tb (f + 1) (d + 169) 138 [.ref (ρ.1 9), .int v, .int v3] g3) fun v5 g5 => (am_obj g5 (ρ.1 9) 9).bind fun _ => am_i (am_call B sa am_dfl am_tb (f + 1) (d + 169) 144 [.ref (ρ.1 9), .int l, .int v5] g5) fun v6 g6 => some (some (.int v6), g6)) else (some (some (.int 0), g3))) (tAl c t p) := by
    intro K2 l r hl
    obtain ⟨v3, K3, a1, a2, a3⟩ := k_truth (sa := sa) (f := f + 1) (d := d + 9) w k r.1 hLT hf
    rw [a1, am_i_some]
    simp only [a2.1.bad w, Option.bind_some]
    have R3 := r.tr a2
    rcases bI_cases K3.2.2.2.2 with ⟨eb, e⟩ | ⟨eb, e⟩
    · rw [e, if_pos rfl]
      simp only [hx_9 w, Option.bind_some]
      obtain ⟨v5, K4, b1, b2, b3⟩ := k_lamc (sa := sa) (f := f + 1) (d := d + 13) hc w k R3.1 (hv.go R3) a3 tT_wf (by have := tT_ht; omega) m1 hf
      rw [b1, am_i_some]
      simp only [hx_9 w, Option.bind_some]
      obtain ⟨v6, K5, c1, c2, c3⟩ := k_equation (sa := sa) (f := f + 1) (d := d + 165) w k b2.1 ((hl.go a2).go b2) b3 ety m2 hf
      rw [c1, am_i_some]
      exact ⟨v6, K5, rfl, (R3.tr b2).tr c2, c3⟩
    · rw [e, if_neg (by decide)]
      exact ⟨0, K3, rfl, R3, nv_0 eb⟩
  rw [am_c_177, am_s177_0]
  simp only [h.bad w, Option.bind_some, am_c_eq]
  rcases bI_cases K.2.2.2.2 with ⟨eb, e⟩ | ⟨eb, e⟩
  · rw [e, if_pos rfl]
    simp only [hx_9 w, Option.bind_some]
    obtain ⟨v2, K2, a1, a2, a3⟩ := k_lamc (sa := sa) (f := f + 1) (d := d + 13) hc w k h hv hx hp.1 (by have := hp.2.2; omega) m0 hf
    rw [a1, am_i_some]
    simp only [hx_9 w, Option.bind_some]
    have := rest a2 a3
    exact this
  · rw [e, if_neg (by decide)]
    simp only [hx_9 w, Option.bind_some]
    have := rest (kR.rf h) (nv_0 (M := mLc c t p) eb)
    exact this
/-- choiceOf -/
theorem k_choice {f d : Nat} {a : qT} {x : Int32} {F : qM} (w : hp_w B ρ) (k : kz Z G L) (h : kI Z G L K) (hx : nv K x F) (hF : m_ty F = qF a qB) (ha : a ≠ qE) (hL : ∀ X ∈ lH a F, X ∈ L) (hf : 70000 ≤ f) : kO Z G L sa ρ K (am_call B sa am_dfl am_tb f (d + 5) 178 [.ref (ρ.1 9), .int x] (hp_S sa ρ K.1)) (tH a F) := by
  obtain ⟨f, rfl⟩ : ∃ g, f = g + 1 := ⟨f - 1, by omega⟩
  have m0 := hL (tHc a) List.mem_cons_self
  have m1 := hL (tH a F) (List.mem_cons_of_mem _ List.mem_cons_self)
  rw [am_c_178, am_s178_0]
  simp only [h.bad w, Option.bind_some, am_c_eq]
  rcases bI_cases K.2.2.2.2 with ⟨eb, e⟩ | ⟨eb, e⟩
  · rw [e, if_pos rfl]
    obtain ⟨s, r1, r2⟩ := h.rdt (hx.q eb)
    rw [hF] at r2
    obtain ⟨i, i1, i2, i3, i4, i5⟩ := pl_row r2 h.wf h.n31
    have r3 := (h.rdT i1).2.1
    rw [← i2] at r3
    have pa : pl K.2.1 K.2.2.1 (K.2.2.1 i).2.1 a := pl_in ((h.wf i i1).1.mono (by omega)) i4 ha
    simp only [hr_921 w, hl_921 w, r1, hr_906 w, hl_906 w, r3, Option.bind_some, hx_9 w]
    obtain ⟨o, K1, a1, a2, a3⟩ := k_fun (sa := sa) (f := f + 1) (d := d + 1) w k h r2 pa (k.ty m0).1 (by omega)
    rw [a1, am_i_some]
    simp only [hx_9 w, Option.bind_some]
    obtain ⟨o2, K2, b1, b2, b3⟩ := k_const (sa := sa) (f := f + 1) (d := d + 1) (x := 1) w k a2.1 a3 (by decide) m0 hf
    have b1 : am_call B sa am_dfl am_tb (f + 1) (d + 4) 133 [.ref (ρ.1 9), .int 1, .int o] (hp_S sa ρ K1.1) = _ := b1
    rw [b1, am_i_some]
    simp only [hx_9 w, Option.bind_some]
    obtain ⟨o3, K3, c1, c2, c3⟩ := k_apply (sa := sa) (f := f + 1) (d := d + 1) w k b2.1 b3 ((hx.go a2).go b2) (u := a) (by rw [hF]; rfl) m1 hf
    rw [c1, am_i_some]
    exact ⟨o3, K3, rfl, (a2.tr b2).tr c2, c3⟩
  · rw [e, if_neg (by decide)]
    exact ⟨0, K, rfl, kR.rf h, nv_0 eb⟩
/-- some -/
theorem k_some {f d : Nat} {c : Int32} {t : qT} {v x : Int32} {p : qM} (hc : q_fr c) (w : hp_w B ρ) (k : kz Z G L) (h : kI Z G L K) (hp : tB 140 p) (ht : t ≠ qE) (hv : nv K v (mN c t .leaf .leaf)) (hx : nv K x p) (hL : ∀ X ∈ lS c t p, X ∈ L) (hf : 70000 ≤ f) : kO Z G L sa ρ K (am_call B sa am_dfl am_tb f (d + 170) 179 [.ref (ρ.1 9), .int v, .int x] (hp_S sa ρ K.1)) (tS c t p) := by
  obtain ⟨f, rfl⟩ : ∃ g, f = g + 1 := ⟨f - 1, by omega⟩
  have hLH : ∀ X ∈ lH t (mLc c t p), X ∈ L := fun X hX => hL X (List.mem_append.mpr (Or.inl hX))
  have m0 := hL (mLc c t p) (List.mem_append.mpr (Or.inr List.mem_cons_self))
  have m1 := hL (tS c t p) (List.mem_append.mpr (Or.inr (List.mem_cons_of_mem _ List.mem_cons_self)))
  have tF : m_ty (mLc c t p) = qF t qB := by unfold mLc; rw [m_ty_N, hp.2.1]
  have rest : ∀ {K2 : kS} {l : Int32}, kR Z G L K K2 → nv K2 l (mLc c t p) → kO Z G L sa ρ K (am_i (am_call B sa am_dfl am_tb (f + 1) (d + 169) 178 [.ref (ρ.1 9), .int l] (hp_S sa ρ K2.1)) fun v3 g3 => (am_obj g3 (ρ.1 9) 9).bind fun _ => am_i (am_call B sa am_dfl am_tb (f + 1) (d + 169) 135 [.ref (ρ.1 9), .int l, .int v3] g3) fun v4 g4 => some (some (.int v4), g4)) (tS c t p) := by
    intro K2 l r hl
    obtain ⟨v3, K3, a1, a2, a3⟩ := k_choice (sa := sa) (f := f + 1) (d := d + 164) w k r.1 hl tF ht hLH hf
    rw [a1, am_i_some]
    simp only [hx_9 w, Option.bind_some]
    obtain ⟨v4, K4, b1, b2, b3⟩ := k_apply (sa := sa) (f := f + 1) (d := d + 166) w k a2.1 (hl.go a2) a3 (u := qB) (by rw [tF]; rfl) m1 hf
    rw [b1, am_i_some]
    exact ⟨v4, K4, rfl, (r.tr a2).tr b2, b3⟩
  rw [am_c_179, am_s179_0]
  simp only [h.bad w, Option.bind_some, am_c_eq]
  rcases bI_cases K.2.2.2.2 with ⟨eb, e⟩ | ⟨eb, e⟩
  · rw [e, if_pos rfl]
    simp only [hx_9 w, Option.bind_some]
    obtain ⟨v2, K2, a1, a2, a3⟩ := k_lamc (sa := sa) (f := f + 1) (d := d + 13) hc w k h hv hx hp.1 (by have := hp.2.2; omega) m0 hf
    rw [a1, am_i_some]
    simp only [hx_9 w, Option.bind_some]
    exact rest a2 a3
  · rw [e, if_neg (by decide)]
    simp only [hx_9 w, Option.bind_some]
    exact rest (kR.rf h) (nv_0 (M := mLc c t p) eb)
/-- not -/
theorem k_not {f d : Nat} {x : Int32} {p : qM} (w : hp_w B ρ) (k : kz Z G L) (h : kI Z G L K) (hp : tB 140 p) (hx : nv K x p) (hL : ∀ X ∈ lK p, X ∈ L) (hf : 70000 ≤ f) : kO Z G L sa ρ K (am_call B sa am_dfl am_tb f (d + 172) 180 [.ref (ρ.1 9), .int x] (hp_S sa ρ K.1)) (tK p) := by
  obtain ⟨f, rfl⟩ : ∃ g, f = g + 1 := ⟨f - 1, by omega⟩
  have hI' : ∀ X ∈ lI p (tAl (tC 2) qB (tN 2 qB)), X ∈ L := fun X hX => hL X (List.mem_append.mpr (Or.inl hX))
  have hA' : ∀ X ∈ lL (tC 2) qB (tN 2 qB), X ∈ L := fun X hX => hL X (List.mem_append.mpr (Or.inr (List.mem_append.mpr (Or.inl hX))))
  have m0 := hL (tN 2 qB) (List.mem_append.mpr (Or.inr (List.mem_append.mpr (Or.inr (List.mem_singleton.mpr rfl)))))
  have q0 : tB 140 (tN 2 qB) := ⟨tN_wf (by decide), rfl, by decide⟩
  have q1 : tB 10 (tN 2 qB) := ⟨tN_wf (by decide), rfl, by decide⟩
  have aB := tL_B (t := qB) (tC_fr (n := 2) (by decide)) q1 (by decide) (by decide)
  rw [am_c_180, am_s180_0]
  simp only [hx_9 w, Option.bind_some]
  obtain ⟨v1, K1, a1, a2, a3, -⟩ := k_truths (sa := sa) (f := f + 1) (d := d + 168) w k h (by omega)
  rw [a1, am_i_some]
  simp only [hx_9 w, Option.bind_some]
  obtain ⟨v2, K2, b1, b2, b3⟩ := k_named (sa := sa) (f := f + 1) (d := d + 167) (n := 2) w k a2.1 (by decide) a3 m0 hf
  have b1 : am_call B sa am_dfl am_tb (f + 1) (d + 171) 173 [.ref (ρ.1 9), .int 2, .int v1] (hp_S sa ρ K1.1) = _ := b1
  rw [b1, am_i_some]
  simp only [hx_9 w, Option.bind_some]
  obtain ⟨v3, K3, c1, c2, c3⟩ := k_all (sa := sa) (f := f + 1) (d := d + 1) (tC_fr (n := 2) (by decide)) w k b2.1 q0 b3 b3 hA' hf
  rw [c1, am_i_some]
  simp only [hx_9 w, Option.bind_some]
  have R3 := (a2.tr b2).tr c2
  obtain ⟨v4, K4, e1, e2, e3⟩ := k_imp (sa := sa) (f := f + 1) (d := d) w k R3.1 hp ⟨aB.1, aB.2.1, by have := aB.2.2; omega⟩ (hx.go R3) c3 hI' hf
  rw [e1, am_i_some]
  exact ⟨v4, K4, rfl, R3.tr e2, e3⟩
end AXK
