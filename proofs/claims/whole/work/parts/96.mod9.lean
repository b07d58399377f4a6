/-! THE REFERENCE, 9: what an entry comes to; entries kept -/
def dx_S : Nat → Bool := fun r => decide (904 ≤ r ∧ r ≤ 952 ∧ r ≠ 944 ∧ ¬ (938 ≤ r ∧ r ≤ 942))
def dW_S : Nat → Bool := fun r => decide (904 ≤ r ∧ r ≤ 952 ∧ r ≠ 944)
theorem mfr.W {P P' : hp_P} (h : mfr dx_S P P') : mfr dW_S P P' := h.up fun r k => by
  have := of_decide_eq_false k
  exact decide_eq_false (by omega)
theorem kx_dx {r : Nat} (h : dx_S r = false) : kx_S r = false := by
  have := of_decide_eq_false h
  unfold kx_S tn_S nn_S
  rw [decide_eq_false (by omega), decide_eq_false (by omega), decide_eq_false (by omega)]; rfl
/-- no entry of this kind will do -/
def Zc (S : qT → Prop) (A : sV) (k : Nat) (wr : List Int32) : Prop := ¬ ∃ Lc S' A', aL A.2.2.2.1 k wr Lc ∧ Lc ≤ wr.length ∧ aE S A k wr S' A'
/-- the reference between entries -/
def kJ (S : qT → Prop) (A : sV) (K : kS) : Prop := kI False S K.2.2.2.1 K ∧ rI A K ∧ ct_S K.2.2.1 K.2.1 = S ∧ K.2.2.2.1.length ≤ 2 * m_tot (sq_rows A.1) + A.2.2.2.2.2.2.length
/-- that can be led back -/
def kU (A : sV) (K0 K : kS) : Prop := kI True (fun _ => True) K.2.2.2.1 K ∧ rI A K ∧ ty_xt K0.2.1 K0.2.2.1 K.2.1 K.2.2.1 ∧ ∃ q, K.2.2.2.1 = K0.2.2.2.1 ++ q
def eO (sa : Nat → Nat) (ρ : hp_L) (S : qT → Prop) (A : sV) (k fr : Nat) (wr : List Int32) (K0 : kS) (x : Option (Option Value × am_S)) : Prop :=
  ∃ K', x = some (none, hp_S sa ρ K'.1) ∧ mfr dW_S K0.1 K'.1 ∧
    ((∃ Lc S' A', aL A.2.2.2.1 k wr Lc ∧ Lc ≤ wr.length ∧ aE S A k wr S' A' ∧ kJ S' A' K' ∧ K'.1.1 949 = nI (fr + Lc)) ∨ (K'.2.2.2.2 = true ∧ Zc S A k wr ∧ kU A K0 K' ∧ mfr dx_S K0.1 K'.1))
section EO
variable {Z : Prop} {G : qT → Prop} {L : List qM} {sa : Nat → Nat} {B : Nat} {ρ : hp_L} {K K' K0 : kS} {A : sV} {S : qT → Prop} {k fr : Nat} {wr : List Int32}
theorem kI.wk (h : kI Z G L K) : kI True (fun _ => True) K.2.2.2.1 K := ⟨h.1, h.2.1, h.2.2.1, fun _ => True.intro, fun _ _ => True.intro, fun _ hX => hX, h.2.2.2.2.2.2⟩
theorem kI.gd (h : kI Z G L K) (hb : K.2.2.2.2 = false) : kI False (ct_S K.2.2.1 K.2.1) K.2.2.2.1 K := by
  refine ⟨h.1, h.2.1, h.2.2.1, fun z => ?_, fun _ z => z, fun _ hX => hX, h.2.2.2.2.2.2⟩
  rw [hb] at z; cases z
theorem kI.mono {Z' : Prop} {G' : qT → Prop} {L' : List qM} (h : kI Z G L K) (hZ : Z → Z') (hG : ∀ t, G t → G' t) (hL : ∀ X ∈ L, X ∈ L') : kI Z' G' L' K := ⟨h.1, h.2.1, h.2.2.1, fun z => hZ (h.2.2.2.1 z), fun t ht => hG t (h.2.2.2.2.1 t ht), fun X hX => hL X (h.2.2.2.2.2.1 X hX), h.2.2.2.2.2.2⟩
theorem kI.le (h : kI Z G L K) : K.2.2.2.1.length ≤ L.length := nodup_sub h.2.1.2.2.1 h.2.2.2.2.2.1
/-- nodes: their types and parts are there -/
theorem kI.cl (h : kI Z G L K) : ∀ (j : Nat) (X : qM), K.2.2.2.1[j]? = some X → (∀ t, q_of [X] t → ct_S K.2.2.1 K.2.1 t) ∧ (∀ Y, m_sub Y X → Y ∈ K.2.2.2.1) ∧ m_ty X ≠ qE := by
  intro j
  induction j using Nat.strongRecOn with
  | ind j ih =>
    intro X hX
    obtain ⟨⟨k1, k2⟩, -⟩ := h.row hX
    have tS : ∀ t, q_sub t (m_ty X) → ct_S K.2.2.1 K.2.1 t := fun t ht => ct_S_sub h.wf h.n31 k1.S ht
    have ne : m_ty X ≠ qE := fun z => by
      rw [z] at k1
      obtain ⟨a, a1, a2, a3⟩ := k1
      rw [a2] at a3
      exact ct_ne h.wf h.n31 a1 a3
    have mem : X ∈ K.2.2.2.1 := List.mem_of_getElem? hX
    rcases k2 with ⟨-, a, b, F, Y, u, ha, hb, -, -, a5, a6, a7⟩ | ⟨-, b, t, Y, hb, -, -, a4, a5⟩ | ⟨x, e, u, -, -, -, -, a4⟩
    · obtain ⟨f1, f2, -⟩ := ih a ha F a5
      obtain ⟨g1, g2, -⟩ := ih b hb Y a6
      subst a7
      refine ⟨fun t ht => ?_, fun W hW => ?_, ne⟩
      · rcases q_of_1.mp ht with z | z | z
        · exact tS t z
        · exact f1 t z
        · exact g1 t z
      · rcases hW with z | z | z
        · rw [z]; exact mem
        · exact f2 W z
        · exact g2 W z
    · obtain ⟨f1, f2, -⟩ := ih b hb Y a4
      subst a5
      refine ⟨fun s hs => ?_, fun W hW => ?_, ne⟩
      · rcases q_of_1.mp hs with z | z | z
        · exact tS s z
        · exact f1 s z
        · exact absurd z q_of_lf
      · rcases hW with z | z | z
        · rw [z]; exact mem
        · exact f2 W z
        · exact z.elim
    · subst a4
      refine ⟨fun s hs => ?_, fun W hW => ?_, ne⟩
      · rcases q_of_1.mp hs with z | z | z
        · exact tS s z
        · exact absurd z q_of_lf
        · exact absurd z q_of_lf
      · rcases hW with z | z | z
        · rw [z]; exact mem
        · exact z.elim
        · exact z.elim
theorem kI.ty (h : kI Z G L K) {v : Int32} {M : qM} (hv : nq K v M) {t : qT} (ht : q_of [M] t) : ct_S K.2.2.1 K.2.1 t := by
  obtain ⟨i, -, -, hi⟩ := hv
  exact (h.cl i M hi).1 t ht
/-- the limits, with the terms of Q more -/
theorem kz_add {G0 : qT → Prop} {L0 Q : List qM} {Z0 : Prop} (h : kI Z0 G0 L0 K) (hg : ¬ q_good G → Z) (hS : ∀ t, ct_S K.2.2.1 K.2.1 t → G t) (hl : 60000 < K.2.2.2.1.length + Q.length → Z) (hQ : ∀ X ∈ Q, (m_wf X ∧ m_ty X ≠ qE) ∧ (4000 < (m_fl X).length → Z) ∧ (120 < m_ht X → Z) ∧ (∀ t, q_of [X] t → G t) ∧ ∀ Y, m_sub Y X → Y ∈ K.2.2.2.1 ++ Q) : kz Z G (K.2.2.2.1 ++ Q) := by
  refine ⟨hg, by rw [List.length_append]; exact hl, fun X hX => ?_⟩
  rcases List.mem_append.mp hX with z | z
  · obtain ⟨j, hj, e⟩ := List.mem_iff_getElem.mp z
    have hj' : K.2.2.2.1[j]? = some X := List.getElem?_eq_some_iff.mpr ⟨hj, e⟩
    obtain ⟨-, r1, -, -, -, r2, r3⟩ := h.row hj'
    obtain ⟨c1, c2, c3⟩ := h.cl j X hj'
    exact ⟨⟨r1, c3⟩, fun z => by omega, fun z => by omega, fun t ht => hS t (c1 t ht), fun Y hY => List.mem_append.mpr (Or.inl (c2 Y hY))⟩
  · exact hQ X z
theorem kI.to {Z' : Prop} {G' : qT → Prop} {Q : List qM} (h : kI Z G L K) (hb : K.2.2.2.2 = false) (hS : ∀ t, ct_S K.2.2.1 K.2.1 t → G' t) : kI Z' G' (K.2.2.2.1 ++ Q) K := by
  refine ⟨h.1, h.2.1, h.2.2.1, fun z => ?_, hS, fun X hX => List.mem_append.mpr (Or.inl hX), h.2.2.2.2.2.2⟩
  rw [hb] at z; cases z
theorem kR.dx {K K' : kS} (r : kR Z G L K K') : mfr dx_S K.1 K'.1 := r.2.1.up fun _ h => kx_dx h
theorem kP.dx {p : Nat} {b : Bool} : mfr dx_S K.1 (kP K p b).1 := (mfr.sI (r := 949) rfl).tr (mfr.sI (r := 945) rfl)
theorem eO.bad (hZ : Zc S A k wr) (h : kI Z G L K') (hr : rI A K') (hx : ty_xt K0.2.1 K0.2.2.1 K'.2.1 K'.2.2.1) (hq : ∃ q, K'.2.2.2.1 = K0.2.2.2.1 ++ q) (hf : mfr dx_S K0.1 K'.1) (hb : K'.2.2.2.2 = true) : eO sa ρ S A k fr wr K0 (some (none, hp_S sa ρ K'.1)) := ⟨K', rfl, hf.W, Or.inr ⟨hb, hZ, ⟨h.wk, hr, hx, hq⟩, hf⟩⟩
theorem eO.bad1 {p : Nat} (hZ : Zc S A k wr) (h : kI Z G L K0) (hr : rI A K0) : eO sa ρ S A k fr wr K0 (some (none, hp_S sa ρ (kP K0 p true).1)) :=
  eO.bad (K' := kP K0 p true) (Z := True) (G := G) (L := L) hZ (kP.I (h.mono (fun _ => True.intro) (fun _ z => z) (fun _ z => z)) fun _ => True.intro) (kP.r hr h) ty_xt.rf ⟨[], (List.append_nil _).symm⟩ kP.dx rfl
/-- a type kept -/
def keT (K : kS) (m : Nat) (v : Int32) : kS := (hp_sI (hp_sA K.1 930 (nI m) v) 928 (nI (m + 1)), K.2)
def keM (K : kS) (m : Nat) (v : Int32) : kS := (hp_sI (hp_sA K.1 931 (nI m) v) 929 (nI (m + 1)), K.2)
theorem k_keepT {f d m : Nat} {v : Int32} (w : hp_w B ρ) (hb : K.1.1 945 = bI false) (e : K.1.1 928 = nI m) (hm : m < 8000) (hl : (K.1.2 930).1 = 8000) : am_call B sa am_dfl am_tb (f + 1) (d + 2) 152 [.ref (ρ.1 9), .int v] (hp_S sa ρ K.1) = some (none, hp_S sa ρ (keT K m v).1) := by
  rw [am_c_152, am_s152_0]
  have ck : hp_ck K.1 930 (nI m) = some () := hp_ck_nI (by rw [hl]; exact hm) (by omega)
  simp only [hg_928 w, e, Option.bind_some, am_c_ge, am_c_ne]
  rw [if_neg (show ¬ (8000 : Int32) ≤ nI m from nI_ge (a := m) (b := 8000) hm (by decide))]
  simp only [hx_9 w, Option.bind_some]
  rw [m_need1 w hb (by decide), am_i_some, if_pos (by decide)]
  simp only [hr_930 w, hg_928 w, e, ht_930 w, ck, hA_I, hs_928 w, Option.bind_some, nI_1]
  rfl
theorem k_keepM {f d m : Nat} {v : Int32} (w : hp_w B ρ) (hb : K.1.1 945 = bI false) (e : K.1.1 929 = nI m) (hm : m < 16000) (hl : (K.1.2 931).1 = 16000) : am_call B sa am_dfl am_tb (f + 1) (d + 2) 153 [.ref (ρ.1 9), .int v] (hp_S sa ρ K.1) = some (none, hp_S sa ρ (keM K m v).1) := by
  rw [am_c_153, am_s153_0]
  have ck : hp_ck K.1 931 (nI m) = some () := hp_ck_nI (by rw [hl]; exact hm) (by omega)
  simp only [hg_929 w, e, Option.bind_some, am_c_ge, am_c_ne]
  rw [if_neg (show ¬ (16000 : Int32) ≤ nI m from nI_ge (a := m) (b := 16000) hm (by decide))]
  simp only [hx_9 w, Option.bind_some]
  rw [m_need1 w hb (by decide), am_i_some, if_pos (by decide)]
  simp only [hr_931 w, hg_929 w, e, ht_931 w, ck, hA_I, hs_929 w, Option.bind_some, nI_1]
  rfl
theorem k_keepT_bad {f d : Nat} {v : Int32} (w : hp_w B ρ) (hb : K.1.1 945 = bI true) : am_call B sa am_dfl am_tb (f + 1) (d + 2) 152 [.ref (ρ.1 9), .int v] (hp_S sa ρ K.1) = some (none, hp_S sa ρ K.1) := by
  rw [am_c_152, am_s152_0]
  simp only [hg_928 w, Option.bind_some, am_c_ge, am_c_ne, hx_9 w]
  have e0 : am_call B sa am_dfl am_tb (f + 1) (d + 1) 124 [.ref (ρ.1 9), .int 0] (hp_S sa ρ K.1) = some (some (.int 0), hp_S sa ρ K.1) := by rw [m_need0 w hb, hp_sI_self (v := 1) hb]
  rw [e0, m_need1 w hb (by decide)]
  simp only [am_i_some]
  have n1 : ¬ (bI !true) ≠ 0 := fun z => z rfl
  have n0 : ¬ (0 : Int32) ≠ 0 := fun z => z rfl
  rw [if_neg n0, if_neg n1]
  split <;> rfl
theorem k_keepM_bad {f d : Nat} {v : Int32} (w : hp_w B ρ) (hb : K.1.1 945 = bI true) : am_call B sa am_dfl am_tb (f + 1) (d + 2) 153 [.ref (ρ.1 9), .int v] (hp_S sa ρ K.1) = some (none, hp_S sa ρ K.1) := by
  rw [am_c_153, am_s153_0]
  simp only [hg_929 w, Option.bind_some, am_c_ge, am_c_ne, hx_9 w]
  have e0 : am_call B sa am_dfl am_tb (f + 1) (d + 1) 124 [.ref (ρ.1 9), .int 0] (hp_S sa ρ K.1) = some (some (.int 0), hp_S sa ρ K.1) := by rw [m_need0 w hb, hp_sI_self (v := 1) hb]
  rw [e0, m_need1 w hb (by decide)]
  simp only [am_i_some]
  have n1 : ¬ (bI !true) ≠ 0 := fun z => z rfl
  have n0 : ¬ (0 : Int32) ≠ 0 := fun z => z rfl
  rw [if_neg n0, if_neg n1]
  split <;> rfl
theorem keT_1 {m : Nat} {v : Int32} {r : Nat} (h : r ≠ 928) : (keT K m v).1.1 r = K.1.1 r := hI_ne h
theorem keT_2 {m : Nat} {v : Int32} {r : Nat} (h : r ≠ 930) : (keT K m v).1.2 r = K.1.2 r := hA_ne h
theorem keM_1 {m : Nat} {v : Int32} {r : Nat} (h : r ≠ 929) : (keM K m v).1.1 r = K.1.1 r := hI_ne h
theorem keM_2 {m : Nat} {v : Int32} {r : Nat} (h : r ≠ 931) : (keM K m v).1.2 r = K.1.2 r := hA_ne h
theorem keT_len {m : Nat} {v : Int32} (r : Nat) : ((keT K m v).1.2 r).1 = (K.1.2 r).1 := hA_len
theorem keM_len {m : Nat} {v : Int32} (r : Nat) : ((keM K m v).1.2 r).1 = (K.1.2 r).1 := hA_len
theorem ks_ne {r s : Nat} (h : ks_S r = true) (hs : ks_S s = false) : r ≠ s := fun z => by rw [z, hs] at h; cases h
theorem rI.et {v : Int32} {t : qT} (h : rI A K) (hv : pl K.2.1 K.2.2.1 v t) (hm : A.2.2.2.2.2.1.length < 8000) : rI (a_et A t) (keT K A.2.2.2.2.2.1.length v) := by
  obtain ⟨h1, ⟨b1, b2, b3, b4, b5, b6⟩, h3, h4, h5⟩ := h
  have hq : ∀ {v M}, nq K v M → nq (keT K A.2.2.2.2.2.1.length v) v M := fun z => z
  refine ⟨?_, ⟨?_, ?_, fun j u hj => ?_, ?_, ?_, ?_⟩, ?_, ?_, h5.go keT_len⟩
  · unfold r_sg
    rw [keT_1 (by decide), keT_2 (by decide), keT_1 (by decide), keT_2 (by decide)]
    exact h1
  · show _ = nI (A.2.2.2.2.2.1 ++ [t]).length
    rw [List.length_append]; exact hI_eq
  · rw [keT_len]; exact b2
  · have e30 : ((keT K A.2.2.2.2.2.1.length v).1.2 930).2 = upd (K.1.2 930).2 A.2.2.2.2.2.1.length v := by
      show ((hp_sA K.1 930 (nI _) v).2 930).2 = _
      rw [hA_eq, nI_clamp (by omega)]
    rw [e30]
    rcases rw_push_g hj with z | ⟨z1, z2⟩
    · rw [pk_un (by have := (List.getElem?_eq_some_iff.mp z).1; omega)]; exact b3 j u z
    · subst z1 z2
      rw [pk_us]; exact hv
  · rw [keT_1 (by decide)]; exact b4
  · rw [keT_2 (by decide)]; exact b5
  · rw [keT_2 (by decide)]; exact b6
  · unfold r_sq r_row at h3 ⊢
    rw [keT_1 (by decide), keT_1 (by decide), keT_1 (by decide), keT_2 (by decide), keT_2 (by decide), keT_2 (by decide), keT_2 (by decide)]
    exact ⟨h3.1, h3.2.1, h3.2.2.1, fun r a b => by rw [keT_len]; exact h3.2.2.2.1 r a b, h3.2.2.2.2⟩
  · refine ⟨by rw [keT_2 (by decide)]; exact h4.1, fun j g1 g2 => ?_, by unfold r_mo; rw [keT_2 (by decide)]; exact h4.2.2⟩
    obtain ⟨nk, nt, z1, z2⟩ := h4.2.1 j g1 g2
    refine ⟨nk, nt, ?_, z2⟩
    unfold r_tq
    rw [keT_1 (by decide), keT_2 (by decide), keT_2 (by decide), keT_2 (by decide), keT_2 (by decide)]
    exact z1
theorem rI.em {v : Int32} {M : qM} (h : rI A K) (hv : nq K v M) (hm : A.2.2.2.2.2.2.length < 16000) (hth : ∀ j, A.2.1 ≤ j → j ≤ A.1.length → (A.2.2.1 j).2.2 ≤ A.2.2.2.2.2.2.length) : rI (a_em A M) (keM K A.2.2.2.2.2.2.length v) := by
  obtain ⟨h1, ⟨b1, b2, b3, b4, b5, b6⟩, h3, h4, h5⟩ := h
  refine ⟨?_, ⟨?_, ?_, ?_, ?_, ?_, fun j u hj => ?_⟩, ?_, ?_, h5.go keM_len⟩
  · unfold r_sg
    rw [keM_1 (by decide), keM_2 (by decide), keM_1 (by decide), keM_2 (by decide)]
    exact h1
  · rw [keM_1 (by decide)]; exact b1
  · rw [keM_2 (by decide)]; exact b2
  · rw [keM_2 (by decide)]; exact b3
  · show _ = nI (A.2.2.2.2.2.2 ++ [M]).length
    rw [List.length_append]; exact hI_eq
  · rw [keM_len]; exact b5
  · have e30 : ((keM K A.2.2.2.2.2.2.length v).1.2 931).2 = upd (K.1.2 931).2 A.2.2.2.2.2.2.length v := by
      show ((hp_sA K.1 931 (nI _) v).2 931).2 = _
      rw [hA_eq, nI_clamp (by omega)]
    rw [e30]
    rcases rw_push_g hj with z | ⟨z1, z2⟩
    · rw [pk_un (by have := (List.getElem?_eq_some_iff.mp z).1; omega)]; exact b6 j u z
    · subst z1 z2
      rw [pk_us]; exact hv
  · unfold r_sq r_row at h3 ⊢
    rw [keM_1 (by decide), keM_1 (by decide), keM_1 (by decide), keM_2 (by decide), keM_2 (by decide), keM_2 (by decide), keM_2 (by decide)]
    exact ⟨h3.1, h3.2.1, h3.2.2.1, fun r a b => by rw [keM_len]; exact h3.2.2.2.1 r a b, h3.2.2.2.2⟩
  · refine ⟨by rw [keM_2 (by decide)]; exact h4.1, fun j g1 g2 => ?_, by unfold r_mo; rw [keM_2 (by decide)]; exact h4.2.2⟩
    obtain ⟨nk, nt, z1, z2⟩ := h4.2.1 j g1 g2
    refine ⟨nk, nt, ?_, ?_⟩
    · unfold r_tq
      rw [keM_1 (by decide), keM_2 (by decide), keM_2 (by decide), keM_2 (by decide), keM_2 (by decide)]
      exact z1
    · show r_cut _ _ _ _ _ _ _ ((A.2.2.2.2.2.2 ++ [M]).take (A.2.2.1 j).2.2)
      rw [List.take_append_of_le_length (hth j g1 g2)]
      exact z2
theorem keT.I {m : Nat} {v : Int32} (h : kI Z G L K) : kI Z G L (keT K m v) := h.cg fun r hr => ⟨keT_1 (ks_ne hr rfl), keT_2 (ks_ne hr rfl)⟩
theorem keM.I {m : Nat} {v : Int32} (h : kI Z G L K) : kI Z G L (keM K m v) := h.cg fun r hr => ⟨keM_1 (ks_ne hr rfl), keM_2 (ks_ne hr rfl)⟩
theorem keT.dx {m : Nat} {v : Int32} : mfr dx_S K.1 (keT K m v).1 := (mfr.sA (r := 930) rfl).tr (mfr.sI (r := 928) rfl)
theorem keM.dx {m : Nat} {v : Int32} : mfr dx_S K.1 (keM K m v).1 := (mfr.sA (r := 931) rfl).tr (mfr.sI (r := 929) rfl)
end EO
