/-! THE REFERENCE, 8: what stands in it; reading -/
def hys (sq : List qQ) : List qM := sq.flatMap fun s => s.1
theorem hys_ap {a b : List qQ} : hys (a ++ b) = hys a ++ hys b := by unfold hys; rw [List.flatMap_append]
/-- signature, entries, sequents -/
def r_sg (K : kS) (tk : List Nat) (ow : List qT) : Prop := K.1.1 913 = nI tk.length ∧ (K.1.2 914).1 = 42 ∧ (∀ (c x : Nat), tk[c]? = some x → (K.1.2 914).2 c = nI x) ∧ K.1.1 915 = nI ow.length ∧ (K.1.2 916).1 = 202 ∧ ∀ c t, ow[c]? = some t → pl K.2.1 K.2.2.1 ((K.1.2 916).2 c) t
def r_en (K : kS) (et : List qT) (em : List qM) : Prop := K.1.1 928 = nI et.length ∧ (K.1.2 930).1 = 8000 ∧ (∀ j t, et[j]? = some t → pl K.2.1 K.2.2.1 ((K.1.2 930).2 j) t) ∧ K.1.1 929 = nI em.length ∧ (K.1.2 931).1 = 16000 ∧ ∀ j M, em[j]? = some M → nq K ((K.1.2 931).2 j) M
def r_row (K : kS) (sq : List qQ) (j : Nat) (s : qQ) : Prop := nq K ((K.1.2 935).2 j) s.2 ∧ (K.1.2 936).2 j = nI (hys (sq.take j)).length ∧ (K.1.2 937).2 j = nI s.1.length ∧ s.1.length ≤ 60 ∧ ∀ i X, s.1[i]? = some X → nq K ((K.1.2 943).2 ((hys (sq.take j)).length + i)) X
def r_sq (K : kS) (sq : List qQ) : Prop := (K.1.1 932 = nI sq.length ∧ sq.length ≤ 1000) ∧ K.1.1 933 = nI (hys sq).length ∧ (K.1.1 934 = nI (m_tot (sq_rows sq)) ∧ m_tot (sq_rows sq) ≤ 20000) ∧ (∀ r, 935 ≤ r → r ≤ 942 → (K.1.2 r).1 = 1002) ∧ (K.1.2 943).1 = 62000 ∧ ∀ j s, sq[j]? = some s → r_row K sq j s
/-- what there was then -/
def r_tq (P : hp_P) (j nk nt a b : Nat) : Prop := (j = 0 → P.1 944 = nI nt ∧ nk = 0 ∧ a = 0 ∧ b = 0) ∧ (0 < j → (P.2 939).2 (j - 1) = nI nk ∧ (P.2 940).2 (j - 1) = nI nt ∧ (P.2 941).2 (j - 1) = nI a ∧ (P.2 942).2 (j - 1) = nI b)
def r_cut (n : Nat) (T : Nat → Int32 × Int32 × Int32) (ns : List qM) (nk nt : Nat) (S : qT → Prop) (sq : List qQ) (em : List qM) : Prop :=
  (nt ≤ n ∧ 2 ≤ nt ∧ nk ≤ ns.length) ∧ ct_S T nt = S ∧ (∀ X ∈ sq_rows sq, X ∈ ns.take nk) ∧ (∀ X ∈ em, X ∈ ns.take nk) ∧ (∀ X ∈ ns.take nk, ∀ t, q_of [X] t → ct_S T nt t) ∧ nk ≤ 2 * m_tot (sq_rows sq) + em.length
/-- its nodes grew from sequent to sequent -/
def r_mo (P : hp_P) (fm len : Nat) : Prop := ∀ i j, fm ≤ i → 0 < i → i ≤ j → j ≤ len → ∃ a b, a ≤ b ∧ b ≤ 60000 ∧ (P.2 939).2 (i - 1) = nI a ∧ (P.2 939).2 (j - 1) = nI b
def r_th (K : kS) (A : sV) : Prop := (A.2.1 ≤ A.1.length ∧ (∀ j, A.2.1 ≤ j → j < A.1.length → (K.1.2 938).2 j ≠ 20 ∧ (K.1.2 938).2 j ≠ 21) ∧ (0 < A.2.1 → (K.1.2 938).2 (A.2.1 - 1) = 20 ∨ (K.1.2 938).2 (A.2.1 - 1) = 21)) ∧
  (∀ j, A.2.1 ≤ j → j ≤ A.1.length → ∃ nk nt, r_tq K.1 j nk nt (A.2.2.1 j).2.1 (A.2.2.1 j).2.2 ∧ r_cut K.2.1 K.2.2.1 K.2.2.2.1 nk nt (A.2.2.1 j).1 (A.1.take j) (A.2.2.2.2.2.2.take (A.2.2.1 j).2.2)) ∧ r_mo K.1 A.2.1 A.1.length
def r_sc (K : kS) : Prop := (K.1.2 902).1 = 20000 ∧ (K.1.2 947).1 = 256 ∧ (K.1.2 948).1 = 256 ∧ (K.1.2 950).1 = 256 ∧ (K.1.2 952).1 = 256
/-- the reference stands for this -/
def rI (A : sV) (K : kS) : Prop := r_sg K A.2.2.2.1 A.2.2.2.2.1 ∧ r_en K A.2.2.2.2.2.1 A.2.2.2.2.2.2 ∧ r_sq K A.1 ∧ r_th K A ∧ r_sc K
section RI
variable {Z : Prop} {G : qT → Prop} {L : List qM} {sa : Nat → Nat} {B : Nat} {ρ : hp_L} {K K' : kS} {A : sV}
/-- roles that rI speaks of -/
def rr_S : Nat → Bool := fun r => decide (913 ≤ r ∧ r ≤ 916) || decide (928 ≤ r ∧ r ≤ 944)
theorem rr_t {r : Nat} (h : (913 ≤ r ∧ r ≤ 916) ∨ (928 ≤ r ∧ r ≤ 944)) : rr_S r = true := by
  unfold rr_S
  rcases h with h | h
  · rw [decide_eq_true h]; rfl
  · rw [decide_eq_true (p := 928 ≤ r ∧ r ≤ 944) h, Bool.or_true]
theorem r_sg.go {tk : List Nat} {ow : List qT} (h : r_sg K tk ow) (hP : ∀ r, rr_S r = true → K'.1.1 r = K.1.1 r ∧ K'.1.2 r = K.1.2 r) (hp : ∀ {v t}, pl K.2.1 K.2.2.1 v t → pl K'.2.1 K'.2.2.1 v t) : r_sg K' tk ow := by
  unfold r_sg
  rw [(hP 913 rfl).1, (hP 914 rfl).2, (hP 915 rfl).1, (hP 916 rfl).2]
  exact ⟨h.1, h.2.1, h.2.2.1, h.2.2.2.1, h.2.2.2.2.1, fun c t hc => hp (h.2.2.2.2.2 c t hc)⟩
theorem r_en.go {et : List qT} {em : List qM} (h : r_en K et em) (hP : ∀ r, rr_S r = true → K'.1.1 r = K.1.1 r ∧ K'.1.2 r = K.1.2 r) (hp : ∀ {v t}, pl K.2.1 K.2.2.1 v t → pl K'.2.1 K'.2.2.1 v t) (hq : ∀ {v M}, nq K v M → nq K' v M) : r_en K' et em := by
  unfold r_en
  rw [(hP 928 rfl).1, (hP 929 rfl).1, (hP 930 rfl).2, (hP 931 rfl).2]
  exact ⟨h.1, h.2.1, fun j t hj => hp (h.2.2.1 j t hj), h.2.2.2.1, h.2.2.2.2.1, fun j M hj => hq (h.2.2.2.2.2 j M hj)⟩
theorem r_row.go {sq : List qQ} {j : Nat} {s : qQ} (h : r_row K sq j s) (hP : ∀ r, rr_S r = true → K'.1.1 r = K.1.1 r ∧ K'.1.2 r = K.1.2 r) (hq : ∀ {v M}, nq K v M → nq K' v M) : r_row K' sq j s := by
  unfold r_row
  rw [(hP 935 rfl).2, (hP 936 rfl).2, (hP 937 rfl).2, (hP 943 rfl).2]
  exact ⟨hq h.1, h.2.1, h.2.2.1, h.2.2.2.1, fun i X hi => hq (h.2.2.2.2 i X hi)⟩
theorem r_sq.go {sq : List qQ} (h : r_sq K sq) (hP : ∀ r, rr_S r = true → K'.1.1 r = K.1.1 r ∧ K'.1.2 r = K.1.2 r) (hq : ∀ {v M}, nq K v M → nq K' v M) : r_sq K' sq := by
  refine ⟨⟨(hP 932 rfl).1.trans h.1.1, h.1.2⟩, (hP 933 rfl).1.trans h.2.1, ⟨(hP 934 rfl).1.trans h.2.2.1.1, h.2.2.1.2⟩, fun r a b => by rw [(hP r (rr_t (by omega))).2]; exact h.2.2.2.1 r a b, by rw [(hP 943 rfl).2]; exact h.2.2.2.2.1, fun j s hj => (h.2.2.2.2.2 j s hj).go hP hq⟩
theorem r_tq.go {P P' : hp_P} {j nk nt a b : Nat} (h : r_tq P j nk nt a b) (hP : ∀ r, rr_S r = true → P'.1 r = P.1 r ∧ P'.2 r = P.2 r) : r_tq P' j nk nt a b := by
  unfold r_tq
  rw [(hP 944 rfl).1, (hP 939 rfl).2, (hP 940 rfl).2, (hP 941 rfl).2, (hP 942 rfl).2]
  exact h
theorem ct_S_xt {n n' nt : Nat} {T T' : Nat → Int32 × Int32 × Int32} (hw : ty_wf T n) (hn : n < 2 ^ 31) (x : ty_xt n T n' T') (h : nt ≤ n) : ct_S T' nt = ct_S T nt := by
  funext t
  have hw0 : ty_wf T nt := fun j hj => hw j (by omega)
  have e : ∀ i, i < nt → ct T' nt (nI i) = ct T nt (nI i) := fun i hi => ct_ext hw0 (fun j hj => x.2 j (by omega)) (by omega) (Nat.le_refl _) (Or.inr ⟨i, hi, rfl⟩)
  exact propext ⟨fun ⟨i, i1, i2⟩ => ⟨i, i1, by rw [← e i i1]; exact i2⟩, fun ⟨i, i1, i2⟩ => ⟨i, i1, by rw [e i i1]; exact i2⟩⟩
theorem r_cut.go {n n' nk nt : Nat} {T T' : Nat → Int32 × Int32 × Int32} {ns : List qM} {S : qT → Prop} {sq : List qQ} {em : List qM} (h : r_cut n T ns nk nt S sq em) (hw : ty_wf T n) (hn : n < 2 ^ 31) (x : ty_xt n T n' T') (q : List qM) : r_cut n' T' (ns ++ q) nk nt S sq em := by
  obtain ⟨⟨h1, h2, h3⟩, h4, h5, h6, h7, h8⟩ := h
  have et : (ns ++ q).take nk = ns.take nk := List.take_append_of_le_length h3
  have ec := ct_S_xt hw hn x h1
  unfold r_cut
  rw [et, ec]
  exact ⟨⟨Nat.le_trans h1 x.1, h2, by rw [List.length_append]; omega⟩, h4, h5, h6, h7, h8⟩
theorem r_sc.go (h : r_sc K) (hl : ∀ r, (K'.1.2 r).1 = (K.1.2 r).1) : r_sc K' := by
  unfold r_sc
  rw [hl 902, hl 947, hl 948, hl 950, hl 952]
  exact h
/-- rI where its rows stay -/
theorem rI.cg (h : rI A K) (hw : ty_wf K.2.2.1 K.2.1) (hn : K.2.1 < 2 ^ 31) (hP : ∀ r, rr_S r = true → K'.1.1 r = K.1.1 r ∧ K'.1.2 r = K.1.2 r) (hl : ∀ r, (K'.1.2 r).1 = (K.1.2 r).1) (x : ty_xt K.2.1 K.2.2.1 K'.2.1 K'.2.2.1) (hq : ∃ q, K'.2.2.2.1 = K.2.2.2.1 ++ q) : rI A K' := by
  have hp : ∀ {v t}, pl K.2.1 K.2.2.1 v t → pl K'.2.1 K'.2.2.1 v t := fun {v t} z => z.xt hw hn x
  obtain ⟨q, eq⟩ := hq
  have hnq : ∀ {v M}, nq K v M → nq K' v M := fun {v M} ⟨i, a, c, e⟩ => ⟨i, a, c, by rw [eq, List.getElem?_append_left (List.getElem?_eq_some_iff.mp e).1]; exact e⟩
  refine ⟨h.1.go hP hp, h.2.1.go hP hp hnq, h.2.2.1.go hP hnq, ⟨?_, fun j h1 h2 => ?_, ?_⟩, h.2.2.2.2.go hl⟩
  · rw [(hP 938 rfl).2]; exact h.2.2.2.1.1
  · obtain ⟨nk, nt, z1, z2⟩ := h.2.2.2.1.2.1 j h1 h2
    exact ⟨nk, nt, z1.go hP, by rw [eq]; exact z2.go hw hn x q⟩
  · unfold r_mo; rw [(hP 939 rfl).2]; exact h.2.2.2.1.2.2
theorem kx_rr {r : Nat} (h : rr_S r = true) : kx_S r = false := by
  unfold kx_S tn_S nn_S
  unfold rr_S at h
  rcases Bool.or_eq_true_iff.mp h with z | z
  · have := of_decide_eq_true z
    rw [decide_eq_false (by omega), decide_eq_false (by omega), decide_eq_false (by omega)]; rfl
  · have := of_decide_eq_true z
    by_cases e : r = 945
    · omega
    · rw [decide_eq_false (by omega), decide_eq_false (by omega), decide_eq_false (by omega)]; rfl
theorem rI.go (h : rI A K) (k : kI Z G L K) (r : kR Z G L K K') : rI A K' := h.cg k.wf k.n31 (fun x hx => r.2.1.1 x (kx_rr hx)) r.2.1.2 r.2.2.1 r.2.2.2.1
/-- reading: K with another place and another bad -/
def kP (K : kS) (p : Nat) (b : Bool) : kS := (hp_sI (hp_sI K.1 949 (nI p)) 945 (bI b), K.2.1, K.2.2.1, K.2.2.2.1, b)
theorem hp_sI_sI {P : hp_P} {r : Nat} {v u : Int32} : hp_sI (hp_sI P r v) r u = hp_sI P r u := by
  refine Prod.ext (funext fun x => ?_) rfl
  by_cases e : x = r
  · rw [e, hI_eq, hI_eq]
  · rw [hI_ne e, hI_ne e, hI_ne e]
theorem hp_sI_cm {P : hp_P} {r s : Nat} {v u : Int32} (h : r ≠ s) : hp_sI (hp_sI P r v) s u = hp_sI (hp_sI P s u) r v := by
  refine Prod.ext (funext fun x => ?_) rfl
  by_cases e : x = r
  · rw [e, hI_ne h, hI_eq, hI_eq]
  · by_cases e' : x = s
    · rw [e', hI_eq, hI_ne (fun z => h z.symm), hI_eq]
    · rw [hI_ne e', hI_ne e, hI_ne e, hI_ne e']
theorem kP_kP {p p' : Nat} {b b' : Bool} : kP (kP K p b) p' b' = kP K p' b' := by
  unfold kP
  rw [hp_sI_cm (r := 945) (s := 949) (by decide), hp_sI_sI, hp_sI_sI]
theorem kP_self {p : Nat} {b : Bool} (h : K.1.1 949 = nI p) (h' : K.1.1 945 = bI b) (hb : K.2.2.2.2 = b) : kP K p b = K := by
  unfold kP
  rw [hp_sI_self h, hp_sI_self h', ← hb]
theorem kP_bad {p : Nat} {b b' : Bool} : hp_sI (kP K p b).1 945 (bI b') = (kP K p b').1 := by
  show hp_sI (hp_sI (hp_sI K.1 949 (nI p)) 945 (bI b)) 945 (bI b') = _
  rw [hp_sI_sI]
  rfl
theorem kP_at {p p' : Nat} {b : Bool} : hp_sI (kP K p b).1 949 (nI p') = (kP K p' b).1 := by
  show hp_sI (hp_sI (hp_sI K.1 949 (nI p)) 945 (bI b)) 949 (nI p') = _
  rw [hp_sI_cm (r := 945) (s := 949) (by decide), hp_sI_sI]
  rfl
theorem kP_1 {p : Nat} {b : Bool} {r : Nat} (h : r ≠ 949) (h' : r ≠ 945) : (kP K p b).1.1 r = K.1.1 r := by
  show (hp_sI (hp_sI K.1 949 (nI p)) 945 (bI b)).1 r = _
  rw [hI_ne h', hI_ne h]
theorem kP_2 {p : Nat} {b : Bool} : (kP K p b).1.2 = K.1.2 := rfl
theorem kP_45 {p : Nat} {b : Bool} : (kP K p b).1.1 945 = bI b := hI_eq
theorem kP_49 {p : Nat} {b : Bool} : (kP K p b).1.1 949 = nI p := by
  show (hp_sI (hp_sI K.1 949 (nI p)) 945 (bI b)).1 949 = _
  rw [hI_ne (by decide), hI_eq]
theorem kP.I {p : Nat} {b : Bool} (h : kI Z G L K) (hb : b = true → Z) : kI Z G L (kP K p b) :=
  ⟨h.1.cg (kP_1 (by decide) (by decide)) fun _ _ _ => rfl, h.2.1.cg (kP_1 (by decide) (by decide)) fun _ _ _ => rfl, kP_45, hb, h.2.2.2.2⟩
theorem kP.r {p : Nat} {b : Bool} (h : rI A K) (k : kI Z G L K) : rI A (kP K p b) := h.cg k.wf k.n31 (fun r hr => ⟨kP_1 (fun z => by rw [z] at hr; exact absurd hr (by decide)) (fun z => by rw [z] at hr; exact absurd hr (by decide)), rfl⟩) (fun _ => rfl) ty_xt.rf ⟨[], (List.append_nil _).symm⟩
theorem hp_rd_kP {p : Nat} {b : Bool} {r : Nat} {i : Int32} : hp_rd (kP K p b).1 r i = hp_rd K.1 r i := rfl
/-- outside -/
theorem m_out {f d k : Nat} {x : Int32} {σ : am_S} (hk : k < 2 ^ 31) : am_call B sa am_dfl am_tb (f + 1) (d + 1) 123 [.int x, .int (nI k)] σ = some (some (.int (bP (¬ inR x k))), σ) := by
  rw [am_c_123, am_s123_0]
  simp only [am_c_lt]
  rcases pk_ix x hk with h | h | ⟨j, h1, h2⟩
  · rw [if_pos h, am_rz_1, bP_t]
    rintro ⟨j, h1, h2⟩
    rw [h2] at h
    exact nI_pos (by omega) h
  · rw [if_neg (Int32.not_lt.mpr (Int32.le_trans (nI_pos' hk) h)), if_neg (Int32.not_lt.mpr h), am_rz_1, bP_t]
    rintro ⟨j, h1, h2⟩
    rw [h2] at h
    exact nI_ge h1 hk h
  · rw [h2, if_neg (nI_pos (by omega)), if_pos (nI_lt h1 hk), am_rz_0, bP_f (fun z => z ⟨j, h1, rfl⟩)]
/-- the words -/
def vS (ws : List Int32) (K : kS) : Prop := K.1.1 901 = nI ws.length ∧ ws.length ≤ 20000 ∧ (K.1.2 902).1 = 20000 ∧ ∀ i x, ws[i]? = some x → (K.1.2 902).2 i = x
variable {ws : List Int32} {p : Nat} {b : Bool}
/-- next -/
theorem k_next {f d : Nat} (w : hp_w B ρ) (hv : vS ws K) (hp : p ≤ ws.length) : ∃ v p' b', am_call B sa am_dfl am_tb (f + 1) (d + 2) 147 [.ref (ρ.1 9)] (hp_S sa ρ (kP K p b).1) = some (some (.int v), hp_S sa ρ (kP K p' b').1) ∧ p' ≤ ws.length ∧ ((b' = false ∧ b = false ∧ p' = p + 1 ∧ ws[p]? = some v) ∨ (b' = true ∧ (b = true ∨ ¬ ∃ x, ws[p]? = some x))) := by
  obtain ⟨v1, v2, v3, v4⟩ := hv
  have e1 : (kP K p b).1.1 901 = nI ws.length := (kP_1 (by decide) (by decide)).trans v1
  rw [am_c_147, am_s147_0]
  simp only [hg_949 w, hg_901 w, kP_49, e1, Option.bind_some, am_c_ge, am_c_ne, hx_9 w]
  by_cases e : p < ws.length
  · rw [if_neg (nI_ge e (by omega)), m_need1 w kP_45 (by decide), am_i_some]
    cases b with
    | true =>
      rw [if_neg (by decide)]
      exact ⟨0, p, true, rfl, hp, Or.inr ⟨rfl, Or.inl rfl⟩⟩
    | false =>
      rw [if_pos (by decide)]
      simp only [hg_949 w, kP_49, Option.bind_some, hs_949 w, nI_1, kP_at, hr_902 w]
      have r2 : hp_rd (kP K (p + 1) false).1 902 (nI (p + 1) - 1) = some ws[p] := by
        rw [nI_pred, hp_rd_kP, hp_rd_nI (by rw [v3]; omega) (by omega), v4 p ws[p] (List.getElem?_eq_getElem e)]
      simp only [hl_902 w, r2, Option.bind_some]
      exact ⟨_, p + 1, false, rfl, e, Or.inl ⟨rfl, True.intro, rfl, List.getElem?_eq_getElem e⟩⟩
  · rw [if_pos (nI_le (by omega) (by omega)), m_need0 w kP_45, am_i_some, if_neg (fun z => z rfl)]
    refine ⟨0, p, true, ?_, hp, Or.inr ⟨rfl, Or.inr fun ⟨x, hx⟩ => e (List.getElem?_eq_some_iff.mp hx).1⟩⟩
    rw [show (1 : Int32) = bI true from rfl, kP_bad]
/-- nextType -/
theorem k_nextType {f d : Nat} (w : hp_w B ρ) (hv : vS ws K) (h : rI A K) (h8 : A.2.2.2.2.2.1.length ≤ 8000) (hp : p ≤ ws.length) : ∃ v p' b', am_call B sa am_dfl am_tb (f + 1) (d + 3) 148 [.ref (ρ.1 9)] (hp_S sa ρ (kP K p b).1) = some (some (.int v), hp_S sa ρ (kP K p' b').1) ∧ p' ≤ ws.length ∧ ((b' = false ∧ b = false ∧ p' = p + 1 ∧ ∃ x t, ws[p]? = some x ∧ en_at A.2.2.2.2.2.1 x t ∧ pl K.2.1 K.2.2.1 v t) ∨ (b' = true ∧ (b = true ∨ ¬ ∃ x t, ws[p]? = some x ∧ en_at A.2.2.2.2.2.1 x t))) := by
  obtain ⟨v1, p1, b1, e1, e2, e3⟩ := k_next (sa := sa) (f := f) (d := d) (b := b) w hv hp
  obtain ⟨r1, r2, r3, -⟩ := h.2.1
  rw [am_c_148, am_s148_0]
  simp only [hx_9 w, Option.bind_some, e1, am_i_some, hg_928 w, kP_1 (show 928 ≠ 949 by decide) (show 928 ≠ 945 by decide), r1]
  rw [m_out (by omega), am_i_some]
  simp only [am_c_ne, am_c_eq, hx_9 w, Option.bind_some]
  by_cases e : inR v1 A.2.2.2.2.2.1.length
  · rw [bP_f (fun z => z e), if_neg (fun z => z rfl), m_need1 w kP_45 (by decide), am_i_some]
    rcases e3 with ⟨rfl, rfl, rfl, g4⟩ | ⟨rfl, g2⟩
    · rw [if_neg (by decide)]
      obtain ⟨j, j1, rfl⟩ := e
      have ej := List.getElem?_eq_getElem j1
      have rd : hp_rd (kP K (p + 1) false).1 930 (nI j) = some ((K.1.2 930).2 j) := by rw [hp_rd_kP, hp_rd_nI (by rw [r2]; omega) (by omega)]
      simp only [hr_930 w, hl_930 w, rd, Option.bind_some]
      exact ⟨_, p + 1, false, rfl, e2, Or.inl ⟨rfl, True.intro, rfl, _, _, g4, ⟨j, rfl, by omega, ej⟩, r3 j _ ej⟩⟩
    · rw [if_pos (show (bI !true) = 0 from rfl)]
      refine ⟨0, p1, true, rfl, e2, Or.inr ⟨rfl, g2.imp id fun z => fun ⟨x, t, y, _⟩ => z ⟨x, y⟩⟩⟩
  · rw [bP_t e, if_pos (by decide), m_need0 w kP_45, am_i_some, if_pos rfl]
    refine ⟨0, p1, true, by rw [show (1 : Int32) = bI true from rfl, kP_bad], e2, Or.inr ⟨rfl, ?_⟩⟩
    rcases e3 with ⟨rfl, rfl, rfl, g4⟩ | ⟨rfl, g2⟩
    · refine Or.inr fun ⟨x, t, y, j, z1, z2, z3⟩ => e ?_
      rw [g4] at y
      rw [Option.some.inj y]
      exact ⟨j, (List.getElem?_eq_some_iff.mp z3).1, z1⟩
    · exact g2.imp id fun z => fun ⟨x, t, y, _⟩ => z ⟨x, y⟩
/-- nextTerm -/
theorem k_nextTerm {f d : Nat} (w : hp_w B ρ) (hv : vS ws K) (h : rI A K) (h8 : A.2.2.2.2.2.2.length ≤ 16000) (hp : p ≤ ws.length) : ∃ v p' b', am_call B sa am_dfl am_tb (f + 1) (d + 3) 149 [.ref (ρ.1 9)] (hp_S sa ρ (kP K p b).1) = some (some (.int v), hp_S sa ρ (kP K p' b').1) ∧ p' ≤ ws.length ∧ ((b' = false ∧ b = false ∧ p' = p + 1 ∧ ∃ x t, ws[p]? = some x ∧ en_at A.2.2.2.2.2.2 x t ∧ nq K v t) ∨ (b' = true ∧ (b = true ∨ ¬ ∃ x t, ws[p]? = some x ∧ en_at A.2.2.2.2.2.2 x t))) := by
  obtain ⟨v1, p1, b1, e1, e2, e3⟩ := k_next (sa := sa) (f := f) (d := d) (b := b) w hv hp
  obtain ⟨-, -, -, r1, r2, r3⟩ := h.2.1
  rw [am_c_149, am_s149_0]
  simp only [hx_9 w, Option.bind_some, e1, am_i_some, hg_929 w, kP_1 (show 929 ≠ 949 by decide) (show 929 ≠ 945 by decide), r1]
  rw [m_out (by omega), am_i_some]
  simp only [am_c_ne, am_c_eq, hx_9 w, Option.bind_some]
  by_cases e : inR v1 A.2.2.2.2.2.2.length
  · rw [bP_f (fun z => z e), if_neg (fun z => z rfl), m_need1 w kP_45 (by decide), am_i_some]
    rcases e3 with ⟨rfl, rfl, rfl, g4⟩ | ⟨rfl, g2⟩
    · rw [if_neg (by decide)]
      obtain ⟨j, j1, rfl⟩ := e
      have ej := List.getElem?_eq_getElem j1
      have rd : hp_rd (kP K (p + 1) false).1 931 (nI j) = some ((K.1.2 931).2 j) := by rw [hp_rd_kP, hp_rd_nI (by rw [r2]; omega) (by omega)]
      simp only [hr_931 w, hl_931 w, rd, Option.bind_some]
      exact ⟨_, p + 1, false, rfl, e2, Or.inl ⟨rfl, True.intro, rfl, _, _, g4, ⟨j, rfl, by omega, ej⟩, r3 j _ ej⟩⟩
    · rw [if_pos (show (bI !true) = 0 from rfl)]
      refine ⟨0, p1, true, rfl, e2, Or.inr ⟨rfl, g2.imp id fun z => fun ⟨x, t, y, _⟩ => z ⟨x, y⟩⟩⟩
  · rw [bP_t e, if_pos (by decide), m_need0 w kP_45, am_i_some, if_pos rfl]
    refine ⟨0, p1, true, by rw [show (1 : Int32) = bI true from rfl, kP_bad], e2, Or.inr ⟨rfl, ?_⟩⟩
    rcases e3 with ⟨rfl, rfl, rfl, g4⟩ | ⟨rfl, g2⟩
    · refine Or.inr fun ⟨x, t, y, j, z1, z2, z3⟩ => e ?_
      rw [g4] at y
      rw [Option.some.inj y]
      exact ⟨j, (List.getElem?_eq_some_iff.mp z3).1, z1⟩
    · exact g2.imp id fun z => fun ⟨x, t, y, _⟩ => z ⟨x, y⟩
/-- nextClosed -/
theorem k_nextClosed {f d : Nat} (w : hp_w B ρ) (hv : vS ws K) (k : kI Z G L K) (h : rI A K) (h8 : A.2.2.2.2.2.2.length ≤ 16000) (hp : p ≤ ws.length) : ∃ v p' b', am_call B sa am_dfl am_tb (f + 1) (d + 4) 150 [.ref (ρ.1 9)] (hp_S sa ρ (kP K p b).1) = some (some (.int v), hp_S sa ρ (kP K p' b').1) ∧ p' ≤ ws.length ∧ ((b' = false ∧ b = false ∧ p' = p + 1 ∧ ∃ x t, ws[p]? = some x ∧ en_at A.2.2.2.2.2.2 x t ∧ m_lo t = 0 ∧ nq K v t) ∨ (b' = true ∧ (b = true ∨ ¬ ∃ x t, ws[p]? = some x ∧ en_at A.2.2.2.2.2.2 x t ∧ m_lo t = 0))) := by
  obtain ⟨v1, p1, b1, e1, e2, e3⟩ := k_nextTerm (sa := sa) (f := f) (d := d) (b := b) w hv h h8 hp
  rw [am_c_150, am_s150_0]
  simp only [hx_9 w, Option.bind_some, e1, am_i_some, hg_945 w, kP_45, am_c_ne]
  rcases e3 with ⟨rfl, rfl, rfl, x, t, g4, g5, g6⟩ | ⟨rfl, g2⟩
  · rw [if_neg (fun z => z rfl)]
    obtain ⟨i, i1, rfl, i3⟩ := g6
    have il := (List.getElem?_eq_some_iff.mp i3).1
    have rd : hp_rd (kP K (p + 1) false).1 924 (nI i) = some (nI (m_lo t)) := by rw [hp_rd_kP, k.2.1.rd (by decide) (by decide) il, (k.row i3).2.2.2.2.1]
    have lo := m_lo_le (k.row i3).2.1
    simp only [hr_924 w, hl_924 w, rd, Option.bind_some]
    by_cases e0 : m_lo t = 0
    · rw [e0, if_neg (fun z => z rfl), m_need1 w kP_45 (by decide), am_i_some]
      exact ⟨_, p + 1, false, rfl, e2, Or.inl ⟨rfl, True.intro, rfl, x, t, g4, g5, e0, i, i1, rfl, i3⟩⟩
    · rw [if_pos (nI_ne0 (by omega) (by omega)), m_need0 w kP_45, am_i_some]
      refine ⟨_, p + 1, true, by rw [show (1 : Int32) = bI true from rfl, kP_bad], e2, Or.inr ⟨rfl, Or.inr fun ⟨x', t', y1, y2, y3⟩ => e0 ?_⟩⟩
      rw [g4] at y1
      rw [← Option.some.inj y1] at y2
      rw [en_at_inj g5 y2]
      exact y3
  · rw [if_pos (by decide), m_need1 w kP_45 (by decide), am_i_some]
    exact ⟨_, p1, true, rfl, e2, Or.inr ⟨rfl, g2.imp id fun z => fun ⟨x, t, y1, y2, _⟩ => z ⟨x, t, y1, y2⟩⟩⟩
/-- nextSequent -/
theorem k_nextSeq {f d : Nat} (w : hp_w B ρ) (hv : vS ws K) (h : rI A K) (hp : p ≤ ws.length) : ∃ v p' b', am_call B sa am_dfl am_tb (f + 1) (d + 3) 151 [.ref (ρ.1 9)] (hp_S sa ρ (kP K p b).1) = some (some (.int v), hp_S sa ρ (kP K p' b').1) ∧ p' ≤ ws.length ∧ ((b' = false ∧ b = false ∧ p' = p + 1 ∧ ∃ j s, ws[p]? = some v ∧ v = nI j ∧ A.1[j]? = some s) ∨ (b' = true ∧ (b = true ∨ ¬ ∃ x s, ws[p]? = some x ∧ en_at A.1 x s))) := by
  obtain ⟨v1, p1, b1, e1, e2, e3⟩ := k_next (sa := sa) (f := f) (d := d) (b := b) w hv hp
  obtain ⟨⟨r1, r2⟩, -⟩ := h.2.2.1
  rw [am_c_151, am_s151_0]
  simp only [hx_9 w, Option.bind_some, e1, am_i_some, hg_932 w, kP_1 (show 932 ≠ 949 by decide) (show 932 ≠ 945 by decide), r1]
  rw [m_out (by omega), am_i_some]
  simp only [am_c_ne, am_c_eq, hx_9 w, Option.bind_some]
  by_cases e : inR v1 A.1.length
  · rw [bP_f (fun z => z e), if_neg (fun z => z rfl), m_need1 w kP_45 (by decide), am_i_some]
    rcases e3 with ⟨rfl, rfl, rfl, g4⟩ | ⟨rfl, g2⟩
    · rw [if_neg (by decide)]
      obtain ⟨j, j1, rfl⟩ := e
      have ej := List.getElem?_eq_getElem j1
      exact ⟨_, p + 1, false, rfl, e2, Or.inl ⟨rfl, rfl, rfl, j, _, g4, rfl, ej⟩⟩
    · rw [if_pos (show (bI !true) = 0 from rfl)]
      refine ⟨0, p1, true, rfl, e2, Or.inr ⟨rfl, g2.imp id fun z => fun ⟨x, t, y, _⟩ => z ⟨x, y⟩⟩⟩
  · rw [bP_t e, if_pos (by decide), m_need0 w kP_45, am_i_some, if_pos rfl]
    refine ⟨0, p1, true, by rw [show (1 : Int32) = bI true from rfl, kP_bad], e2, Or.inr ⟨rfl, ?_⟩⟩
    rcases e3 with ⟨rfl, rfl, rfl, g4⟩ | ⟨rfl, g2⟩
    · refine Or.inr fun ⟨x, t, y, j, z1, z2, z3⟩ => e ?_
      rw [g4] at y
      rw [Option.some.inj y]
      exact ⟨j, (List.getElem?_eq_some_iff.mp z3).1, z1⟩
    · exact g2.imp id fun z => fun ⟨x, t, y, _⟩ => z ⟨x, y⟩
end RI
