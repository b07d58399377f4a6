/-! SIGNATURE of the class; ranges -/
theorem rw_push_g {α : Type} {k : Nat} {s t : α} {X : List α} (h : (X ++ [s])[k]? = some t) : X[k]? = some t ∨ (k = X.length ∧ t = s) := by
  rw [List.getElem?_append] at h
  split at h
  · exact Or.inl h
  · rename_i hk
    right
    have : k - X.length = 0 := by
      by_cases e : k - X.length = 0
      · exact e
      · obtain ⟨j, hj⟩ : ∃ j, k - X.length = j + 1 := ⟨k - X.length - 1, by omega⟩
        rw [hj] at h
        simp at h
    rw [this] at h
    simp at h
    exact ⟨by omega, h.symm⟩
/-- a truth as a number -/
noncomputable def bP (p : Prop) : Int32 := @ite _ p (Classical.propDecidable p) 1 0
theorem bP_t {p : Prop} (h : p) : bP p = 1 := if_pos h
theorem bP_f {p : Prop} (h : ¬ p) : bP p = 0 := if_neg h
theorem bP_c {p q : Prop} (h : p ↔ q) : bP p = bP q := by rw [propext h]
theorem bP_rz {p : Prop} {σ : am_S} : am_rz (bP p) σ = some (some (.int (bP p)), σ) := by
  by_cases h : p
  · rw [bP_t h]; exact am_rz_1
  · rw [bP_f h]; exact am_rz_0
theorem bP_e0 {p : Prop} : (bP p = 0) = ¬ p := by
  by_cases h : p
  · rw [bP_t h]; exact propext ⟨fun z => absurd z (by decide), fun z => absurd h z⟩
  · rw [bP_f h]; exact propext ⟨fun _ => h, fun _ => rfl⟩
theorem bP_n0 {p : Prop} : (bP p ≠ 0) = p := by
  rw [show (bP p ≠ 0) = ¬ (bP p = 0) from rfl, bP_e0]
  exact propext ⟨fun z => Classical.byContradiction z, fun z h => h z⟩
theorem bP_y {p : Prop} (h : p) : ¬ bP p = 0 := by rw [bP_t h]; decide
theorem bP_n {p : Prop} (h : ¬ p) : bP p = 0 := bP_f h
/-- a number of a row of k -/
def inR (x : Int32) (k : Nat) : Prop := ∃ j, j < k ∧ x = nI j
theorem rng_ck {x : Int32} {k : Nat} (hk : k < 2 ^ 31) {σ : am_S} : (if x < 0 then am_rz 0 σ else if nI k ≤ x then am_rz 0 σ else am_rz 1 σ) = some (some (.int (bP (inR x k))), σ) := by
  rcases pk_ix x hk with h | h | ⟨j, h1, h2⟩
  · rw [if_pos h, am_rz_0, bP_f]
    intro ⟨j, h1, h2⟩
    rw [h2] at h
    exact nI_pos (by omega) h
  · have hn : ¬ inR x k := by
      intro ⟨j, h1, h2⟩
      rw [h2] at h
      exact nI_ge h1 hk h
    rw [bP_f hn]
    split
    · exact am_rz_0
    · exact am_rz_0
  · rw [bP_t ⟨j, h1, h2⟩, h2, if_neg (nI_pos (by omega)), if_neg (nI_ge h1 hk)]
    exact am_rz_1
/-- the constructors' arities, and the constants' own types -/
def sgI (P : hp_P) (n : Nat) (T : Nat → Int32 × Int32 × Int32) (tk : List Nat) (ow : List qT) : Prop :=
  (P.1 502 = nI tk.length ∧ 3 ≤ tk.length ∧ tk.length ≤ 40 ∧ (P.2 500).1 = 40 ∧ ∀ (c x : Nat), tk[c]? = some x → (P.2 500).2 c = nI x ∧ x ≤ 2) ∧
  (P.1 503 = nI ow.length ∧ 2 ≤ ow.length ∧ ow.length ≤ 200 ∧ (P.2 501).1 = 200 ∧ ∀ c t, ow[c]? = some t → pl n T ((P.2 501).2 c) t)
def sg_S : Nat → Bool := fun r => decide (500 ≤ r ∧ r ≤ 503)
theorem sg_S_t {r : Nat} (h : 500 ≤ r ∧ r ≤ 503) : sg_S r = true := decide_eq_true h
section SG
variable {sa : Nat → Nat} {B : Nat} {ρ : hp_L} {P : hp_P} {n : Nat} {T : Nat → Int32 × Int32 × Int32} {tk : List Nat} {ow : List qT}
theorem sgI.cg {P' : hp_P} (h : sgI P n T tk ow) (h1 : P'.1 502 = P.1 502) (h2 : P'.1 503 = P.1 503) (h3 : P'.2 500 = P.2 500) (h4 : P'.2 501 = P.2 501) : sgI P' n T tk ow := by
  unfold sgI
  rw [h1, h2, h3, h4]
  exact h
theorem sgI.fr {S : Nat → Bool} {e : Nat} {ρ' : hp_L} {P' : hp_P} (h : sgI P n T tk ow) (k : hp_fr S e ρ P ρ' P') (hS : ∀ r, 500 ≤ r → r ≤ 503 → S r = false) : sgI P' n T tk ow :=
  h.cg (k.2.1 502 (hS 502 (by decide) (by decide))).1 (k.2.1 503 (hS 503 (by decide) (by decide))).1 (k.2.1 500 (hS 500 (by decide) (by decide))).2.1 (k.2.1 501 (hS 501 (by decide) (by decide))).2.1
theorem sgI.xt {n' : Nat} {T' : Nat → Int32 × Int32 × Int32} (h : sgI P n T tk ow) (hw : ty_wf T n) (hn : n < 2 ^ 31) (x : ty_xt n T n' T') : sgI P n' T' tk ow := by
  obtain ⟨h1, h2, h3, h4, h5, h6⟩ := h
  exact ⟨h1, h2, h3, h4, h5, fun c t hc => (h6 c t hc).xt hw hn x⟩
/-- hasConstructor -/
theorem sg_has {f d : Nat} {x : Int32} (w : hp_w B ρ) (h : sgI P n T tk ow) : am_call B sa am_dfl am_tb (f + 1) (d + 1) 23 [.ref (ρ.1 5), .int x] (hp_S sa ρ P) = some (some (.int (bP (inR x tk.length))), hp_S sa ρ P) := by
  rw [am_c_23, am_s23_0]
  simp only [hg_502 w, h.1.1, Option.bind_some, am_c_lt, am_c_ge]
  exact rng_ck (by have := h.1.2.2.1; omega)
/-- hasConstant -/
theorem sg_hasC {f d : Nat} {x : Int32} (w : hp_w B ρ) (h : sgI P n T tk ow) : am_call B sa am_dfl am_tb (f + 1) (d + 1) 24 [.ref (ρ.1 5), .int x] (hp_S sa ρ P) = some (some (.int (bP (inR x ow.length))), hp_S sa ρ P) := by
  rw [am_c_24, am_s24_0]
  simp only [hg_503 w, h.2.1, Option.bind_some, am_c_lt, am_c_ge]
  exact rng_ck (by have := h.2.2.2.1; omega)
/-- addConstructor -/
theorem sg_addK {f d x : Nat} (w : hp_w B ρ) (h : sgI P n T tk ow) (hx : x ≤ 2) :
    ∃ P', am_call B sa am_dfl am_tb (f + 1) (d + 1) 25 [.ref (ρ.1 5), .int (nI x)] (hp_S sa ρ P) = some (some (.int (if tk.length < 40 then nI tk.length else -1)), hp_S sa ρ P') ∧ sgI P' n T (if tk.length < 40 then tk ++ [x] else tk) ow ∧ hp_fr sg_S 0 ρ P ρ P' ∧ P'.1 504 = P.1 504 ∧ P'.1 505 = P.1 505 ∧ (∀ c x, tk[c]? = some x → (P'.2 500).2 c = nI x) ∧ P'.2 501 = P.2 501 := by
  obtain ⟨⟨h1, h2, h3, h4, h5⟩, h6⟩ := h
  have hlt : (nI tk.length < (40 : Int32)) = (tk.length < 40) := by rw [show (40 : Int32) = nI 40 from rfl]; exact propext (nI_ltI (by omega) (by omega))
  rw [am_c_25, am_s25_0]
  simp only [hg_502 w, h1, Option.bind_some, am_c_lt, hlt]
  by_cases e : tk.length < 40
  · rw [if_pos e, if_pos e, if_pos e]
    have ck : hp_ck P 500 (nI tk.length) = some () := hp_ck_nI (by omega) (by omega)
    simp only [hr_500 w, ht_500 w, ck, Option.bind_some, hg_502 w, hA_I, h1, hs_502 w, hI_eq, nI_1, nI_pred]
    refine ⟨_, rfl, ⟨⟨?_, ?_, ?_, ?_, fun c y hc => ?_⟩, ?_⟩, hp_fr.tr0 (hp_fr.sA (sg_S_t (by decide))) (hp_fr.sI (sg_S_t (by decide))), ?_, ?_, fun c y hc => ?_, ?_⟩
    · rw [hI_eq, List.length_append]; rfl
    · rw [List.length_append]; omega
    · rw [List.length_append]; show tk.length + 1 ≤ 40; omega
    · rw [hI_A, hA_len]; exact h4
    · rw [hI_A, hA_eq, nI_clamp (by omega)]
      show upd _ _ _ c = _ ∧ _
      rcases rw_push_g hc with z | ⟨z1, z2⟩
      · have : c < tk.length := (List.getElem?_eq_some_iff.mp z).1
        rw [pk_un (by omega)]
        exact h5 c y z
      · rw [z1, z2, pk_us]
        exact ⟨rfl, hx⟩
    · rw [hI_ne (by decide), hA_I, hI_A, hA_ne (show (501 : Nat) ≠ 500 by decide)]
      exact h6
    · rw [hI_ne (by decide)]; rfl
    · rw [hI_ne (by decide)]; rfl
    · rw [hI_A, hA_eq, nI_clamp (by omega)]
      show upd _ _ _ c = _
      have : c < tk.length := (List.getElem?_eq_some_iff.mp hc).1
      rw [pk_un (by omega)]
      exact (h5 c y hc).1
    · rw [hI_A, hA_ne (show (501 : Nat) ≠ 500 by decide)]
  · rw [if_neg e, if_neg e, if_neg e]
    exact ⟨P, rfl, ⟨⟨h1, h2, h3, h4, h5⟩, h6⟩, hp_fr.rf, rfl, rfl, fun c y hc => (h5 c y hc).1, rfl⟩
/-- addConstant of a type that is there -/
theorem sg_addC {f d : Nat} {v : Int32} {t : qT} (w : hp_w B ρ) (h : sgI P n T tk ow) (hv : pl n T v t) :
    ∃ P', am_call B sa am_dfl am_tb (f + 1) (d + 1) 26 [.ref (ρ.1 5), .int v] (hp_S sa ρ P) = some (some (.int (if ow.length < 200 then nI ow.length else -1)), hp_S sa ρ P') ∧ sgI P' n T tk (if ow.length < 200 then ow ++ [t] else ow) ∧ hp_fr sg_S 0 ρ P ρ P' ∧ P'.1 504 = P.1 504 ∧ P'.1 505 = P.1 505 ∧ P'.2 500 = P.2 500 := by
  obtain ⟨h0, h1, h2, h3, h4, h5⟩ := h
  have hlt : (nI ow.length < (200 : Int32)) = (ow.length < 200) := by rw [show (200 : Int32) = nI 200 from rfl]; exact propext (nI_ltI (by omega) (by omega))
  rw [am_c_26, am_s26_0]
  simp only [hg_503 w, h1, Option.bind_some, am_c_lt, hlt]
  by_cases e : ow.length < 200
  · rw [if_pos e, if_pos e, if_pos e]
    have ck : hp_ck P 501 (nI ow.length) = some () := hp_ck_nI (by omega) (by omega)
    simp only [hr_501 w, ht_501 w, ck, Option.bind_some, hg_503 w, hA_I, h1, hs_503 w, hI_eq, nI_1, nI_pred]
    refine ⟨_, rfl, ⟨?_, ?_, ?_, ?_, ?_, fun c y hc => ?_⟩, hp_fr.tr0 (hp_fr.sA (sg_S_t (by decide))) (hp_fr.sI (sg_S_t (by decide))), ?_, ?_, ?_⟩
    · rw [hI_ne (by decide), hA_I, hI_A, hA_ne (show (500 : Nat) ≠ 501 by decide)]
      exact h0
    · rw [hI_eq, List.length_append]; rfl
    · rw [List.length_append]; omega
    · rw [List.length_append]; show ow.length + 1 ≤ 200; omega
    · rw [hI_A, hA_len]; exact h4
    · rw [hI_A, hA_eq, nI_clamp (by omega)]
      show pl n T (upd _ _ _ c) _
      rcases rw_push_g hc with z | ⟨z1, z2⟩
      · have : c < ow.length := (List.getElem?_eq_some_iff.mp z).1
        rw [pk_un (by omega)]
        exact h5 c y z
      · rw [z1, z2, pk_us]
        exact hv
    · rw [hI_ne (by decide)]; rfl
    · rw [hI_ne (by decide)]; rfl
    · rw [hI_A, hA_ne (show (500 : Nat) ≠ 501 by decide)]
  · rw [if_neg e, if_neg e, if_neg e]
    exact ⟨P, rfl, ⟨h0, h1, h2, h3, h4, h5⟩, hp_fr.rf, rfl, rfl, rfl⟩
/-- remember -/
theorem sg_remember {f d : Nat} (w : hp_w B ρ) : am_call B sa am_dfl am_tb (f + 1) (d + 1) 27 [.ref (ρ.1 5)] (hp_S sa ρ P) = some (none, hp_S sa ρ (hp_sI (hp_sI P 504 (P.1 502)) 505 (P.1 503))) := by
  rw [am_c_27, am_s27_0]
  simp only [hg_502 w, Option.bind_some, hs_504 w, hg_503 w, hs_505 w]
  rfl
/-- undo -/
theorem sg_undo {f d : Nat} (w : hp_w B ρ) : am_call B sa am_dfl am_tb (f + 1) (d + 1) 28 [.ref (ρ.1 5)] (hp_S sa ρ P) = some (none, hp_S sa ρ (hp_sI (hp_sI P 502 (P.1 504)) 503 (P.1 505))) := by
  rw [am_c_28, am_s28_0]
  simp only [hg_504 w, Option.bind_some, hs_502 w, hg_505 w, hs_503 w]
  rfl
end SG
