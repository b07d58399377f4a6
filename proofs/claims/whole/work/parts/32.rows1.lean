/-! ROWS of the class, 1: how they are held; write, shorten, drop -/
abbrev rwS : Type := Int32 × Int32
/-- closed rows, the one that is being written, whether it is bad -/
def rwI (P : hp_P) (Rs : List (List rwS)) (O : List rwS) (b : Bool) : Prop :=
  P.1 303 = nI (Rs.flatten ++ O).length ∧ (∃ len, 64 ≤ len ∧ len ≤ 48000 ∧ (P.2 301).1 = len ∧ (P.2 302).1 = len ∧ (Rs.flatten ++ O).length ≤ len) ∧
  (∀ k s, (Rs.flatten ++ O)[k]? = some s → (P.2 301).2 k = s.1 ∧ (P.2 302).2 k = s.2) ∧
  (P.1 305 = nI Rs.length ∧ Rs.length < (P.2 304).1 ∧ 64 ≤ (P.2 304).1 ∧ (P.2 304).1 ≤ 50000 ∧ ∀ j, j ≤ Rs.length → (P.2 304).2 j = nI (Rs.take j).flatten.length) ∧
  (P.1 306 = (if b = true then 1 else 0) ∧ (P.2 307).1 = 121) ∧ Rs.flatten.length ≤ 20000 ∧ O.length ≤ 4000 ∧ ∀ r ∈ Rs, r ≠ []
def rx_S : Nat → Bool := fun r => decide (301 ≤ r ∧ r ≤ 306)
theorem rx_S_t {r : Nat} (h : 301 ≤ r ∧ r ≤ 306) : rx_S r = true := decide_eq_true h
def rw_S : Nat → Bool := fun r => decide (301 ≤ r ∧ r ≤ 307)
theorem rw_S_t {r : Nat} (h : 301 ≤ r ∧ r ≤ 307) : rw_S r = true := decide_eq_true h
theorem rx_rw {r : Nat} (h : rw_S r = false) : rx_S r = false := by
  unfold rw_S at h
  unfold rx_S
  have := of_decide_eq_false h
  exact decide_eq_false (by omega)
/-- what write makes of the row -/
noncomputable def rw_w (O : List rwS) (b : Bool) (s : rwS) : List rwS × Bool := if b = true then (O, true) else @ite _ (s.2 < 0 ∨ 4000 ≤ O.length) (Classical.propDecidable _) (O, true) (O ++ [s], false)
theorem rw_len_Rs : ∀ {Rs : List (List rwS)}, (∀ r ∈ Rs, r ≠ []) → Rs.length ≤ Rs.flatten.length
  | [], _ => Nat.le_refl _
  | r :: Rs, h => by
    have h1 := rw_len_Rs (Rs := Rs) (fun x hx => h x (List.mem_cons_of_mem _ hx))
    have h2 : 0 < r.length := List.length_pos_iff.mpr (h r List.mem_cons_self)
    rw [List.flatten_cons, List.length_append, List.length_cons]
    omega
theorem rw_take_all {Rs : List (List rwS)} : (Rs.take Rs.length).flatten.length = Rs.flatten.length := by rw [List.take_length]
section RW1
variable {sa : Nat → Nat} {B : Nat} {ρ : hp_L} {P : hp_P} {Rs : List (List rwS)} {O : List rwS} {b : Bool}
theorem rwI.top (h : rwI P Rs O b) : P.1 303 = nI (Rs.flatten.length + O.length) := by rw [h.1, List.length_append]
theorem rwI.last (h : rwI P Rs O b) : (P.2 304).2 Rs.length = nI Rs.flatten.length := by rw [h.2.2.2.1.2.2.2.2 Rs.length (Nat.le_refl _), rw_take_all]
/-- the rows say nothing of other roles -/
theorem rwI.cg {P' : hp_P} (h : rwI P Rs O b) (h1 : ∀ r, 301 ≤ r → r ≤ 307 → P'.1 r = P.1 r ∧ P'.2 r = P.2 r) : rwI P' Rs O b := by
  obtain ⟨a1, ⟨len, a2⟩, a3, a4, a5, a6⟩ := h
  refine ⟨by rw [(h1 303 (by decide) (by decide)).1]; exact a1, ⟨len, by rw [(h1 301 (by decide) (by decide)).2, (h1 302 (by decide) (by decide)).2]; exact a2⟩, ?_, ?_, ?_, a6⟩
  · rw [(h1 301 (by decide) (by decide)).2, (h1 302 (by decide) (by decide)).2]; exact a3
  · rw [(h1 305 (by decide) (by decide)).1, (h1 304 (by decide) (by decide)).2]; exact a4
  · rw [(h1 306 (by decide) (by decide)).1, (h1 307 (by decide) (by decide)).2]; exact a5
theorem rwI.fr {S : Nat → Bool} {e : Nat} {ρ' : hp_L} {P' : hp_P} (h : rwI P Rs O b) (k : hp_fr S e ρ P ρ' P') (hS : ∀ r, 301 ≤ r → r ≤ 307 → S r = false) : rwI P' Rs O b := h.cg fun r h1 h2 => ⟨(k.2.1 r (hS r h1 h2)).1, (k.2.1 r (hS r h1 h2)).2.1⟩
theorem rwI.bad (h : rwI P Rs O b) : rwI (hp_sI P 306 1) Rs O true := by
  obtain ⟨a1, a2, a3, a4, a5, a6⟩ := h
  refine ⟨by rw [hI_ne (by decide)]; exact a1, a2, a3, ?_, ⟨by rw [hI_eq]; rfl, a5.2⟩, a6⟩
  rw [hI_ne (by decide)]; exact a4
theorem rw_push {k : Nat} {s t : rwS} {X : List rwS} (h : (X ++ [s])[k]? = some t) : X[k]? = some t ∨ (k = X.length ∧ t = s) := by
  rw [List.getElem?_append] at h
  split at h
  · exact Or.inl h
  · rename_i hk
    right
    have : k - X.length = 0 := by
      by_cases e : k - X.length = 0
      · exact e
      · obtain ⟨j, hj⟩ : ∃ j, k - X.length = j + 1 := ⟨k - X.length - 1, by omega⟩
        rw [hj] at h
        simp at h
    rw [this] at h
    simp at h
    exact ⟨by omega, h.symm⟩
/-- the stores of write -/
def rw_P (P : hp_P) (k : Nat) (s : rwS) : hp_P := hp_sI (hp_sA (hp_sA P 301 (nI k) s.1) 302 (nI k) s.2) 303 (nI (k + 1))
theorem rw_P_I {s : rwS} (h : rwI P Rs O false) (hl : (Rs.flatten ++ O).length < (P.2 301).1) (hO : O.length < 4000) : rwI (rw_P P (Rs.flatten ++ O).length s) Rs (O ++ [s]) false := by
  obtain ⟨a1, ⟨len, b1, b2, b3, b4, b5⟩, a3, a4, a5, a6, a7, a8⟩ := h
  have hk : (Rs.flatten ++ O).length < 2 ^ 31 := by omega
  unfold rw_P
  refine ⟨?_, ⟨len, b1, b2, ?_, ?_, ?_⟩, fun k t ht => ?_, ?_, ?_, a6, ?_, a8⟩
  · rw [hI_eq, ← List.append_assoc, List.length_append (bs := [s])]; rfl
  · rw [hI_A, hA_len, hA_len]; exact b3
  · rw [hI_A, hA_len, hA_len]; exact b4
  · rw [← List.append_assoc, List.length_append (bs := [s])]
    have : [s].length = 1 := rfl
    omega
  · rw [hI_A, hA_ne (show (301 : Nat) ≠ 302 by decide), hA_eq, hA_eq, nI_clamp hk, hA_ne (show (302 : Nat) ≠ 301 by decide)]
    show upd _ _ _ k = _ ∧ upd _ _ _ k = _
    rw [← List.append_assoc] at ht
    rcases rw_push ht with e | ⟨e1, e2⟩
    · have hne : k ≠ (Rs.flatten ++ O).length := fun z => by
        rw [z] at e
        simp at e
      rw [pk_un hne, pk_un hne]
      exact a3 k t e
    · rw [e1, e2, pk_us, pk_us]
      exact ⟨rfl, rfl⟩
  · rw [hI_ne (by decide), hA_I, hA_I, hI_A, hA_ne (show (304 : Nat) ≠ 302 by decide), hA_ne (show (304 : Nat) ≠ 301 by decide)]; exact a4
  · rw [hI_ne (by decide), hA_I, hA_I, hI_A, hA_ne (show (307 : Nat) ≠ 302 by decide), hA_ne (show (307 : Nat) ≠ 301 by decide)]; exact a5
  · rw [List.length_append]
    have : [s].length = 1 := rfl
    omega
theorem rw_P_fr {k : Nat} {s : rwS} : hp_fr rx_S 0 ρ P ρ (rw_P P k s) := by
  unfold rw_P
  refine hp_fr.tr0 ?_ (hp_fr.sI (rx_S_t (by decide)))
  refine hp_fr.tr0 ?_ (hp_fr.sA (rx_S_t (by decide)))
  exact hp_fr.sA (rx_S_t (by decide))
theorem rw_grow_I {len : Nat} (w : hp_w B ρ) (h : rwI P Rs O b) (hl : (P.2 301).1 = len) (h24 : len ≤ 24000) : hp_w B (ty_g1 len 302 (ty_g1 len 301 (ρ, P))).1 ∧ rwI (ty_g1 len 302 (ty_g1 len 301 (ρ, P))).2 Rs O b ∧ hp_fr rx_S 0 ρ P (ty_g1 len 302 (ty_g1 len 301 (ρ, P))).1 (ty_g1 len 302 (ty_g1 len 301 (ρ, P))).2 ∧ ((ty_g1 len 302 (ty_g1 len 301 (ρ, P))).2.2 301).1 = 2 * len := by
  obtain ⟨a1, ⟨len', b1, b2, b3, b4, b5⟩, a3, a4, a5, a6⟩ := h
  obtain rfl : len' = len := b3.symm.trans hl
  have w0 := ty_g1_w (len := len') (r := 301) (x := (ρ, P)) w (by decide)
  refine ⟨ty_g1_w w0 (by decide), ⟨a1, ⟨2 * len', by omega, by omega, rfl, rfl, by omega⟩, fun k s hs => ?_, a4, a5, a6⟩, ?_, rfl⟩
  · have hk : k < (Rs.flatten ++ O).length := (List.getElem?_eq_some_iff.mp hs).1
    have e := a3 k s hs
    rw [show ((ty_g1 len' 302 (ty_g1 len' 301 (ρ, P))).2.2 301).2 k = hp_ext (P.2 301) k from rfl, show ((ty_g1 len' 302 (ty_g1 len' 301 (ρ, P))).2.2 302).2 k = hp_ext (P.2 302) k from rfl, hp_ext_lt (by omega), hp_ext_lt (by omega)]
    exact e
  · exact hp_fr.tr0 (hp_fr.grow w (rx_S_t (by decide)) (by decide) b3 (by omega)) (hp_fr.grow w0 (rx_S_t (by decide)) (by decide) b4 (by omega))
set_option maxRecDepth 4000 in
theorem rw_put {cl : am_F} {f : Nat} {s : rwS} (w : hp_w B ρ) (h : rwI P Rs O false) (hl : (Rs.flatten ++ O).length < (P.2 301).1) {o : Nat} (ho : ρ.1 3 = o) :
    ((am_getr (hp_S sa ρ P) o 3 1).bind fun p5 => (am_geti (hp_S sa ρ P) o 3 3).bind fun v6 => (am_iast B (hp_S sa ρ P) p5 v6 s.1).bind fun g7 => (am_getr g7 o 3 2).bind fun p8 => (am_geti g7 o 3 3).bind fun v9 => (am_iast B g7 p8 v9 s.2).bind fun g10 => (am_geti g10 o 3 3).bind fun v11 => (am_put B g10 o 3 3 (.int (v11 + 1))).bind fun g12 => some (none, g12)) = (some (none, hp_S sa ρ (rw_P P (Rs.flatten ++ O).length s)) : Option (Option Value × am_S)) := by
  subst ho
  obtain ⟨a1, ⟨len, b1, b2, b3, b4, b5⟩, a3, a4, a5, a6, a7, a8⟩ := h
  have hk : (Rs.flatten ++ O).length < 2 ^ 31 := by omega
  have c1 : hp_ck P 301 (nI (Rs.flatten ++ O).length) = some () := hp_ck_nI (by omega) hk
  have c2 : hp_ck (hp_sA P 301 (nI (Rs.flatten ++ O).length) s.1) 302 (nI (Rs.flatten ++ O).length) = some () := hp_ck_nI (by rw [hA_len]; omega) hk
  simp only [hr_301 w, hr_302 w, hg_303 w, ht_301 w, ht_302 w, hs_303 w, Option.bind_some, a1, c1, c2, hA_I, nI_1]
  rfl
theorem rw_P_ne {k j : Nat} {s : rwS} (hk : k < 2 ^ 31) (hj : j ≠ k) : ((rw_P P k s).2 301).2 j = (P.2 301).2 j ∧ ((rw_P P k s).2 302).2 j = (P.2 302).2 j := by
  unfold rw_P
  rw [hI_A, hA_ne (show (301 : Nat) ≠ 302 by decide), hA_eq, hA_eq, nI_clamp hk, hA_ne (show (302 : Nat) ≠ 301 by decide)]
  exact ⟨pk_un hj, pk_un hj⟩
theorem rw_tail {f0 f d : Nat} {s : rwS} (w : hp_w B ρ) (h : rwI P Rs O b) (hO : b = false → O.length < 4000) :
    ∃ ρ' P', am_go B sa am_dfl (am_call B sa am_dfl am_tb (f0 + 1) (d + 2)) am_r51 (f + 1) 29 [(0, .ref (ρ.1 3)), (1, .int s.1), (2, .int s.2)] [] (hp_S sa ρ P) = some (none, hp_S sa ρ' P') ∧ hp_w B ρ' ∧ rwI P' Rs (if b = true then O else O ++ [s]) b ∧ hp_fr rx_S 0 ρ P ρ' P' ∧ ∀ k, k ≠ (Rs.flatten ++ O).length → k < (P.2 301).1 → (P'.2 301).2 k = (P.2 301).2 k ∧ (P'.2 302).2 k = (P.2 302).2 k := by
  rw [am_s51_29]
  have h5 := h.2.2.2.2.1.1
  cases b with
  | true =>
    rw [if_pos rfl] at h5
    refine ⟨ρ, P, ?_, w, h, hp_fr.rf, fun _ _ _ => ⟨rfl, rfl⟩⟩
    simp only [hg_306 w, Option.bind_some, h5, am_c_eq]
    rw [if_neg (by decide)]
  | false =>
    have h5 : P.1 306 = 0 := h5
    have hO := hO rfl
    obtain ⟨len, b1, b2, b3, b4, b5⟩ := h.2.1
    have hll : (Rs.flatten ++ O).length ≤ 24000 := by
      have := h.2.2.2.2.2.1
      rw [List.length_append]
      omega
    have hal : am_alen (hp_S sa ρ P) (ρ.2.1 301) = some (nI len) := by rw [hp_alen w (by decide), b3]; rfl
    simp only [hg_306 w, Option.bind_some, h5, am_c_eq, if_true, hg_303 w, hr_301 w, hal, h.1, am_c_ne]
    by_cases e : (Rs.flatten ++ O).length = len
    · have e0 : ¬ (nI (Rs.flatten ++ O).length ≠ nI len) := fun z => z (by rw [e])
      rw [if_neg e0]
      obtain ⟨g1, g2, g3, g4⟩ := rw_grow_I w h b3 (by omega)
      refine ⟨_, _, ?_, g1, rw_P_I (s := s) g2 (by rw [g4]; omega) hO, hp_fr.tr0 g3 rw_P_fr, fun k hk hl => ?_⟩
      rotate_left
      · obtain ⟨e1, e2⟩ := rw_P_ne (P := (ty_g1 len 302 (ty_g1 len 301 (ρ, P))).2) (s := s) (show (Rs.flatten ++ O).length < 2 ^ 31 by omega) hk
        rw [e1, e2, show ((ty_g1 len 302 (ty_g1 len 301 (ρ, P))).2.2 301).2 k = hp_ext (P.2 301) k from rfl, show ((ty_g1 len 302 (ty_g1 len 301 (ρ, P))).2.2 302).2 k = hp_ext (P.2 302) k from rfl, hp_ext_lt hl, hp_ext_lt (by omega)]
        exact ⟨rfl, rfl⟩
      have w0 := ty_g1_w (len := len) (r := 301) (x := (ρ, P)) w (by decide)
      rw [hp_longer w (show 301 ∈ hp_rs by decide) b3 (by omega) (by omega), am_p_some, hd_301 w, Option.bind_some]
      refine (lg_302 (ρ := (ty_g1 len 301 (ρ, P)).1) (P := (ty_g1 len 301 (ρ, P)).2) (f := f0) (d := d) (len := len) w0 rfl b4 (by omega) (by omega)).trans ?_
      exact rw_put (cl := fun _ _ _ => none) (f := 0) g1 g2 (by rw [g4]; omega) rfl
    · have e0 : nI (Rs.flatten ++ O).length ≠ nI len := fun z => e ((nI_eq (by omega) (by omega)).mp z)
      rw [if_pos e0]
      refine ⟨ρ, _, ?_, w, rw_P_I (s := s) h (by omega) hO, rw_P_fr, fun k hk _ => rw_P_ne (by omega) hk⟩
      have := rw_put (sa := sa) (cl := fun _ _ _ => none) (f := 0) (s := s) w h (by omega) rfl
      simp only [hr_301 w, hg_303 w, h.1, Option.bind_some] at this
      exact this
/-- Rows.write -/
theorem rw_write {f d : Nat} {s : rwS} (w : hp_w B ρ) (h : rwI P Rs O b) :
    ∃ ρ' P', am_call B sa am_dfl am_tb (f + 2) (d + 3) 51 [.ref (ρ.1 3), .int s.1, .int s.2] (hp_S sa ρ P) = some (none, hp_S sa ρ' P') ∧ hp_w B ρ' ∧ rwI P' Rs (rw_w O b s).1 (rw_w O b s).2 ∧ hp_fr rx_S 0 ρ P ρ' P' ∧ ∀ k, k ≠ (Rs.flatten ++ O).length → k < (P.2 301).1 → (P'.2 301).2 k = (P.2 301).2 k ∧ (P'.2 302).2 k = (P.2 302).2 k := by
  rw [am_c_51, am_s51_0]
  have i1 : ((1 : Int32) = 0 ∨ (1 : Int32) = 1) = True := eq_true (Or.inr rfl)
  by_cases e : s.2 < 0
  · have hw : rw_w O b s = (O, true) := by
      unfold rw_w
      split
      · rfl
      · rw [if_pos (Or.inl e)]
    rw [hw]
    obtain ⟨ρ', P', t1, t2, t3, t4, t5⟩ := rw_tail (sa := sa) (f0 := f + 1) (f := f) (d := d) (s := s) w h.bad (fun z => by cases z)
    refine ⟨ρ', P', ?_, t2, t3, hp_fr.tr0 (hp_fr.sI (rx_S_t (by decide))) t4, t5⟩
    simp only [am_c_lt, e, if_true, i1, hs_306 w, Option.bind_some]
    exact t1
  · obtain ⟨len, b1, b2, b3, b4, b5⟩ := h.2.1
    have hc := h.2.2.2.1
    have h20 := h.2.2.2.2.2.1
    have h40 := h.2.2.2.2.2.2.1
    have hRl := rw_len_Rs h.2.2.2.2.2.2.2
    have r4 : hp_rd P 304 (nI Rs.length) = some (nI Rs.flatten.length) := by rw [hp_rd_nI (by omega) (by omega), h.last]
    have hsub : nI (Rs.flatten.length + O.length) - nI Rs.flatten.length = nI O.length := by rw [pk_sub (by omega)]; congr 1; omega
    have hlt : (nI O.length < (4000 : Int32)) = (O.length < 4000) := by rw [show (4000 : Int32) = nI 4000 from rfl]; exact propext (nI_ltI (by omega) (by omega))
    simp only [am_c_lt, e, if_false, hg_303 w, hr_304 w, hg_305 w, hl_304 w, Option.bind_some, h.top, hc.1, r4, hsub, hlt]
    by_cases e4 : O.length < 4000
    · rw [if_pos e4]
      have hw : rw_w O b s = (if b = true then O else O ++ [s], b) := by
        unfold rw_w
        cases b with
        | true => rfl
        | false =>
          rw [if_neg (by decide), if_neg (by intro z; rcases z with z | z; exact e z; omega)]
          rfl
      rw [hw]
      exact rw_tail (f0 := f + 1) (f := f) (d := d) w h (fun _ => e4)
    · rw [if_neg e4]
      have hw : rw_w O b s = (O, true) := by
        unfold rw_w
        split
        · rfl
        · rw [if_pos (Or.inr (by omega))]
      rw [hw]
      obtain ⟨ρ', P', t1, t2, t3, t4, t5⟩ := rw_tail (sa := sa) (f0 := f + 1) (f := f) (d := d) (s := s) w h.bad (fun z => by cases z)
      refine ⟨ρ', P', ?_, t2, t3, hp_fr.tr0 (hp_fr.sI (rx_S_t (by decide))) t4, t5⟩
      simp only [i1, if_true, hs_306 w, Option.bind_some]
      exact t1
end RW1
