/-! CONSTRUCTORS, 7: what stands at first; the reference made -/
def io_2 : qT := qF qA qB
def io_3 : qT := qF qA io_2
def io_4 : qT := qF io_2 qA
def io_S : qT → Prop := fun t => t = qA ∨ t = qB ∨ t = io_2 ∨ t = io_3 ∨ t = io_4
def io_A : sV := ([], 0, fun _ => (io_S, 0, 0), [0, 0, 2], [io_3, io_4], [], [])
theorem io_good : q_good io_S := by
  refine ⟨fun t ht => ?_, [qA, qB, io_2, io_3, io_4], by decide, fun t ht => ?_⟩
  · rcases ht with rfl | rfl | rfl | rfl | rfl <;> exact ⟨by decide +kernel, by decide +kernel⟩
  · rcases ht with rfl | rfl | rfl | rfl | rfl <;> simp only [List.mem_cons, true_or, or_true]
theorem io_cl : ∀ t u, io_S t → q_sub u t → io_S u := by
  have hA : ∀ u, q_sub u qA → io_S u := fun u h => Or.inl (q_sub_0 h)
  have hB : ∀ u, q_sub u qB → io_S u := fun u h => Or.inr (Or.inl (q_sub_0 h))
  have h2 : ∀ u, q_sub u io_2 → io_S u := fun u h => by
    rcases q_sub_N.mp h with h | h | h
    · exact Or.inr (Or.inr (Or.inl h))
    · exact hA u h
    · exact hB u h
  intro t u ht h
  rcases ht with rfl | rfl | rfl | rfl | rfl
  · exact hA u h
  · exact hB u h
  · exact h2 u h
  · rcases q_sub_N.mp h with h | h | h
    · exact Or.inr (Or.inr (Or.inr (Or.inl h)))
    · exact hA u h
    · exact h2 u h
  · rcases q_sub_N.mp h with h | h | h
    · exact Or.inr (Or.inr (Or.inr (Or.inr h)))
    · exact h2 u h
    · exact hA u h
theorem io_sgk : sgk [0, 0, 2] := ⟨rfl, rfl, rfl, by decide, by decide⟩
theorem io_ok : ∀ t, io_S t → q_ok [0, 0, 2] t := by
  have hA : q_ok [0, 0, 2] qA := q_ok_v (c := -1) (by decide) (by decide) (by decide)
  have hB : q_ok [0, 0, 2] qB := q_ok.B io_sgk
  have h2 : q_ok [0, 0, 2] io_2 := q_ok.F io_sgk hA hB
  intro t ht
  rcases ht with rfl | rfl | rfl | rfl | rfl
  · exact hA
  · exact hB
  · exact h2
  · exact q_ok.F io_sgk hA h2
  · exact q_ok.F io_sgk h2 hA
theorem io_nil {t : qT} : ¬ q_of [] t := fun ⟨X, hX, _⟩ => by cases hX
theorem io_aG : aG io_S [] [io_3, io_4] [] [] := by
  refine ⟨io_cl, ⟨Or.inl rfl, Or.inr (Or.inl rfl)⟩, fun t ht => ?_, fun t ht => (by cases ht), fun t ht => absurd ht io_nil, fun t ht => absurd ht io_nil⟩
  simp only [List.mem_cons, List.not_mem_nil, or_false] at ht
  rcases ht with rfl | rfl
  · exact Or.inr (Or.inr (Or.inr (Or.inl rfl)))
  · exact Or.inr (Or.inr (Or.inr (Or.inr rfl)))
theorem io_I : aI io_S io_A := by
  refine ⟨io_aG, io_ok, io_good, io_sgk, ⟨rfl, by decide⟩, fun s hs => (by cases hs), fun M hM => (by cases hM), fun X hX => (by cases hX), Nat.le_refl _, fun j _ _ => ⟨?_, Nat.le_refl _, Nat.le_refl _, fun t ht => ht⟩, fun i j _ _ _ => ⟨fun t ht => ht, Nat.le_refl _, Nat.le_refl _⟩⟩
  show aG io_S (List.take j []) [io_3, io_4] (List.take 0 []) (List.take 0 [])
  rw [List.take_nil]
  exact io_aG
theorem mc_ty {n n' : Nat} {T T' : Nat → Int32 × Int32 × Int32} {v : Int32} {b' : Bool} {q : qT} (h : tmo false n T v b' n' T' q) (hS : ∀ t, ct_S T n t → io_S t) (hq : io_S q) : b' = false ∧ pl n' T' v q ∧ ∀ t, ct_S T' n' t → ct_S T n t ∨ t = q := by
  rcases h with ⟨e, h⟩ | ⟨-, -, -, -, h | h⟩
  · exact ⟨e, h⟩
  · cases h
  · exact absurd io_good (h io_S hS hq)
theorem pl_T {n : Nat} {T : Nat → Int32 × Int32 × Int32} {v c : Int32} (hw : ty_wf T n) (hn : n < 2 ^ 31) (h : pl n T v (qN c qE qE)) : ∃ a, a < n ∧ v = nI a ∧ T a = (c, -1, -1) := by
  obtain ⟨a, h1, h2, h3⟩ := h
  rw [h2, ct_at hw hn h1] at h3
  obtain ⟨e1, e2, e3⟩ := qN_inj.mp h3
  have key : ∀ i, ty_in a i → ct T n i = qE → i = -1 := fun i hi e => by
    rcases hi with hi | ⟨b, hb, hi⟩
    · exact hi
    · rw [hi] at e
      exact absurd e (ct_ne hw hn (by omega))
  exact ⟨a, h1, h2, Prod.ext e1 (Prod.ext (key _ (hw a h1).1 e2) (key _ (hw a h1).2 e3))⟩
/-- the chains, emptied up to a place -/
def PJ (P : hp_P) (j : Nat) : hp_P := (P.1, fun r => if r = 911 then (4096, fun q => if q < j then -1 else (P.2 911).2 q) else if r = 926 then (4096, fun q => if q < j then -1 else (P.2 926).2 q) else P.2 r)
theorem PJ_ne {P : hp_P} {j r : Nat} (h1 : r ≠ 911) (h2 : r ≠ 926) : (PJ P j).2 r = P.2 r := by
  show (if r = 911 then _ else if r = 926 then _ else P.2 r) = P.2 r
  rw [if_neg h1, if_neg h2]
theorem PJ_911 {P : hp_P} {j : Nat} : (PJ P j).2 911 = (4096, fun q => if q < j then -1 else (P.2 911).2 q) := rfl
theorem PJ_926 {P : hp_P} {j : Nat} : (PJ P j).2 926 = (4096, fun q => if q < j then -1 else (P.2 926).2 q) := rfl
theorem PJ_0 {P : hp_P} (h1 : (P.2 911).1 = 4096) (h2 : (P.2 926).1 = 4096) : PJ P 0 = P := by
  refine Prod.ext rfl (funext fun r => ?_)
  by_cases e : r = 911
  · rw [e, PJ_911]
    exact Prod.ext h1.symm (funext fun q => by show (if q < 0 then (-1 : Int32) else (P.2 911).2 q) = _; rw [if_neg (Nat.not_lt_zero q)])
  · by_cases e2 : r = 926
    · rw [e2, PJ_926]
      exact Prod.ext h2.symm (funext fun q => by show (if q < 0 then (-1 : Int32) else (P.2 926).2 q) = _; rw [if_neg (Nat.not_lt_zero q)])
    · exact PJ_ne e e2
theorem PJ_u {g : Nat → Int32} {j : Nat} : upd (fun q => if q < j then (-1 : Int32) else g q) j (-1) = fun q => if q < j + 1 then -1 else g q := by
  funext q
  by_cases z : q = j
  · rw [z, pk_us, if_pos (Nat.lt_succ_self j)]
  · rw [pk_un z]
    by_cases y : q < j
    · rw [if_pos y, if_pos (by omega)]
    · rw [if_neg y, if_neg (by omega)]
theorem PJ_s {P : hp_P} {j : Nat} (hj : j < 4096) : hp_sA (hp_sA (PJ P j) 911 (nI j) (-1)) 926 (nI j) (-1) = PJ P (j + 1) := by
  refine Prod.ext rfl (funext fun r => ?_)
  by_cases e : r = 926
  · rw [e, hA_eq, hA_ne (by decide), nI_clamp (by omega), PJ_926, PJ_926]
    exact Prod.ext rfl PJ_u
  · rw [hA_ne e]
    by_cases e1 : r = 911
    · rw [e1, hA_eq, nI_clamp (by omega), PJ_911, PJ_911]
      exact Prod.ext rfl PJ_u
    · rw [hA_ne e1, PJ_ne e1 e, PJ_ne e1 e]
section MCT
variable {sa : Nat → Nat} {B : Nat} {ρ : hp_L}
theorem mc_loop {cl : am_F} {P : hp_P} (w : hp_w B ρ) : ∀ (t j f : Nat), 4096 - j = t → j ≤ 4096 → t ≤ f → am_go B sa am_dfl cl am_r121 (f + 1) 329 [(0, .ref (ρ.1 9)), (1, .int (nI j))] [] (hp_S sa ρ (PJ P j)) = am_go B sa am_dfl cl am_r121 (f - t + 1) 329 [(0, .ref (ρ.1 9)), (1, .int (nI 4096))] [] (hp_S sa ρ (PJ P 4096)) := by
  intro t
  induction t with
  | zero =>
    intro j f h1 h2 h3
    have : j = 4096 := by omega
    rw [this, Nat.sub_zero]
  | succ t ih =>
    intro j f h1 h2 h3
    obtain ⟨f, rfl⟩ : ∃ g, f = g + 1 := ⟨f - 1, by omega⟩
    have c1 : hp_ck (PJ P j) 911 (nI j) = some () := hp_ck_nI (by rw [PJ_911]; show j < 4096; omega) (by omega)
    have c2 : hp_ck (hp_sA (PJ P j) 911 (nI j) (-1)) 926 (nI j) = some () := hp_ck_nI (by rw [hA_len, PJ_926]; show j < 4096; omega) (by omega)
    rw [am_s121_329]
    simp only [am_c_ge]
    rw [if_neg (show ¬ (4096 : Int32) ≤ nI j from nI_ge (b := 4096) (by omega) (by decide))]
    simp only [hr_911 w, ht_911 w, hr_926 w, ht_926 w, c1, c2, Option.bind_some, nI_1]
    rw [PJ_s (by omega), ih (j + 1) f (by omega) (by omega) (by omega), Nat.add_sub_add_right]
theorem mc_y0 : tyN (hp_sA (PJ ip0 4096) 914 2 2) 0 (fun _ => (0, 0, 0)) := by
  have e11 : (hp_sA (PJ ip0 4096) 914 2 2).2 911 = (4096, fun q => if q < 4096 then -1 else (ip0.2 911).2 q) := by rw [hA_ne (by decide), PJ_911]
  refine ⟨⟨rfl, by decide⟩, ⟨fun r a b => ?_, rfl, by rw [e11]⟩, fun j hj => absurd hj (Nat.not_lt_zero _), fun j hj => absurd hj (Nat.not_lt_zero _), fun i j _ hj => absurd hj (Nat.not_lt_zero _), fun c hc => ?_, fun i hi => absurd hi (Nat.not_lt_zero _)⟩
  · have e : r = 905 ∨ r = 906 ∨ r = 907 ∨ r = 908 ∨ r = 909 ∨ r = 910 := by omega
    rcases e with rfl | rfl | rfl | rfl | rfl | rfl <;> rfl
  · rw [e11]
    show (if c < 4096 then (-1 : Int32) else _) = -1
    rw [if_pos hc]
theorem mc_fun {f d : Nat} {K : kS} {v u : Int32} {t s : qT} (w : hp_w B ρ) (h : kI False io_S [] K) (hv : pl K.2.1 K.2.2.1 v t) (hu : pl K.2.1 K.2.2.1 u s) (hG : io_S (qF t s)) (hf : 10000 ≤ f) :
    ∃ y K', am_call B sa am_dfl am_tb f (d + 3) 128 [.ref (ρ.1 9), .int v, .int u] (hp_S sa ρ K.1) = some (some (.int y), hp_S sa ρ K'.1) ∧ kI False io_S [] K' ∧ mfr kx_S K.1 K'.1 ∧ pl K'.2.1 K'.2.2.1 y (qF t s) ∧ ∀ {v t}, pl K.2.1 K.2.2.1 v t → pl K'.2.1 K'.2.2.1 v t := by
  obtain ⟨y, K', e1, e2, e3⟩ := k_fun (sa := sa) (f := f) (d := d) w ⟨fun z => z io_good, fun z => absurd z (by decide), fun X hX => (by cases hX)⟩ h hv hu hG hf
  refine ⟨y, K', e1, e2.1, e2.2.1, e3 ?_, fun {v t} z => z.xt h.wf h.n31 e2.2.2.1⟩
  cases hb : K'.2.2.2.2 with
  | false => rfl
  | true => exact (e2.1.2.2.2.1 hb).elim
end MCT
