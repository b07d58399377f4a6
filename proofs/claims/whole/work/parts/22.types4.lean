/-! TYPES of the class, 4: append, make -/
section TY4
variable {sa : Nat → Nat} {B : Nat} {ρ : hp_L} {P : hp_P} {n : Nat} {T : Nat → Int32 × Int32 × Int32}
theorem ty_gr0 {α : Type} {K : am_S → Option α} {kn : am_S → Option α} {o f d len : Nat} (w : hp_w B ρ) (ho : ρ.1 7 = o) (hl : (P.2 700).1 = len) (h0 : 0 < len) (h5 : len ≤ 50000) :
    ((am_getr (hp_S sa ρ P) o 7 0).bind fun p => am_p (am_call B sa am_dfl am_tb (f + 1) (d + 1) 1 [.ref p, .int (nI (2 * len))] (hp_S sa ρ P)) (fun p' g' => (am_put B g' o 7 0 (.ref p')).bind K) kn) = K (hp_S sa (hp_ad ρ 700 (P.2 700) (2 * len)) (hp_sR P 700 (2 * len, hp_ext (P.2 700)))) := by
  subst ho
  simp only [hr_700 w, Option.bind_some, hp_copyOf w (show 700 ∈ hp_rs by decide) hl h0 h5, am_p_some, hd_700 w]
theorem ty_gr1 {α : Type} {K : am_S → Option α} {kn : am_S → Option α} {o f d len : Nat} (w : hp_w B ρ) (ho : ρ.1 7 = o) (hl : (P.2 701).1 = len) (h0 : 0 < len) (h5 : len ≤ 50000) :
    ((am_getr (hp_S sa ρ P) o 7 1).bind fun p => am_p (am_call B sa am_dfl am_tb (f + 1) (d + 1) 1 [.ref p, .int (nI (2 * len))] (hp_S sa ρ P)) (fun p' g' => (am_put B g' o 7 1 (.ref p')).bind K) kn) = K (hp_S sa (hp_ad ρ 701 (P.2 701) (2 * len)) (hp_sR P 701 (2 * len, hp_ext (P.2 701)))) := by
  subst ho
  simp only [hr_701 w, Option.bind_some, hp_copyOf w (show 701 ∈ hp_rs by decide) hl h0 h5, am_p_some, hd_701 w]
theorem ty_gr2 {α : Type} {K : am_S → Option α} {kn : am_S → Option α} {o f d len : Nat} (w : hp_w B ρ) (ho : ρ.1 7 = o) (hl : (P.2 702).1 = len) (h0 : 0 < len) (h5 : len ≤ 50000) :
    ((am_getr (hp_S sa ρ P) o 7 2).bind fun p => am_p (am_call B sa am_dfl am_tb (f + 1) (d + 1) 1 [.ref p, .int (nI (2 * len))] (hp_S sa ρ P)) (fun p' g' => (am_put B g' o 7 2 (.ref p')).bind K) kn) = K (hp_S sa (hp_ad ρ 702 (P.2 702) (2 * len)) (hp_sR P 702 (2 * len, hp_ext (P.2 702)))) := by
  subst ho
  simp only [hr_702 w, Option.bind_some, hp_copyOf w (show 702 ∈ hp_rs by decide) hl h0 h5, am_p_some, hd_702 w]
theorem ty_gr3 {α : Type} {K : am_S → Option α} {kn : am_S → Option α} {o f d len : Nat} (w : hp_w B ρ) (ho : ρ.1 7 = o) (hl : (P.2 703).1 = len) (h0 : 0 < len) (h5 : len ≤ 50000) :
    ((am_getr (hp_S sa ρ P) o 7 3).bind fun p => am_p (am_call B sa am_dfl am_tb (f + 1) (d + 1) 1 [.ref p, .int (nI (2 * len))] (hp_S sa ρ P)) (fun p' g' => (am_put B g' o 7 3 (.ref p')).bind K) kn) = K (hp_S sa (hp_ad ρ 703 (P.2 703) (2 * len)) (hp_sR P 703 (2 * len, hp_ext (P.2 703)))) := by
  subst ho
  simp only [hr_703 w, Option.bind_some, hp_copyOf w (show 703 ∈ hp_rs by decide) hl h0 h5, am_p_some, hd_703 w]
theorem ty_gr4 {α : Type} {K : am_S → Option α} {kn : am_S → Option α} {o f d len : Nat} (w : hp_w B ρ) (ho : ρ.1 7 = o) (hl : (P.2 704).1 = len) (h0 : 0 < len) (h5 : len ≤ 50000) :
    ((am_getr (hp_S sa ρ P) o 7 4).bind fun p => am_p (am_call B sa am_dfl am_tb (f + 1) (d + 1) 1 [.ref p, .int (nI (2 * len))] (hp_S sa ρ P)) (fun p' g' => (am_put B g' o 7 4 (.ref p')).bind K) kn) = K (hp_S sa (hp_ad ρ 704 (P.2 704) (2 * len)) (hp_sR P 704 (2 * len, hp_ext (P.2 704)))) := by
  subst ho
  simp only [hr_704 w, Option.bind_some, hp_copyOf w (show 704 ∈ hp_rs by decide) hl h0 h5, am_p_some, hd_704 w]
theorem ty_gr5 {α : Type} {K : am_S → Option α} {kn : am_S → Option α} {o f d len : Nat} (w : hp_w B ρ) (ho : ρ.1 7 = o) (hl : (P.2 705).1 = len) (h0 : 0 < len) (h5 : len ≤ 50000) :
    ((am_getr (hp_S sa ρ P) o 7 5).bind fun p => am_p (am_call B sa am_dfl am_tb (f + 1) (d + 1) 1 [.ref p, .int (nI (2 * len))] (hp_S sa ρ P)) (fun p' g' => (am_put B g' o 7 5 (.ref p')).bind K) kn) = K (hp_S sa (hp_ad ρ 705 (P.2 705) (2 * len)) (hp_sR P 705 (2 * len, hp_ext (P.2 705)))) := by
  subst ho
  simp only [hr_705 w, Option.bind_some, hp_copyOf w (show 705 ∈ hp_rs by decide) hl h0 h5, am_p_some, hd_705 w]
theorem ty_gr6 {α : Type} {K : am_S → Option α} {kn : am_S → Option α} {o f d len : Nat} (w : hp_w B ρ) (ho : ρ.1 7 = o) (hl : (P.2 706).1 = len) (h0 : 0 < len) (h5 : len ≤ 50000) :
    ((am_getr (hp_S sa ρ P) o 7 6).bind fun p => am_p (am_call B sa am_dfl am_tb (f + 1) (d + 1) 1 [.ref p, .int (nI (2 * len))] (hp_S sa ρ P)) (fun p' g' => (am_put B g' o 7 6 (.ref p')).bind K) kn) = K (hp_S sa (hp_ad ρ 706 (P.2 706) (2 * len)) (hp_sR P 706 (2 * len, hp_ext (P.2 706)))) := by
  subst ho
  simp only [hr_706 w, Option.bind_some, hp_copyOf w (show 706 ∈ hp_rs by decide) hl h0 h5, am_p_some, hd_706 w]
/-- one array of the types has grown -/
def ty_g1 (len r : Nat) (x : hp_L × hp_P) : hp_L × hp_P := (hp_ad x.1 r (x.2.2 r) (2 * len), hp_sR x.2 r (2 * len, hp_ext (x.2.2 r)))
/-- all seven have -/
def ty_g (len : Nat) (x : hp_L × hp_P) : hp_L × hp_P := ty_g1 len 706 (ty_g1 len 705 (ty_g1 len 704 (ty_g1 len 703 (ty_g1 len 702 (ty_g1 len 701 (ty_g1 len 700 x))))))
theorem ty_g1_P {len r y : Nat} {x : hp_L × hp_P} : (ty_g1 len r x).2.2 y = if y = r then (2 * len, hp_ext (x.2.2 r)) else x.2.2 y := rfl
theorem ty_g_P {len y : Nat} {x : hp_L × hp_P} : (ty_g len x).2.2 y = if 700 ≤ y ∧ y ≤ 706 then (2 * len, hp_ext (x.2.2 y)) else x.2.2 y := by
  unfold ty_g
  simp only [ty_g1_P]
  by_cases h : 700 ≤ y ∧ y ≤ 706
  · rw [if_pos h]
    rcases (show y = 700 ∨ y = 701 ∨ y = 702 ∨ y = 703 ∨ y = 704 ∨ y = 705 ∨ y = 706 by omega) with rfl | rfl | rfl | rfl | rfl | rfl | rfl <;> simp
  · rw [if_neg h, if_neg (by omega), if_neg (by omega), if_neg (by omega), if_neg (by omega), if_neg (by omega), if_neg (by omega), if_neg (by omega)]
theorem ty_g_I {len : Nat} {x : hp_L × hp_P} : (ty_g len x).2.1 = x.2.1 := rfl
theorem ty_g_o {len : Nat} {x : hp_L × hp_P} : (ty_g len x).1.1 = x.1.1 := rfl
theorem ty_g1_w {len r : Nat} {x : hp_L × hp_P} (w : hp_w B x.1) (hr : r ∈ hp_rs) : hp_w B (ty_g1 len r x).1 := hp_w_ad w hr
theorem ty_g_w {len : Nat} {x : hp_L × hp_P} (w : hp_w B x.1) : hp_w B (ty_g len x).1 := ty_g1_w (ty_g1_w (ty_g1_w (ty_g1_w (ty_g1_w (ty_g1_w (ty_g1_w w (by decide)) (by decide)) (by decide)) (by decide)) (by decide)) (by decide)) (by decide)
theorem ty_g1_fr {len r : Nat} {x : hp_L × hp_P} (w : hp_w B x.1) (hS : ty_S r = true) (hg : r ∈ hp_gs) (hl : (x.2.2 r).1 = len) (h0 : 0 < len) : hp_fr ty_S 0 x.1 x.2 (ty_g1 len r x).1 (ty_g1 len r x).2 := hp_fr.grow w hS hg hl h0
theorem ty_g_fr {len : Nat} {x : hp_L × hp_P} (w : hp_w B x.1) (hl : ∀ r, 700 ≤ r → r ≤ 706 → (x.2.2 r).1 = len) (h0 : 0 < len) : hp_fr ty_S 0 x.1 x.2 (ty_g len x).1 (ty_g len x).2 := by
  have w0 := ty_g1_w (len := len) (r := 700) w (by decide)
  have w1 := ty_g1_w (len := len) (r := 701) w0 (by decide)
  have w2 := ty_g1_w (len := len) (r := 702) w1 (by decide)
  have w3 := ty_g1_w (len := len) (r := 703) w2 (by decide)
  have w4 := ty_g1_w (len := len) (r := 704) w3 (by decide)
  have w5 := ty_g1_w (len := len) (r := 705) w4 (by decide)
  have f0 := ty_g1_fr (len := len) (r := 700) w (ty_S_t (by decide)) (by decide) (hl 700 (by decide) (by decide)) h0
  have f1 := ty_g1_fr (len := len) (r := 701) w0 (ty_S_t (by decide)) (by decide) (hl 701 (by decide) (by decide)) h0
  have f2 := ty_g1_fr (len := len) (r := 702) w1 (ty_S_t (by decide)) (by decide) (hl 702 (by decide) (by decide)) h0
  have f3 := ty_g1_fr (len := len) (r := 703) w2 (ty_S_t (by decide)) (by decide) (hl 703 (by decide) (by decide)) h0
  have f4 := ty_g1_fr (len := len) (r := 704) w3 (ty_S_t (by decide)) (by decide) (hl 704 (by decide) (by decide)) h0
  have f5 := ty_g1_fr (len := len) (r := 705) w4 (ty_S_t (by decide)) (by decide) (hl 705 (by decide) (by decide)) h0
  have f6 := ty_g1_fr (len := len) (r := 706) w5 (ty_S_t (by decide)) (by decide) (hl 706 (by decide) (by decide)) h0
  exact (((((f0.tr0 f1).tr0 f2).tr0 f3).tr0 f4).tr0 f5).tr0 f6
/-- the grown table is the same table -/
theorem ty_g_ok {len : Nat} (h : ty_okk P n T) (hlen : (P.2 700).1 = len) (h8 : len ≤ 8000) : ty_okk (ty_g len (ρ, P)).2 n T ∧ ((ty_g len (ρ, P)).2.2 700).1 = 2 * len := by
  obtain ⟨⟨⟨hn, hn8⟩, ⟨len', hl1, hl2, l0, l1, l2, l3, l4, l5, l6⟩, l7, hrow, hhd⟩, hwf, hsz⟩ := h
  obtain rfl : len' = len := l0.symm.trans hlen
  have e : ∀ r, 700 ≤ r ∧ r ≤ 706 → (ty_g len' (ρ, P)).2.2 r = (2 * len', hp_ext (P.2 r)) := fun r hr => by rw [ty_g_P, if_pos hr]
  have e7 : (ty_g len' (ρ, P)).2.2 707 = P.2 707 := by rw [ty_g_P, if_neg (by decide)]
  have x : ∀ r, 700 ≤ r ∧ r ≤ 706 → (P.2 r).1 = len' → ∀ j, j < n → ((ty_g len' (ρ, P)).2.2 r).2 j = (P.2 r).2 j := fun r hr hl j hj => by
    rw [e r hr]
    exact hp_ext_lt (by omega)
  refine ⟨⟨⟨⟨hn, hn8⟩, ⟨2 * len', by omega, by omega, ?_, ?_, ?_, ?_, ?_, ?_, ?_⟩, by rw [e7]; exact l7, fun j hj => ?_, fun b hb => by rw [e7]; exact hhd b hb⟩, hwf, fun j hj => ?_⟩, ?_⟩
  · rw [e 700 (by decide)]
  · rw [e 701 (by decide)]
  · rw [e 702 (by decide)]
  · rw [e 703 (by decide)]
  · rw [e 704 (by decide)]
  · rw [e 705 (by decide)]
  · rw [e 706 (by decide)]
  · rw [x 700 (by decide) l0 j hj, x 701 (by decide) l1 j hj, x 702 (by decide) l2 j hj, x 705 (by decide) l5 j hj]
    exact hrow j hj
  · rw [x 703 (by decide) l3 j hj, x 704 (by decide) l4 j hj]
    exact hsz j hj
  · rw [e 700 (by decide)]
end TY4
