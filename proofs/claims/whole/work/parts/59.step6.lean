/-! STEPS of the class, 6: typesPutIn -/
section SP7
variable {sa : Nat → Nat} {B : Nat} {ρ : hp_L} {P : hp_P} {b : Bool} {n : Nat} {T : Nat → Int32 × Int32 × Int32} {Z : Prop} {G : qT → Prop} {C : sC} {H : List qM} {D : List qS} {S : qT → Prop} {base : Nat} {pr : List (Int32 × Int32)} {fr0 : Nat}
/-- what was said of pairs -/
def wd_I (P : hp_P) (fr0 : Nat) (pr : List (Int32 × Int32)) : Prop := ∀ i p, pr[i]? = some p → hp_rd P 807 (nI (fr0 + 2 * i)) = some p.1 ∧ hp_rd P 807 (nI (fr0 + 2 * i + 1)) = some p.2
theorem nI_2k {a k : Nat} : nI a + 2 * nI k = nI (a + 2 * k) := by rw [show (2 : Int32) = nI 2 from rfl, pk_mul, nI_add]
theorem st_among_loop {cl : am_F} {x : Int32} {k : Nat} (w : hp_w B ρ) (hw : wd_I P fr0 pr) (hk : k ≤ pr.length) (hk2 : k ≤ 1000) : ∀ (m i f : Nat), i + m = k → m + 1 ≤ f →
    am_go B sa am_dfl cl am_r90 f 3 [(0, .ref (ρ.2.1 807)), (1, .int (nI fr0)), (2, .int (nI k)), (3, .int x), (4, .int (nI i))] [] (hp_S sa ρ P) = some (some (.int (bP (∃ j p, i ≤ j ∧ j < k ∧ pr[j]? = some p ∧ p.1 = x))), hp_S sa ρ P) := by
  intro m
  induction m with
  | zero =>
    intro i f hi hf
    obtain ⟨f, rfl⟩ : ∃ g, f = g + 1 := ⟨f - 1, by omega⟩
    rw [am_s90_3]
    simp only [am_c_ge]
    rw [if_pos (by rw [show i = k by omega]; exact Int32.le_refl _), am_rz_0, bP_f (fun ⟨j, p, j1, j2, _⟩ => by omega)]
  | succ m ih =>
    intro i f hi hf
    obtain ⟨f, rfl⟩ : ∃ g, f = g + 1 := ⟨f - 1, by omega⟩
    have hil : i < pr.length := by omega
    obtain ⟨r1, -⟩ := hw i pr[i] (List.getElem?_eq_getElem hil)
    rw [am_s90_3]
    simp only [am_c_ge, am_c_ne, nI_2k, hl_807 w, r1, Option.bind_some, nI_1]
    rw [if_neg (nI_ge (by omega) (by omega))]
    by_cases e : (pr[i]).1 = x
    · rw [if_neg (fun z => z e), am_rz_1, bP_t ⟨i, pr[i], Nat.le_refl _, by omega, List.getElem?_eq_getElem hil, e⟩]
    · rw [if_pos e, ih (i + 1) f (by omega) (by omega)]
      congr 4
      refine bP_c ⟨fun ⟨j, p, j1, j2⟩ => ⟨j, p, by omega, j2⟩, fun ⟨j, p, j1, j2, j3, j4⟩ => ⟨j, p, ?_, j2, j3, j4⟩⟩
      have : j ≠ i := fun z => by
        rw [z, List.getElem?_eq_getElem hil] at j3
        exact e (by rw [Option.some.inj j3]; exact j4)
      omega
theorem st_among {f d k : Nat} {x : Int32} (w : hp_w B ρ) (hw : wd_I P fr0 pr) (hk : k ≤ pr.length) (hk2 : k ≤ 1000) (hf : 2000 ≤ f) :
    am_call B sa am_dfl am_tb f (d + 1) 90 [.ref (ρ.2.1 807), .int (nI fr0), .int (nI k), .int x] (hp_S sa ρ P) = some (some (.int (bP (∃ j p, j < k ∧ pr[j]? = some p ∧ p.1 = x))), hp_S sa ρ P) := by
  obtain ⟨f, rfl⟩ : ∃ g, f = g + 1 := ⟨f - 1, by omega⟩
  rw [am_c_90, am_s90_0, show (0 : Int32) = nI 0 from rfl, st_among_loop w hw hk hk2 k 0 f (by omega) (by omega)]
  congr 4
  exact bP_c ⟨fun ⟨j, p, _, j2⟩ => ⟨j, p, j2⟩, fun ⟨j, p, j2⟩ => ⟨j, p, Nat.zero_le _, j2⟩⟩
theorem cI.imo {P' : hp_P} (h : cI B C ρ P n T) (k : ty_imo P P') : cI B C ρ P' n T := by
  obtain ⟨h1, h2, h3, h4, h5, h6, h7, h8⟩ := h
  have e1 : P'.1 = P.1 := k.1
  refine ⟨h1, h2.cg (by rw [e1]) (by rw [e1]) fun r a b => k.2.1 r (by omega), h3.cg (by rw [e1]) (by rw [e1]) (k.2.1 500 (by decide)) (k.2.1 501 (by decide)), h4.cg fun r a b => ⟨by rw [e1], k.2.1 r (by omega)⟩, h5, ⟨⟨k.okk h6.1.1, h6.1.2.1, by rw [k.len]; exact h6.1.2.2⟩, h6.2⟩, h7.cg fun r a b => ⟨by rw [e1], k.2.1 r (by omega)⟩, h8⟩
/-- the images of marked types: what the variables become is there -/
def im_I (P : hp_P) (n : Nat) (T : Nat → Int32 × Int32 × Int32) (Mk : Nat → Bool) (σ : Int32 → Option qT) : Prop := ∀ i, i < n → (Mk i = false → (P.2 706).2 i = -1) ∧ (Mk i = true → (∃ a, a < n ∧ (P.2 706).2 i = nI a) ∧ ((T i).2.1 = -1 → pl n T ((P.2 706).2 i) (q_sbs σ (ct T n (nI i)))))
theorem q_sbs_0 {k : Int32 → Nat} {t : qT} {c : Int32} {r : qT} (har : q_ar k t) (e : t = qN c qE r) {σ : Int32 → Option qT} (hσ : c < 0 → σ c = none) : q_sbs σ t = t := by
  rw [e, q_ar_N] at har
  have : r = qE := har.2.1.mp (by have := har.1.mpr rfl; omega)
  rw [e, this, q_sbs_N]
  split
  · rename_i h
    rw [hσ h]; rfl
  · rfl
theorem im_I_0 {Mk : Nat → Bool} {kk : Int32 → Nat} (hw : ty_wf T n) (hn : n < 2 ^ 31) (har : ty_ar kk T n) (h : ty_im P n Mk) : im_I P n T Mk (ps_s []) := by
  intro i hi
  have e := h i hi
  refine ⟨fun z => by rw [e, z]; rfl, fun z => ?_⟩
  rw [z, if_pos rfl] at e
  refine ⟨⟨i, hi, e⟩, fun hl => ?_⟩
  have hc := ct_at hw hn hi
  rw [hl, ct_m1] at hc
  rw [e, q_sbs_0 (har i hi) hc (fun _ => rfl)]
  exact ⟨i, hi, rfl, rfl⟩
/-- a type more is put in -/
theorem im_I_p {P' : hp_P} {Mk : Nat → Bool} {kk : Int32 → Nat} {ps : List (Int32 × qT)} {x v : Int32} {t : qT} (hk0 : ∀ c, c < 0 → kk c = 0) (hw : ty_wf T n) (hd : ty_di T n) (hn : n < 2 ^ 31) (har : ty_ar kk T n) (h : im_I P n T Mk (ps_s ps)) (hx : isNm x) (hnew : ∀ p ∈ ps, p.1 ≠ x) (hps : ∀ p ∈ ps, isNm p.1) (hv : pl n T v t) (h' : ty_ii P' n (fun i => if ty_fnd T (-1 - x, -1, -1) n = nI i ∧ (P.2 706).2 i ≠ -1 then v else (P.2 706).2 i)) : im_I P' n T Mk (ps_s (ps ++ [(x, t)])) := by
  obtain ⟨a, a1, a2⟩ := hv
  have hv : pl n T v t := ⟨a, a1, a2⟩
  have nm : ∀ {y : Int32}, isNm y → ∃ j, j < 100000000 ∧ y = nI j ∧ -1 - y < 0 := fun ⟨j, j1, j2⟩ => ⟨j, j1, j2, by
    rw [j2]
    apply Int32.lt_iff_toInt_lt.mpr
    have e1 := nI_toInt (show j < 2 ^ 31 by omega)
    rw [Int32.toInt_sub, e1]
    have : (-1 : Int32).toInt = -1 := by decide
    rw [this]
    have : (0 : Int32).toInt = 0 := by decide
    rw [this]
    have hb : (-1 - (j : Int)).bmod (2 ^ 32) = -1 - (j : Int) := by
      rw [Int.bmod_eq_of_le] <;> omega
    rw [hb]
    omega⟩
  have hinj : ∀ {y z : Int32}, -1 - y = -1 - z → y = z := fun h => by grind
  have hnone : ps_s ps (-1 - x) = none := ps_s_none fun p hp z => hnew p hp (hinj z)
  obtain ⟨jx, -, -, hx0⟩ := nm hx
  intro i hi
  have e := h' i hi
  dsimp only at e
  obtain ⟨q1, q2⟩ := h i hi
  refine ⟨fun z => ?_, fun z => ?_⟩
  · rw [e, if_neg (fun q => q.2 (q1 z))]
    exact q1 z
  · obtain ⟨⟨b, b1, b2⟩, q3⟩ := q2 z
    have hne : (P.2 706).2 i ≠ -1 := by rw [b2]; exact nI_ne_m1 (by omega)
    by_cases ef : ty_fnd T (-1 - x, -1, -1) n = nI i
    · rw [if_pos ⟨ef, hne⟩] at e
      rw [e]
      refine ⟨⟨a, a1, a2.1⟩, fun hl => ?_⟩
      rcases ty_fnd_S (q := (-1 - x, -1, -1)) hw hd hn (Or.inl rfl) (Or.inl rfl) n (Nat.le_refl _) with ⟨y1, -⟩ | ⟨i', y1, y2, y3⟩
      · rw [y1] at ef
        exact absurd ef.symm (nI_ne_m1 (by omega))
      · have : i = i' := (nI_eq (by omega) (by omega)).mp (ef.symm.trans y2)
        rw [this, y3]
        dsimp only
        rw [ct_m1, q_sbs_N, if_pos hx0, ps_s_new hnone, if_pos rfl]
        exact hv
    · rw [if_neg (fun q => ef q.1)] at e
      rw [e]
      refine ⟨⟨b, b1, b2⟩, fun hl => ?_⟩
      have hc := ct_at hw hn hi
      have hre : q_sbs (ps_s (ps ++ [(x, t)])) (ct T n (nI i)) = q_sbs (ps_s ps) (ct T n (nI i)) := by
        rw [hc, hl, ct_m1, q_sbs_N, q_sbs_N]
        have hark := har i hi
        rw [hc, hl, ct_m1, q_ar_N] at hark
        have hr : ct T n (T i).2.2 = qE := hark.2.1.mp (by have := hark.1.mpr rfl; omega)
        split
        · rename_i hneg
          have hcx : (T i).1 ≠ -1 - x := fun z => ef (by
            rcases ty_fnd_S (q := (-1 - x, -1, -1)) hw hd hn (Or.inl rfl) (Or.inl rfl) n (Nat.le_refl _) with ⟨y1, y2⟩ | ⟨i', y1, y2, y3⟩
            · refine absurd ?_ (y2 i hi)
              dsimp only
              rw [hc, hl, ct_m1, hr, z]
            · have : nI i' = nI i := ct_inj hw hd hn n _ _ (Nat.le_refl _) (Or.inr ⟨i', y1, rfl⟩) (Or.inr ⟨i, hi, rfl⟩) (by rw [y3, hc, hl, hr, z]; dsimp only; rw [ct_m1])
              exact y2.trans this)
          cases hps' : ps_s ps (T i).1 with
          | some u => rw [ps_s_old hps']
          | none => rw [ps_s_new hps', if_neg (fun z => hcx z.symm)]
        · rw [hr]
          rfl
      rw [hre]
      exact q3 hl
end SP7
