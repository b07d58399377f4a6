/-! TYPES of the class, D: codeAt, matches, becomes -/
/-- a type takes as many as its constructor does -/
def q_ar (k : Int32 → Nat) : qT → Prop
  | .leaf _ => True
  | .branch c l r => (k (Int32.ofNat c) = 0 ↔ l = qE) ∧ (k (Int32.ofNat c) ≤ 1 ↔ r = qE) ∧ q_ar k l ∧ q_ar k r ∧ -100000001 ≤ (Int32.ofNat c).toInt
theorem q_ar_N {k : Int32 → Nat} {c : Int32} {l r : qT} : q_ar k (qN c l r) = ((k c = 0 ↔ l = qE) ∧ (k c ≤ 1 ↔ r = qE) ∧ q_ar k l ∧ q_ar k r ∧ -100000001 ≤ c.toInt) := by
  unfold qN
  show ((k (Int32.ofNat _) = 0 ↔ l = qE) ∧ (k (Int32.ofNat _) ≤ 1 ↔ r = qE) ∧ _) = _
  rw [q_code]
theorem q_cases (t : qT) (h : t = qE → False) (hc : ∀ c l r, t = .branch c l r → c < 2 ^ 32) : ∃ c l r, t = qN c l r := by
  cases t with
  | leaf u => exact (h rfl).elim
  | branch c l r => exact ⟨Int32.ofNat c, l, r, by unfold qN; rw [show (Int32.ofNat c).toBitVec.toNat = c from pk_tn (hc c l r rfl)]⟩
/-- putting types in for variables so that a type becomes another -/
noncomputable def q_mt : qT → qT → (Int32 → Option qT) → Option (Int32 → Option qT)
  | .leaf _, _, μ => some μ
  | .branch c l r, t, μ => if Int32.ofNat c < 0 then (match μ (Int32.ofNat c) with
      | none => some (fun x => if x = Int32.ofNat c then some t else μ x)
      | some u => @ite _ (u = t) (Classical.propDecidable _) (some μ) none) else match t with
    | .leaf _ => none
    | .branch c' l' r' => if Int32.ofNat c = Int32.ofNat c' then (q_mt l l' μ).bind (fun μ => q_mt r r' μ) else none
theorem q_mt_E {t : qT} {μ : Int32 → Option qT} : q_mt qE t μ = some μ := rfl
theorem q_mt_v {c : Int32} {l r t : qT} {μ : Int32 → Option qT} (h : c < 0) : q_mt (qN c l r) t μ = (match μ c with
      | none => some (fun x => if x = c then some t else μ x)
      | some u => @ite _ (u = t) (Classical.propDecidable _) (some μ) none) := by
  unfold qN
  show (if Int32.ofNat _ < 0 then _ else _) = _
  rw [q_code, if_pos h]
theorem q_mt_c {c c' : Int32} {l r l' r' : qT} {μ : Int32 → Option qT} (h : ¬ c < 0) : q_mt (qN c l r) (qN c' l' r') μ = if c = c' then (q_mt l l' μ).bind (fun μ => q_mt r r' μ) else none := by
  unfold qN
  show (if Int32.ofNat _ < 0 then _ else if Int32.ofNat _ = Int32.ofNat _ then _ else _) = _
  rw [q_code, q_code, if_neg h]
section TYD
variable {sa : Nat → Nat} {B : Nat} {ρ : hp_L} {P : hp_P} {n : Nat} {T : Nat → Int32 × Int32 × Int32}
theorem ty_row (h : ty_okk P n T) {a : Nat} (ha : a < n) : hp_rd P 700 (nI a) = some (T a).1 ∧ hp_rd P 701 (nI a) = some (T a).2.1 ∧ hp_rd P 702 (nI a) = some (T a).2.2 := by
  obtain ⟨⟨⟨hn, hn8⟩, ⟨len, a1, a2, l0, l1, l2, l3, l4, l5, l6⟩, l7, hrow, hhd⟩, hwf, hsz⟩ := h
  obtain ⟨q1, q2, q3, q4⟩ := hrow a ha
  exact ⟨by rw [hp_rd_nI (by omega) (by omega), q1], by rw [hp_rd_nI (by omega) (by omega), q2], by rw [hp_rd_nI (by omega) (by omega), q3]⟩
theorem ty_row3 (h : ty_okk P n T) {a : Nat} (ha : a < n) : hp_rd P 703 (nI a) = some (nI (q_sz (ct T n (nI a)))) := by
  obtain ⟨⟨⟨hn, hn8⟩, ⟨len, a1, a2, l0, l1, l2, l3, l4, l5, l6⟩, l7, hrow, hhd⟩, hwf, hsz⟩ := h
  rw [hp_rd_nI (by omega) (by omega), (hsz a ha).1, ct_sz]
theorem ty_len6 (h : ty_okk P n T) : n ≤ (P.2 706).1 := by
  obtain ⟨⟨⟨hn, hn8⟩, ⟨len, a1, a2, l0, l1, l2, l3, l4, l5, l6⟩, l7, hrow, hhd⟩, hwf, hsz⟩ := h
  omega
/-- all types take as many as their constructors do -/
def ty_ar (k : Int32 → Nat) (T : Nat → Int32 × Int32 × Int32) (n : Nat) : Prop := ∀ a, a < n → q_ar k (ct T n (nI a))
/-- Types.codeAt -/
theorem ty_codeAt_loop {cl : am_F} {kk : Int32 → Nat} (w : hp_w B ρ) (h : ty_okk P n T) (har : ty_ar kk T n) : ∀ (a k lv f : Nat), a < n → k < q_sz (ct T n (nI a)) → lv + q_ht (ct T n (nI a)) ≤ 24 → k + 1 ≤ f →
    am_go B sa am_dfl cl am_r10 f 8 [(0, .ref (ρ.1 7)), (3, .int (nI a)), (4, .int (nI k)), (5, .int (nI lv))] [] (hp_S sa ρ P) = some (some (.int ((q_fl (ct T n (nI a)))[k]?.getD 0)), hp_S sa ρ P) := by
  have hn8 := h.1.1.2
  have hw := h.2.1
  intro a
  induction a using Nat.strongRecOn with
  | ind a ih =>
    intro k lv f ha hk hlv hf
    obtain ⟨f, rfl⟩ : ∃ g, f = g + 1 := ⟨f - 1, by omega⟩
    obtain ⟨r0, r1, r2⟩ := ty_row h ha
    obtain ⟨w1, w2⟩ := hw a ha
    have hct := ct_at hw (by omega) ha
    have h200 := (h.2.2 a ha).2.2.1
    rw [← ct_sz] at h200
    rw [hct] at hk hlv h200 ⊢
    have hfl : ∀ c l r, q_fl (qN c l r) = c :: (q_fl l ++ q_fl r) := fun c l r => by
      show Int32.ofNat c.toBitVec.toNat :: _ = _
      rw [q_code]
    have hqs : ∀ t, (q_fl t).length = q_sz t := fun t => by
      induction t with
      | leaf u => rfl
      | branch c l r il ir => show (_ :: (q_fl l ++ q_fl r)).length = 1 + q_sz l + q_sz r; rw [List.length_cons, List.length_append, il, ir]; omega
    rw [hfl, am_s10_8]
    cases k with
    | zero =>
      simp only [am_c_le, hr_700 w, hl_700 w, r0, Option.bind_some]
      rw [if_pos (by decide)]
      rfl
    | succ k =>
      have hn0 : (nI (k + 1) ≤ 0) = False := eq_false (nI_nle (by omega) (by omega))
      have hk' : k < q_sz (ct T n (T a).2.1) + q_sz (ct T n (T a).2.2) := by
        have : k + 1 < 1 + q_sz (ct T n (T a).2.1) + q_sz (ct T n (T a).2.2) := hk
        omega
      have hlv' : lv + (1 + max (q_ht (ct T n (T a).2.1)) (q_ht (ct T n (T a).2.2))) ≤ 24 := hlv
      have h200' : 1 + q_sz (ct T n (T a).2.1) + q_sz (ct T n (T a).2.2) ≤ 200 := h200
      have hge : ((24 : Int32) ≤ nI lv) = False := by
        rw [show (24 : Int32) = nI 24 from rfl]
        exact eq_false (nI_ge (by omega) (by omega))
      rw [show (T a).1 :: (q_fl (ct T n (T a).2.1) ++ q_fl (ct T n (T a).2.2)) = [(T a).1] ++ (q_fl (ct T n (T a).2.1) ++ q_fl (ct T n (T a).2.2)) from rfl, List.getElem?_append_right (by simp)]
      simp only [List.length_cons, List.length_nil, Nat.zero_add, Nat.add_sub_cancel]
      have hL : ∃ l, l < a ∧ (T a).2.1 = nI l := by
        rcases w1 with z | z
        · exfalso
          have h1 := har a ha
          rw [hct, q_ar_N, z, ct_m1] at h1
          have h2 : ct T n (T a).2.2 = qE := h1.2.1.mp (by have := h1.1.mpr rfl; omega)
          rw [z, ct_m1, h2] at hk'
          have : q_sz qE = 0 := rfl
          omega
        · exact z
      obtain ⟨l, hl, el⟩ := hL
      have r3 := ty_row3 h (show l < n by omega)
      rw [← el] at r3
      simp only [am_c_le, hn0, if_false, am_c_ge, hge, hr_701 w, hl_701 w, r1, hr_703 w, hl_703 w, r3, Option.bind_some, i_addm1, nI_pred, nI_1]
      by_cases e : q_sz (ct T n (T a).2.1) ≤ k
      · rw [if_pos (nI_le e (by omega))]
        have hR : ∃ r, r < a ∧ (T a).2.2 = nI r := by
          rcases w2 with z | z
          · rw [z, ct_m1] at hk'
            have : q_sz qE = 0 := rfl
            omega
          · exact z
        obtain ⟨r, hr, er⟩ := hR
        simp only [hr_702 w, hl_702 w, r2, Option.bind_some, pk_sub e]
        rw [List.getElem?_append_right (by rw [hqs]; exact e), hqs, er]
        exact ih r hr _ (lv + 1) f (by omega) (by rw [← er]; omega) (by rw [← er]; omega) (by omega)
      · rw [if_neg (fun z => e ((nI_leI (by omega) (by omega)).mp z)), List.getElem?_append_left (by rw [hqs]; omega), el]
        exact ih l hl _ (lv + 1) f (by omega) (by rw [← el]; omega) (by rw [← el]; omega) (by omega)
theorem ty_codeAt {f d a k : Nat} {kk : Int32 → Nat} (w : hp_w B ρ) (h : ty_okk P n T) (har : ty_ar kk T n) (hf : 300 ≤ f) (ha : a < n) (hk : k < q_sz (ct T n (nI a))) :
    am_call B sa am_dfl am_tb f (d + 1) 10 [.ref (ρ.1 7), .int (nI a), .int (nI k)] (hp_S sa ρ P) = some (some (.int ((q_fl (ct T n (nI a)))[k]?.getD 0)), hp_S sa ρ P) := by
  obtain ⟨f, rfl⟩ : ∃ g, f = g + 1 := ⟨f - 1, by omega⟩
  have h1 := (h.2.2 a ha).2.2
  rw [← ct_sz, ← ct_ht] at h1
  rw [am_c_10, am_s10_0]
  exact ty_codeAt_loop w h har a k 0 f ha hk (by omega) (by omega)
/-- what is put in for the variables, in the row of images -/
def ty_ma (P : hp_P) (n : Nat) (T : Nat → Int32 × Int32 × Int32) (μ : Int32 → Option qT) : Prop := ∀ k, k < n → (T k).1 < 0 → (μ (T k).1 = none → (P.2 706).2 k = -1) ∧ (∀ u, μ (T k).1 = some u → pl n T ((P.2 706).2 k) u)
theorem ty_matches {kk : Int32 → Nat} (hk0 : ∀ c, c < 0 → kk c = 0) {f : Nat} (w : hp_w B ρ) (hd : ty_di T n) (har : ty_ar kk T n) : ∀ (a b lv d : Nat) (P : hp_P) (μ : Int32 → Option qT), a < n → b < n → ty_okk P n T → ty_ma P n T μ → lv + q_ht (ct T n (nI a)) ≤ 25 → 1 ≤ lv → q_ht (ct T n (nI a)) ≤ d →
    ∃ P', am_call B sa am_dfl am_tb (f + 2) d 21 [.ref (ρ.1 7), .int (nI a), .int (nI b), .int (nI lv)] (hp_S sa ρ P) = some (some (.int (bI (q_mt (ct T n (nI a)) (ct T n (nI b)) μ).isSome)), hp_S sa ρ P') ∧ ty_imo P P' ∧ ∀ μ', q_mt (ct T n (nI a)) (ct T n (nI b)) μ = some μ' → ty_ma P' n T μ' := by
  intro a
  induction a using Nat.strongRecOn with
  | ind a ih =>
    intro b lv d P μ ha hb h hm hlv h1 hd1
    have hn8 := h.1.1.2
    have hw := h.2.1
    have hcta := ct_at hw (by omega) ha
    have hctb := ct_at hw (by omega) hb
    obtain ⟨r0, r1, r2⟩ := ty_row h ha
    obtain ⟨s0, s1, s2⟩ := ty_row h hb
    have l6 := ty_len6 h
    have hht : q_ht (ct T n (nI a)) = 1 + max (q_ht (ct T n (T a).2.1)) (q_ht (ct T n (T a).2.2)) := by rw [hcta]; rfl
    obtain ⟨d, rfl⟩ : ∃ g, d = g + 1 := ⟨d - 1, by omega⟩
    have hle : (nI lv ≤ (24 : Int32)) = True := by
      rw [show (24 : Int32) = nI 24 from rfl]
      exact eq_true (nI_le (by omega) (by omega))
    rw [am_c_21, am_s21_0]
    simp only [am_c_le, hle, if_true, hr_700 w, hl_700 w, r0, s0, Option.bind_some, am_c_ge, am_c_eq, am_c_ne]
    by_cases c0 : 0 ≤ (T a).1
    · have c0' : ¬ (T a).1 < 0 := Int32.not_lt.mpr c0
      rw [if_pos c0]
      rw [hctb, hcta, q_mt_c c0']
      by_cases c1 : (T a).1 = (T b).1
      · rw [if_pos c1, if_pos c1]
        have hara := har a ha
        have harb := har b hb
        rw [hcta, q_ar_N] at hara
        rw [hctb, q_ar_N, ← c1] at harb
        obtain ⟨wa1, wa2⟩ := hw a ha
        obtain ⟨wb1, wb2⟩ := hw b hb
        have tail : ∀ (P1 : hp_P) (μ1 : Int32 → Option qT), ty_okk P1 n T → ty_imo P P1 → ty_ma P1 n T μ1 → ∃ P', am_go B sa am_dfl (am_call B sa am_dfl am_tb (f + 2) d) am_r21 (f + 1) 99 [(0, .ref (ρ.1 7)), (1, .int (nI a)), (2, .int (nI b)), (3, .int (nI lv))] [] (hp_S sa ρ P1) = some (some (.int (bI (q_mt (ct T n (T a).2.2) (ct T n (T b).2.2) μ1).isSome)), hp_S sa ρ P') ∧ ty_imo P P' ∧ ∀ μ', q_mt (ct T n (T a).2.2) (ct T n (T b).2.2) μ1 = some μ' → ty_ma P' n T μ' := by
          intro P1 μ1 h1' i1 m1
          obtain ⟨-, -, r2'⟩ := ty_row h1' ha
          obtain ⟨-, -, s2'⟩ := ty_row h1' hb
          rw [am_s21_99]
          simp only [hr_702 w, hl_702 w, r2', s2', Option.bind_some, am_c_eq]
          rcases wa2 with z | ⟨r, hr, er⟩
          · rw [if_pos z, z, ct_m1, q_mt_E, am_rz_1]
            exact ⟨P1, rfl, i1, fun μ' e => by rw [← Option.some.inj e]; exact m1⟩
          · have hrb : ∃ r', r' < b ∧ (T b).2.2 = nI r' := by
              rcases wb2 with z | z
              · exfalso
                rw [z, ct_m1] at harb
                have := hara.2.1.mp (harb.2.1.mpr rfl)
                rw [er, ct_at hw (by omega) (by omega)] at this
                exact qN_ne this
              · exact z
            obtain ⟨r', hr', er'⟩ := hrb
            rw [if_neg (by rw [er]; exact nI_ne_m1 (by omega))]
            obtain ⟨P2, j1, j2, j3⟩ := ih r hr r' (lv + 1) d P1 μ1 (by omega) (by omega) h1' m1 (by rw [← er]; omega) (by omega) (by rw [← er]; omega)
            simp only [hx_7 w, Option.bind_some, er, er', nI_1, j1, am_i_some]
            refine ⟨P2, ?_, i1.tr j2, j3⟩
            cases (q_mt (ct T n (nI r)) (ct T n (nI r')) μ1).isSome with
            | true => rw [if_neg (by decide)]; exact am_rz_1
            | false => rw [if_pos (by decide)]; exact am_rz_0
        simp only [hr_701 w, hl_701 w, r1, s1, Option.bind_some]
        rcases wa1 with z | ⟨l, hl, el⟩
        · rw [if_pos z, z, ct_m1, q_mt_E]
          exact tail P μ h ty_imo.rf hm
        · have hlb : ∃ l', l' < b ∧ (T b).2.1 = nI l' := by
            rcases wb1 with z | z
            · exfalso
              rw [z, ct_m1] at harb
              have := hara.1.mp (harb.1.mpr rfl)
              rw [el, ct_at hw (by omega) (by omega)] at this
              exact qN_ne this
            · exact z
          obtain ⟨l', hl', el'⟩ := hlb
          rw [if_neg (by rw [el]; exact nI_ne_m1 (by omega))]
          obtain ⟨P2, j1, j2, j3⟩ := ih l hl l' (lv + 1) d P μ (by omega) (by omega) h hm (by rw [← el]; omega) (by omega) (by rw [← el]; omega)
          simp only [hx_7 w, Option.bind_some, el, el', nI_1, j1, am_i_some]
          cases hq : q_mt (ct T n (nI l)) (ct T n (nI l')) μ with
          | none =>
            rw [if_pos (by rfl), am_rz_0]
            exact ⟨P2, rfl, j2, fun μ' e => by (cases e)⟩
          | some μ1 =>
            rw [if_neg (show ¬ (bI (some μ1).isSome = 0) from show ¬ ((1 : Int32) = 0) by decide)]
            exact tail P2 μ1 (j2.okk h) j2 (j3 μ1 hq)
      · rw [if_neg c1, if_neg c1, am_rz_0]
        exact ⟨P, rfl, ty_imo.rf, fun μ' e => by (cases e)⟩
    · have c0' : (T a).1 < 0 := Int32.not_le.mp c0
      rw [if_neg c0]
      rw [hcta, q_mt_v c0']
      obtain ⟨m1, m2⟩ := hm a ha c0'
      have r6 : hp_rd P 706 (nI a) = some ((P.2 706).2 a) := hp_rd_nI (by omega) (by omega)
      have k6 : hp_ck P 706 (nI a) = some () := hp_ck_nI (by omega) (by omega)
      have plb : pl n T (nI b) (ct T n (nI b)) := ⟨b, hb, rfl, rfl⟩
      simp only [hr_706 w, hl_706 w, r6, Option.bind_some]
      cases hμ : μ (T a).1 with
      | none =>
        have e6 := m1 hμ
        have r6' : hp_rd (hp_sA P 706 (nI a) (nI b)) 706 (nI a) = some (nI b) := by
          rw [hp_rd_nI (by rw [hA_len]; omega) (by omega), hA_eq, nI_clamp (by omega)]
          show some (upd _ _ _ a) = _
          rw [pk_us]
        rw [if_neg (fun z => z e6)]
        simp only [ht_706 w, k6, Option.bind_some, hr_706 w, hl_706 w, r6']
        rw [if_neg (fun z => z rfl), am_rz_1]
        refine ⟨_, rfl, ty_imo.sA, fun μ' e => ?_⟩
        rw [← Option.some.inj e]
        intro k hk hc
        rw [hA_eq, nI_clamp (by omega)]
        show ((if (T k).1 = (T a).1 then _ else _) = none → upd _ _ _ k = -1) ∧ ∀ u, (if (T k).1 = (T a).1 then _ else _) = some u → pl n T (upd _ _ _ k) u
        by_cases ek : (T k).1 = (T a).1
        · have hka : k = a := by
            have hv : ∀ j, j < n → (T j).1 < 0 → T j = ((T j).1, -1, -1) := fun j hj hc => by
              have h1 := har j hj
              rw [ct_at hw (by omega) hj, q_ar_N] at h1
              have h2 := hk0 _ hc
              obtain ⟨w1, w2⟩ := hw j hj
              have e1 : (T j).2.1 = -1 := by
                rcases w1 with z | ⟨x, hx, ex⟩
                · exact z
                · have := h1.1.mp h2
                  rw [ex, ct_at hw (by omega) (by omega)] at this
                  exact absurd this qN_ne
              have e2 : (T j).2.2 = -1 := by
                rcases w2 with z | ⟨x, hx, ex⟩
                · exact z
                · have := h1.2.1.mp (by omega)
                  rw [ex, ct_at hw (by omega) (by omega)] at this
                  exact absurd this qN_ne
              exact Prod.ext rfl (Prod.ext e1 e2)
            have e := (hv k hk hc).trans ((by rw [ek]) : _ = ((T a).1, (-1 : Int32), (-1 : Int32)))
            have e := e.trans (hv a ha c0').symm
            rcases Nat.lt_trichotomy k a with z | z | z
            · exact absurd e (hd k a z ha)
            · exact z
            · exact absurd e.symm (hd a k z hk)
          rw [if_pos ek, hka, pk_us]
          exact ⟨fun z => by (cases z), fun u hu => by rw [← Option.some.inj hu]; exact plb⟩
        · rw [if_neg ek, pk_un (fun z => ek (by rw [z]))]
          exact hm k hk hc
      | some u =>
        have p6 := m2 u hμ
        obtain ⟨x, hx, ex, -⟩ := p6
        rw [if_pos (by rw [ex]; exact nI_ne_m1 (by omega))]
        dsimp only
        by_cases eu : u = ct T n (nI b)
        · rw [if_pos eu]
          have : (P.2 706).2 a = nI b := (m2 u hμ).eq (by rw [eu]; exact plb) hw hd (by omega)
          rw [if_neg (fun z => z this), am_rz_1]
          exact ⟨P, rfl, ty_imo.rf, fun μ' e => by rw [← Option.some.inj e]; exact hm⟩
        · rw [if_neg eu]
          have : (P.2 706).2 a ≠ nI b := fun z => eu (by rw [← z]; exact (m2 u hμ).ct.symm)
          rw [if_pos this, am_rz_0]
          exact ⟨P, rfl, ty_imo.rf, fun μ' e => by (cases e)⟩
/-- whether a type becomes another -/
noncomputable def q_fit (o t : qT) : Bool := (q_mt o t fun _ => none).isSome
/-- Types.becomes -/
theorem ty_becomes {f d : Nat} {kk : Int32 → Nat} (hk0 : ∀ c, c < 0 → kk c = 0) (w : hp_w B ρ) (h : tyI P n T) (har : ty_ar kk T n) (hf : 10001 ≤ f) {u v : Int32} {o t : qT} (hu : pl n T u o) (hv : pl n T v t) :
    ∃ P', am_call B sa am_dfl am_tb f (d + 25) 20 [.ref (ρ.1 7), .int u, .int v] (hp_S sa ρ P) = some (some (.int (bI (q_fit o t))), hp_S sa ρ P') ∧ ty_imo P P' := by
  obtain ⟨a, ha, rfl, rfl⟩ := hu
  obtain ⟨b, hb, rfl, rfl⟩ := hv
  obtain ⟨P1, u1, u2, u3⟩ := ty_unmark (sa := sa) (f := f) (d := d + 23) w h.1 (by omega)
  have h24 := (h.1.2.2 a ha).2.2.2
  rw [← ct_ht] at h24
  obtain ⟨f, rfl⟩ : ∃ g, f = g + 2 := ⟨f - 2, by omega⟩
  obtain ⟨P2, m1, m2, m3⟩ := ty_matches (sa := sa) (f := f) hk0 w h.2.1 har a b 1 (d + 24) P1 (fun _ => none) ha hb (u2.okk h.1) (fun k hk _ => ⟨fun _ => u3 k hk, fun u z => by (cases z)⟩) (by omega) (by omega) (by omega)
  refine ⟨P2, ?_, u2.tr m2⟩
  rw [am_c_20, am_s20_0]
  simp only [hx_7 w, Option.bind_some, u1, am_v_some, show (1 : Int32) = nI 1 from rfl, m1, am_i_some]
  unfold q_fit
  cases (q_mt (ct T n (nI a)) (ct T n (nI b)) fun _ => none).isSome with
  | true => exact am_rz_1
  | false => exact am_rz_0
end TYD
