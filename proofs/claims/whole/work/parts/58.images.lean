/-! IMAGES: makeImages by trees; pairs -/
theorem ty_mk_wf {T : Nat → Int32 × Int32 × Int32} {n : Nat} {q : Int32 × Int32 × Int32} (hw : ty_wf T n) (h1 : ty_in n q.2.1) (h2 : ty_in n q.2.2) (h8 : n ≤ 8000) : ty_wf (ty_mk T n q).2.2 (ty_mk T n q).2.1 ∧ (ty_mk T n q).2.1 ≤ 8000 := by
  unfold ty_mk
  split
  · exact ⟨hw, h8⟩
  · split
    · exact ⟨hw, h8⟩
    · split
      · rename_i hl
        exact ⟨ty_wf_add hw h1 h2, hl.2.2⟩
      · exact ⟨hw, h8⟩
section IM
variable {kk : Int32 → Nat} {σ : Int32 → Option qT} {G : qT → Prop} {T0 : Nat → Int32 × Int32 × Int32} {n0 : Nat} {M : Nat → Bool}
/-- makeImages, by trees -/
theorem ty_mi_t (hk0 : ∀ c, c < 0 → kk c = 0) (hw0 : ty_wf T0 n0) (har : ty_ar kk T0 n0) (hn0 : n0 < 2 ^ 31) (hM : ∀ i, i < n0 → M i = true → (∀ l, l < n0 → (T0 i).2.1 = nI l → M l = true) ∧ ∀ l, l < n0 → (T0 i).2.2 = nI l → M l = true) (hG : ∀ i, i < n0 → M i = true → G (q_sbs σ (ct T0 n0 (nI i)))) :
    ∀ (j k n : Nat) (T : Nat → Int32 × Int32 × Int32) (I : Nat → Int32), k + j = n0 → ty_wf T n → ty_di T n → n ≤ 8000 → ty_xt n0 T0 n T → (∀ t, ct_S T n t → G t) → (∀ i, i < n0 → M i = false → I i = -1) → (∀ i, i < n0 → M i = true → I i ≠ -1 ∧ (i < k ∨ (T0 i).2.1 = -1 → pl n T (I i) (q_sbs σ (ct T0 n0 (nI i))))) →
    ((ty_mi T0 j k n T I).1 = true → ∀ i, i < n0 → M i = true → pl (ty_mi T0 j k n T I).2.1 (ty_mi T0 j k n T I).2.2.1 ((ty_mi T0 j k n T I).2.2.2 i) (q_sbs σ (ct T0 n0 (nI i)))) ∧ ((ty_mi T0 j k n T I).1 = false → ¬ q_good G) ∧ ty_di (ty_mi T0 j k n T I).2.2.1 (ty_mi T0 j k n T I).2.1 ∧ ty_xt n T (ty_mi T0 j k n T I).2.1 (ty_mi T0 j k n T I).2.2.1 ∧ ∀ t, ct_S (ty_mi T0 j k n T I).2.2.1 (ty_mi T0 j k n T I).2.1 t → G t := by
  intro j
  induction j with
  | zero =>
    intro k n T I hk hw hd h8 hx hS h0 h1
    refine ⟨fun _ i hi hm => (h1 i hi hm).2 (Or.inl (by omega)), fun z => by (cases z), hd, ty_xt.rf, hS⟩
  | succ j ih =>
    intro k n T I hk hw hd h8 hx hS h0 h1
    have hn : n < 2 ^ 31 := by omega
    simp only [ty_mi]
    by_cases e : I k = -1 ∨ (T0 k).2.1 = -1
    · rw [if_pos e]
      refine ih (k + 1) n T I (by omega) hw hd h8 hx hS h0 (fun i hi hm => ⟨(h1 i hi hm).1, fun z => (h1 i hi hm).2 ?_⟩)
      by_cases ei : i = k
      · rcases e with e | e
        · exact absurd e (by rw [← ei]; exact (h1 i hi hm).1)
        · exact Or.inr (by rw [ei]; exact e)
      · exact z.imp (fun z => by omega) id
    · rw [if_neg e]
      have hkn : k < n0 := by omega
      have hmk : M k = true := by
        cases hmk : M k with
        | true => rfl
        | false => exact absurd (Or.inl (h0 k hkn hmk)) e
      obtain ⟨w1, w2⟩ := hw0 k hkn
      obtain ⟨l, l1, l2⟩ := w1.resolve_left fun z => e (Or.inr z)
      have hc := ct_at hw0 hn0 hkn
      have hark := har k hkn
      rw [hc, q_ar_N] at hark
      have c0 : ¬ (T0 k).1 < 0 := fun z => by
        have := hark.1.mp (hk0 _ z)
        rw [l2, ct_at hw0 hn0 (by omega)] at this
        exact qN_ne this
      have hL := (h1 l (by omega) ((hM k hkn hmk).1 l (by omega) l2)).2 (Or.inl l1)
      have iL : ty_imv I (T0 k).2.1 = I l := by rw [l2]; simp only [ty_imv, if_neg (nI_ne_m1 (show l < 2 ^ 31 by omega)), nI_clamp (show l < 2 ^ 31 by omega)]
      have hR : ty_in n (ty_imv I (T0 k).2.2) ∧ ct T n (ty_imv I (T0 k).2.2) = q_sbs σ (ct T0 n0 (T0 k).2.2) := by
        rcases w2 with z | ⟨r, r1, r2⟩
        · rw [z, ct_m1, q_sbs_E]
          have : ty_imv I (-1) = -1 := by simp [ty_imv]
          rw [this]
          exact ⟨Or.inl rfl, ct_m1⟩
        · have hR := (h1 r (by omega) ((hM k hkn hmk).2 r (by omega) r2)).2 (Or.inl r1)
          have : ty_imv I (T0 k).2.2 = I r := by rw [r2]; simp only [ty_imv, if_neg (nI_ne_m1 (show r < 2 ^ 31 by omega)), nI_clamp (show r < 2 ^ 31 by omega)]
          rw [this, r2]
          exact ⟨hR.In, hR.ct⟩
      have hq : q_sbs σ (ct T0 n0 (nI k)) = qN (T0 k).1 (ct T n (ty_imv I (T0 k).2.1)) (ct T n (ty_imv I (T0 k).2.2)) := by
        rw [hc, q_sbs_N, if_neg c0, hR.2, iL, l2, hL.ct]
      have h1' : ty_in n (ty_imv I (T0 k).2.1) := by rw [iL]; exact hL.In
      obtain ⟨m1, m2, m3⟩ := ty_mk_mo (q := ((T0 k).1, ty_imv I (T0 k).2.1, ty_imv I (T0 k).2.2)) hw hd h8 h1' hR.1
      obtain ⟨m4, m5⟩ := ty_mk_wf (q := ((T0 k).1, ty_imv I (T0 k).2.1, ty_imv I (T0 k).2.2)) hw h1' hR.1 h8
      dsimp only at m1
      rw [← hq] at m1
      generalize ty_mk T n ((T0 k).1, ty_imv I (T0 k).2.1, ty_imv I (T0 k).2.2) = R at m1 m2 m3 m4 m5
      rcases m1 with ⟨g1, g2⟩ | ⟨g1, g2, g3, g4⟩
      · have g1' := g1
        obtain ⟨a, a1, a2, -⟩ := g1'
        have hne2 : R.1 ≠ -2 := by rw [a2]; intro z; have := nI_pos (show a < 2 ^ 31 by omega); rw [z] at this; exact this (by decide)
        rw [if_neg hne2]
        have hS' : ∀ t, ct_S R.2.2 R.2.1 t → G t := fun t ht => (g2 t ht).elim (hS t) fun z => by rw [z]; exact hG k hkn hmk
        obtain ⟨i1, i2, i3, i4, i5⟩ := ih (k + 1) R.2.1 R.2.2 (ty_updI I k R.1) (by omega) m4 m2 m5 (hx.tr m3) hS' (fun i hi hm => by
          unfold ty_updI
          rw [if_neg (fun z => by rw [z, hmk] at hm; cases hm)]
          exact h0 i hi hm) (fun i hi hm => by
          unfold ty_updI
          by_cases ei : i = k
          · rw [if_pos ei]
            exact ⟨by rw [a2]; exact nI_ne_m1 (by omega), fun _ => by rw [ei]; exact g1⟩
          · rw [if_neg ei]
            exact ⟨(h1 i hi hm).1, fun z => ((h1 i hi hm).2 (z.imp (fun z => by omega) id)).xt hw hn m3⟩)
        exact ⟨i1, i2, i3, m3.tr i4, i5⟩
      · rw [if_pos g1]
        refine ⟨fun z => by (cases z), fun _ => g4 G hS (hG k hkn hmk), m2, m3, ?_⟩
        rw [g2, g3]
        exact hS
end IM
/-- names and types that were said -/
def isNm (x : Int32) : Prop := inR x 100000000
def pv_ok (et : List qT) : List (Int32 × Int32) → List (Int32 × qT) → Prop
  | [], [] => True
  | p :: pr, q :: ps => q.1 = p.1 ∧ isNm p.1 ∧ en_at et p.2 q.2 ∧ pv_ok et pr ps
  | _, _ => False
noncomputable def ps_s : List (Int32 × qT) → Int32 → Option qT
  | [], _ => none
  | p :: ps, c => @ite _ (-1 - p.1 = c) (Classical.propDecidable _) (some p.2) (ps_s ps c)
theorem ps_s_c {p : Int32 × qT} {ps : List (Int32 × qT)} {c : Int32} : ps_s (p :: ps) c = @ite _ (-1 - p.1 = c) (Classical.propDecidable _) (some p.2) (ps_s ps c) := rfl
theorem ps_s_old {x c : Int32} {t v : qT} : ∀ {ps : List (Int32 × qT)}, ps_s ps c = some v → ps_s (ps ++ [(x, t)]) c = some v
  | [], h => by cases h
  | p :: ps, h => by
    rw [List.cons_append, ps_s_c]
    rw [ps_s_c] at h
    by_cases e : -1 - p.1 = c
    · rw [if_pos e] at h ⊢; exact h
    · rw [if_neg e] at h ⊢; exact ps_s_old h
theorem ps_s_new {x c : Int32} {t : qT} : ∀ {ps : List (Int32 × qT)}, ps_s ps c = none → ps_s (ps ++ [(x, t)]) c = @ite _ (-1 - x = c) (Classical.propDecidable _) (some t) none
  | [], _ => by rw [List.nil_append, ps_s_c]; rfl
  | p :: ps, h => by
    rw [List.cons_append, ps_s_c]
    rw [ps_s_c] at h
    by_cases e : -1 - p.1 = c
    · rw [if_pos e] at h; cases h
    · rw [if_neg e] at h ⊢; exact ps_s_new h
theorem ps_s_none {c : Int32} : ∀ {ps : List (Int32 × qT)}, (∀ p ∈ ps, -1 - p.1 ≠ c) → ps_s ps c = none
  | [], _ => rfl
  | p :: ps, h => by
    rw [ps_s_c, if_neg (h p List.mem_cons_self)]
    exact ps_s_none fun q hq => h q (List.mem_cons_of_mem _ hq)
theorem pv_ok_len {et : List qT} : ∀ {pr : List (Int32 × Int32)} {ps : List (Int32 × qT)}, pv_ok et pr ps → ps.map (fun p => p.1) = pr.map fun p => p.1
  | [], [], _ => rfl
  | [], _ :: _, h => h.elim
  | _ :: _, [], h => h.elim
  | p :: pr, q :: ps, h => by rw [List.map_cons, List.map_cons, h.1, pv_ok_len h.2.2.2]
theorem pv_ok_ap {et : List qT} : ∀ {pr : List (Int32 × Int32)} {ps : List (Int32 × qT)} {x v : Int32} {t : qT}, pv_ok et pr ps → isNm x → en_at et v t → pv_ok et (pr ++ [(x, v)]) (ps ++ [(x, t)])
  | [], [], x, v, t, _, h1, h2 => ⟨rfl, h1, h2, True.intro⟩
  | [], _ :: _, _, _, _, h, _, _ => h.elim
  | _ :: _, [], _, _, _, h, _, _ => h.elim
  | p :: pr, q :: ps, x, v, t, h, h1, h2 => ⟨h.1, h.2.1, h.2.2.1, pv_ok_ap h.2.2.2 h1 h2⟩
theorem pv_ok_at {et : List qT} : ∀ {pr : List (Int32 × Int32)} {ps : List (Int32 × qT)} {k : Nat} {p : Int32 × Int32}, pv_ok et pr ps → pr[k]? = some p → isNm p.1 ∧ ∃ t, en_at et p.2 t
  | [], [], k, p, _, h => by simp at h
  | [], _ :: _, _, _, h, _ => h.elim
  | _ :: _, [], _, _, h, _ => h.elim
  | p' :: pr, q :: ps, 0, p, h, hk => by
    have : p' = p := Option.some.inj hk
    rw [← this]
    exact ⟨h.2.1, q.2, h.2.2.1⟩
  | p' :: pr, q :: ps, k + 1, p, h, hk => pv_ok_at (k := k) h.2.2.2 hk
theorem pv_ok_inj {et : List qT} : ∀ {pr : List (Int32 × Int32)} {ps ps' : List (Int32 × qT)}, pv_ok et pr ps → pv_ok et pr ps' → ps = ps'
  | [], [], [], _, _ => rfl
  | [], [], _ :: _, _, h => h.elim
  | [], _ :: _, _, h, _ => h.elim
  | _ :: _, [], _, h, _ => h.elim
  | _ :: _, _ :: _, [], _, h => h.elim
  | p :: pr, q :: ps, q' :: ps', h, h' => by
    rw [pv_ok_inj h.2.2.2 h'.2.2.2]
    have : q = q' := Prod.ext (h.1.trans h'.1.symm) (en_at_inj h.2.2.1 h'.2.2.1)
    rw [this]
theorem pv_s_some {et : List qT} {c : Int32} {v : qT} : ∀ {pr : List (Int32 × Int32)} {ps : List (Int32 × qT)}, pv_ok et pr ps → ps_s ps c = some v → ∃ p ∈ pr, en_at et p.2 v ∧ -1 - p.1 = c
  | [], [], _, h => by cases h
  | [], _ :: _, h, _ => h.elim
  | _ :: _, [], h, _ => h.elim
  | p :: pr, q :: ps, h, hk => by
    rw [ps_s_c] at hk
    by_cases e : -1 - q.1 = c
    · rw [if_pos e] at hk
      have : q.2 = v := Option.some.inj hk
      exact ⟨p, List.mem_cons_self, by rw [← this]; exact h.2.2.1, by rw [← h.1]; exact e⟩
    · rw [if_neg e] at hk
      obtain ⟨p', p1, p2⟩ := pv_s_some h.2.2.2 hk
      exact ⟨p', List.mem_cons_of_mem _ p1, p2⟩
