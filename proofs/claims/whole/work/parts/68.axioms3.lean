/-! AXIOMS of the class, 3: write -/
section AX3
variable {sa : Nat → Nat} {B : Nat} {ρ : hp_L} {P : hp_P} {bb : Bool} {n : Nat} {T : Nat → Int32 × Int32 × Int32} {Z : Prop} {G : qT → Prop} {C : sC} {H : List qM} {D : List qS} {tO : Nat → Option qT} {F : List Nat} {b b' : axB} {Gl : List qT} {W : List qS}
theorem ax_then_eq {x : axR} {k : axB → axR} (h : ax_then x k = some (W, b')) : ∃ W1 b1 W2, x = some (W1, b1) ∧ k b1 = some (W2, b') ∧ W = W1 ++ W2 := by
  unfold ax_then at h
  obtain ⟨⟨W1, b1⟩, h1, h⟩ := Option.bind_eq_some_iff.mp h
  obtain ⟨⟨W2, b2⟩, h2, h⟩ := Option.map_eq_some_iff.mp h
  obtain ⟨e1, e2⟩ := Prod.mk.inj h
  exact ⟨W1, b1, W2, h1, by rw [h2]; exact congrArg some (Prod.ext rfl e2), e1.symm⟩
theorem ax_put_eq {l : List qS} (h : ax_put l b = some (W, b')) : W = l ∧ b' = b := by
  obtain ⟨e1, e2⟩ := Prod.mk.inj (Option.some.inj h)
  exact ⟨e1.symm, e2.symm⟩
theorem ax_q_eq {t : qT} {e : List qS} (hG : ∀ t ∈ Gl, G t) (h : ax_q Gl t = some e) : e = w_eq t ∧ G (qF t qB) ∧ G (qF t (qF t qB)) := by
  unfold ax_q at h
  split at h
  · rename_i hc
    exact ⟨(Option.some.inj h).symm, hG _ (q_inl_mem hc.1), hG _ (q_inl_mem hc.2)⟩
  · cases h
theorem sI.s4 {i v : Int32} (h : sI Z G B C ρ P n T H D bb) : sI Z G B C ρ (hp_sA P 4 i v) n T H D bb := by
  obtain ⟨h1, h2, h3, h4, h5, Dr, O, h6, h7⟩ := h
  exact ⟨h1, h2.cg rfl rfl fun r a b => hA_ne (by omega), h3.cg rfl rfl (hA_ne (by decide)) (hA_ne (by decide)), h4.cg fun r a b => ⟨rfl, hA_ne (by omega)⟩, h5, Dr, O, ⟨⟨h6.1.1.cg rfl fun r a b => hA_ne (by omega), h6.1.2⟩, h6.2.1.cg fun r a b => ⟨rfl, hA_ne (by omega)⟩, h6.2.2⟩, h7⟩
theorem axI.s4 {c k : Nat} (h : axI sa G tO F ρ P n T b) (hc : c < 5) (hk : k ≤ 1000) : axI sa G tO F ρ (hp_sA P 4 (nI c) (nI k)) n T (fun y => if y = c then some k else b y) := by
  obtain ⟨h1, h2, h3, h4, h5, h6⟩ := h
  refine ⟨h1, h2, by rw [hA_ne (by decide)]; exact h3, by rw [hA_len]; exact h4, fun c t hc ht => by rw [hA_ne (by decide)]; exact h5 c t hc ht, fun y hy => ?_⟩
  rw [hA_eq, nI_clamp (by omega)]
  show ((if y = c then some k else b y) = none → upd _ _ _ y = -1) ∧ ∀ k', (if y = c then some k else b y) = some k' → upd _ _ _ y = nI k' ∧ k' ≤ 1000
  by_cases e : y = c
  · rw [if_pos e, e, pk_us]
    exact ⟨fun z => by (cases z), fun k' hk' => by rw [← Option.some.inj hk']; exact ⟨rfl, hk⟩⟩
  · rw [if_neg e, pk_un e]
    exact h6 y hy
theorem aX.tr {ρ1 : hp_L} {P1 : hp_P} {n1 : Nat} {T1 : Nat → Int32 × Int32 × Int32} {bb1 : Bool} {x : Option (Option Value × am_S)} (h : aX Z G B sa tO F C ρ1 P1 n1 T1 bb1 x H D b) (fr : hp_fr ax_S 0 ρ P ρ1 P1) (xt : ty_xt n T n1 T1) (hb : bb1 = false → bb = false) : aX Z G B sa tO F C ρ P n T bb x H D b := by
  obtain ⟨ρ2, P2, n2, T2, b2, a1, a2, a3, a4, a5, a6⟩ := h
  exact ⟨ρ2, P2, n2, T2, b2, a1, a2, a3, hp_fr.tr0 fr a4, xt.tr a5, fun z => hb (a6 z)⟩
/-- writeName -/
theorem a_name {f d c bn : Nat} (hf : 20000 ≤ f) (hc : c < 5) (hbn : bn ≤ 1000) (hs : sI Z G B C ρ P n T H D bb) (hx : axI sa G tO F ρ P n T b) (hg : ¬ q_good G → Z) (he : ax_n tO c bn b = some (W, b')) (hz : 4000 < (D ++ W).length → Z) :
    aX Z G B sa tO F C ρ P n T bb (am_call B sa am_dfl am_tb f (d + 5) 99 [.ref (ρ.1 0), .int (nI c), .int (nI bn)] (hp_S sa ρ P)) H (D ++ W) b' := by
  have w := hs.w
  unfold ax_n at he
  obtain ⟨t, ht, he⟩ := Option.bind_eq_some_iff.mp he
  have hp := hx.2.2.2.2.1 c t hc ht
  obtain ⟨q1, q2⟩ := hx.2.2.2.2.2 c hc
  have r3 : hp_rd P 3 (nI c) = some ((P.2 3).2 c) := hp_rd_nI (by rw [hx.2.2.1]; omega) (by omega)
  have r4 : hp_rd P 4 (nI c) = some ((P.2 4).2 c) := hp_rd_nI (by rw [hx.2.2.2.1]; omega) (by omega)
  obtain ⟨f, rfl⟩ : ∃ g, f = g + 2 := ⟨f - 2, by omega⟩
  rw [am_c_99, am_s99_0]
  simp only [hr_4 w, hl_4 w, r4, Option.bind_some, am_c_ne, ho_1 w, hr_3 w, hl_3 w, r3, hx_3 w]
  cases hb : b c with
  | none =>
    rw [hb] at he
    obtain ⟨e1, e2⟩ := ax_put_eq he
    subst e1
    subst e2
    rw [if_neg (fun z => z (q1 hb))]
    have ru : am_iald (hp_S sa ρ P) (sa 4) (nI c) = some (nI (ax_u c)) := by
      rw [hp_jk_ld hx.2.1 hc (by omega)]
      have : c = 0 ∨ c = 1 ∨ c = 2 ∨ c = 3 ∨ c = 4 := by omega
      rcases this with rfl | rfl | rfl | rfl | rfl <;> rfl
    have ha := (s_write (sa := sa) (f := f) (d := d + 1) (c := nI (ax_u c)) hs hp hg hz).a hx hs.y.1
    obtain ⟨ρ1, P1, n1, T1, b1, a1, a2⟩ := ha
    simp only [ru, Option.bind_some, a1, am_v_some]
    exact ⟨ρ1, P1, n1, T1, b1, rfl, a2⟩
  | some k =>
    rw [hb] at he
    dsimp only at he
    by_cases ek : k + 1 ≤ bn
    · rw [if_pos ek] at he
      obtain ⟨e1, e2⟩ := ax_put_eq he
      subst e1
      subst e2
      obtain ⟨q3, q4⟩ := q2 k hb
      rw [q3, if_pos (nI_ne_m1 (by omega))]
      have ec : 4 * ((nI bn - 1) - nI k) + 0 = 4 * nI (bn - 1 - k) := by
        obtain ⟨m, rfl⟩ : ∃ m, bn = m + 1 := ⟨bn - 1, by omega⟩
        rw [nI_pred, pk_sub (by omega), Nat.add_sub_cancel]
        grind
      have ha := (s_write (sa := sa) (f := f) (d := d + 1) (c := 4 * nI (bn - 1 - k)) hs hp hg hz).a hx hs.y.1
      obtain ⟨ρ1, P1, n1, T1, b1, a1, a2⟩ := ha
      simp only [ec, a1, am_v_some]
      exact ⟨ρ1, P1, n1, T1, b1, rfl, a2⟩
    · rw [if_neg ek] at he; cases he
/-- what write does, up to a fuel -/
def aW (Z : Prop) (G : qT → Prop) (B : Nat) (sa : Nat → Nat) (Gl : List qT) (tO : Nat → Option qT) (F : List Nat) (C : sC) (H : List qM) (f g : Nat) : Prop :=
  ∀ (at' bn d : Nat) (b b' : axB) (W : List qS) (ρ : hp_L) (P : hp_P) (n : Nat) (T : Nat → Int32 × Int32 × Int32) (D : List qS) (bb : Bool), ax_w Gl tO F g at' bn b = some (W, b') → bn + g ≤ 900 → sI Z G B C ρ P n T H D bb → axI sa G tO F ρ P n T b → (4000 < (D ++ W).length → Z) →
    aX Z G B sa tO F C ρ P n T bb (am_call B sa am_dfl am_tb f (d + 5 * g + 10) 98 [.ref (ρ.1 0), .int (nI at'), .int (nI bn)] (hp_S sa ρ P)) H (D ++ W) b'
theorem pre_z {Z : Prop} {X Y : List qS} (h : 4000 < (X ++ Y).length → Z) : 4000 < X.length → Z := fun z => h (by rw [List.length_append]; omega)
/-- writeBinding -/
theorem a_bind {f g d v p bn : Nat} {x : Int32} {t : qT} (hf : 20000 ≤ f) (hF : F.length ≤ 100) (hg : ¬ q_good G → Z) (ih : aW Z G B sa Gl tO F C H f g) (hbn : bn + 1 + g ≤ 900) (hs : sI Z G B C ρ P n T H D bb) (hx : axI sa G tO F ρ P n T b) (ht : plg G n T x t) (he : ax_b F (ax_w Gl tO F g) v p t bn b = some (W, b')) (hz : 4000 < (D ++ W).length → Z) :
    aX Z G B sa tO F C ρ P n T bb (am_call B sa am_dfl am_tb f (d + 5 * g + 11) 100 [.ref (ρ.1 0), .int (nI v), .int (nI p), .int x, .int (nI bn)] (hp_S sa ρ P)) H (D ++ W) b' := by
  unfold ax_b at he
  cases hc : F[v]? with
  | none => rw [hc] at he; cases he
  | some c =>
    rw [hc] at he
    dsimp only at he
    by_cases e5 : c < 5
    · rw [if_pos e5] at he
      obtain ⟨W1, b1, W2, h1, h2, rfl⟩ := ax_then_eq he
      obtain ⟨e1, e2⟩ := ax_put_eq h1
      subst e1
      have w := hs.w
      have hlt : v < F.length := (List.getElem?_eq_some_iff.mp hc).1
      obtain ⟨f, rfl⟩ : ∃ g, f = g + 2 := ⟨f - 2, by omega⟩
      obtain ⟨ρ4, P4, n4, T4, b4, i1, i2, i3, i4, i5, i6⟩ := (s_write (sa := sa) (f := f) (d := d + 5 * g + 7) (c := -2) hs ht hg (by rw [← List.append_assoc] at hz; exact pre_z hz)).a hx hs.y.1
      have x4 := i3.s4 e5 (show bn ≤ 1000 by omega)
      rw [← e2] at x4
      have w4 := i2.w
      have rd : am_iald (hp_S sa ρ4 P4) (sa (P4.1 2).toNatClampNeg) (nI v) = some (nI c) := by
        rw [hp_jk_ld i3.1 hlt (by omega)]
        dsimp only
        rw [hc]; rfl
      have ck : hp_ck P4 4 (nI c) = some () := hp_ck_nI (by rw [i3.2.2.2.1]; omega) (by omega)
      have rc := ih p (bn + 1) d b1 b' W2 ρ4 (hp_sA P4 4 (nI c) (nI bn)) n4 T4 _ b4 h2 (by omega) i2.s4 x4 (by rw [List.append_assoc]; exact hz)
      rw [List.append_assoc] at rc
      have frA : hp_fr ax_S 0 ρ P ρ4 (hp_sA P4 4 (nI c) (nI bn)) := hp_fr.tr0 i4 (hp_fr.sA rfl)
      rw [am_c_100, am_s100_0]
      rw [show d + 5 * g + 7 + 3 = d + 5 * g + 10 by omega] at i1
      simp only [ho_1 w, Option.bind_some, hx_3 w, i1, am_v_some]
      rw [w_ob i4 0]
      simp only [hr_4 w4, h_f2 w4, Option.bind_some, rd, ht_4 w4, ck, hx_0 w4, nI_1]
      obtain ⟨ρ5, P5, n5, T5, b5, j1, j2, j3, j4, j5, j6⟩ := rc
      simp only [j1, am_v_some]
      exact ⟨ρ5, P5, n5, T5, b5, rfl, j2, j3, hp_fr.tr0 frA j4, i5.tr j5, fun z => i6 (j6 z)⟩
    · rw [if_neg e5] at he; cases he
end AX3
