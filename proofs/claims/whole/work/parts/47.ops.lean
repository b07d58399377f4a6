/-! WRITING, with what is bad staying so; images -/
section OPS
variable {sa : Nat → Nat} {B : Nat} {ρ : hp_L} {P : hp_P} {Rs : List (List rwS)} {O : List rwS} {b : Bool} {n : Nat} {T : Nat → Int32 × Int32 × Int32} {Z : Prop} {G : qT → Prop} {D : List qS}
/-- longer than any row -/
def w_big : List qS := List.replicate 5000 (0, qE)
theorem wI.big (h : wI Z G P n T Rs O b (w_big ++ D)) : b = true := by
  cases b with
  | true => rfl
  | false =>
    exfalso
    have h1 := congrArg List.length (h.2.2.2.2.1 rfl)
    have h2 := h.2.1.2.2.2.2.2.2.1
    rw [List.length_map, List.length_append, show w_big.length = 5000 from List.length_replicate] at h1
    omega
theorem wI.z (h : wI Z G P n T Rs O true D) : Z := h.2.2.2.2.2 rfl
theorem wI.toBad {D' : List qS} (h : wI Z G P n T Rs O b (w_big ++ D)) : wI Z G P n T Rs O b D' := by
  have := h.big
  subst this
  exact h.badD
theorem w_writeEquals' {f d : Nat} (w : hp_w B ρ) (h : wI Z G P n T Rs O b D) (hf : 10000 ≤ f) {v : Int32} {t : qT} (hv : plg G n T v t) (g1 : G (qF t qB)) (g2 : G (qF t (qF t qB))) (hg : ¬ q_good G → Z) (hz : 4000 < (D ++ w_eq t).length → Z) :
    ∃ (ρ' : hp_L) (P' : hp_P) (n' : Nat) (T' : Nat → Int32 × Int32 × Int32) (O' : List rwS) (b' : Bool), am_call B sa am_dfl am_tb f (d + 4) 52 [.ref (ρ.1 3), .int v] (hp_S sa ρ P) = some (none, hp_S sa ρ' P') ∧ hp_w B ρ' ∧ wI Z G P' n' T' Rs O' b' (D ++ w_eq t) ∧ hp_fr wt_S 0 ρ P ρ' P' ∧ ty_xt n T n' T' ∧ (b' = false → b = false) := by
  cases b with
  | false =>
    obtain ⟨a, b, c, d, e, g, h1, h2, h3, h4, h5⟩ := w_writeEquals (sa := sa) (d := d) w h hf hv g1 g2 hg hz
    exact ⟨a, b, c, d, e, g, h1, h2, h3, h4, h5, fun _ => rfl⟩
  | true =>
    obtain ⟨a, b, c, d, e, g, h1, h2, h3, h4, h5⟩ := w_writeEquals (sa := sa) (d := d) w (h.badD (D' := w_big)) hf hv g1 g2 hg (fun _ => h.z)
    exact ⟨a, b, c, d, e, g, h1, h2, h3.toBad, h4, h5, fun z => by rw [h3.big] at z; cases z⟩
theorem w_writeApplied' {f d : Nat} (w : hp_w B ρ) (h : wI Z G P n T Rs O b D) (hf : 10000 ≤ f) {c v : Int32} {a q : qT} (hv : plg G n T v (qF a q)) (hq : q ≠ qE) (hg : ¬ q_good G → Z) (hz : 4000 < (D ++ [((-1 : Int32), q), (c, qF a q)]).length → Z) :
    ∃ (ρ' : hp_L) (P' : hp_P) (O' : List rwS) (b' : Bool), am_call B sa am_dfl am_tb f (d + 4) 53 [.ref (ρ.1 3), .int c, .int v] (hp_S sa ρ P) = some (none, hp_S sa ρ' P') ∧ hp_w B ρ' ∧ wI Z G P' n T Rs O' b' (D ++ [((-1 : Int32), q), (c, qF a q)]) ∧ hp_fr rx_S 0 ρ P ρ' P' ∧ (b' = false → b = false) := by
  cases b with
  | false =>
    obtain ⟨a, b, c, d, h1, h2, h3, h4⟩ := w_writeApplied (sa := sa) (d := d) w h hf hv hq hg hz
    exact ⟨a, b, c, d, h1, h2, h3, h4, fun _ => rfl⟩
  | true =>
    obtain ⟨a, b, c, d, h1, h2, h3, h4⟩ := w_writeApplied (sa := sa) (d := d) w (h.badD (D' := w_big)) hf hv hq hg (fun _ => h.z)
    exact ⟨a, b, c, d, h1, h2, h3.toBad, h4, fun z => by rw [h3.big] at z; cases z⟩
theorem w_copy' {f d : Nat} {M A W : List rwS} (w : hp_w B ρ) (h : wI Z G P n T Rs O b D) (hf : 30000 ≤ f) (hX : Rs.flatten ++ O = A ++ (M ++ W)) (hg : ¬ q_good G → Z) (hz : 4000 < (D ++ M.map (rt T n)).length → Z) {x y : Int32} (hx : x = nI A.length) (hy : y = nI (A.length + M.length)) :
    ∃ (ρ' : hp_L) (P' : hp_P) (O' : List rwS) (b' : Bool), am_call B sa am_dfl am_tb f (d + 4) 54 [.ref (ρ.1 3), .int x, .int y] (hp_S sa ρ P) = some (none, hp_S sa ρ' P') ∧ hp_w B ρ' ∧ wI Z G P' n T Rs O' b' (D ++ M.map (rt T n)) ∧ hp_fr rx_S 0 ρ P ρ' P' ∧ (b' = false → b = false) := by
  cases b with
  | false =>
    obtain ⟨a, b, c, d, h1, h2, h3, h4⟩ := w_copy (sa := sa) (d := d) w h hf hX hg hz hx hy
    exact ⟨a, b, c, d, h1, h2, h3, h4, fun _ => rfl⟩
  | true =>
    obtain ⟨a, b, c, d, h1, h2, h3, h4⟩ := w_copy (sa := sa) (d := d) w (h.badD (D' := w_big)) hf hX hg (fun _ => h.z) hx hy
    exact ⟨a, b, c, d, h1, h2, h3.toBad, h4, fun z => by rw [h3.big] at z; cases z⟩
theorem w_trade' {f d : Nat} {bd : Bool} {c v : Int32} {t : qT} {M : qM} {L A W : List rwS} (w : hp_w B ρ) (h : wI Z G P n T Rs O b D) (hf : 60000 ≤ f) (hX : Rs.flatten ++ O = A ++ (L ++ W)) (hM : m_wf M) (hL : L.map (rt T n) = m_fl M) (hht : m_ht M ≤ 120) (hg : ¬ q_good G → Z) (hv : pl n T v t) (hz : 4000 < (D ++ m_fl (m_tr bd c t M 0)).length → Z) {x y : Int32} (hx : x = nI A.length) (hy : y = nI (A.length + L.length)) :
    ∃ (ρ' : hp_L) (P' : hp_P) (O' : List rwS) (b' : Bool), am_call B sa am_dfl am_tb f (d + 4) 56 [.ref (ρ.1 3), .int x, .int y, .int (bI bd), .int c, .int v] (hp_S sa ρ P) = some (none, hp_S sa ρ' P') ∧ hp_w B ρ' ∧ wI Z G P' n T Rs O' b' (D ++ m_fl (m_tr bd c t M 0)) ∧ hp_fr rw_S 0 ρ P ρ' P' ∧ (b' = false → b = false) := by
  cases b with
  | false =>
    obtain ⟨a, b, c, d, h1, h2, h3, h4, -⟩ := w_trade (sa := sa) (d := d) w h hf hX hM hL hht hg hv hz hx hy
    exact ⟨a, b, c, d, h1, h2, h3, h4, fun _ => rfl⟩
  | true =>
    obtain ⟨a, b, c, d, h1, h2, h3, h4, -⟩ := w_trade (sa := sa) (bd := bd) (c := c) (d := d) w (h.badD (D' := w_big)) hf hX hM hL hht hg hv (fun _ => h.z) hx hy
    exact ⟨a, b, c, d, h1, h2, h3.toBad, h4, fun z => by rw [h3.big] at z; cases z⟩
/-- copyRetyped: what it reads may lie beyond the rows, but not where it writes yet -/
theorem w_ret_loop {f0 d o : Nat} {τ : rwS → qT} (hg : ¬ q_good G → Z) : ∀ (L : List rwS) (a f : Nat) (ρ : hp_L) (P : hp_P) (O : List rwS) (b : Bool) (D : List qS), hp_w B ρ → ρ.1 3 = o → wI Z G P n T Rs O b D → (∀ i s, L[i]? = some s → (P.2 301).2 (a + i) = s.1 ∧ (P.2 302).2 (a + i) = s.2) → a + L.length ≤ (P.2 301).1 → a + L.length ≤ 40000 → ((Rs.flatten ++ O).length ≤ a ∨ a + L.length ≤ (Rs.flatten ++ O).length) → (∀ s ∈ L, ∃ k, s.2 = nI k ∧ k < (P.2 706).1 ∧ k < 2 ^ 31 ∧ plg G n T ((P.2 706).2 k) (τ s)) → (4000 < (D ++ L.map (fun s => (s.1, τ s))).length → Z) → L.length + 1 ≤ f →
    ∃ (ρ' : hp_L) (P' : hp_P) (O' : List rwS) (b' : Bool), am_go B sa am_dfl (am_call B sa am_dfl am_tb (f0 + 2) (d + 3)) am_r55 f 2 [(0, .ref o), (2, .int (nI (a + L.length))), (3, .int (nI a))] [] (hp_S sa ρ P) = some (none, hp_S sa ρ' P') ∧ hp_w B ρ' ∧ wI Z G P' n T Rs O' b' (D ++ L.map (fun s => (s.1, τ s))) ∧ hp_fr rx_S 0 ρ P ρ' P' ∧ (b' = false → b = false) := by
  intro L
  induction L with
  | nil =>
    intro a f ρ P O b D w ho h hs hl h40 hap hi hz hf
    obtain ⟨f, rfl⟩ : ∃ g, f = g + 1 := ⟨f - 1, by omega⟩
    refine ⟨ρ, P, O, b, ?_, w, by rw [List.map_nil, List.append_nil]; exact h, hp_fr.rf, id⟩
    rw [am_s55_2]
    simp only [List.length_nil, Nat.add_zero, am_c_ge, Int32.le_refl, if_true]
  | cons s L ih =>
    intro a f ρ P O b D w ho h hs hl h40 hap hi hz hf
    obtain ⟨f, rfl⟩ : ∃ g, f = g + 1 := ⟨f - 1, by omega⟩
    subst ho
    simp only [List.length_cons] at hl h40 hap hf
    have hge : (nI (a + (s :: L).length) ≤ nI a) = False := eq_false (nI_ge (by simp only [List.length_cons]; omega) (by simp only [List.length_cons]; omega))
    rw [am_s55_2]
    simp only [am_c_ge, hge, if_false, rw_flag w h.2.1, Option.bind_some, am_c_ne]
    cases b with
    | true =>
      refine ⟨ρ, P, O, true, ?_, w, h.badD, hp_fr.rf, id⟩
      rw [if_pos (by decide)]
    | false =>
      obtain ⟨len, b1, b2, b3, b4, b5⟩ := h.2.1.2.1
      obtain ⟨e1, e2⟩ := hs 0 s rfl
      rw [Nat.add_zero] at e1 e2
      obtain ⟨k, k1, k2, k3, k4⟩ := hi s List.mem_cons_self
      have r1 : hp_rd P 301 (nI a) = some s.1 := by rw [hp_rd_nI (by omega) (by omega), e1]
      have r2 : hp_rd P 302 (nI a) = some s.2 := by rw [hp_rd_nI (by omega) (by omega), e2]
      have r6 : hp_rd P 706 s.2 = some ((P.2 706).2 k) := by rw [k1, hp_rd_nI k2 k3]
      obtain ⟨ρ1, P1, O1, bb, c1, c2, c3, c4, c5, c6, c7⟩ := w_write (sa := sa) (f := f0) (d := d) (c := s.1) (v := (P.2 706).2 k) w h k4 hg (fun z => hz (by rw [List.length_append, List.map_cons, List.length_cons]; omega))
      have hD : D ++ [(s.1, τ s)] ++ L.map (fun s => (s.1, τ s)) = D ++ (s :: L).map (fun s => (s.1, τ s)) := by rw [List.append_assoc, List.map_cons]; rfl
      have e6 : P1.2 706 = P.2 706 := (c4.2.1 706 rfl).2.1
      have hlen1 : (Rs.flatten ++ O1).length = (Rs.flatten ++ O).length ∨ (Rs.flatten ++ O1).length = (Rs.flatten ++ O).length + 1 := by
        cases bb with
        | true => rw [c6 rfl]; exact Or.inl rfl
        | false => rw [(c5 rfl).1, ← List.append_assoc]; exact Or.inr (by rw [List.length_append]; rfl)
      obtain ⟨ρ2, P2, O2, b2', i1, i2, i3, i4, i5⟩ := ih (a + 1) f ρ1 P1 O1 bb _ c2 (by rw [c4.1]) c3 (fun i s' hs' => by
          have hil : i < L.length := (List.getElem?_eq_some_iff.mp hs').1
          obtain ⟨q1, q2⟩ := c7 (a + 1 + i) (by omega) (by omega)
          rw [q1, q2, show a + 1 + i = a + (i + 1) by omega]
          exact hs (i + 1) s' hs') (Nat.le_trans (by omega) (c4.2.2.2.2.2 301)) (by omega) (by omega) (fun s' hs' => by rw [e6]; exact hi s' (List.mem_cons_of_mem _ hs')) (fun z => hz (by rw [hD] at z; exact z)) (by omega)
      rw [hD] at i3
      refine ⟨ρ2, P2, O2, b2', ?_, i2, i3, hp_fr.tr0 c4 i4, fun z => (c5 (i5 z)).2⟩
      rw [if_neg (by decide)]
      simp only [hr_301 w, hl_301 w, hr_302 w, hl_302 w, r1, r2, Option.bind_some, ho_300 w, hr_706 w, hl_706 w, r6, hx_3 w, c1, am_v_some, nI_1]
      rw [show a + (s :: L).length = a + 1 + L.length by simp only [List.length_cons]; omega]
      exact i1
/-- Rows.copyRetyped -/
theorem w_retype {f d a : Nat} {τ : rwS → qT} {L : List rwS} (w : hp_w B ρ) (h : wI Z G P n T Rs O b D) (hf : 50000 ≤ f) (hg : ¬ q_good G → Z) (hs : ∀ i s, L[i]? = some s → (P.2 301).2 (a + i) = s.1 ∧ (P.2 302).2 (a + i) = s.2) (hl : a + L.length ≤ (P.2 301).1) (h40 : a + L.length ≤ 40000) (hap : (Rs.flatten ++ O).length ≤ a ∨ a + L.length ≤ (Rs.flatten ++ O).length) (hi : ∀ s ∈ L, ∃ k, s.2 = nI k ∧ k < (P.2 706).1 ∧ k < 2 ^ 31 ∧ plg G n T ((P.2 706).2 k) (τ s)) (hz : 4000 < (D ++ L.map (fun s => (s.1, τ s))).length → Z) {x y : Int32} (hx : x = nI a) (hy : y = nI (a + L.length)) :
    ∃ (ρ' : hp_L) (P' : hp_P) (O' : List rwS) (b' : Bool), am_call B sa am_dfl am_tb f (d + 4) 55 [.ref (ρ.1 3), .int x, .int y] (hp_S sa ρ P) = some (none, hp_S sa ρ' P') ∧ hp_w B ρ' ∧ wI Z G P' n T Rs O' b' (D ++ L.map (fun s => (s.1, τ s))) ∧ hp_fr rx_S 0 ρ P ρ' P' ∧ (b' = false → b = false) := by
  obtain ⟨f, rfl⟩ : ∃ g, f = g + 2 := ⟨f - 2, by omega⟩
  rw [am_c_55, am_s55_0, hx, hy]
  exact w_ret_loop (f0 := f) (d := d) hg L a (f + 1) ρ P O b D w rfl h hs hl h40 hap hi hz (by omega)
end OPS
