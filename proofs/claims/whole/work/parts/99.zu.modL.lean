/-! THE REFERENCE, 33: the axioms -/
theorem ax_c {k : Nat} (hk : k < 3) : ax_c1 k = true ∧ ax_c2 k = true ∧ ax_c3 k = true ∧ ax_c4 k = true ∧ ax_c5 k = true := by
  have : k = 0 ∨ k = 1 ∨ k = 2 := by omega
  rcases this with rfl | rfl | rfl
  · exact ⟨ax_c1_0, ax_c2_0, ax_c3_0, ax_c4_0, ax_c5_0⟩
  · exact ⟨ax_c1_1, ax_c2_1, ax_c3_1, ax_c4_1, ax_c5_1⟩
  · exact ⟨ax_c1_2, ax_c2_2, ax_c3_2, ax_c4_2, ax_c5_2⟩
theorem ax_rM {k : Nat} (hk : k < 3) : ax_M k = ax_r k ∧ tX k = ax_r k := by
  have h := (ax_c hk).2.2.2.1
  unfold ax_c4 at h
  rw [Bool.and_eq_true] at h
  exact ⟨m_beq_eq h.2, m_beq_eq h.1⟩
/-- symbols are the heads of parts -/
theorem m_fl_part {s : qS} : ∀ {X : qM}, m_wf X → s ∈ m_fl X → ∃ Y, m_sub Y X ∧ m_ty Y = s.2
  | .leaf, h, _ => absurd h id
  | .inner c t u l r, h, hs => by
    rcases List.mem_cons.mp hs with z | z
    · exact ⟨_, Or.inl rfl, by rw [z]; rfl⟩
    · rcases List.mem_append.mp z with y | y
      · have wl : m_wf l := by
          rcases h.2 with ⟨-, w1, -⟩ | ⟨-, w1, -⟩ | ⟨w1, -⟩
          · exact w1
          · exact w1
          · rw [w1] at y; cases y
        obtain ⟨Y, y1, y2⟩ := m_fl_part wl y
        exact ⟨Y, Or.inr (Or.inl y1), y2⟩
      · have wr : m_wf r := by
          rcases h.2 with ⟨-, -, w1, -⟩ | ⟨-, -, w1, -⟩ | ⟨-, w1, -⟩
          · exact w1
          · rw [w1] at y; cases y
          · rw [w1] at y; cases y
        obtain ⟨Y, y1, y2⟩ := m_fl_part wr y
        exact ⟨Y, Or.inr (Or.inr y1), y2⟩
section AXS
variable {Z : Prop} {G : qT → Prop} {L : List qM} {sa : Nat → Nat} {B : Nat} {ρ : hp_L} {K K' K0 : kS} {A : sV} {S : qT → Prop} {fr : Nat} {ws wr : List Int32}
/-- what is known of the other terms -/
theorem ax_x_ok {k : Nat} (hk : k < 3) {X : qM} (hX : X ∈ ax_x k) : m_wf X ∧ m_ty X ≠ qE ∧ (m_fl X).length ≤ 4000 ∧ m_ht X ≤ 120 ∧ (m_ty X = qA ∨ m_ty X = qB ∨ m_ty X ∈ ax_G k) ∧ (m_l X = .leaf ∨ m_l X ∈ ax_x k ∨ m_l X ∈ ax_s k) ∧ (m_r X = .leaf ∨ m_r X ∈ ax_x k ∨ m_r X ∈ ax_s k) := by
  have h := List.all_eq_true.mp (ax_c hk).1 X hX
  simp only [Bool.and_eq_true, Bool.or_eq_true, decide_eq_true_eq, Bool.not_eq_true'] at h
  obtain ⟨⟨⟨⟨⟨⟨h1, h2⟩, h3⟩, h4⟩, h5⟩, h6⟩, h7⟩ := h
  have inl : ∀ {t : qT}, q_inl (ax_G k) t = true → t ∈ ax_G k := fun {t} z => by
    obtain ⟨u, u1, u2⟩ := List.any_eq_true.mp z
    rw [← q_beq_eq u2]; exact u1
  refine ⟨m_wfB_ok h1, fun z => ?_, h3, h4, ?_, ?_, ?_⟩
  · rw [z] at h2; exact absurd (q_beq_rf (a := qE)) (by rw [h2]; decide)
  · rcases h5 with (z | z) | z
    · exact Or.inl (q_beq_eq z)
    · exact Or.inr (Or.inl (q_beq_eq z))
    · exact Or.inr (Or.inr (inl z))
  · rcases h6 with (z | z) | z
    · exact Or.inl (m_isl_ok z)
    · exact Or.inr (Or.inl (m_in_ok z))
    · exact Or.inr (Or.inr (m_in_ok z))
  · rcases h7 with (z | z) | z
    · exact Or.inl (m_isl_ok z)
    · exact Or.inr (Or.inl (m_in_ok z))
    · exact Or.inr (Or.inr (m_in_ok z))
theorem ax_s_ok {k : Nat} (hk : k < 3) {X : qM} (hX : X ∈ ax_s k) : m_sub X (ax_M k) := by
  rw [(ax_rM hk).1]
  exact m_subs_mem.mp (m_in_ok (List.all_eq_true.mp (ax_c hk).2.2.2.2 X hX))
/-- their parts -/
theorem ax_x_sub {k : Nat} (hk : k < 3) : ∀ {X : qM}, X ∈ ax_x k → ∀ Y, m_sub Y X → m_sub Y (ax_M k) ∨ Y ∈ ax_x k
  | .leaf, _, _, h => h.elim
  | .inner c t u l r, hX, Y, h => by
    obtain ⟨-, -, -, -, -, h6, h7⟩ := ax_x_ok hk hX
    have h6 : l = .leaf ∨ l ∈ ax_x k ∨ l ∈ ax_s k := h6
    have h7 : r = .leaf ∨ r ∈ ax_x k ∨ r ∈ ax_s k := h7
    rcases h with z | z | z
    · rw [z]; exact Or.inr hX
    · rcases h6 with y | y | y
      · rw [y] at z; exact z.elim
      · exact ax_x_sub hk y Y z
      · exact Or.inl (m_sub_tr z (ax_s_ok hk y))
    · rcases h7 with y | y | y
      · rw [y] at z; exact z.elim
      · exact ax_x_sub hk y Y z
      · exact Or.inl (m_sub_tr z (ax_s_ok hk y))
theorem m_ht_le {X : qM} : m_ht X ≤ (m_fl X).length := by
  induction X with
  | leaf => exact Nat.le_refl _
  | inner c t u l r i1 i2 =>
    show 1 + max (m_ht l) (m_ht r) ≤ (_ :: (m_fl l ++ m_fl r)).length
    rw [List.length_cons, List.length_append]
    omega
/-- the limits of an axiom -/
theorem kz_ax {k : Nat} (hk : k < 3) (J : kJ S A K0) (hI : aI S A) (h16 : A.2.2.2.2.2.2.length < 16000) (hQ : aQ A 22 wr ([], ax_M k)) : kz (Zc S A 22 wr) (q_un S ([] ++ [ax_M k])) (K0.2.2.2.1 ++ (([] ++ [ax_M k]).flatMap m_subs ++ ax_x k)) := by
  obtain ⟨b', -, wM, -, oG⟩ := ax_ok hk
  have key := zQ (S := S) hQ
  have tM : ∀ {t : qT}, m_ty (ax_M k) = t ∨ t = qA ∨ t = qB ∨ t ∈ ax_G k → True := fun _ => True.intro
  refine kz_Q J h16 (fun X hX => by rw [List.mem_singleton.mp hX]; exact wM) (fun X hX => by rw [List.mem_singleton.mp hX]; exact ax_mok hI.2.2.2.1 hk) (fun z => key fun y => z y.2.2.2) (fun X hX => ⟨fun z => key fun y => by have := (y.2.1 X hX).1; omega, fun z => key fun y => by have := (y.2.1 X hX).2; omega⟩) (fun z => key fun y => ?_) ?_ (fun X hX => ?_)
  · have := y.2.2.1
    have e : m_tot ([] ++ [ax_M k]) = (m_fl (ax_M k)).length + 0 := rfl
    have e' : m_tot ([] : List qM) = 0 := rfl
    dsimp only at this
    omega
  · have h := (ax_c hk).2.1
    unfold ax_c2 at h
    have h := of_decide_eq_true h
    rw [← (ax_rM hk).1] at h
    have e : m_tot ([] ++ [ax_M k]) = (m_fl (ax_M k)).length + 0 := rfl
    omega
  · obtain ⟨h1, h2, h3, h4, h5, -, -⟩ := ax_x_ok hk hX
    refine ⟨⟨h1, h2⟩, fun z => by omega, fun z => by omega, fun t ⟨X', hX', s, hs, ht⟩ => ?_, fun Y hY => ?_⟩
    · rw [List.mem_singleton.mp hX'] at hs
      obtain ⟨Y, y1, y2⟩ := m_fl_part h1 hs
      rw [← y2] at ht
      rcases ax_x_sub hk hX Y y1 with z | z
      · exact Or.inr (q_of_mem (List.mem_singleton.mpr rfl) (q_of_sub z (q_of_ty (m_sub_wf wM z) ht)))
      · rcases (ax_x_ok hk z).2.2.2.2.1 with q | q | q
        · rw [q] at ht; exact Or.inl (hI.1.1 qA t hI.1.2.1.1 ht)
        · rw [q] at ht; exact Or.inl (hI.1.1 qB t hI.1.2.1.2 ht)
        · obtain ⟨X'', m1, s', m2, m3⟩ := oG _ q
          right
          refine ⟨X'', m1, s', m2, ?_⟩
          have tr : ∀ {a b c : qT}, q_sub a b → q_sub b c → q_sub a c := fun {a b c} h k => by
            induction c with
            | leaf => exact k.elim
            | branch x l r i1 i2 =>
              rcases k with z | z | z
              · rw [← z]; exact h
              · exact Or.inr (Or.inl (i1 z))
              · exact Or.inr (Or.inr (i2 z))
          exact tr ht m3
    · rcases ax_x_sub hk hX Y hY with z | z
      · exact List.mem_append.mpr (Or.inr (List.mem_append.mpr (Or.inl (List.mem_flatMap.mpr ⟨_, List.mem_singleton.mpr rfl, m_subs_mem.mpr z⟩))))
      · exact List.mem_append.mpr (Or.inr (List.mem_append.mpr (Or.inr z)))
theorem ax_l_in {k : Nat} (hk : k < 3) {Q : List qM} {X : qM} (hX : X ∈ lX k) : X ∈ Q ++ (([] ++ [ax_M k]).flatMap m_subs ++ ax_x k) := by
  have h := List.all_eq_true.mp (ax_c hk).2.2.1 X hX
  rcases Bool.or_eq_true_iff.mp h with z | z
  · exact List.mem_append.mpr (Or.inr (List.mem_append.mpr (Or.inr (m_in_ok z))))
  · exact List.mem_append.mpr (Or.inr (List.mem_append.mpr (Or.inl (List.mem_flatMap.mpr ⟨_, List.mem_singleton.mpr rfl, m_subs_mem.mpr (ax_s_ok hk (m_in_ok z))⟩))))
/-- extensionality -/
theorem k_ext {f d : Nat} (w : hp_w B ρ) (k : kz Z G L) (h : kI Z G L K) (hL : ∀ X ∈ lX0, X ∈ L) (hf : 70000 ≤ f) : kO Z G L sa ρ K (am_call B sa am_dfl am_tb f (d + 175) 181 [.ref (ρ.1 9)] (hp_S sa ρ K.1)) tX0 := by
  obtain ⟨f, rfl⟩ : ∃ g, f = g + 1 := ⟨f - 1, by omega⟩
  have at' : ∀ (i : Nat) {X : qM}, lX0[i]? = some X → X ∈ L := fun i {X} e => hL X (List.mem_of_getElem? e)
  have m0 := at' 0 rfl
  have m1 := at' 1 rfl
  have m2 := at' 2 rfl
  have m3 := at' 3 rfl
  have m4 := at' 4 rfl
  have wx : m_wf xE := m_wf_lf (m_lf_n (by decide) (by decide))
  have wf : m_wf fE := m_wf_lf (m_lf_n (by decide) (by decide))
  have wfx : m_wf fxE := m_wf_app wf wx rfl
  have gA := (k.ty m0).1
  have gf := (k.ty m1).1
  have gB := (k.ty m1).2 q_v1 (Or.inr (Or.inr (Or.inl rfl)))
  rw [am_c_181, am_s181_0]
  simp only [hx_9 w, Option.bind_some]
  obtain ⟨v1, K1, a1, a2, a3⟩ := k_leafT (sa := sa) (f := f + 1) (d := d + 172) (c := -1) w k h gA (by omega)
  rw [a1, am_i_some]
  simp only [hx_9 w, Option.bind_some]
  obtain ⟨v2, K2, b1, b2, b3⟩ := k_leafT (sa := sa) (f := f + 1) (d := d + 172) (c := -2) w k a2.1 gB (by omega)
  rw [b1, am_i_some]
  simp only [b2.1.bad w, Option.bind_some, am_c_eq]
  have R2 := a2.tr b2
  have tA2' := a3.go a2.1 b2
  have rest : ∀ {K3 : kS} {o : Int32}, kR Z G L K2 K3 → tv K3 o (qF qA q_v1) → kO Z G L sa ρ K (am_i (am_call B sa am_dfl am_tb (f + 1) (d + 174) 132 [.ref (ρ.1 9), .int 0, .int v1] (hp_S sa ρ K3.1)) fun v5 g5 => (am_obj g5 (ρ.1 9) 9).bind fun _ => am_i (am_call B sa am_dfl am_tb (f + 1) (d + 174) 132 [.ref (ρ.1 9), .int 1, .int o] g5) fun v6 g6 => (am_geti g6 (ρ.1 9) 9 45).bind fun v7 => if v7 = 0 then ((am_obj g6 (ρ.1 9) 9).bind fun _ => am_i (am_call B sa am_dfl am_tb (f + 1) (d + 174) 135 [.ref (ρ.1 9), .int v6, .int v5] g6) fun v8 g8 => (am_obj g8 (ρ.1 9) 9).bind fun _ => am_i (am_call B sa am_dfl am_tb (f + 1) (d + 174) 138 [.ref (ρ.1 9), .int v5, .int v8] g8) fun v9 g9 => (am_obj g9 (ρ.1 9) 9).bind fun _ => am_i (am_call B sa am_dfl am_tb (f + 1) (d + 174) 144 [.ref (ρ.1 9), .int v9, .int v6] g9) fun v10 g10 => some (some (.int v10), g10)) else (some (some (.int 0), g6))) tX0 := by
    intro K3 o r3 to
    have R3 := R2.tr r3
    obtain ⟨v5, K4, c1, c2, c3⟩ := k_free (sa := sa) (f := f + 1) (d := d + 171) (x := 0) w k r3.1 (tA2'.go b2.1 r3) (by decide) m0 hf
    have c1 : am_call B sa am_dfl am_tb (f + 1) (d + 174) 132 [.ref (ρ.1 9), .int 0, .int v1] (hp_S sa ρ K3.1) = _ := c1
    rw [c1, am_i_some]
    simp only [hx_9 w, Option.bind_some]
    obtain ⟨v6, K5, e1, e2, e3⟩ := k_free (sa := sa) (f := f + 1) (d := d + 171) (x := 1) w k c2.1 (to.go r3.1 c2) (by decide) m1 hf
    have e1 : am_call B sa am_dfl am_tb (f + 1) (d + 174) 132 [.ref (ρ.1 9), .int 1, .int o] (hp_S sa ρ K4.1) = _ := e1
    rw [e1, am_i_some]
    simp only [e2.1.bad w, Option.bind_some]
    have R5 := (R3.tr c2).tr e2
    rcases bI_cases K5.2.2.2.2 with ⟨eb, e⟩ | ⟨eb, e⟩
    · rw [e, if_pos rfl]
      simp only [hx_9 w, Option.bind_some]
      obtain ⟨v8, K6, g1, g2, g3⟩ := k_apply (sa := sa) (f := f + 1) (d := d + 171) w k R5.1 e3 (c3.go e2) (u := q_v1) rfl m2 hf
      rw [g1, am_i_some]
      simp only [hx_9 w, Option.bind_some]
      obtain ⟨v9, K7, i1, i2, i3⟩ := k_lamc (sa := sa) (f := f + 1) (d := d + 18) (c := nI (4 * 0 + 1)) (t := qA) (X := fxE) (q_fr_1 (x := 0) (by decide)) w k g2.1 ((c3.go e2).go g2) g3 wfx (by decide) m3 hf
      rw [i1, am_i_some]
      simp only [hx_9 w, Option.bind_some]
      obtain ⟨v10, K8, j1, j2, j3⟩ := k_equation (sa := sa) (f := f + 1) (d := d + 170) w k i2.1 i3 ((e3.go g2).go i2) rfl m4 hf
      rw [j1, am_i_some]
      exact ⟨v10, K8, rfl, ((R5.tr g2).tr i2).tr j2, j3⟩
    · rw [e, if_neg (by decide)]
      exact ⟨0, K5, rfl, R5, nv_0 eb⟩
  rcases bI_cases K2.2.2.2.2 with ⟨eb, e⟩ | ⟨eb, e⟩
  · rw [e, if_pos rfl]
    simp only [hx_9 w, Option.bind_some]
    obtain ⟨v4, K3, c1, c2, c3⟩ := k_fun (sa := sa) (f := f + 1) (d := d + 171) w k b2.1 (tA2'.pl eb) (b3.pl eb) gf (by omega)
    rw [c1, am_i_some]
    simp only [hx_9 w, Option.bind_some]
    exact rest c2 c3
  · rw [e, if_neg (by decide)]
    simp only [hx_9 w, Option.bind_some]
    exact rest (kR.rf b2.1) (tv_0 eb)
/-- chosen -/
theorem k_chosen {f d : Nat} (w : hp_w B ρ) (k : kz Z G L) (h : kI Z G L K) (hL : ∀ X ∈ lX1, X ∈ L) (hf : 70000 ≤ f) : kO Z G L sa ρ K (am_call B sa am_dfl am_tb f (d + 175) 182 [.ref (ρ.1 9)] (hp_S sa ρ K.1)) tX1 := by
  obtain ⟨f, rfl⟩ : ∃ g, f = g + 1 := ⟨f - 1, by omega⟩
  have at' : ∀ (i : Nat) {X : qM}, [xE, pE, pxE, pcE][i]? = some X → X ∈ L := fun i {X} e => hL X (List.mem_append.mpr (Or.inl (List.mem_of_getElem? e)))
  have hH : ∀ X ∈ lH qA pE, X ∈ L := fun X hX => hL X (List.mem_append.mpr (Or.inr (List.mem_append.mpr (Or.inl hX))))
  have hI' : ∀ X ∈ lI pxE pcE, X ∈ L := fun X hX => hL X (List.mem_append.mpr (Or.inr (List.mem_append.mpr (Or.inr hX))))
  have m0 := at' 0 rfl
  have m1 := at' 1 rfl
  have m2 := at' 2 rfl
  have m3 := at' 3 rfl
  have wx : m_wf xE := m_wf_lf (m_lf_n (by decide) (by decide))
  have wp : m_wf pE := m_wf_lf (m_lf_n (by decide) (by decide))
  have bpx : tB 140 pxE := ⟨m_wf_app wp wx rfl, rfl, by decide⟩
  have bpc : tB 140 pcE := ⟨m_wf_app wp (tH_wf wp rfl) rfl, rfl, by decide⟩
  have gA := (k.ty m0).1
  have gp := (k.ty m1).1
  rw [am_c_182, am_s182_0]
  simp only [hx_9 w, Option.bind_some]
  obtain ⟨v1, K1, a1, a2, a3⟩ := k_leafT (sa := sa) (f := f + 1) (d := d + 172) (c := -1) w k h gA (by omega)
  rw [a1, am_i_some]
  simp only [hx_9 w, Option.bind_some]
  obtain ⟨v2, K2, b1, b2, b3⟩ := k_free (sa := sa) (f := f + 1) (d := d + 171) (x := 0) w k a2.1 a3 (by decide) m0 hf
  have b1 : am_call B sa am_dfl am_tb (f + 1) (d + 174) 132 [.ref (ρ.1 9), .int 0, .int v1] (hp_S sa ρ K1.1) = _ := b1
  rw [b1, am_i_some]
  simp only [b2.1.bad w, Option.bind_some, am_c_eq]
  have R2 := a2.tr b2
  have rest : ∀ {K3 : kS} {o : Int32}, kR Z G L K2 K3 → tv K3 o (qF qA qB) → kO Z G L sa ρ K (am_i (am_call B sa am_dfl am_tb (f + 1) (d + 174) 132 [.ref (ρ.1 9), .int 1, .int o] (hp_S sa ρ K3.1)) fun v6 g6 => (am_geti g6 (ρ.1 9) 9 45).bind fun v7 => if v7 = 0 then ((am_obj g6 (ρ.1 9) 9).bind fun _ => am_i (am_call B sa am_dfl am_tb (f + 1) (d + 174) 135 [.ref (ρ.1 9), .int v6, .int v2] g6) fun v8 g8 => (am_obj g8 (ρ.1 9) 9).bind fun _ => am_i (am_call B sa am_dfl am_tb (f + 1) (d + 174) 178 [.ref (ρ.1 9), .int v6] g8) fun v9 g9 => (am_obj g9 (ρ.1 9) 9).bind fun _ => am_i (am_call B sa am_dfl am_tb (f + 1) (d + 174) 135 [.ref (ρ.1 9), .int v6, .int v9] g9) fun v10 g10 => (am_obj g10 (ρ.1 9) 9).bind fun _ => am_i (am_call B sa am_dfl am_tb (f + 1) (d + 174) 176 [.ref (ρ.1 9), .int v8, .int v10] g10) fun v11 g11 => some (some (.int v11), g11)) else (some (some (.int 0), g6))) tX1 := by
    intro K3 o r3 to
    have R3 := R2.tr r3
    obtain ⟨v6, K5, e1, e2, e3⟩ := k_free (sa := sa) (f := f + 1) (d := d + 171) (x := 1) w k r3.1 to (by decide) m1 hf
    have e1 : am_call B sa am_dfl am_tb (f + 1) (d + 174) 132 [.ref (ρ.1 9), .int 1, .int o] (hp_S sa ρ K3.1) = _ := e1
    rw [e1, am_i_some]
    simp only [e2.1.bad w, Option.bind_some]
    have R5 := R3.tr e2
    rcases bI_cases K5.2.2.2.2 with ⟨eb, e⟩ | ⟨eb, e⟩
    · rw [e, if_pos rfl]
      simp only [hx_9 w, Option.bind_some]
      obtain ⟨v8, K6, g1, g2, g3⟩ := k_apply (sa := sa) (f := f + 1) (d := d + 171) w k R5.1 e3 ((b3.go r3).go e2) (u := qB) rfl m2 hf
      rw [g1, am_i_some]
      simp only [hx_9 w, Option.bind_some]
      obtain ⟨v9, K7, i1, i2, i3⟩ := k_choice (sa := sa) (f := f + 1) (d := d + 169) w k g2.1 (e3.go g2) rfl (by intro z; cases z) hH hf
      rw [i1, am_i_some]
      simp only [hx_9 w, Option.bind_some]
      obtain ⟨v10, K8, j1, j2, j3⟩ := k_apply (sa := sa) (f := f + 1) (d := d + 171) w k i2.1 ((e3.go g2).go i2) i3 (u := qB) rfl m3 hf
      rw [j1, am_i_some]
      simp only [hx_9 w, Option.bind_some]
      obtain ⟨v11, K9, n1, n2, n3⟩ := k_imp (sa := sa) (f := f + 1) (d := d + 3) w k j2.1 bpx bpc ((g3.go i2).go j2) j3 hI' hf
      rw [n1, am_i_some]
      exact ⟨v11, K9, rfl, (((R5.tr g2).tr i2).tr j2).tr n2, n3⟩
    · rw [e, if_neg (by decide)]
      exact ⟨0, K5, rfl, R5, nv_0 eb⟩
  rcases bI_cases K2.2.2.2.2 with ⟨eb, e⟩ | ⟨eb, e⟩
  · rw [e, if_pos rfl]
    simp only [hx_9 w, Option.bind_some]
    obtain ⟨v4, K3, c1, c2, c3, c4⟩ := k_truths (sa := sa) (f := f + 1) (d := d + 171) w k b2.1 (by omega)
    have eb3 : K3.2.2.2.2 = false := c4.trans eb
    rw [c1, am_i_some]
    simp only [hx_9 w, Option.bind_some]
    obtain ⟨v5, K4, d1, d2, d3⟩ := k_fun (sa := sa) (f := f + 1) (d := d + 171) w k c2.1 (((a3.go a2.1 b2).go b2.1 c2).pl eb3) (c3.pl eb3) gp (by omega)
    rw [d1, am_i_some]
    simp only [hx_9 w, Option.bind_some]
    exact rest (c2.tr d2) d3
  · rw [e, if_neg (by decide)]
    simp only [hx_9 w, Option.bind_some]
    exact rest (kR.rf b2.1) (tv_0 eb)
end AXS
