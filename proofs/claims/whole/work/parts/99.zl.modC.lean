/-! THE REFERENCE, 24: noteAll, define -/
section NA
variable {Z : Prop} {G : qT → Prop} {L : List qM} {sa : Nat → Nat} {B : Nat} {ρ : hp_L} {K K' K0 K1 : kS} {P : hp_P} {vs : List Int32} {A : sV} {S : qT → Prop} {k fr : Nat} {ws wr : List Int32} {H : List qM} {M : qM}
theorem vs_in_app {u : qT} {l r : qM} (wl : m_wf l) (hty : m_ty l = qF (m_ty r) u) (c : Int32) : vs_in (m_fl (mN (-1) u l r)) c ↔ vs_in (m_fl l) c ∨ vs_in (m_fl r) c := by
  rw [m_fl_N]
  constructor
  · rintro ⟨h1, s, hs, h2⟩
    rcases List.mem_cons.mp hs with z | z
    · left
      obtain ⟨c', R, e⟩ := m_fl_hd wl
      refine ⟨h1, (c', m_ty l), by rw [e]; exact List.mem_cons_self, ?_⟩
      rw [z] at h2
      rw [hty]; exact Or.inr (Or.inr h2)
    · rcases List.mem_append.mp z with z | z
      · exact Or.inl ⟨h1, s, z, h2⟩
      · exact Or.inr ⟨h1, s, z, h2⟩
  · rintro (⟨h1, s, hs, h2⟩ | ⟨h1, s, hs, h2⟩)
    · exact ⟨h1, s, List.mem_cons_of_mem _ (List.mem_append.mpr (Or.inl hs)), h2⟩
    · exact ⟨h1, s, List.mem_cons_of_mem _ (List.mem_append.mpr (Or.inr hs)), h2⟩
theorem vs_in_abs {a : qT} {l : qM} (wl : m_wf l) (c : Int32) : vs_in (m_fl (mN (-2) (qF a (m_ty l)) l .leaf)) c ↔ (c < 0 ∧ q_sub (q_vr c) a) ∨ vs_in (m_fl l) c := by
  rw [m_fl_N]
  constructor
  · rintro ⟨h1, s, hs, h2⟩
    rcases List.mem_cons.mp hs with z | z
    · rw [z] at h2
      rcases h2 with y | y | y
      · have := (qN_inj.mp y).1
        rw [this] at h1
        exact absurd h1 (by decide)
      · exact Or.inl ⟨h1, y⟩
      · right
        obtain ⟨c', R, e⟩ := m_fl_hd wl
        exact ⟨h1, (c', m_ty l), by rw [e]; exact List.mem_cons_self, y⟩
    · rcases List.mem_append.mp z with z | z
      · exact Or.inr ⟨h1, s, z, h2⟩
      · cases z
  · rintro (⟨h1, h2⟩ | ⟨h1, s, hs, h2⟩)
    · exact ⟨h1, _, List.mem_cons_self, Or.inr (Or.inl h2)⟩
    · exact ⟨h1, s, List.mem_cons_of_mem _ (List.mem_append.mpr (Or.inl hs)), h2⟩
theorem vs_in_lf {y : Int32} {u : qT} (c : Int32) : vs_in (m_fl (mN y u .leaf .leaf)) c ↔ (c < 0 ∧ q_sub (q_vr c) u) := by
  rw [m_fl_N]
  constructor
  · rintro ⟨h1, s, hs, h2⟩
    rcases List.mem_cons.mp hs with z | z
    · rw [z] at h2; exact ⟨h1, h2⟩
    · cases z
  · rintro ⟨h1, h2⟩
    exact ⟨h1, _, List.mem_cons_self, h2⟩
theorem fr_app {u : qT} {l r : qM} : (∀ s ∈ m_fl (mN (-1) u l r), ¬ q_fr s.1) ↔ (∀ s ∈ m_fl l, ¬ q_fr s.1) ∧ ∀ s ∈ m_fl r, ¬ q_fr s.1 := by
  rw [m_fl_N]
  refine ⟨fun z => ⟨fun s hs => z s (List.mem_cons_of_mem _ (List.mem_append.mpr (Or.inl hs))), fun s hs => z s (List.mem_cons_of_mem _ (List.mem_append.mpr (Or.inr hs)))⟩, fun z s hs => ?_⟩
  rcases List.mem_cons.mp hs with e | e
  · rw [e]; exact fun y => (q_fr_ne y).1 rfl
  · exact (List.mem_append.mp e).elim (z.1 s) (z.2 s)
theorem fr_abs {u : qT} {l : qM} : (∀ s ∈ m_fl (mN (-2) u l .leaf), ¬ q_fr s.1) ↔ ∀ s ∈ m_fl l, ¬ q_fr s.1 := by
  rw [m_fl_N]
  refine ⟨fun z s hs => z s (List.mem_cons_of_mem _ (List.mem_append.mpr (Or.inl hs))), fun z s hs => ?_⟩
  rcases List.mem_cons.mp hs with e | e
  · rw [e]; exact fun y => (q_fr_ne y).2.1 rfl
  · rcases List.mem_append.mp e with e | e
    · exact z s e
    · cases e
set_option maxHeartbeats 2000000 in
/-- noteAll -/
theorem k_noteAll {f : Nat} {kk : Int32 → Nat} (hk0 : ∀ c, c < 0 → kk c = 0) (w : hp_w B ρ) (h : kI Z G L K) (har : ty_ar kk K.2.2.1 K.2.1) (l2 : (K.1.2 952).1 = 256) (hf : 1000 ≤ f) : ∀ M, m_wf M → ∀ (d : Nat) (P : hp_P) (vs : List Int32) (x : Int32), nq K x M → mfr o_S K.1 P → oI K P vs → m_ht M ≤ d →
    ∃ P' vs', am_call B sa am_dfl am_tb f (d + 30) 170 [.ref (ρ.1 9), .int x] (hp_S sa ρ P) = some (some (.int (bP (∀ s ∈ m_fl M, ¬ q_fr s.1))), hp_S sa ρ P') ∧ mfr o_S K.1 P' ∧ oI K P' vs' ∧ nO vs vs' (vs_in (m_fl M)) := by
  obtain ⟨f, rfl⟩ : ∃ g, f = g + 1 := ⟨f - 1, by omega⟩
  have nt : ∀ {v : Int32} {t : qT} {d : Nat} {P : hp_P} {vs : List Int32}, pl K.2.1 K.2.2.1 v t → mfr o_S K.1 P → oI K P vs → ∃ P' vs', am_call B sa am_dfl am_tb (f + 1) (d + 29) 169 [.ref (ρ.1 9), .int v] (hp_S sa ρ P) = some (none, hp_S sa ρ P') ∧ mfr o_S K.1 P' ∧ oI K P' vs' ∧ nO vs vs' (fun c => c < 0 ∧ q_sub (q_vr c) t) := by
    intro v t d P vs hv fr ho
    have ht := q_ht_le h hv.S
    obtain ⟨a, a1, rfl, a3⟩ := hv
    have := k_noteT (sa := sa) (f := f + 1) hk0 w h har l2 hf a (d + 28) P vs a1 fr ho (by rw [a3]; omega)
    rw [a3] at this
    exact this
  refine m_wf_cases ?_ ?_ ?_
  · intro u l r w1 w2 hty i1 i2 d P vs x hx fr ho hd
    rw [m_ht_N] at hd
    obtain ⟨d, rfl⟩ : ∃ e, d = e + 1 := ⟨d - 1, by omega⟩
    obtain ⟨v1, v2, r1, r2, r3, q1, q2, -⟩ := nq_app (h.o fr) (show nq (P, K.2) x _ from hx)
    have r1 : hp_rd P 918 x = some 4 := r1
    have r2 : hp_rd P 919 x = some v1 := r2
    rw [am_c_170, am_s170_0]
    simp only [hr_918 w, hl_918 w, r1, hr_919 w, hl_919 w, r2, Option.bind_some, am_c_ne, am_c_eq, hx_9 w]
    rw [if_neg (fun z => z rfl)]
    obtain ⟨P1, vs1, a1, a2, a3, a4⟩ := i1 d P vs v1 q1 fr ho (by omega)
    rw [a1, am_i_some]
    obtain ⟨v1', v2', -, -, r3', -, q2', -⟩ := nq_app (h.o a2) (show nq (P1, K.2) x _ from hx)
    have r3' : hp_rd P1 920 x = some v2' := r3'
    simp only [hr_920 w, hl_920 w, r3', Option.bind_some, hx_9 w]
    obtain ⟨P2, vs2, b1, b2, b3, b4⟩ := i2 d P1 vs1 v2' q2' a2 a3 (by omega)
    rw [b1, am_i_some]
    refine ⟨P2, vs2, ?_, b2, b3, a4.tr b4 (vs_in_app w1 hty) a3.2.2.1 b3.2.1⟩
    by_cases c2 : ∀ s ∈ m_fl r, ¬ q_fr s.1
    · rw [bP_t c2, if_neg (by decide)]
      by_cases c1 : ∀ s ∈ m_fl l, ¬ q_fr s.1
      · rw [bP_t c1, if_neg (by decide), am_rz_1, bP_t (fr_app.mpr ⟨c1, c2⟩)]
      · rw [bP_f c1, if_pos rfl, am_rz_0, bP_f (fun z => c1 (fr_app.mp z).1)]
    · rw [bP_f c2, if_pos rfl, am_rz_0, bP_f (fun z => c2 (fr_app.mp z).2)]
  · intro a l w1 i1 d P vs x hx fr ho hd
    rw [m_ht_N] at hd
    obtain ⟨d, rfl⟩ : ∃ e, d = e + 1 := ⟨d - 1, by omega⟩
    obtain ⟨v1, v2, r1, r2, r3, q1, q2⟩ := nq_abs (h.o fr) (show nq (P, K.2) x _ from hx)
    have r1 : hp_rd P 918 x = some 5 := r1
    have r2 : hp_rd P 919 x = some v1 := r2
    rw [am_c_170, am_s170_0]
    simp only [hr_918 w, hl_918 w, r1, hr_919 w, hl_919 w, r2, Option.bind_some, am_c_ne, am_c_eq, hx_9 w]
    rw [if_pos (by decide), if_neg (fun z => z rfl)]
    obtain ⟨P1, vs1, a1, a2, a3, a4⟩ := nt (d := d + 1) q1 fr ho
    rw [a1, am_v_some]
    obtain ⟨v1', v2', -, -, r3', -, q2'⟩ := nq_abs (h.o a2) (show nq (P1, K.2) x _ from hx)
    have r3' : hp_rd P1 920 x = some v2' := r3'
    simp only [hr_920 w, hl_920 w, r3', Option.bind_some, hx_9 w]
    obtain ⟨P2, vs2, b1, b2, b3, b4⟩ := i1 d P1 vs1 v2' q2' a2 a3 (by omega)
    rw [b1, am_i_some, bP_rz]
    exact ⟨P2, vs2, by rw [bP_c fr_abs], b2, b3, a4.tr b4 (vs_in_abs w1) a3.2.2.1 b3.2.1⟩
  · intro y u hl d P vs x hx fr ho hd
    obtain ⟨x', e', k', e1, r1, r2, r3, r4⟩ := nq_lf (h.o fr) (show nq (P, K.2) x _ from hx)
    have r1 : hp_rd P 918 x = some k' := r1
    obtain ⟨s, s1, s2⟩ := (h.o fr).rdt (show nq (P, K.2) x _ from hx)
    have s1 : hp_rd P 921 x = some s := s1
    have n45 : k' ≠ 4 ∧ k' ≠ 5 := by rcases r4 with ⟨z, -⟩ | ⟨z, -⟩ | ⟨z, -⟩ <;> rw [z] <;> exact ⟨by decide, by decide⟩
    rw [am_c_170, am_s170_0]
    simp only [hr_918 w, hl_918 w, r1, hr_921 w, hl_921 w, s1, Option.bind_some, am_c_ne, am_c_eq, hx_9 w]
    rw [if_pos n45.1, if_pos n45.2]
    obtain ⟨P1, vs1, a1, a2, a3, a4⟩ := nt (d := d) s2 fr ho
    rw [a1, am_v_some]
    obtain ⟨x2, e2, k2, f1, t1, -, t3, t4⟩ := nq_lf (h.o a2) (show nq (P1, K.2) x _ from hx)
    have t1 : hp_rd P1 918 x = some k2 := t1
    simp only [hr_918 w, hl_918 w, t1, Option.bind_some]
    rw [m_ty_N] at a4
    refine ⟨P1, vs1, ?_, a2, a3, a4.1, fun c z => (a4.2.1 c z).imp id (vs_in_lf c).mpr, a4.2.2.imp (fun q c z => q c ((vs_in_lf c).mp z)) id⟩
    have key : (∀ s ∈ m_fl (mN y u .leaf .leaf), ¬ q_fr s.1) ↔ k2 ≠ 2 := by
      have e3 : m_fl (mN y u .leaf .leaf) = [(y, u)] := by rw [m_fl_N]; rfl
      rw [e3]
      constructor
      · intro z e
        have : e2 = 1 := by rcases t4 with ⟨q, q'⟩ | ⟨q, q'⟩ | ⟨q, q'⟩ <;> first | exact q' | (rw [e] at q; exact absurd q (by decide))
        exact z _ (List.mem_singleton.mpr rfl) (by show q_fr y; rw [f1, this]; exact q_fr_1 t3)
      · intro z s hs
        rw [List.mem_singleton.mp hs]
        intro y'
        have y' : q_fr y := y'
        rw [f1] at y'
        have := q_fr_e t3 (by omega) y'
        rcases t4 with ⟨q, q'⟩ | ⟨q, q'⟩ | ⟨q, q'⟩
        · omega
        · exact z q
        · omega
    by_cases c : k2 = 2
    · rw [if_pos c, am_rz_0, bP_f (fun z => key.mp z c)]
    · rw [if_neg c, am_rz_1, bP_t (key.mpr c)]
/-- the draft, where variables are noted -/
theorem dI.o (h : dI Z G L A H K) (fr : mfr o_S K.1 P) : dI Z G L A H (P, K.2) := by
  refine ⟨h.1.o fr, h.2.1.cg h.1.wf h.1.n31 (fun r hr => fr.1 r (o_rr hr)) fr.2 ty_xt.rf ⟨[], (List.append_nil _).symm⟩, fun z => ?_⟩
  obtain ⟨d1, d2, d3, d4⟩ := h.2.2 z
  unfold dr
  rw [show (P, K.2).1 = P from rfl, (fr.1 936 rfl).2, (fr.1 937 rfl).2, (fr.1 943 rfl).2]
  exact ⟨d1, d2, d3, d4⟩
/-- the signature with one more constant -/
def kG (K : kS) (m : Nat) (v : Int32) : kS := (hp_sI (hp_sA K.1 916 (nI m) v) 915 (nI (m + 1)), K.2)
theorem kG_1 {m : Nat} {v : Int32} {r : Nat} (h : r ≠ 915) : (kG K m v).1.1 r = K.1.1 r := hI_ne h
theorem kG_2 {m : Nat} {v : Int32} {r : Nat} (h : r ≠ 916) : (kG K m v).1.2 r = K.1.2 r := hA_ne h
theorem kG_l {m : Nat} {v : Int32} (r : Nat) : ((kG K m v).1.2 r).1 = (K.1.2 r).1 := hA_len
theorem kG.I {m : Nat} {v : Int32} (h : kI Z G L K) : kI Z G L (kG K m v) := h.cg fun r hr => ⟨kG_1 (ks_ne hr rfl), kG_2 (ks_ne hr rfl)⟩
theorem kG.sg {tk : List Nat} {ow : List qT} {v : Int32} {t : qT} (h : r_sg K tk ow) (hv : pl K.2.1 K.2.2.1 v t) (hl : ow.length < 2 ^ 31) : r_sg (kG K ow.length v) tk (ow ++ [t]) := by
  obtain ⟨h1, h2, h3, h4, h5, h6⟩ := h
  have e16 : ((kG K ow.length v).1.2 916).2 = upd (K.1.2 916).2 ow.length v := by
    show ((hp_sA K.1 916 (nI _) v).2 916).2 = _
    rw [hA_eq, nI_clamp hl]
  refine ⟨by rw [kG_1 (by decide)]; exact h1, by rw [kG_l]; exact h2, by rw [kG_2 (by decide)]; exact h3, by rw [List.length_append]; exact hI_eq, by rw [kG_l]; exact h5, fun c u hc => ?_⟩
  rw [e16]
  rcases rw_push_g hc with z | ⟨z1, z2⟩
  · rw [pk_un (by have := (List.getElem?_eq_some_iff.mp z).1; omega)]; exact h6 c u z
  · subst z1 z2
    rw [pk_us]; exact hv
theorem r_en.cg {P' : hp_P} {et : List qT} {em : List qM} (h : r_en K et em) (h1 : P'.1 928 = K.1.1 928) (h2 : P'.1 929 = K.1.1 929) (h3 : P'.2 930 = K.1.2 930) (h4 : P'.2 931 = K.1.2 931) : r_en (P', K.2) et em := by
  unfold r_en
  rw [show (P', K.2).1 = P' from rfl, h1, h2, h3, h4]
  exact h
theorem r_sq.cg {P' : hp_P} {sq : List qQ} (h : r_sq K sq) (h1 : ∀ r, 932 ≤ r → r ≤ 943 → P'.1 r = K.1.1 r ∧ P'.2 r = K.1.2 r) : r_sq (P', K.2) sq := by
  unfold r_sq r_row at h ⊢
  rw [show (P', K.2).1 = P' from rfl, (h1 932 (by decide) (by decide)).1, (h1 933 (by decide) (by decide)).1, (h1 934 (by decide) (by decide)).1, (h1 935 (by decide) (by decide)).2, (h1 936 (by decide) (by decide)).2, (h1 937 (by decide) (by decide)).2, (h1 943 (by decide) (by decide)).2]
  exact ⟨h.1, h.2.1, h.2.2.1, fun r a b => by rw [(h1 r (by omega) (by omega)).2]; exact h.2.2.2.1 r a b, h.2.2.2.2⟩
theorem r_th.cg {P' : hp_P} (h : r_th K A) (h1 : ∀ r, 938 ≤ r → r ≤ 944 → P'.1 r = K.1.1 r ∧ P'.2 r = K.1.2 r) : r_th (P', K.2) A := by
  refine ⟨by rw [show (P', K.2).1 = P' from rfl, (h1 938 (by decide) (by decide)).2]; exact h.1, fun j a b => ?_, by unfold r_mo; rw [show (P', K.2).1 = P' from rfl, (h1 939 (by decide) (by decide)).2]; exact h.2.2⟩
  obtain ⟨nk, nt, z1, z2⟩ := h.2.1 j a b
  refine ⟨nk, nt, ?_, z2⟩
  unfold r_tq
  rw [show (P', K.2).1 = P' from rfl, (h1 944 (by decide) (by decide)).1, (h1 939 (by decide) (by decide)).2, (h1 940 (by decide) (by decide)).2, (h1 941 (by decide) (by decide)).2, (h1 942 (by decide) (by decide)).2]
  exact z1
end NA
