/-! STEP 22 of the class: an axiom -/
section S22
variable {sa : Nat → Nat} {B : Nat} {ρ : hp_L} {P : hp_P} {n : Nat} {T : Nat → Int32 × Int32 × Int32} {C : sC}
/-- 22 -/
def sp_22 (x : Int32) (N : qQ) : Prop := ∃ k, k < 3 ∧ x = nI k ∧ N = ([], ax_M k)
/-- the outcome of an axiom -/
def cO22 (B : Nat) (sa : Nat → Nat) (R : qQ → Prop) (C : sC) (ρ : hp_L) (P : hp_P) (n : Nat) (T : Nat → Int32 × Int32 × Int32) (x : Option (Option Value × am_S)) : Prop :=
  (∃ N ρ' P' n' T' Rn, R N ∧ sq_lim (ct_S T n) (m_tot (sq_rows C.2.1)) N ∧ x = some (some (.int 1), hp_S sa ρ' P') ∧ cI B (c_new C C.2.2.1 n' Rn N) ρ' P' n' T' ∧ (hp_fr cw_S 2 ρ P ρ' P' ∧ (P'.2 3).1 = 5 ∧ (P'.2 4).1 = 5) ∧ ty_xt n T n' T' ∧ ct_S T' n' = q_un (ct_S T n) (N.1 ++ [N.2])) ∨
  ((∀ N, R N → ¬ sq_lim (ct_S T n) (m_tot (sq_rows C.2.1)) N) ∧ ∃ ρ' P' n' T', x = some (some (.int 0), hp_S sa ρ' P') ∧ uI B C ρ' P' n' T' ∧ (hp_fr cw_S 2 ρ P ρ' P' ∧ (P'.2 3).1 = 5 ∧ (P'.2 4).1 = 5) ∧ ty_xt n T n' T')
theorem s_fin22 {ρ0 : hp_L} {P0 : hp_P} {n0 e : Nat} {T0 : Nat → Int32 × Int32 × Int32} {x : Option (Option Value × am_S)} {H : List qM} {M : qM} {b : Bool} {R : qQ → Prop} (hR : ∀ N, R N ↔ N = (H, M)) (y0 : tyI P0 n0 T0)
    (h : sA (¬ sq_lim (ct_S T0 n0) (m_tot (sq_rows C.2.1)) (H, M)) (q_un (ct_S T0 n0) (H ++ [M])) B sa C C.2.2.1 ρ P n T b x H M) (fr : hp_fr cw_S e ρ0 P0 ρ P) (h3 : (P.2 3).1 = 5) (h4 : (P.2 4).1 = 5) (he : e ≤ 2) (xt : ty_xt n0 T0 n T) : cO22 B sa R C ρ0 P0 n0 T0 (am_i x fun v g => am_rz v g) := by
  have l34 : ∀ {ρ' : hp_L} {P' : hp_P}, hp_fr cl_S 0 ρ P ρ' P' → hp_fr cw_S 2 ρ0 P0 ρ' P' ∧ (P'.2 3).1 = 5 ∧ (P'.2 4).1 = 5 := fun k => ⟨(fr.tr k.cw).up (by omega), by rw [(k.2.1 3 rfl).2.1]; exact h3, by rw [(k.2.1 4 rfl).2.1]; exact h4⟩
  rcases h with ⟨a1, ρ', P', Rn, a2, a3, a4, a5⟩ | ⟨a1, ρ', P', H', D', a2, a3, a4⟩
  · left
    obtain ⟨c1, c2⟩ := a3.c
    have hwf := c1.y.1.wf
    have hn := c1.y.1.n31
    have hrs := c1.2.2.2.2.1
    have e1 : ct_S T n = q_un (ct_S T0 n0) (H ++ [M]) := by
      funext t
      refine propext ⟨c2 t, fun z => z.elim (fun z => z.xt y0.wf y0.n31 xt) fun ⟨X, x1, x2⟩ => q_of_S hrs c1.2.2.2.2.2.2.2 hwf hn ⟨X, ?_, x2⟩⟩
      show X ∈ sq_rows (C.2.1 ++ [(H, M)])
      rw [sq_rows_ap, sq_rows_1]
      exact List.mem_append.mpr (Or.inr x1)
    have hle := (a3.rowsle).2.1
    have hlim : sq_lim (ct_S T0 n0) (m_tot (sq_rows C.2.1)) (H, M) := by
      refine ⟨a5, fun X hX => (hrs.2 X ?_).2, ?_, by rw [← e1]; exact c1.y.1.good⟩
      · show X ∈ sq_rows (C.2.1 ++ [(H, M)])
        rw [sq_rows_ap, sq_rows_1]
        exact List.mem_append.mpr (Or.inr hX)
      · have h1 : m_tot (sq_rows (C.2.1 ++ [(H, M)])) ≤ 20000 := hle
        rw [sq_rows_ap, sq_rows_1, m_tot_ap, m_tot_ap] at h1
        have h2 : m_tot [M] = (m_fl M).length := by unfold m_tot; simp
        dsimp only at h1 ⊢
        omega
    refine ⟨(H, M), ρ', P', n, T, Rn, (hR _).mpr rfl, hlim, by rw [a2, am_i_some]; exact am_rz_1, c1, l34 a4, xt, e1⟩
  · right
    exact ⟨fun N hN => by rw [(hR N).mp hN]; exact a1, ρ', P', n, T, by rw [a2, am_i_some]; exact am_rz_0, a3.u, l34 a4, xt⟩
theorem cO22.no {R : qQ → Prop} (h : cI B C ρ P n T) (h3 : (P.2 3).1 = 5) (h4 : (P.2 4).1 = 5) (hn : ∀ N, ¬ R N) : cO22 B sa R C ρ P n T (am_rz 0 (hp_S sa ρ P)) :=
  Or.inr ⟨fun N z => absurd z (hn N), ρ, P, n, T, am_rz_0, h.u, ⟨hp_fr.rf.up (by omega), h3, h4⟩, ty_xt.rf⟩
theorem ax_F_le {k : Nat} (hk : k < 3) : (ax_F k).length ≤ 100 ∧ 7 ≤ (ax_F k).length ∧ ∀ c ∈ ax_F k, c ≤ 100 := by
  have : k = 0 ∨ k = 1 ∨ k = 2 := by omega
  rcases this with rfl | rfl | rfl <;> decide
theorem a_no {f d : Nat} {x : Int32} (h : ¬ ∃ k : Nat, k < 3 ∧ x = nI k) (hf : 1 ≤ f) : am_call B sa am_dfl am_tb f (d + 1) 97 [.ref (ρ.1 0), .int x] (hp_S sa ρ P) = some (some (.int 0), hp_S sa ρ P) := by
  obtain ⟨f, rfl⟩ : ∃ g, f = g + 1 := ⟨f - 1, by omega⟩
  rw [am_c_97, am_s97_0]
  simp only [am_c_lt, am_c_le]
  by_cases e : x < 0
  · rw [if_pos e]; exact am_rz_0
  · rw [if_neg e]
    rcases pk_ix x (n := 3) (by omega) with z | z | ⟨j, z1, z2⟩
    · exact absurd z e
    · rw [if_neg]
      · exact am_rz_0
      · intro k
        rw [Int32.le_iff_toInt_le] at k z
        have e1 : (nI 3).toInt = 3 := by decide
        have e3 : (2 : Int32).toInt = 2 := rfl
        omega
    · exact absurd ⟨j, z1, z2⟩ h
set_option maxHeartbeats 2000000 in
theorem st_22 {f d : Nat} {x : Int32} (h : cI B C ρ P n T) (hS : axS sa ρ) (h3 : (P.2 3).1 = 5) (h4 : (P.2 4).1 = 5) (hf : 100000 ≤ f) (hc : C.2.1.length < 1000) :
    cO22 B sa (sp_22 x) C ρ P n T (am_i (am_call B sa am_dfl am_tb f (d + 310) 97 [.ref (ρ.1 0), .int x] (hp_S sa ρ P)) fun v43 g43 => if am_cond .ne v43 0 = true then ((am_getr g43 (ρ.1 8) 8 6).bind fun p44 => (am_obj g43 p44 0).bind fun _ => am_v (am_call B sa am_dfl am_tb f (d + 310) 98 [.ref p44, .int 0, .int 0] g43) fun g45 => (am_getr g45 (ρ.1 8) 8 4).bind fun p46 => (am_obj g45 p46 4).bind fun _ => am_i (am_call B sa am_dfl am_tb f (d + 310) 76 [.ref p46] g45) fun v47 g47 => am_rz v47 g47) else (am_rz 0 g43)) := by
  by_cases e : ∃ k : Nat, k < 3 ∧ x = nI k
  · obtain ⟨k, hk, rfl⟩ := e
    obtain ⟨b', r1, r2, r3, r4⟩ := ax_ok hk
    have h0 := h.s (Z := ¬ sq_lim (ct_S T n) (m_tot (sq_rows C.2.1)) ([], ax_M k)) (G := q_un (ct_S T n) ([] ++ [ax_M k])) fun t z => Or.inl z
    have hG : ∀ t ∈ ax_G k, q_un (ct_S T n) ([] ++ [ax_M k]) t := fun t ht => Or.inr (r4 t ht)
    obtain ⟨l1, l2, l3⟩ := ax_F_le hk
    obtain ⟨ρ1, P1, n1, T1, a1, a2, a3, a4, a5⟩ := a_choose (sa := sa) (f := f) (d := d + 305) (by omega) hk h0 hS h3 h4 hG
    obtain ⟨ρ2, P2, n2, T2, b2, c1, c2, c3, c4, c5, c6⟩ := a_write (sa := sa) (f := f) (by omega) l1 l2 l3 hG sl_good 60 0 0 d _ _ _ ρ1 P1 n1 T1 [] false r1 (by omega) a2 a3 (sl_pre (E := []) (by simp))
    rw [List.nil_append] at c2
    have ad := s_add (sa := sa) (f := f) (d := d + 306) c2 (by omega) r2 hc sl_hM sl_tot
    have fin := s_fin22 (R := sp_22 (nI k)) (fun N => ⟨fun ⟨k', z1, z2, z3⟩ => by rw [z3, (nI_eq (by omega) (by omega)).mp z2], fun z => ⟨k, hk, rfl, z⟩⟩) h.y.1 ad (hp_fr.tr0 a4 c4.aw4).awc c3.2.2.1 c3.2.2.2.1 (by omega) (a5.tr c5)
    have o1 : ρ1.1 8 = ρ.1 8 := (w_ob a4 8).symm
    have o2 : ρ2.1 8 = ρ.1 8 := (w_ob c4 8).symm.trans o1
    rw [a1, am_i_some]
    simp only [am_c_ne]
    rw [if_pos (by decide), ← o1]
    simp only [ho_806 a2.w, Option.bind_some, hx_0 a2.w]
    rw [show (0 : Int32) = nI 0 from rfl, c1, am_v_some, o1, ← o2]
    simp only [ho_804 c2.w, Option.bind_some, hx_4 c2.w]
    exact fin
  · rw [a_no (d := d + 309) e (by omega), am_i_some]
    simp only [am_c_ne]
    rw [if_neg (fun z => z rfl)]
    exact cO22.no h h3 h4 fun N ⟨k, z1, z2, z3⟩ => e ⟨k, z1, z2⟩
end S22
