/-! STEPS of the class, 9: newType -/
/-- the variables of types, the lowest number first -/
def vs_of (K : List qS) (vs : List Int32) : Prop := vs.Pairwise (fun a b => b < a) ∧ ∀ c, c ∈ vs ↔ vs_in K c
theorem vs_nd {vs : List Int32} (h : vs.Pairwise (fun a b => b < a)) : vs.Nodup := h.imp fun {a b} hab e => by rw [e] at hab; exact Int32.lt_irrefl hab
/-- the type of a new constructor and variables -/
def q_k (k : Int32) (vs : List Int32) : qT := qN k (match vs with | [] => qE | a :: _ => q_vr a) (match vs with | _ :: b :: _ => q_vr b | _ => qE)
theorem i_mc {c : Int32} (h : c < 0) : (-1 - c).toInt = -1 - c.toInt := by
  have h0 : c.toInt < 0 := by
    have := Int32.lt_iff_toInt_lt.mp h
    rwa [show (0 : Int32).toInt = 0 by decide] at this
  have h1 := Int32.le_toInt c
  rw [Int32.toInt_sub, show (-1 : Int32).toInt = -1 by decide, Int.bmod_eq_of_le (by omega) (by omega)]
theorem i_nlt0 {c : Int32} (h : c < 0) : ¬ (-1 - c < 0) := fun z => by
  have h0 : c.toInt < 0 := by
    have := Int32.lt_iff_toInt_lt.mp h
    rwa [show (0 : Int32).toInt = 0 by decide] at this
  have := Int32.lt_iff_toInt_lt.mp z
  rw [i_mc h, show (0 : Int32).toInt = 0 by decide] at this
  omega
theorem i_nlt {c c0 : Int32} (h : c < 0) (h0 : c0 < 0) (hb : -100000001 ≤ c0.toInt) : ¬ (-1 - c < -c0) ↔ c < c0 := by
  have h1 : c0.toInt < 0 := by
    have := Int32.lt_iff_toInt_lt.mp h0
    rwa [show (0 : Int32).toInt = 0 by decide] at this
  have e : (-c0).toInt = -c0.toInt := by rw [Int32.toInt_neg, Int.bmod_eq_of_le (by omega) (by omega)]
  rw [Int32.lt_iff_toInt_lt, Int32.lt_iff_toInt_lt, i_mc h, e]
  omega
section SPA
variable {sa : Nat → Nat} {B : Nat} {ρ : hp_L} {P : hp_P} {b : Bool} {n : Nat} {T : Nat → Int32 × Int32 × Int32} {Z : Prop} {G : qT → Prop} {C : sC} {H : List qM} {D : List qS} {kk : Int32 → Nat}
/-- a constructor more -/
def c_tk (C : sC) (t : List Nat) : sC := (C.1, C.2.1, C.2.2.1, C.2.2.2.1, C.2.2.2.2.1 ++ t, C.2.2.2.2.2)
theorem cI.sk {P' : hp_P} {t : List Nat} (h : cI B C ρ P n T) (fr : hp_fr sg_S 0 ρ P ρ P') (hs : sgI P' n T (C.2.2.2.2.1 ++ t) C.2.2.2.2.2.1) : cI B (c_tk C t) ρ P' n T := by
  obtain ⟨h1, h2, h3, h4, h5, h6, h7, h8⟩ := h
  exact ⟨h1, h2.fr fr fun r a b => decide_eq_false (by omega), hs, h4.cg fun r a b => ⟨(fr.2.1 r (decide_eq_false (by omega))).1, (fr.2.1 r (decide_eq_false (by omega))).2.1⟩, h5, h6.fr fr fun r a b => decide_eq_false (by omega), h7.fr fr fun r a b => decide_eq_false (by omega), h8⟩
set_option maxHeartbeats 2000000 in
theorem st_94 {f d : Nat} {A L W : List rwS} {K : List qS} (h : cI B C ρ P n T) (hf : 50000 ≤ f) (hk0 : ∀ c, c < 0 → kk c = 0) (har : ty_ar kk T n) (hX : C.1.flatten = A ++ (L ++ W)) (hv : ∀ s ∈ L, rv n s) (hK : L.map (rt T n) = K) {x e : Int32} (hx : x = nI A.length) (he : e = nI (A.length + L.length)) :
    (∃ vs v ρ' P' n' T', vs_of K vs ∧ vs.length ≤ 2 ∧ C.2.2.2.2.1.length < 40 ∧ am_call B sa am_dfl am_tb f (d + 5) 94 [.ref (ρ.1 6), .int x, .int e] (hp_S sa ρ P) = some (some (.int v), hp_S sa ρ' P') ∧ cI B (c_tk C [vs.length]) ρ' P' n' T' ∧ hp_fr cl_S 0 ρ P ρ' P' ∧ ty_xt n T n' T' ∧ ty_mo n T v n' T' (q_k (nI C.2.2.2.2.1.length) vs)) ∨
    ((∀ vs, vs_of K vs → 2 < vs.length ∨ 40 ≤ C.2.2.2.2.1.length) ∧ ∃ P', am_call B sa am_dfl am_tb f (d + 5) 94 [.ref (ρ.1 6), .int x, .int e] (hp_S sa ρ P) = some (some (.int (-2)), hp_S sa ρ P') ∧ cI B C ρ P' n T ∧ hp_fr cl_S 0 ρ P ρ P') := by
  have w := h.w
  have hwf := h.y.1.wf
  have hn := h.y.1.n31
  have hdi := h.y.1.2.1
  obtain ⟨P1, u1, u2, u3⟩ := ty_unmark (sa := sa) (f := f) (d := d + 3) w h.y.1.1 (by omega)
  have h1 := h.imo u2
  obtain ⟨P2, m1, m2, m3⟩ := rw_markTypes (sa := sa) (f := f) (d := d + 2) (M := fun _ => false) w h1.y.1 h1.2.2.2.2.2.2.1 (by omega) hv (show C.1.flatten ++ [] = A ++ (L ++ W) by rw [List.append_nil]; exact hX) (fun i hi => by rw [u3 i hi]; rfl) hx he
  have h2 := h1.imo m2
  obtain ⟨P3, s1, s2, s3⟩ := ty_spread (sa := sa) (f := f) (d := d + 2) w h2.y.1.1 m3 (by omega)
  have h3 := h2.imo s2
  have imo3 := u2.tr (m2.tr s2)
  have fr3 : hp_fr cl_S 0 ρ P ρ P3 := (imo3.fr (ρ := ρ)).wy.sw.cs
  have s3 : ty_im P3 n (ty_mL T n L) := s3
  have mv := ty_mvars (sa := sa) (f := f) (d := d + 3) w h3.y.1.1 s3 (by omega)
  have hnd := ty_vl_nd (Mk := ty_mL T n L) hk0 hwf hdi hn har n (Nat.le_refl _)
  have hin : ∀ c, c ∈ ty_vl T (ty_mL T n L) n ↔ vs_in K c := fun c => by rw [← hK]; exact ty_vl_in hk0 hwf hdi hn har hv
  have hlen := ty_vl_len (T := T) (Mk := ty_mL T n L) n
  have vlen : ∀ vs, vs_of K vs → vs.length = ty_mv T (ty_mL T n L) n := fun vs hvs => by
    have a1 := nd_len (vs_nd hvs.1) (fun c hc => (hin c).mpr ((hvs.2 c).mp hc))
    have a2 := nd_len hnd (fun c hc => (hvs.2 c).mpr ((hin c).mp hc))
    omega
  have mvle := ty_mv_le (T := T) (ty_mL T n L) n
  have hmk : ∀ {i : Nat}, i < n → ty_mL T n L i = true → (T i).1 < 0 → vs_in K (T i).1 := fun {i} i1 i2 i3 => (hin _).mp ((ty_vl_mem n).mpr ⟨i, i1, i2, rfl, i3⟩)
  have hbd : ∀ {i : Nat}, i < n → -100000001 ≤ (T i).1.toInt := fun {i} hi => by
    have := har i hi
    rw [ct_at hwf hn hi, q_ar_N] at this
    exact this.2.2.2.2
  obtain ⟨f, rfl⟩ : ∃ g, f = g + 1 := ⟨f - 1, by omega⟩
  rw [am_c_94, am_s94_0]
  have h22 : (nI (ty_mv T (ty_mL T n L) n) ≤ (2 : Int32)) = (ty_mv T (ty_mL T n L) n ≤ 2) := by rw [show (2 : Int32) = nI 2 from rfl]; exact propext (nI_leI (by omega) (by omega))
  simp only [ho_600 w, Option.bind_some, hx_7 w, u1, am_v_some, ho_603 w, hx_3 w, m1, s1, mv, am_i_some, am_c_le, h22, am_c_ne, am_c_ge]
  by_cases e2 : ty_mv T (ty_mL T n L) n ≤ 2
  · rw [if_pos e2]
    generalize hk : ty_mv T (ty_mL T n L) n = k at *
    obtain ⟨P4, a1, a2, a3, a4, a5, a6, a7⟩ := sg_addK (sa := sa) (f := f) (d := d + 3) w h3.2.2.1 e2
    have htl := h.2.2.1.1.2.2.1
    simp only [ho_601 w, Option.bind_some, hx_5 w, a1, am_i_some]
    by_cases e4 : C.2.2.2.2.1.length < 40
    · rw [if_pos e4] at a2
      rw [if_pos e4, if_pos (nI_ne_m1 (by omega))]
      have h4 := h3.sk a3 a2
      have im4 : ty_im P4 n (ty_mL T n L) := fun i hi => by rw [(a3.2.1 706 rfl).2.1]; exact s3 i hi
      have lo0 := ty_lowest (sa := sa) (f := f + 1) (d := d + 3) (x := 0) w h4.y.1.1 im4 (by omega)
      have fr4 : hp_fr cl_S 0 ρ P ρ P4 := hp_fr.tr0 fr3 a3.cg
      have fin : ∀ (vs : List Int32) (l r : Int32), vs_of K vs → vs.length = k → ty_in n l → ty_in n r → qN (nI C.2.2.2.2.1.length) (ct T n l) (ct T n r) = q_k (nI C.2.2.2.2.1.length) vs →
          ∃ vs v ρ' P' n' T', vs_of K vs ∧ vs.length ≤ 2 ∧ C.2.2.2.2.1.length < 40 ∧ ((am_obj (hp_S sa ρ P4) (ρ.1 7) 7).bind fun _ => am_i (am_call B sa am_dfl am_tb (f + 1) (d + 4) 3 [.ref (ρ.1 7), .int (nI C.2.2.2.2.1.length), .int l, .int r] (hp_S sa ρ P4)) fun v19 g19 => some (some (Value.int v19), g19)) = some (some (Value.int v), hp_S sa ρ' P') ∧ cI B (c_tk C [vs.length]) ρ' P' n' T' ∧ hp_fr cl_S 0 ρ P ρ' P' ∧ ty_xt n T n' T' ∧ ty_mo n T v n' T' (q_k (nI C.2.2.2.2.1.length) vs) := by
        intro vs l r hvs hvl hl hr hq
        obtain ⟨ρ', P', v, n', T', b1, b2, b3, b4, b5, b6, -⟩ := tm_make (sa := sa) (f := f + 1) (d := d + 1) (c := nI C.2.2.2.2.1.length) w h4.y.1 (by omega) hl hr
        rw [hq] at b6
        refine ⟨vs, v, ρ', P', n', T', hvs, by omega, e4, ?_, ?_, hp_fr.tr0 fr4 b4.wy.sw.cs, b5, b6⟩
        · simp only [hx_7 w, Option.bind_some, b1, am_i_some]
        · rw [hvl]
          exact h4.ty b2 b3 b4 b5
      simp only [ho_600 w, Option.bind_some, hx_7 w, lo0, am_i_some]
      left
      rcases ty_lmv_t (T := T) (Mk := ty_mL T n L) (x := 0) n with ⟨t1, t2⟩ | ⟨i, i1, i2, i3, i4, i5, i6⟩
      · -- no variable
        have hnil : ty_vl T (ty_mL T n L) n = [] := by
          cases hvl : ty_vl T (ty_mL T n L) n with
          | nil => rfl
          | cons c l =>
            exfalso
            obtain ⟨j, j1, j2, j3, j4⟩ := (ty_vl_mem n).mp (show c ∈ ty_vl T (ty_mL T n L) n by rw [hvl]; exact List.mem_cons_self)
            exact i_nlt0 (by rw [j3]; exact j4) (t2 j j1 j2 (by rw [j3]; exact j4))
        rw [hnil] at hlen
        have hk' : k = 0 := hlen.symm
        rw [if_neg (by rw [hk']; decide), t1]
        have := fin [] (-1) (-1) ⟨List.Pairwise.nil, fun c => by rw [← hin c, hnil]⟩ hk'.symm (Or.inl rfl) (Or.inl rfl) (by rw [ct_m1]; rfl)
        simp only [hx_7 w, Option.bind_some] at this ⊢
        exact this
      · have hv0 := ty_var_row hk0 hwf hn har i1 i4
        have hin0 := hmk i1 i3 i4
        have i6 := i6 hn
        rw [i2]
        by_cases e5 : k = 2
        · rw [if_pos (by rw [e5]; decide)]
          have lo1 := ty_lowest (sa := sa) (f := f + 1) (d := d + 3) (x := -(T i).1) w h4.y.1.1 im4 (by omega)
          obtain ⟨r0, -, -⟩ := ty_row h4.y.1.1 i1
          simp only [ho_600 w, hr_700 w, hl_700 w, r0, Option.bind_some, hx_7 w, lo1, am_i_some]
          rcases ty_lmv_t (T := T) (Mk := ty_mL T n L) (x := -(T i).1) n with ⟨t1, t2⟩ | ⟨j, j1, j2, j3, j4, j5, j6⟩
          · -- but there are two
            exfalso
            have hall : ∀ c ∈ ty_vl T (ty_mL T n L) n, c ∈ [(T i).1] := fun c hc => by
              obtain ⟨j, j1, j2, j3, j4⟩ := (ty_vl_mem n).mp hc
              rw [← j3] at j4
              have h1 := t2 j j1 j2 j4
              have h2 := i6 j j1 j2 j4 (i_nlt0 j4)
              have h3 : ¬ (T j).1 < (T i).1 := fun z => (i_nlt j4 i4 (hbd i1)).mpr z h1
              have : (T j).1 = (T i).1 := Int32.le_antisymm h2 (Int32.not_lt.mp h3)
              rw [← j3, this]
              exact List.mem_singleton.mpr rfl
            have := nd_len hnd hall
            rw [hlen] at this
            simp at this
            omega
          · have j6 := j6 hn
            have hv1 := ty_var_row hk0 hwf hn har j1 j4
            have hlt : (T j).1 < (T i).1 := (i_nlt j4 i4 (hbd i1)).mp j5
            rw [j2]
            have hvs : vs_of K [(T i).1, (T j).1] := by
              refine ⟨List.pairwise_cons.mpr ⟨fun c hc => by rw [List.mem_singleton.mp hc]; exact hlt, List.pairwise_cons.mpr ⟨fun c hc => by (cases hc), List.Pairwise.nil⟩⟩, fun c => ⟨fun hc => ?_, fun hc => ?_⟩⟩
              · rcases List.mem_cons.mp hc with z | z
                · rw [z]; exact hin0
                · rw [List.mem_singleton.mp z]; exact hmk j1 j3 j4
              · obtain ⟨l, l1, l2, l3, l4⟩ := (ty_vl_mem n).mp ((hin c).mpr hc)
                rw [← l3] at l4
                by_cases q : (T l).1 < (T i).1
                · -- at most the second, and not below it
                  refine Classical.byContradiction fun hno => ?_
                  have hsub : ∀ c' ∈ [(T i).1, (T j).1, c], c' ∈ ty_vl T (ty_mL T n L) n := fun c' hc' => by
                    rcases List.mem_cons.mp hc' with z | z
                    · rw [z]; exact (hin _).mpr hin0
                    · rcases List.mem_cons.mp z with z | z
                      · rw [z]; exact (hin _).mpr (hmk j1 j3 j4)
                      · rw [List.mem_singleton.mp z]; exact (hin c).mpr hc
                  have hnd3 : [(T i).1, (T j).1, c].Nodup := by
                    refine List.nodup_cons.mpr ⟨fun z => ?_, List.nodup_cons.mpr ⟨fun z => ?_, List.nodup_cons.mpr ⟨List.not_mem_nil, List.nodup_nil⟩⟩⟩
                    · rcases List.mem_cons.mp z with z | z
                      · rw [z] at hlt; exact Int32.lt_irrefl hlt
                      · exact hno (by rw [List.mem_singleton.mp z]; exact List.mem_cons_self)
                    · exact hno (by rw [List.mem_singleton.mp z]; exact List.mem_cons_of_mem _ List.mem_cons_self)
                  have := nd_len hnd3 hsub
                  rw [hlen] at this
                  simp at this
                  omega
                · have h2 := i6 l l1 l2 l4 (i_nlt0 l4)
                  have : (T l).1 = (T i).1 := Int32.le_antisymm h2 (Int32.not_lt.mp q)
                  rw [← l3, this]
                  exact List.mem_cons_self
            have := fin [(T i).1, (T j).1] (nI i) (nI j) hvs e5.symm (Or.inr ⟨i, i1, rfl⟩) (Or.inr ⟨j, j1, rfl⟩) (by rw [hv0.2, hv1.2]; rfl)
            simp only [hx_7 w, Option.bind_some] at this ⊢
            exact this
        · rw [if_neg (by rw [show (2 : Int32) = nI 2 from rfl]; exact nI_ge (by omega) (by omega))]
          have hmem : (T i).1 ∈ ty_vl T (ty_mL T n L) n := (hin _).mpr hin0
          have hpos : 0 < (ty_vl T (ty_mL T n L) n).length := List.length_pos_of_mem hmem
          have hk1 : k = 1 := by omega
          have hvs : vs_of K [(T i).1] := by
            refine ⟨List.pairwise_cons.mpr ⟨fun c hc => by (cases hc), List.Pairwise.nil⟩, fun c => ⟨fun hc => by rw [List.mem_singleton.mp hc]; exact hin0, fun hc => ?_⟩⟩
            refine Classical.byContradiction fun hno => ?_
            have hnd2 : [(T i).1, c].Nodup := List.nodup_cons.mpr ⟨fun z => hno (by rw [List.mem_singleton.mp z]; exact List.mem_singleton.mpr rfl), List.nodup_cons.mpr ⟨List.not_mem_nil, List.nodup_nil⟩⟩
            have := nd_len hnd2 (l' := ty_vl T (ty_mL T n L) n) (fun c' hc' => by
              rcases List.mem_cons.mp hc' with z | z
              · rw [z]; exact hmem
              · rw [List.mem_singleton.mp z]; exact (hin c).mpr hc)
            rw [hlen] at this
            simp at this
            omega
          have := fin [(T i).1] (nI i) (-1) hvs hk1.symm (Or.inr ⟨i, i1, rfl⟩) (Or.inl rfl) (by rw [hv0.2, ct_m1]; rfl)
          simp only [hx_7 w, Option.bind_some] at this ⊢
          exact this
    · rw [if_neg e4, if_neg (fun z => z rfl)]
      rw [if_neg e4] at a2
      have h4 := h3.sk (t := []) a3 (by rw [List.append_nil]; exact a2)
      right
      refine ⟨fun vs _ => Or.inr (by omega), P4, rfl, ?_, hp_fr.tr0 fr3 a3.cg⟩
      unfold c_tk at h4
      rw [List.append_nil] at h4
      exact h4
  · rw [if_neg e2, if_neg (fun z => z rfl)]
    right
    exact ⟨fun vs hvs => Or.inl (by rw [vlen vs hvs]; omega), P3, rfl, h3, fr3⟩
end SPA
