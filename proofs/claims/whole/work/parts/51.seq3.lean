/-! SEQUENTS of the class, 3: add, addFirm -/
/-- the roles that steps change -/
def cl_S : Nat → Bool := fun r => st_S r || (decide (403 ≤ r ∧ r ≤ 408) || decide (500 ≤ r ∧ r ≤ 503))
theorem cl_st {r : Nat} (h : cl_S r = false) : st_S r = false := (Bool.or_eq_false_iff.mp h).1
theorem hp_fr.cs {e : Nat} {ρ ρ' : hp_L} {P P' : hp_P} (h : hp_fr st_S e ρ P ρ' P') : hp_fr cl_S e ρ P ρ' P' := h.weaken fun _ h => cl_st h
theorem cl_4 {r : Nat} (h : 403 ≤ r ∧ r ≤ 408) : cl_S r = true := by
  unfold cl_S
  rw [decide_eq_true h, Bool.true_or, Bool.or_true]
theorem cl_8 {r : Nat} (h : 800 ≤ r) : cl_S r = false := by
  unfold cl_S
  rw [st_8 h, decide_eq_false (by omega), decide_eq_false (by omega)]
  rfl
theorem cl_54 : cl_S 504 = false ∧ cl_S 505 = false := ⟨rfl, rfl⟩
theorem hp_fr.cg {e : Nat} {ρ ρ' : hp_L} {P P' : hp_P} (h : hp_fr sg_S e ρ P ρ' P') : hp_fr cl_S e ρ P ρ' P' := h.weaken fun r hr => by
  unfold cl_S at hr
  exact (Bool.or_eq_false_iff.mp (Bool.or_eq_false_iff.mp hr).2).2
section SQ3
variable {sa : Nat → Nat} {B : Nat} {ρ : hp_L} {P : hp_P} {b : Bool} {n : Nat} {T : Nat → Int32 × Int32 × Int32} {Z : Prop} {G : qT → Prop} {C : sC} {H : List qM} {D : List qS}
/-- the stores of add -/
def sq_P (P : hp_P) (k : Nat) (r n a t : Int32) : hp_P := hp_sA (hp_sA (hp_sA (hp_sA (hp_sI P 403 (nI (k + 1))) 405 (nI (k + 1)) r) 406 (nI (k + 1)) n) 407 (nI (k + 1)) a) 408 (nI (k + 1)) t
theorem sq_P_rd {k : Nat} {r n a t : Int32} (hk : k + 1 < 2 ^ 31) : (sq_P P k r n a t).2 405 = ((P.2 405).1, upd (P.2 405).2 (k + 1) r) ∧ (sq_P P k r n a t).2 406 = ((P.2 406).1, upd (P.2 406).2 (k + 1) n) ∧ (sq_P P k r n a t).2 407 = ((P.2 407).1, upd (P.2 407).2 (k + 1) a) ∧ (sq_P P k r n a t).2 408 = ((P.2 408).1, upd (P.2 408).2 (k + 1) t) ∧ (∀ x, ¬ (405 ≤ x ∧ x ≤ 408) → (sq_P P k r n a t).2 x = P.2 x) ∧ (sq_P P k r n a t).1 403 = nI (k + 1) ∧ ∀ x, x ≠ 403 → (sq_P P k r n a t).1 x = P.1 x := by
  unfold sq_P
  simp only [hp_sA, hp_sI, nI_clamp hk, if_true]
  refine ⟨rfl, rfl, rfl, rfl, fun x hx => ?_, True.intro, fun x hx => ?_⟩
  · rw [if_neg (by omega), if_neg (by omega), if_neg (by omega), if_neg (by omega)]
  · rw [if_neg hx]
theorem sq_P_fr {k : Nat} {r n a t : Int32} : hp_fr cl_S 0 ρ P ρ (sq_P P k r n a t) := by
  unfold sq_P
  refine hp_fr.tr0 ?_ (hp_fr.sA (cl_4 (by decide)))
  refine hp_fr.tr0 ?_ (hp_fr.sA (cl_4 (by decide)))
  refine hp_fr.tr0 ?_ (hp_fr.sA (cl_4 (by decide)))
  refine hp_fr.tr0 ?_ (hp_fr.sA (cl_4 (by decide)))
  exact hp_fr.sI (cl_4 (by decide))
/-- what there was then, one more -/
def th_add (th : Nat → Nat × Nat × Nat) (k : Nat) (x : Nat × Nat × Nat) : Nat → Nat × Nat × Nat := fun j => if j = k then x else th j
theorem sq_P_I {sq : List qQ} {fm n' a t : Nat} {th : Nat → Nat × Nat × Nat} {s : qQ} (h : sqA P sq fm th) (hl : sq.length + 1 < (P.2 405).1) (h9 : sq.length < 1000) : sqA (sq_P P sq.length (nI (sq_rows (sq ++ [s])).length) (nI n') (nI a) (nI t)) (sq ++ [s]) fm (th_add th (sq.length + 1) (n', a, t)) := by
  obtain ⟨a1, a2, a3, a4, ⟨len, l1, l2, l3, l4⟩, a6⟩ := h
  have hll := l4 405 (by decide) (by decide)
  obtain ⟨q5, q6, q7, q8, q9, q1, q2⟩ := sq_P_rd (P := P) (k := sq.length) (r := nI (sq_rows (sq ++ [s])).length) (n := nI n') (a := nI a) (t := nI t) (by omega)
  have hlen : (sq ++ [s]).length = sq.length + 1 := by simp
  refine ⟨by rw [q1, hlen], by rw [q2 404 (by decide)]; exact a2, by omega, by omega, ⟨len, l1, l2, by omega, fun r z1 z2 => ?_⟩, fun j hj => ?_⟩
  · have : r = 405 ∨ r = 406 ∨ r = 407 ∨ r = 408 := by omega
    rcases this with rfl | rfl | rfl | rfl
    · rw [q5]; exact l4 405 (by decide) (by decide)
    · rw [q6]; exact l4 406 (by decide) (by decide)
    · rw [q7]; exact l4 407 (by decide) (by decide)
    · rw [q8]; exact l4 408 (by decide) (by decide)
  · rw [q5, q6, q7, q8]
    dsimp only
    unfold th_add
    by_cases e : j = sq.length + 1
    · rw [e, pk_us, pk_us, pk_us, pk_us, if_pos rfl, List.take_of_length_le (by omega)]
      exact ⟨rfl, rfl, rfl, rfl⟩
    · rw [pk_un e, pk_un e, pk_un e, pk_un e, if_neg e, List.take_append_of_le_length (by omega)]
      exact a6 j (by omega)
/-- the four rows have grown -/
def sq_g (len : Nat) (x : hp_L × hp_P) : hp_L × hp_P := ty_g1 len 408 (ty_g1 len 407 (ty_g1 len 406 (ty_g1 len 405 x)))
theorem sq_g_P {len y : Nat} {x : hp_L × hp_P} : (sq_g len x).2.2 y = if 405 ≤ y ∧ y ≤ 408 then (2 * len, hp_ext (x.2.2 y)) else x.2.2 y := by
  unfold sq_g
  simp only [ty_g1_P]
  by_cases h : 405 ≤ y ∧ y ≤ 408
  · rw [if_pos h]
    have : y = 405 ∨ y = 406 ∨ y = 407 ∨ y = 408 := by omega
    rcases this with rfl | rfl | rfl | rfl <;> rfl
  · rw [if_neg h, if_neg (by omega), if_neg (by omega), if_neg (by omega), if_neg (by omega)]
theorem sq_g_w {len : Nat} {x : hp_L × hp_P} (w : hp_w B x.1) : hp_w B (sq_g len x).1 := ty_g1_w (ty_g1_w (ty_g1_w (ty_g1_w w (by decide)) (by decide)) (by decide)) (by decide)
theorem sq_g_fr {len : Nat} (w : hp_w B ρ) (hl : ∀ r, 405 ≤ r → r ≤ 408 → (P.2 r).1 = len) (h0 : 0 < len) : hp_fr cl_S 0 ρ P (sq_g len (ρ, P)).1 (sq_g len (ρ, P)).2 := by
  have w0 := ty_g1_w (len := len) (r := 405) (x := (ρ, P)) w (by decide)
  have w1 := ty_g1_w (len := len) (r := 406) w0 (by decide)
  have w2 := ty_g1_w (len := len) (r := 407) w1 (by decide)
  have f0 : hp_fr cl_S 0 ρ P (ty_g1 len 405 (ρ, P)).1 (ty_g1 len 405 (ρ, P)).2 := hp_fr.grow w (cl_4 (by decide)) (by decide) (hl 405 (by decide) (by decide)) h0
  have f1 := hp_fr.grow (S := cl_S) (r := 406) (len := len) (P := (ty_g1 len 405 (ρ, P)).2) (g := hp_ext ((ty_g1 len 405 (ρ, P)).2.2 406)) w0 (cl_4 (by decide)) (by decide) (hl 406 (by decide) (by decide)) h0
  have f2 := hp_fr.grow (S := cl_S) (r := 407) (len := len) (P := (ty_g1 len 406 (ty_g1 len 405 (ρ, P))).2) (g := hp_ext ((ty_g1 len 406 (ty_g1 len 405 (ρ, P))).2.2 407)) w1 (cl_4 (by decide)) (by decide) (hl 407 (by decide) (by decide)) h0
  have f3 := hp_fr.grow (S := cl_S) (r := 408) (len := len) (P := (ty_g1 len 407 (ty_g1 len 406 (ty_g1 len 405 (ρ, P)))).2) (g := hp_ext ((ty_g1 len 407 (ty_g1 len 406 (ty_g1 len 405 (ρ, P)))).2.2 408)) w2 (cl_4 (by decide)) (by decide) (hl 408 (by decide) (by decide)) h0
  exact hp_fr.tr0 f0 (hp_fr.tr0 f1 (hp_fr.tr0 f2 f3))
theorem sq_g_I {len : Nat} {sq : List qQ} {fm : Nat} {th : Nat → Nat × Nat × Nat} (h : sqA P sq fm th) (hl : ∀ r, 405 ≤ r → r ≤ 408 → (P.2 r).1 = len) (hs : sq.length < len) (h64 : 64 ≤ len) (h1 : len ≤ 1024) : sqA (sq_g len (ρ, P)).2 sq fm th := by
  obtain ⟨a1, a2, a3, a4, -, a6⟩ := h
  refine ⟨a1, a2, a3, a4, ⟨2 * len, by omega, by omega, by omega, fun r z1 z2 => by rw [sq_g_P, if_pos ⟨z1, z2⟩]⟩, fun j hj => ?_⟩
  have rd : ∀ r, 405 ≤ r → r ≤ 408 → ((sq_g len (ρ, P)).2.2 r).2 j = (P.2 r).2 j := fun r z1 z2 => by
    rw [sq_g_P, if_pos ⟨z1, z2⟩]
    exact hp_ext_lt (by rw [hl r z1 z2]; omega)
  rw [rd 405 (by decide) (by decide), rd 406 (by decide) (by decide), rd 407 (by decide) (by decide), rd 408 (by decide) (by decide)]
  exact a6 j hj
set_option maxRecDepth 4000 in
theorem sq_put {cl : am_F} {f k len : Nat} {n' a t r : Int32} (w : hp_w B ρ) (h3 : P.1 403 = nI k) (hl : ∀ r, 405 ≤ r → r ≤ 408 → (P.2 r).1 = len) (hkl : k + 1 < len) (hk : k < 2000) (h8 : P.1 708 = n') (ha : P.1 103 = a) (ht : P.1 111 = t) (hr : P.1 305 = r) {o : Nat} (ho : ρ.1 4 = o) :
    am_go B sa am_dfl cl am_r76 (f + 1) 87 [(0, .ref o)] [] (hp_S sa ρ P) = some (some (.int 1), hp_S sa ρ (sq_P P k r n' a t)) := by
  subst ho
  have cks : ∀ (P' : hp_P) (x : Nat), (P'.2 x).1 = len → hp_ck P' x (nI (k + 1)) = some () := fun P' x e => hp_ck_nI (by omega) (by omega)
  have e5 := hl 405 (by decide) (by decide)
  have e6 := hl 406 (by decide) (by decide)
  have e7 := hl 407 (by decide) (by decide)
  have e8 := hl 408 (by decide) (by decide)
  have i3 : ∀ v, (hp_sI P 403 v).1 403 = v := fun v => hI_eq
  have i8 : ∀ v, (hp_sI P 403 v).1 708 = n' := fun v => h8
  have ia : ∀ v, (hp_sI P 403 v).1 103 = a := fun v => ha
  have it : ∀ v, (hp_sI P 403 v).1 111 = t := fun v => ht
  have ir : ∀ v, (hp_sI P 403 v).1 305 = r := fun v => hr
  rw [am_s76_87]
  simp only [hg_403 w, h3, Option.bind_some, hs_403 w, nI_1, hr_405 w, ho_402 w, hg_305 w, i3, ir, ht_405 w, cks, hI_A, e5, hA_len, hr_406 w, ho_400 w, hg_708 w, hA_I, i8, ht_406 w, e6, hr_407 w, ho_401 w, hg_103 w, ia, ht_407 w, e7, hr_408 w, hg_111 w, it, ht_408 w, e8, am_rz_1]
  rfl
/-- what add comes to: the draft is a sequent; or it cannot be -/
def sA (Z : Prop) (G : qT → Prop) (B : Nat) (sa : Nat → Nat) (C : sC) (fm : Nat) (ρ : hp_L) (P : hp_P) (n : Nat) (T : Nat → Int32 × Int32 × Int32) (b : Bool) (x : Option (Option Value × am_S)) (H : List qM) (M : qM) : Prop :=
  (b = false ∧ ∃ ρ' P' Rn, x = some (some (.int 1), hp_S sa ρ' P') ∧ sI Z G B (C.1 ++ Rn, C.2.1 ++ [(H, M)], fm, th_add C.2.2.2.1 (C.2.1.length + 1) (n, C.2.2.2.2.2.2.1.length, C.2.2.2.2.2.2.2.length), C.2.2.2.2) ρ' P' n T [] [] false ∧ hp_fr cl_S 0 ρ P ρ' P' ∧ H.length ≤ 60) ∨
  (Z ∧ ∃ ρ' P' H' D', x = some (some (.int 0), hp_S sa ρ' P') ∧ sI Z G B C ρ' P' n T H' D' true ∧ hp_fr cl_S 0 ρ P ρ' P')
theorem s_add {f d : Nat} {M : qM} (h : sI Z G B C ρ P n T H (m_fl M) b) (hf : 20000 ≤ f) (hM : m_wf M) (hc : C.2.1.length < 1000) (hz1 : 120 < m_ht M → Z) (hz2 : 20000 < m_tot (sq_rows C.2.1) + m_tot H + (m_fl M).length → Z) :
    sA Z G B sa C C.2.2.1 ρ P n T b (am_call B sa am_dfl am_tb f (d + 4) 76 [.ref (ρ.1 4)] (hp_S sa ρ P)) H M := by
  obtain ⟨Dr, O, hw, hh⟩ := h.2.2.2.2.2
  have w := h.w
  have hO : b = false → O ≠ [] := fun e z => by
    have := hw.2.2.2.2.1 e
    rw [z] at this
    exact m_fl_ne hM this.symm
  obtain ⟨ρ1, P1, c1, c2, c3, c4⟩ := rw_close (sa := sa) (f := f) (d := d) w hw.2.1 hO (by omega)
  obtain ⟨f, rfl⟩ : ∃ g, f = g + 2 := ⟨f - 2, by omega⟩
  have c4' : hp_fr st_S 0 ρ P ρ1 P1 := rw_st_fr c4
  have sq1 : sqA P1 C.2.1 C.2.2.1 C.2.2.2.1 := h.2.2.2.1.cg fun r a b => ⟨(c4'.2.1 r (st_4 a b)).1, (c4'.2.1 r (st_4 a b)).2.1⟩
  have e1 : enI P1 n T C.2.2.2.2.2.2.1 C.2.2.2.2.2.2.2 := h.2.1.fr c4 fun r p q => wt_S_rw (wt_en p q)
  have g1 : sgI P1 n T C.2.2.2.2.1 C.2.2.2.2.2.1 := h.2.2.1.fr c4' fun r a b => st_5 a (by omega)
  have hb := h.2.2.2.2.1
  rw [am_c_76, am_s76_0]
  simp only [ho_402 w, Option.bind_some, hx_3 w, c1, am_v_some]
  rw [w_ob c4 4]
  -- a refusal
  have ref : ∀ {Rs : List (List rwS)} {O' : List rwS}, Rs = C.1 ++ Dr → (∀ s ∈ Rs.flatten ++ O', s ∈ (C.1 ++ Dr).flatten ++ O) → rwI P1 Rs O' true → Z → sA Z G B sa C C.2.2.1 ρ P n T b (am_rz 0 (hp_S sa ρ1 P1)) H M := by
    intro Rs O' hRs hsub hr hZ
    subst hRs
    exact Or.inr ⟨hZ, ρ1, P1, H, [], am_rz_0, ⟨c2, e1, g1, sq1, hb, Dr, O', hw.rows c4 (fun r p q => rw_S_no p q) hr hsub (fun z => by cases z) (fun _ => hZ), fun z => by (cases z)⟩, c4'.cs⟩
  cases b with
  | true =>
    have hcc : rw_c (C.1 ++ Dr) O true = (C.1 ++ Dr, O, true) := by unfold rw_c; rw [if_pos rfl]
    rw [hcc] at c3
    dsimp only at c3
    simp only [ho_402 c2, rw_flag c2 c3, Option.bind_some, am_c_ne]
    rw [if_pos (by decide)]
    exact ref rfl (fun s hs => hs) c3 hw.z
  | false =>
    obtain ⟨hdr, h60⟩ := hh rfl
    have hO' := hw.2.2.2.2.1 rfl
    have hlow : rw_low O [] 1 = decide (1 + m_ht M ≤ 121) := by
      rw [← rw_low_map (T := T) (n := n), hO', m_low M hM]
    have hOl : O.length = (m_fl M).length := by rw [← hO', List.length_map]
    have hfl : (C.1 ++ Dr).flatten.length = m_tot (sq_rows C.2.1) + m_tot H := by
      rw [List.flatten_append, List.length_append, flat_tot hb.1, flat_tot hdr.1]
    by_cases k1 : rw_low O [] 1 = true ∧ (C.1 ++ Dr).flatten.length + O.length ≤ 20000
    · have hcc : rw_c (C.1 ++ Dr) O false = (C.1 ++ Dr ++ [O], [], false) := by
        unfold rw_c
        rw [if_neg (by decide), if_pos k1]
      rw [hcc] at c3
      dsimp only at c3
      have hH : m_ht M ≤ 120 := by
        have := k1.1
        rw [hlow] at this
        have := of_decide_eq_true this
        omega
      have hfg : am_geti (hp_S sa ρ1 P1) (ρ1.1 3) 3 6 = some 0 := rw_flag c2 c3
      obtain ⟨a1, a2, a3, a4, ⟨len, l1, l2, l3, l4⟩, a6⟩ := sq1
      have sq1 : sqA P1 C.2.1 C.2.2.1 C.2.2.2.1 := ⟨a1, a2, a3, a4, ⟨len, l1, l2, l3, l4⟩, a6⟩
      have hlt : (nI C.2.1.length < (1000 : Int32)) = True := by rw [show (1000 : Int32) = nI 1000 from rfl]; exact eq_true (nI_lt hc (by omega))
      have hal : am_alen (hp_S sa ρ1 P1) (ρ1.2.1 405) = some (nI len) := by rw [hp_alen c2 (by decide), l4 405 (by decide) (by decide)]; rfl
      simp only [ho_402 c2, hfg, Option.bind_some, am_c_ne, hg_403 c2, a1, am_c_lt, hlt, if_true, nI_1, hr_405 c2, hal]
      rw [if_neg (fun z => z rfl)]
      have hw1 := hw.rows (D' := []) c4 (fun r p q => rw_S_no p q) c3 (fun s hs => by
          rw [List.append_nil, List.flatten_append] at hs
          simpa using hs) (fun _ => rfl) (fun z => by cases z)
      have h8 : P1.1 708 = nI n := hw1.1.1.1.1.1.1
      have hcnt : P1.1 305 = nI (sq_rows (C.2.1 ++ [(H, M)])).length := by
        rw [c3.2.2.2.1.1, sq_rows_ap, sq_rows_1, List.length_append, List.length_append, List.length_append, List.length_append, hb.len, hdr.len]
        rfl
      have hrs : rsI n T (C.1 ++ (Dr ++ [O])) (sq_rows (C.2.1 ++ [(H, M)])) := by
        rw [sq_rows_ap, sq_rows_1]
        refine ⟨?_, fun N hN => ?_⟩
        · rw [List.map_append, List.map_append, List.map_append, List.map_append, hb.1, hdr.1]
          show _ ++ (_ ++ [O.map (rt T n)]) = _
          rw [hO']; rfl
        · rcases List.mem_append.mp hN with z | z
          · exact hb.2 N z
          · rcases List.mem_append.mp z with z | z
            · exact hdr.2 N z
            · rw [List.mem_singleton.mp z]
              exact ⟨hM, by have := hw.2.1.2.2.2.2.2.2.1; show (m_fl M).length ≤ 4000; omega, hH⟩
      -- the end, over the state that the rows' growth leaves
      have fin : ∀ (ρ2 : hp_L) (P2 : hp_P) (len : Nat) (F g : Nat), hp_w B ρ2 → hp_fr cl_S 0 ρ1 P1 ρ2 P2 → (∀ r, ¬ (405 ≤ r ∧ r ≤ 408) → P2.2 r = P1.2 r) → P2.1 = P1.1 → sqA P2 C.2.1 C.2.2.1 C.2.2.2.1 → (∀ r, 405 ≤ r → r ≤ 408 → (P2.2 r).1 = len) → C.2.1.length + 1 < len →
          sA Z G B sa C C.2.2.1 ρ P n T false (am_go B sa am_dfl (am_call B sa am_dfl am_tb F (d + 3)) am_r76 (g + 1) 87 [(0, .ref (ρ2.1 4))] [] (hp_S sa ρ2 P2)) H M := by
        intro ρ2 P2 len F g w2 fr2 hA hI sq2 hl2 hlen2
        have hput := sq_put (sa := sa) (cl := am_call B sa am_dfl am_tb F (d + 3)) (f := g) (k := C.2.1.length) (n' := nI n) (a := nI C.2.2.2.2.2.2.1.length) (t := nI C.2.2.2.2.2.2.2.length) (r := nI (sq_rows (C.2.1 ++ [(H, M)])).length) w2 (by rw [hI]; exact a1) hl2 hlen2 (by omega) (by rw [hI]; exact h8) (by rw [hI]; exact e1.1.1) (by rw [hI]; exact e1.2.1.1) (by rw [hI]; exact hcnt) rfl
        have sq3 := sq_P_I (n' := n) (a := C.2.2.2.2.2.2.1.length) (t := C.2.2.2.2.2.2.2.length) (s := (H, M)) sq2 (by rw [hl2 405 (by decide) (by decide)]; exact hlen2) hc
        obtain ⟨-, -, -, -, q9, -, q2⟩ := sq_P_rd (P := P2) (k := C.2.1.length) (r := nI (sq_rows (C.2.1 ++ [(H, M)])).length) (n := nI n) (a := nI C.2.2.2.2.2.2.1.length) (t := nI C.2.2.2.2.2.2.2.length) (by omega)
        have hA' := fun r (hr : ¬ (405 ≤ r ∧ r ≤ 408)) => (q9 r hr).trans (hA r hr)
        have hI' := fun r (hr : r ≠ 403) => (q2 r hr).trans (by rw [hI])
        refine Or.inl ⟨rfl, ρ2, _, Dr ++ [O], hput, ⟨w2, e1.cg (hI' 103 (by decide)) (hI' 111 (by decide)) fun r z1 z2 => hA' r (by omega), g1.cg (hI' 502 (by decide)) (hI' 503 (by decide)) (hA' 500 (by omega)) (hA' 501 (by omega)), sq3, hrs, [], [], ?_, fun _ => ⟨⟨rfl, fun M hM => by cases hM⟩, by decide⟩⟩, hp_fr.tr0 c4'.cs (hp_fr.tr0 fr2 sq_P_fr), h60⟩
        show wI Z G _ n T (C.1 ++ (Dr ++ [O]) ++ []) [] false []
        rw [List.append_nil, ← List.append_assoc]
        exact ⟨⟨hw1.1.1.cg (hI' 708 (by decide)) fun r z1 z2 => hA' r (by omega), hw1.1.2⟩, hw1.2.1.cg fun r z1 z2 => ⟨hI' r (by omega), hA' r (by omega)⟩, hw1.2.2⟩
      by_cases k2 : C.2.1.length + 1 = len
      · rw [if_neg (fun z => z (by rw [k2]))]
        have w1 := ty_g1_w (len := len) (r := 405) (x := (ρ1, P1)) c2 (by decide)
        have w2 := ty_g1_w (len := len) (r := 406) w1 (by decide)
        have w3 := ty_g1_w (len := len) (r := 407) w2 (by decide)
        have G1 := lg_405 (sa := sa) (f := f + 1) (d := d + 1) (K := fun g11 => (am_getr g11 (ρ1.1 4) 4 6).bind fun p12 => am_p (am_call B sa am_dfl am_tb (f + 2) (d + 3) 118 [.ref p12] g11) (fun p13 g13 => (am_put B g13 (ρ1.1 4) 4 6 (.ref p13)).bind fun g14 => (am_getr g14 (ρ1.1 4) 4 7).bind fun p15 => am_p (am_call B sa am_dfl am_tb (f + 2) (d + 3) 118 [.ref p15] g14) (fun p16 g16 => (am_put B g16 (ρ1.1 4) 4 7 (.ref p16)).bind fun g17 => (am_getr g17 (ρ1.1 4) 4 8).bind fun p18 => am_p (am_call B sa am_dfl am_tb (f + 2) (d + 3) 118 [.ref p18] g17) (fun p19 g19 => (am_put B g19 (ρ1.1 4) 4 8 (.ref p19)).bind fun g20 => am_go B sa am_dfl (am_call B sa am_dfl am_tb (f + 2) (d + 3)) am_r76 (f + 1) 87 [(0, .ref (ρ1.1 4))] [] g20) (fun g19 => none)) (fun g16 => none)) (fun g13 => none)) (kn := fun g10 => none) c2 rfl (l4 405 (by decide) (by decide)) (by omega) (by omega)
        simp only [hr_405 c2, Option.bind_some] at G1
        rw [G1]
        refine (congrArg (fun x => sA Z G B sa C C.2.2.1 ρ P n T false x H M) ((lg_406 (sa := sa) (ρ := (ty_g1 len 405 (ρ1, P1)).1) (P := (ty_g1 len 405 (ρ1, P1)).2) (f := f + 1) (d := d + 1) w1 rfl (l4 406 (by decide) (by decide)) (by omega) (by omega)).trans ((lg_407 (sa := sa) (ρ := (ty_g1 len 406 (ty_g1 len 405 (ρ1, P1))).1) (P := (ty_g1 len 406 (ty_g1 len 405 (ρ1, P1))).2) (f := f + 1) (d := d + 1) w2 rfl (l4 407 (by decide) (by decide)) (by omega) (by omega)).trans (lg_408 (sa := sa) (ρ := (ty_g1 len 407 (ty_g1 len 406 (ty_g1 len 405 (ρ1, P1)))).1) (P := (ty_g1 len 407 (ty_g1 len 406 (ty_g1 len 405 (ρ1, P1)))).2) (f := f + 1) (d := d + 1) w3 rfl (l4 408 (by decide) (by decide)) (by omega) (by omega))))).mpr ?_
        exact fin (sq_g len (ρ1, P1)).1 (sq_g len (ρ1, P1)).2 (2 * len) (f + 2) f (sq_g_w c2) (sq_g_fr c2 l4 (by omega)) (fun r hr => by rw [sq_g_P, if_neg hr]) rfl (sq_g_I sq1 l4 l3 l1 (by omega)) (fun r z1 z2 => by rw [sq_g_P, if_pos ⟨z1, z2⟩]) (by omega)
      · rw [if_pos (fun z => k2 ((nI_eq (by omega) (by omega)).mp z))]
        exact fin ρ1 P1 len (f + 2) f c2 hp_fr.rf (fun _ _ => rfl) rfl sq1 l4 (by omega)
    · have hcc : rw_c (C.1 ++ Dr) O false = (C.1 ++ Dr, O, true) := by
        unfold rw_c
        rw [if_neg (by decide), if_neg k1]
      rw [hcc] at c3
      dsimp only at c3
      have hZ : Z := by
        by_cases k2 : rw_low O [] 1 = true
        · have : ¬ (C.1 ++ Dr).flatten.length + O.length ≤ 20000 := fun z => k1 ⟨k2, z⟩
          exact hz2 (by omega)
        · rw [hlow] at k2
          have : ¬ 1 + m_ht M ≤ 121 := fun z => k2 (decide_eq_true z)
          exact hz1 (by omega)
      simp only [ho_402 c2, rw_flag c2 c3, Option.bind_some, am_c_ne]
      rw [if_pos (by decide)]
      exact ref rfl (fun s hs => hs) c3 hZ
/-- addFirm -/
theorem s_addFirm {f d : Nat} {M : qM} (h : sI Z G B C ρ P n T H (m_fl M) b) (hf : 20000 ≤ f) (hM : m_wf M) (hc : C.2.1.length < 1000) (hz1 : 120 < m_ht M → Z) (hz2 : 20000 < m_tot (sq_rows C.2.1) + m_tot H + (m_fl M).length → Z) :
    sA Z G B sa C (C.2.1.length + 1) ρ P n T b (am_call B sa am_dfl am_tb f (d + 5) 77 [.ref (ρ.1 4)] (hp_S sa ρ P)) H M := by
  have ha := s_add (sa := sa) (f := f) (d := d) h hf hM hc hz1 hz2
  obtain ⟨f, rfl⟩ : ∃ g, f = g + 1 := ⟨f - 1, by omega⟩
  rw [am_c_77, am_s77_0]
  simp only [hx_4 h.w, Option.bind_some]
  rcases ha with ⟨a1, ρ', P', Rn, a2, a3, a4, a5⟩ | ⟨a1, ρ', P', H', D', a2, a3, a4⟩
  · left
    have w := a3.w
    have hcn : P'.1 403 = nI (C.2.1.length + 1) := by
      have := a3.2.2.2.1.1
      rw [this]
      show nI (C.2.1 ++ [(H, M)]).length = _
      rw [List.length_append]; rfl
    refine ⟨a1, ρ', hp_sI P' 404 (nI (C.2.1.length + 1)), Rn, ?_, ?_, hp_fr.tr0 a4 (hp_fr.sI (cl_4 (by decide))), a5⟩
    · rw [a2, am_i_some]
      simp only [am_c_ne]
      rw [if_pos (by decide), w_ob a4 4]
      simp only [hg_403 w, Option.bind_some, hcn, hs_404 w, am_rz_1]
    · obtain ⟨b1, b2, b3, b4, b5, Dr, O, b6, b7⟩ := a3
      refine ⟨b1, b2.cg rfl rfl fun _ _ _ => rfl, b3.cg rfl rfl rfl rfl, ?_, b5, Dr, O, ⟨⟨b6.1.1.cg rfl fun _ _ _ => rfl, b6.1.2⟩, b6.2.1.cg fun r z1 z2 => ⟨hI_ne (by omega), rfl⟩, b6.2.2⟩, b7⟩
      obtain ⟨c1, c2, c3, c4, c5, c6⟩ := b4
      refine ⟨c1, hI_eq, ?_, c4, c5, c6⟩
      show C.2.1.length + 1 ≤ (C.2.1 ++ [(H, M)]).length
      rw [List.length_append]; exact Nat.le_refl _
  · right
    refine ⟨a1, ρ', P', H', D', ?_, a3, a4⟩
    rw [a2, am_i_some]
    simp only [am_c_ne]
    rw [if_neg (fun z => z rfl), am_rz_0]
end SQ3
