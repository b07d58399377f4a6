/-! STEPS of the class, 1: what a step comes to; equationOf -/
/-- a type in a type -/
def q_sub (t : qT) : qT → Prop
  | .leaf _ => False
  | .branch c l r => t = .branch c l r ∨ q_sub t l ∨ q_sub t r
theorem q_sub_N {t : qT} {c : Int32} {l r : qT} : q_sub t (qN c l r) ↔ t = qN c l r ∨ q_sub t l ∨ q_sub t r := Iff.rfl
theorem q_sub_rf {c : Int32} {l r : qT} : q_sub (qN c l r) (qN c l r) := Or.inl rfl
/-- a type in the types of terms -/
def q_of (rows : List qM) (t : qT) : Prop := ∃ X ∈ rows, ∃ s ∈ m_fl X, q_sub t s.2
/-- types, and those of terms -/
def q_un (S : qT → Prop) (rows : List qM) : qT → Prop := fun t => S t ∨ q_of rows t
/-- the limits of a new sequent -/
def sq_lim (S : qT → Prop) (base : Nat) (N : qQ) : Prop :=
  N.1.length ≤ 60 ∧ (∀ X ∈ N.1 ++ [N.2], (m_fl X).length ≤ 4000 ∧ m_ht X ≤ 120) ∧ base + m_tot N.1 + (m_fl N.2).length ≤ 20000 ∧ q_good (q_un S (N.1 ++ [N.2]))
section SP1
variable {S : qT → Prop} {base : Nat} {H : List qM} {M : qM}
theorem sl_len {X : qM} (h : X ∈ H ++ [M]) : 4000 < (m_fl X).length → ¬ sq_lim S base (H, M) := fun z k => by have := (k.2.1 X h).1; omega
theorem sl_M : 4000 < (m_fl M).length → ¬ sq_lim S base (H, M) := sl_len (List.mem_append.mpr (Or.inr (List.mem_singleton.mpr rfl)))
theorem sl_ht {X : qM} (h : X ∈ H ++ [M]) : 120 < m_ht X → ¬ sq_lim S base (H, M) := fun z k => by have := (k.2.1 X h).2; omega
theorem sl_hM : 120 < m_ht M → ¬ sq_lim S base (H, M) := sl_ht (List.mem_append.mpr (Or.inr (List.mem_singleton.mpr rfl)))
theorem sl_tot : 20000 < base + m_tot H + (m_fl M).length → ¬ sq_lim S base (H, M) := fun z k => by have := k.2.2.1; dsimp only at this; omega
theorem sl_good : ¬ q_good (q_un S (H ++ [M])) → ¬ sq_lim S base (H, M) := fun z k => z k.2.2.2
theorem sl_H : zH (¬ sq_lim S base (H, M)) base H := by
  refine ⟨fun z k => ?_, fun z k => ?_, fun X hX => ⟨sl_len (List.mem_append.mpr (Or.inl hX)), sl_ht (List.mem_append.mpr (Or.inl hX))⟩⟩
  · have := k.1; dsimp only at this; omega
  · have := k.2.2.1; dsimp only at this; omega
theorem qu_sub {X : qM} {s : qS} {t : qT} (h : X ∈ H ++ [M]) (hs : s ∈ m_fl X) (ht : q_sub t s.2) : q_un S (H ++ [M]) t := Or.inr ⟨X, h, s, hs, ht⟩
theorem qu_M {s : qS} {t : qT} (hs : s ∈ m_fl M) (ht : q_sub t s.2) : q_un S (H ++ [M]) t := qu_sub (List.mem_append.mpr (Or.inr (List.mem_singleton.mpr rfl))) hs ht
end SP1
/-- the class between steps -/
def cI (B : Nat) (C : sC) (ρ : hp_L) (P : hp_P) (n : Nat) (T : Nat → Int32 × Int32 × Int32) : Prop :=
  hp_w B ρ ∧ enI P n T C.2.2.2.2.2.2.1 C.2.2.2.2.2.2.2 ∧ sgI P n T C.2.2.2.2.1 C.2.2.2.2.2.1 ∧ sqA P C.2.1 C.2.2.1 C.2.2.2.1 ∧ rsI n T C.1 (sq_rows C.2.1) ∧ tyJ P n T ∧ rwI P C.1 [] false ∧ ∀ s ∈ C.1.flatten, rv n s
/-- the signature's rows, as far as they are asked for -/
def sgW (P : hp_P) (n : Nat) (T : Nat → Int32 × Int32 × Int32) (tk : List Nat) (ow : List qT) : Prop := (P.2 500).1 = 40 ∧ (P.2 501).1 = 200 ∧ (∀ (c x : Nat), tk[c]? = some x → (P.2 500).2 c = nI x ∧ x ≤ 2) ∧ ∀ c t, ow[c]? = some t → pl n T ((P.2 501).2 c) t
theorem sgI.W {P : hp_P} {n : Nat} {T : Nat → Int32 × Int32 × Int32} {tk Q : List Nat} {ow Q' : List qT} (h : sgI P n T (tk ++ Q) (ow ++ Q')) : sgW P n T tk ow :=
  ⟨h.1.2.2.2.1, h.2.2.2.2.1, fun c x hc => h.1.2.2.2.2 c x (by rw [List.getElem?_append_left (List.getElem?_eq_some_iff.mp hc).1]; exact hc), fun c t hc => h.2.2.2.2.2 c t (by rw [List.getElem?_append_left (List.getElem?_eq_some_iff.mp hc).1]; exact hc)⟩
/-- a class that can be led back -/
def uI (B : Nat) (C : sC) (ρ : hp_L) (P : hp_P) (n : Nat) (T : Nat → Int32 × Int32 × Int32) : Prop :=
  hp_w B ρ ∧ enI P n T C.2.2.2.2.2.2.1 C.2.2.2.2.2.2.2 ∧ sgW P n T C.2.2.2.2.1 C.2.2.2.2.2.1 ∧ (∃ Q th, sqA P (C.2.1 ++ Q) C.2.2.1 th ∧ ∀ j, j ≤ C.2.1.length → th j = C.2.2.2.1 j) ∧ rsI n T C.1 (sq_rows C.2.1) ∧ tyJ P n T ∧ (∃ R O b, rwI P (C.1 ++ R) O b) ∧ ∀ s ∈ C.1.flatten, rv n s
theorem hp_fr.up {S : Nat → Bool} {e e' : Nat} {ρ ρ' : hp_L} {P P' : hp_P} (h : hp_fr S e ρ P ρ' P') (k : e ≤ e') : hp_fr S e' ρ P ρ' P' := ⟨h.1, h.2.1, h.2.2.1, by have := h.2.2.2.1; omega, by have := h.2.2.2.2.1; omega, h.2.2.2.2.2⟩
section SP2
variable {sa : Nat → Nat} {B : Nat} {ρ : hp_L} {P : hp_P} {b : Bool} {n : Nat} {T : Nat → Int32 × Int32 × Int32} {Z : Prop} {G : qT → Prop} {C : sC} {H : List qM} {D : List qS}
theorem cI.s (h : cI B C ρ P n T) (hG : ∀ t, ct_S T n t → G t) : sI Z G B C ρ P n T [] [] false := by
  obtain ⟨h1, h2, h3, h4, h5, h6, h7, h8⟩ := h
  refine ⟨h1, h2, h3, h4, h5, [], [], ?_, fun _ => ⟨⟨rfl, fun M hM => by cases hM⟩, by decide⟩⟩
  rw [List.append_nil]
  exact ⟨h6, h7, fun s hs => h8 s (by rw [List.append_nil] at hs; exact hs), hG, fun _ => rfl, fun z => by cases z⟩
theorem cI.w (h : cI B C ρ P n T) : hp_w B ρ := h.1
theorem cI.y (h : cI B C ρ P n T) : tyJ P n T := h.2.2.2.2.2.1
theorem sI.u0 (h : sI Z G B C ρ P n T H D b) (hs : sgW P n T C.2.2.2.2.1 C.2.2.2.2.2.1) : uI B C ρ P n T := by
  obtain ⟨h1, h2, -, h4, h5, Dr, O, h6, -⟩ := h
  exact ⟨h1, h2, hs, ⟨[], C.2.2.2.1, by rw [List.append_nil]; exact h4, fun _ _ => rfl⟩, h5, h6.1, ⟨Dr, O, b, h6.2.1⟩, fun s hs => h6.2.2.1 s (by rw [List.flatten_append]; simp [hs])⟩
theorem sI.u (h : sI Z G B C ρ P n T H D b) : uI B C ρ P n T := h.u0 (sgI.W (Q := []) (Q' := []) (by rw [List.append_nil, List.append_nil]; exact h.2.2.1))
theorem cI.u (h : cI B C ρ P n T) : uI B C ρ P n T := (h.s (Z := True) (G := fun _ => True) fun _ _ => True.intro).u
/-- the class with a new sequent -/
def c_new (C : sC) (fm n : Nat) (Rn : List (List rwS)) (N : qQ) : sC := (C.1 ++ Rn, C.2.1 ++ [N], fm, th_add C.2.2.2.1 (C.2.1.length + 1) (n, C.2.2.2.2.2.2.1.length, C.2.2.2.2.2.2.2.length), C.2.2.2.2)
/-- the outcome of a step that may make a sequent of those of R -/
def cO (B : Nat) (sa : Nat → Nat) (R : qQ → Prop) (C : sC) (ρ : hp_L) (P : hp_P) (n : Nat) (T : Nat → Int32 × Int32 × Int32) (x : Option (Option Value × am_S)) : Prop :=
  (∃ N ρ' P' n' T' Rn, R N ∧ sq_lim (ct_S T n) (m_tot (sq_rows C.2.1)) N ∧ x = some (some (.int 1), hp_S sa ρ' P') ∧ cI B (c_new C C.2.2.1 n' Rn N) ρ' P' n' T' ∧ hp_fr cl_S 2 ρ P ρ' P' ∧ ty_xt n T n' T' ∧ ct_S T' n' = q_un (ct_S T n) (N.1 ++ [N.2])) ∨
  ((∀ N, R N → ¬ sq_lim (ct_S T n) (m_tot (sq_rows C.2.1)) N) ∧ ∃ ρ' P' n' T', x = some (some (.int 0), hp_S sa ρ' P') ∧ uI B C ρ' P' n' T' ∧ hp_fr cl_S 2 ρ P ρ' P' ∧ ty_xt n T n' T')
/-- what is in a type that is there, is there -/
theorem ct_S_sub (hw : ty_wf T n) (hn : n < 2 ^ 31) {t u : qT} (h : ct_S T n u) (hs : q_sub t u) : ct_S T n t := by
  obtain ⟨i, hi, e⟩ := h
  subst e
  revert hi hs
  induction i using Nat.strongRecOn with
  | ind i ih =>
    intro hi hs
    rw [ct_at hw hn hi, q_sub_N] at hs
    obtain ⟨w1, w2⟩ := hw i hi
    rcases hs with e | e | e
    · exact ⟨i, hi, by rw [e, ct_at hw hn hi]⟩
    · rcases w1 with z | ⟨k, k1, k2⟩
      · rw [z, ct_m1] at e; exact e.elim
      · rw [k2] at e; exact ih k k1 (by omega) e
    · rcases w2 with z | ⟨k, k1, k2⟩
      · rw [z, ct_m1] at e; exact e.elim
      · rw [k2] at e; exact ih k k1 (by omega) e
/-- the types of rows that stand are there -/
theorem q_of_S {Rb : List (List rwS)} {rows : List qM} (h : rsI n T Rb rows) (hv : ∀ s ∈ Rb.flatten, rv n s) (hw : ty_wf T n) (hn : n < 2 ^ 31) {t : qT} (ht : q_of rows t) : ct_S T n t := by
  obtain ⟨X, hX, s, hs, hq⟩ := ht
  have : m_fl X ∈ rows.map m_fl := List.mem_map.mpr ⟨X, hX, rfl⟩
  rw [← h.1] at this
  obtain ⟨R, r1, r2⟩ := List.mem_map.mp this
  rw [← r2] at hs
  obtain ⟨s', s1, s2⟩ := List.mem_map.mp hs
  have hr : rv n s' := hv s' (List.mem_flatten.mpr ⟨R, r1, s1⟩)
  refine ct_S_sub hw hn ?_ hq
  rw [← s2]
  exact hr.pl.S
/-- a state with a new sequent is one between steps -/
theorem sI.c (h : sI Z G B C ρ P n T [] [] false) : cI B C ρ P n T ∧ ∀ t, ct_S T n t → G t := by
  obtain ⟨h1, h2, h3, h4, h5, Dr, O, hw, hh⟩ := h
  obtain ⟨k1, k2⟩ := hh rfl
  have : Dr = [] := List.length_eq_zero_iff.mp k1.len
  subst this
  have hO := hw.2.2.2.2.1 rfl
  have : O = [] := List.map_eq_nil_iff.mp hO
  subst this
  rw [List.append_nil] at hw
  exact ⟨⟨h1, h2, h3, h4, h5, hw.1, hw.2.1, fun s hs => hw.2.2.1 s (by rw [List.append_nil]; exact hs)⟩, hw.2.2.2.1⟩
/-- the end of a step -/
theorem s_fin {ρ0 : hp_L} {P0 : hp_P} {n0 e : Nat} {T0 : Nat → Int32 × Int32 × Int32} {x : Option (Option Value × am_S)} {M : qM} {R : qQ → Prop} (hR : ∀ N, R N ↔ N = (H, M)) (y0 : tyI P0 n0 T0)
    (h : sA (¬ sq_lim (ct_S T0 n0) (m_tot (sq_rows C.2.1)) (H, M)) (q_un (ct_S T0 n0) (H ++ [M])) B sa C C.2.2.1 ρ P n T b x H M) (fr : hp_fr cl_S e ρ0 P0 ρ P) (he : e ≤ 2) (xt : ty_xt n0 T0 n T) : cO B sa R C ρ0 P0 n0 T0 (am_i x fun v g => am_rz v g) := by
  rcases h with ⟨a1, ρ', P', Rn, a2, a3, a4, a5⟩ | ⟨a1, ρ', P', H', D', a2, a3, a4⟩
  · left
    obtain ⟨c1, c2⟩ := a3.c
    have hwf := c1.y.1.wf
    have hn := c1.y.1.n31
    have hrs := c1.2.2.2.2.1
    have e1 : ct_S T n = q_un (ct_S T0 n0) (H ++ [M]) := by
      funext t
      refine propext ⟨c2 t, fun z => z.elim (fun z => z.xt y0.wf y0.n31 xt) fun ⟨X, x1, x2⟩ => q_of_S hrs c1.2.2.2.2.2.2.2 hwf hn ⟨X, ?_, x2⟩⟩
      show X ∈ sq_rows (C.2.1 ++ [(H, M)])
      rw [sq_rows_ap, sq_rows_1]
      exact List.mem_append.mpr (Or.inr x1)
    have hle := (a3.rowsle).2.1
    have hlim : sq_lim (ct_S T0 n0) (m_tot (sq_rows C.2.1)) (H, M) := by
      refine ⟨a5, fun X hX => (hrs.2 X ?_).2, ?_, by rw [← e1]; exact c1.y.1.good⟩
      · show X ∈ sq_rows (C.2.1 ++ [(H, M)])
        rw [sq_rows_ap, sq_rows_1]
        exact List.mem_append.mpr (Or.inr hX)
      · have h1 : m_tot (sq_rows (C.2.1 ++ [(H, M)])) ≤ 20000 := hle
        rw [sq_rows_ap, sq_rows_1, m_tot_ap, m_tot_ap] at h1
        have h2 : m_tot [M] = (m_fl M).length := by unfold m_tot; simp
        dsimp only at h1 ⊢
        omega
    refine ⟨(H, M), ρ', P', n, T, Rn, (hR _).mpr rfl, hlim, by rw [a2, am_i_some]; exact am_rz_1, c1, (fr.tr a4).up (by omega), xt, e1⟩
  · right
    exact ⟨fun N hN => by rw [(hR N).mp hN]; exact a1, ρ', P', n, T, by rw [a2, am_i_some]; exact am_rz_0, a3.u, (fr.tr a4).up (by omega), xt⟩
theorem cO.no {R : qQ → Prop} {ρ' : hp_L} {e : Nat} (h : cI B C ρ' P n T) (fr : hp_fr cl_S e ρ P ρ' P) (he : e ≤ 2) (hn : ∀ N, ¬ R N) : cO B sa R C ρ P n T (am_rz 0 (hp_S sa ρ' P)) :=
  Or.inr ⟨fun N z => absurd z (hn N), ρ', P, n, T, am_rz_0, h.u, fr.up he, ty_xt.rf⟩
/-- an equation object of a row of the sequents -/
def eqB (ρ : hp_L) (n : Nat) (T : Nat → Int32 × Int32 × Int32) (Rb : List (List rwS)) (a : Nat) (x y : qM) : Prop :=
  ∃ (A X Y : List rwS) (v : Int32), hp_jk ρ a (.inr (2, [.int (nI A.length), .int (nI (A.length + X.length)), .int (nI (A.length + X.length + Y.length)), .int v])) ∧ srcB n T Rb A X x ∧ srcB n T Rb (A ++ X) Y y ∧ pl n T v (m_ty x)
theorem cI.po {ρ' : hp_L} {e : Nat} {S : Nat → Bool} (h : cI B C ρ P n T) (w : hp_w B ρ') (_ : hp_fr S e ρ P ρ' P) : cI B C ρ' P n T := ⟨w, h.2⟩
/-- equationOf -/
theorem st_eqOf {f d : Nat} {x : Int32} (h : cI B C ρ P n T) (hf : 60001 ≤ f) :
    (∃ j s X Y a ρ', x = nI j ∧ C.2.1[j]? = some s ∧ m_isE s.2 X Y ∧ am_call B sa am_dfl am_tb f (d + 3) 95 [.ref (ρ.1 6), .int x] (hp_S sa ρ P) = some (some (.ref a), hp_S sa ρ' P) ∧ cI B C ρ' P n T ∧ (∀ S, hp_fr S 1 ρ P ρ' P) ∧ eqB ρ' n T C.1 a X Y) ∨
    ((¬ ∃ s X Y, en_at C.2.1 x s ∧ m_isE s.2 X Y) ∧ am_call B sa am_dfl am_tb f (d + 3) 95 [.ref (ρ.1 6), .int x] (hp_S sa ρ P) = some (some .null, hp_S sa ρ P)) := by
  have w := h.w
  have hs := h.s (Z := True) (G := fun _ => True) fun _ _ => True.intro
  obtain ⟨f, rfl⟩ : ∃ g, f = g + 1 := ⟨f - 1, by omega⟩
  rw [am_c_95, am_s95_0]
  simp only [ho_604 w, Option.bind_some, hx_4 w, sq_has hs, am_i_some, am_c_eq]
  by_cases e : ∃ s, en_at C.2.1 x s
  · rw [if_neg (bP_y e)]
    obtain ⟨s, j, rfl, j2, hj⟩ := e
    obtain ⟨A, L, q1, q2, q3, q4, q5, q6⟩ := hs.row (sq_con hj)
    have hm := (h.2.2.2.2.1.2 s.2 (List.mem_of_getElem? (sq_con hj))).1
    simp only [ho_603 w, Option.bind_some, sq_conc hs hj, am_i_some, hx_3 w]
    rcases rw_equationAt (sa := sa) (f := f + 1) (d := d) (T := T) (n := n) w h.2.2.2.2.2.2.1 (by omega) q5 hm q1.2.1 q1.2.2 with ⟨X, Y, a, ρ', a1, a2, a3, a4, a5⟩ | ⟨a1, a2⟩
    · left
      refine ⟨j, s, X, Y, a, ρ', rfl, hj, a1, by rw [a2, am_p_some], h.po a3 (a4 cl_S), a4, ?_⟩
      obtain ⟨A', X', Y', W, v, b1, b2, b3, b4, b5⟩ := a5
      rw [List.append_nil] at b2
      have hv := h.2.2.2.2.2.2.2
      exact ⟨A', X', Y', v, b1, ⟨⟨Y' ++ W, b2⟩, b3, fun s hs => hv s (by rw [b2]; simp [hs])⟩, ⟨⟨W, by rw [b2]; simp⟩, b4, fun s hs => hv s (by rw [b2]; simp [hs])⟩, b5⟩
    · right
      refine ⟨fun ⟨s', X, Y, z1, z2⟩ => a1 ⟨X, Y, ?_⟩, ?_⟩
      · rw [en_at_inj (show en_at C.2.1 (nI j) s from ⟨j, rfl, j2, hj⟩) z1]; exact z2
      · rw [a2]; rfl
  · rw [if_pos (bP_n e)]
    exact Or.inr ⟨fun ⟨s', X, Y, z1, z2⟩ => e ⟨s', z1⟩, rfl⟩
/-- the object of an equation, when the types have gone on -/
theorem eqB.go {ρ' : hp_L} {P' : hp_P} {n' e : Nat} {T' : Nat → Int32 × Int32 × Int32} {S : Nat → Bool} {Rb : List (List rwS)} {a : Nat} {x y : qM} (h : eqB ρ n T Rb a x y) (fr : hp_fr S e ρ P ρ' P') (hw : ty_wf T n) (hn : n < 2 ^ 31) (xt : ty_xt n T n' T') : eqB ρ' n' T' Rb a x y := by
  obtain ⟨A, X, Y, v, h1, h2, h3, h4⟩ := h
  exact ⟨A, X, Y, v, fr.2.2.1 _ _ h1, h2.xt hw hn xt, h3.xt hw hn xt, h4.xt hw hn xt⟩
end SP2
