/-! THE CLASS IN A STEP: what stands, and the works of writing on it -/
abbrev qQ : Type := List qM × qM
/-- the rows of sequents -/
def sq_rows (sq : List qQ) : List qM := sq.flatMap fun s => s.1 ++ [s.2]
/-- rows are these terms, within the limits -/
def rsI (n : Nat) (T : Nat → Int32 × Int32 × Int32) (Rb : List (List rwS)) (rows : List qM) : Prop :=
  Rb.map (fun R => R.map (rt T n)) = rows.map m_fl ∧ ∀ M ∈ rows, m_wf M ∧ (m_fl M).length ≤ 4000 ∧ m_ht M ≤ 120
/-- the rows of numbers of the sequents -/
def sqA (P : hp_P) (sq : List qQ) (fm : Nat) (th : Nat → Nat × Nat × Nat) : Prop :=
  P.1 403 = nI sq.length ∧ P.1 404 = nI fm ∧ fm ≤ sq.length ∧ sq.length ≤ 1000 ∧ (∃ len, 64 ≤ len ∧ len ≤ 2048 ∧ sq.length < len ∧ ∀ r, 405 ≤ r → r ≤ 408 → (P.2 r).1 = len) ∧
  ∀ j, j ≤ sq.length → (P.2 405).2 j = nI (sq_rows (sq.take j)).length ∧ (P.2 406).2 j = nI (th j).1 ∧ (P.2 407).2 j = nI (th j).2.1 ∧ (P.2 408).2 j = nI (th j).2.2
/-- what stands in a step: the rows of the sequents, the sequents, the firm ones, what there was then, the signature, the entries -/
abbrev sC : Type := List (List rwS) × List qQ × Nat × (Nat → Nat × Nat × Nat) × List Nat × List qT × List qT × List qM
/-- in a step: H the draft's hypotheses, D the row that is being written -/
def sI (Z : Prop) (G : qT → Prop) (B : Nat) (C : sC) (ρ : hp_L) (P : hp_P) (n : Nat) (T : Nat → Int32 × Int32 × Int32) (H : List qM) (D : List qS) (b : Bool) : Prop :=
  hp_w B ρ ∧ enI P n T C.2.2.2.2.2.2.1 C.2.2.2.2.2.2.2 ∧ sgI P n T C.2.2.2.2.1 C.2.2.2.2.2.1 ∧ sqA P C.2.1 C.2.2.1 C.2.2.2.1 ∧ rsI n T C.1 (sq_rows C.2.1) ∧
  ∃ Dr O, wI Z G P n T (C.1 ++ Dr) O b D ∧ (b = false → rsI n T Dr H ∧ H.length ≤ 60)
/-- the roles that the works of a step change -/
def st_S : Nat → Bool := fun r => en_S r || wt_S r
theorem st_S_n {r : Nat} (h : st_S r = false) : en_S r = false := (Bool.or_eq_false_iff.mp h).1
theorem st_S_w {r : Nat} (h : st_S r = false) : wt_S r = false := (Bool.or_eq_false_iff.mp h).2
theorem hp_fr.sw {e : Nat} {ρ ρ' : hp_L} {P P' : hp_P} (h : hp_fr wt_S e ρ P ρ' P') : hp_fr st_S e ρ P ρ' P' := h.weaken fun _ h => st_S_w h
theorem hp_fr.sn {e : Nat} {ρ ρ' : hp_L} {P P' : hp_P} (h : hp_fr wn_S e ρ P ρ' P') : hp_fr st_S e ρ P ρ' P' := h.weaken fun r h => by
  have h1 := st_S_n h
  have h2 := wt_S_rw (st_S_w h)
  unfold wn_S
  rw [rx_rw h2, Bool.false_or]
  unfold en_S at h1
  have := of_decide_eq_false h1
  exact decide_eq_false (by omega)
theorem st_4 {r : Nat} (h1 : 403 ≤ r) (h2 : r ≤ 408) : st_S r = false := by
  unfold st_S en_S wt_S rw_S ty_S
  rw [decide_eq_false (by omega), decide_eq_false (by omega), decide_eq_false (by omega)]
  rfl
theorem st_5 {r : Nat} (h1 : 500 ≤ r) (h2 : r ≤ 505) : st_S r = false := by
  unfold st_S en_S wt_S rw_S ty_S
  rw [decide_eq_false (by omega), decide_eq_false (by omega), decide_eq_false (by omega)]
  rfl
theorem st_8 {r : Nat} (h1 : 800 ≤ r) : st_S r = false := by
  unfold st_S en_S wt_S rw_S ty_S
  rw [decide_eq_false (by omega), decide_eq_false (by omega), decide_eq_false (by omega)]
  rfl
theorem wt_en {r : Nat} (h1 : 102 ≤ r) (h2 : r ≤ 113) : wt_S r = false := by
  unfold wt_S rw_S ty_S
  rw [decide_eq_false (by omega), decide_eq_false (by omega)]
  rfl
section ST
variable {sa : Nat → Nat} {B : Nat} {ρ : hp_L} {P : hp_P} {b : Bool} {n : Nat} {T : Nat → Int32 × Int32 × Int32} {Z : Prop} {G : qT → Prop} {C : sC} {H : List qM} {D : List qS}
/-- what a work of a step comes to -/
def sX (Z : Prop) (G : qT → Prop) (B : Nat) (sa : Nat → Nat) (C : sC) (ρ : hp_L) (P : hp_P) (n : Nat) (T : Nat → Int32 × Int32 × Int32) (b : Bool) (x : Option (Option Value × am_S)) (r : Option Value) (H : List qM) (D : List qS) : Prop :=
  ∃ (ρ' : hp_L) (P' : hp_P) (n' : Nat) (T' : Nat → Int32 × Int32 × Int32) (b' : Bool), x = some (r, hp_S sa ρ' P') ∧ sI Z G B C ρ' P' n' T' H D b' ∧ hp_fr st_S 0 ρ P ρ' P' ∧ ty_xt n T n' T' ∧ (b' = false → b = false)
theorem rsI.xt {n' : Nat} {T' : Nat → Int32 × Int32 × Int32} {Rb : List (List rwS)} {rows : List qM} (h : rsI n T Rb rows) (hv : ∀ s ∈ Rb.flatten, rv n s) (hw : ty_wf T n) (hn : n < 2 ^ 31) (x : ty_xt n T n' T') : rsI n' T' Rb rows := by
  refine ⟨?_, h.2⟩
  rw [← h.1]
  refine List.map_congr_left fun R hR => List.map_congr_left fun s hs => ?_
  exact rt.xt (hv s (List.mem_flatten.mpr ⟨R, hR, hs⟩)) hw hn x
theorem sqA.cg {P' : hp_P} {sq : List qQ} {fm : Nat} {th : Nat → Nat × Nat × Nat} (h : sqA P sq fm th) (k : ∀ r, 403 ≤ r → r ≤ 408 → P'.1 r = P.1 r ∧ P'.2 r = P.2 r) : sqA P' sq fm th := by
  unfold sqA
  rw [(k 403 (by decide) (by decide)).1, (k 404 (by decide) (by decide)).1, (k 405 (by decide) (by decide)).2, (k 406 (by decide) (by decide)).2, (k 407 (by decide) (by decide)).2, (k 408 (by decide) (by decide)).2]
  refine ⟨h.1, h.2.1, h.2.2.1, h.2.2.2.1, ?_, h.2.2.2.2.2⟩
  obtain ⟨len, a1, a2, a3, a4⟩ := h.2.2.2.2.1
  exact ⟨len, a1, a2, a3, fun r b1 b2 => by rw [(k r (by omega) (by omega)).2]; exact a4 r b1 b2⟩
/-- the works of writing, on the whole -/
theorem sI.nx {ρ' : hp_L} {P' : hp_P} {n' : Nat} {T' : Nat → Int32 × Int32 × Int32} {b' : Bool} {D' : List qS} {Dr : List (List rwS)} {O O' : List rwS}
    (h : sI Z G B C ρ P n T H D b) (hd : wI Z G P n T (C.1 ++ Dr) O b D) (hh : b = false → rsI n T Dr H ∧ H.length ≤ 60) (w : hp_w B ρ') (he : enI P' n' T' C.2.2.2.2.2.2.1 C.2.2.2.2.2.2.2) (hw : wI Z G P' n' T' (C.1 ++ Dr) O' b' D') (fr : hp_fr st_S 0 ρ P ρ' P') (xt : ty_xt n T n' T') (hb : b' = false → b = false) : sI Z G B C ρ' P' n' T' H D' b' := by
  obtain ⟨h1, h2, h3, h4, h5, -⟩ := h
  have hv := hd.2.2.1
  have hwf := hd.1.1.wf
  have hn := hd.1.1.n31
  refine ⟨w, he, (h3.fr fr fun r a b => st_5 a (by omega)).xt hwf hn xt, h4.cg fun r a b => ⟨(fr.2.1 r (st_4 a b)).1, (fr.2.1 r (st_4 a b)).2.1⟩, h5.xt (fun s hs => hv s ?_) hwf hn xt, Dr, O', hw, fun z => ?_⟩
  · rw [List.flatten_append]
    exact List.mem_append.mpr (Or.inl (List.mem_append.mpr (Or.inl hs)))
  · obtain ⟨k1, k2⟩ := hh (hb z)
    refine ⟨k1.xt (fun s hs => hv s ?_) hwf hn xt, k2⟩
    rw [List.flatten_append]
    exact List.mem_append.mpr (Or.inl (List.mem_append.mpr (Or.inr hs)))
theorem sI.go {ρ' : hp_L} {P' : hp_P} {n' : Nat} {T' : Nat → Int32 × Int32 × Int32} {b' : Bool} {D' : List qS} {x : Option (Option Value × am_S)} {r : Option Value} {Dr : List (List rwS)} {O O' : List rwS}
    (h : sI Z G B C ρ P n T H D b) (hd : wI Z G P n T (C.1 ++ Dr) O b D) (hh : b = false → rsI n T Dr H ∧ H.length ≤ 60) (e : x = some (r, hp_S sa ρ' P')) (w : hp_w B ρ') (he : enI P' n' T' C.2.2.2.2.2.2.1 C.2.2.2.2.2.2.2) (hw : wI Z G P' n' T' (C.1 ++ Dr) O' b' D') (fr : hp_fr st_S 0 ρ P ρ' P') (xt : ty_xt n T n' T') (hb : b' = false → b = false) : sX Z G B sa C ρ P n T b x r H D' :=
  ⟨ρ', P', n', T', b', e, h.nx hd hh w he hw fr xt hb, fr, xt, hb⟩
theorem sI.w (h : sI Z G B C ρ P n T H D b) : hp_w B ρ := h.1
theorem sI.y (h : sI Z G B C ρ P n T H D b) : tyJ P n T := by
  obtain ⟨-, -, -, -, -, Dr, O, hw, -⟩ := h
  exact hw.1
/-- write -/
theorem s_write {f d : Nat} (h : sI Z G B C ρ P n T H D b) {c v : Int32} {t : qT} (hv : plg G n T v t) (hg : ¬ q_good G → Z) (hz : 4000 < (D ++ [(c, t)]).length → Z) :
    sX Z G B sa C ρ P n T b (am_call B sa am_dfl am_tb (f + 2) (d + 3) 51 [.ref (ρ.1 3), .int c, .int v] (hp_S sa ρ P)) none H (D ++ [(c, t)]) := by
  obtain ⟨Dr, O, hw, hh⟩ := h.2.2.2.2.2
  obtain ⟨ρ', P', O', b', a1, a2, a3, a4, a5, -⟩ := w_write (sa := sa) (f := f) (d := d) (c := c) h.w hw hv hg (fun z => hz (by rw [List.length_append]; exact z))
  exact h.go hw hh a1 a2 (h.2.1.fr a4 fun r p q => rx_en p q) a3 a4.wx.sw ty_xt.rf fun z => (a5 z).2
/-- make -/
theorem s_make {f d : Nat} (h : sI Z G B C ρ P n T H D b) (hf : 10000 ≤ f) {c l r : Int32} {tl tr : qT} (hl : plg G n T l tl) (hr : plg G n T r tr) (hq : G (qN c tl tr)) :
    ∃ (ρ' : hp_L) (P' : hp_P) (v : Int32) (n' : Nat) (T' : Nat → Int32 × Int32 × Int32), am_call B sa am_dfl am_tb f (d + 3) 3 [.ref (ρ.1 7), .int c, .int l, .int r] (hp_S sa ρ P) = some (some (.int v), hp_S sa ρ' P') ∧ sI Z G B C ρ' P' n' T' H D b ∧ hp_fr st_S 0 ρ P ρ' P' ∧ ty_xt n T n' T' ∧ plg G n' T' v (qN c tl tr) := by
  obtain ⟨Dr, O, hw, hh⟩ := h.2.2.2.2.2
  obtain ⟨ρ', P', v, n', T', a1, a2, a3, a4, a5, a6⟩ := w_make (sa := sa) (d := d) h.w hw hf hl hr hq
  exact ⟨ρ', P', v, n', T', a1, h.nx hw hh a2 ((h.2.1.xt hw.1.1.wf hw.1.1.n31 a5).fr a4 fun r p q => ty_S_en p q) a3 a4.wy.sw a5 id, a4.wy.sw, a5, a6⟩
/-- writeEquals -/
theorem s_equals {f d : Nat} (h : sI Z G B C ρ P n T H D b) (hf : 10000 ≤ f) {v : Int32} {t : qT} (hv : plg G n T v t) (g1 : G (qF t qB)) (g2 : G (qF t (qF t qB))) (hg : ¬ q_good G → Z) (hz : 4000 < (D ++ w_eq t).length → Z) :
    sX Z G B sa C ρ P n T b (am_call B sa am_dfl am_tb f (d + 4) 52 [.ref (ρ.1 3), .int v] (hp_S sa ρ P)) none H (D ++ w_eq t) := by
  obtain ⟨Dr, O, hw, hh⟩ := h.2.2.2.2.2
  obtain ⟨ρ', P', n', T', O', b', a1, a2, a3, a4, a5, a6⟩ := w_writeEquals' (sa := sa) (d := d) h.w hw hf hv g1 g2 hg hz
  exact h.go hw hh a1 a2 ((h.2.1.xt hw.1.1.wf hw.1.1.n31 a5).fr a4 fun r p q => wt_en p q) a3 a4.sw a5 a6
/-- writeApplied -/
theorem s_applied {f d : Nat} (h : sI Z G B C ρ P n T H D b) (hf : 10000 ≤ f) {c v : Int32} {a q : qT} (hv : plg G n T v (qF a q)) (hq : q ≠ qE) (hg : ¬ q_good G → Z) (hz : 4000 < (D ++ [((-1 : Int32), q), (c, qF a q)]).length → Z) :
    sX Z G B sa C ρ P n T b (am_call B sa am_dfl am_tb f (d + 4) 53 [.ref (ρ.1 3), .int c, .int v] (hp_S sa ρ P)) none H (D ++ [((-1 : Int32), q), (c, qF a q)]) := by
  obtain ⟨Dr, O, hw, hh⟩ := h.2.2.2.2.2
  obtain ⟨ρ', P', O', b', a1, a2, a3, a4, a5⟩ := w_writeApplied' (sa := sa) (d := d) (c := c) h.w hw hf hv hq hg hz
  exact h.go hw hh a1 a2 (h.2.1.fr a4 fun r p q => rx_en p q) a3 a4.wx.sw ty_xt.rf a5
/-- a stretch of the sequents' rows that is a term -/
def srcB (n : Nat) (T : Nat → Int32 × Int32 × Int32) (Rb : List (List rwS)) (A L : List rwS) (M : qM) : Prop := (∃ W, Rb.flatten = A ++ (L ++ W)) ∧ L.map (rt T n) = m_fl M ∧ ∀ s ∈ L, rv n s
theorem srcB.xt {n' : Nat} {T' : Nat → Int32 × Int32 × Int32} {Rb : List (List rwS)} {A L : List rwS} {M : qM} (h : srcB n T Rb A L M) (hw : ty_wf T n) (hn : n < 2 ^ 31) (x : ty_xt n T n' T') : srcB n' T' Rb A L M := by
  refine ⟨h.1, ?_, fun s hs => (h.2.2 s hs).xt x.1⟩
  rw [← h.2.1]
  exact List.map_congr_left fun s hs => rt.xt (h.2.2 s hs) hw hn x
theorem srcB.seg {Rb Dr : List (List rwS)} {O A L : List rwS} {M : qM} (h : srcB n T Rb A L M) : ∃ W, (Rb ++ Dr).flatten ++ O = A ++ (L ++ W) := by
  obtain ⟨W, e⟩ := h.1
  exact ⟨W ++ Dr.flatten ++ O, by rw [List.flatten_append, e]; simp⟩
/-- copy -/
theorem s_copy {f d : Nat} {A L : List rwS} {M : qM} (h : sI Z G B C ρ P n T H D b) (hf : 30000 ≤ f) (hs : srcB n T C.1 A L M) (hg : ¬ q_good G → Z) (hz : 4000 < (D ++ m_fl M).length → Z) {x y : Int32} (hx : x = nI A.length) (hy : y = nI (A.length + L.length)) :
    sX Z G B sa C ρ P n T b (am_call B sa am_dfl am_tb f (d + 4) 54 [.ref (ρ.1 3), .int x, .int y] (hp_S sa ρ P)) none H (D ++ m_fl M) := by
  obtain ⟨Dr, O, hw, hh⟩ := h.2.2.2.2.2
  obtain ⟨W, hX⟩ := hs.seg (Dr := Dr) (O := O)
  obtain ⟨ρ', P', O', b', a1, a2, a3, a4, a5⟩ := w_copy' (sa := sa) (d := d) h.w hw hf hX hg (by rw [hs.2.1]; exact hz) hx hy
  rw [hs.2.1] at a3
  exact h.go hw hh a1 a2 (h.2.1.fr a4 fun r p q => rx_en p q) a3 a4.wx.sw ty_xt.rf a5
/-- copyTrading -/
theorem s_trade {f d : Nat} {bd : Bool} {c v : Int32} {t : qT} {A L : List rwS} {M : qM} (h : sI Z G B C ρ P n T H D b) (hf : 60000 ≤ f) (hs : srcB n T C.1 A L M) (hM : m_wf M) (hht : m_ht M ≤ 120) (hg : ¬ q_good G → Z) (hv : pl n T v t) (hz : 4000 < (D ++ m_fl (m_tr bd c t M 0)).length → Z) {x y : Int32} (hx : x = nI A.length) (hy : y = nI (A.length + L.length)) :
    sX Z G B sa C ρ P n T b (am_call B sa am_dfl am_tb f (d + 4) 56 [.ref (ρ.1 3), .int x, .int y, .int (bI bd), .int c, .int v] (hp_S sa ρ P)) none H (D ++ m_fl (m_tr bd c t M 0)) := by
  obtain ⟨Dr, O, hw, hh⟩ := h.2.2.2.2.2
  obtain ⟨W, hX⟩ := hs.seg (Dr := Dr) (O := O)
  obtain ⟨ρ', P', O', b', a1, a2, a3, a4, a5⟩ := w_trade' (sa := sa) (d := d) (bd := bd) (c := c) h.w hw hf hX hM hs.2.1 hht hg hv hz hx hy
  exact h.go hw hh a1 a2 (h.2.1.fr a4.wr fun r p q => wt_en p q) a3 a4.wr.sw ty_xt.rf a5
/-- writeTo -/
theorem s_to {f d : Nat} {x : Int32} {M : qM} (h : sI Z G B C ρ P n T H D b) (hf : 10000 ≤ f) (hx : en_at C.2.2.2.2.2.2.2 x M) (hg : ¬ q_good G → Z) (hz : 4000 < (D ++ m_fl M).length → Z) :
    sX Z G B sa C ρ P n T b (am_call B sa am_dfl am_tb f (d + 4) 47 [.ref (ρ.1 1), .ref (ρ.1 3), .int x] (hp_S sa ρ P)) none H (D ++ m_fl M) := by
  obtain ⟨Dr, O, hw, hh⟩ := h.2.2.2.2.2
  obtain ⟨ρ', P', O', b', a1, a2, a3, a4, a5, a6, -⟩ := w_to (sa := sa) (d := d) h.w h.2.1 hw hf hx hg hz
  exact h.go hw hh a1 a2 a3 a4 a5.sn ty_xt.rf a6
end ST
