/-! STEPS of the class, 10: newConstructor -/
def mV (t : qT) : qM := mN 1 t .leaf .leaf
def mK (c : Nat) (t : qT) : qM := mN (4 * nI c + 2) t .leaf .leaf
/-- to and fro: the new type's side, and the old one's -/
def n21a (old made : qT) (to : Nat) : qM := mE (mN (-1) made (mK to (qF old made)) (mN (-1) old (mK (to + 1) (qF made old)) (mV made))) (mV made)
def n21b (old made : qT) (to : Nat) (p : qM) : qM := mE (mN (-1) qB p (mV old)) (mE (mN (-1) old (mK (to + 1) (qF made old)) (mN (-1) made (mK to (qF old made)) (mV old))) (mV old))
theorem mV_wf {t : qT} : m_wf (mV t) := m_wf_lf ⟨by decide, fun z => absurd z (by decide)⟩
theorem mK_wf {c : Nat} {t : qT} (h : 2 ≤ c) (h2 : c ≤ 1000) : m_wf (mK c t) := m_wf_lf (by
  have hc : 4 * nI c + 2 = nI (4 * c + 2) := by rw [nI4]; exact nI_add (4 * c) 2
  rw [hc]; exact m_lf_n (by omega) (by omega))
theorem n21a_wf {old made : qT} {to : Nat} (h : 2 ≤ to) (h2 : to ≤ 900) : m_wf (n21a old made to) := mE_wf (m_wf_app (mK_wf h (by omega)) (m_wf_app (mK_wf (by omega) (by omega)) mV_wf rfl) rfl) mV_wf rfl
theorem n21b_wf {old made : qT} {to : Nat} {p : qM} (h : 2 ≤ to) (h2 : to ≤ 900) (hp : m_wf p) (ht : m_ty p = qF old qB) : m_wf (n21b old made to p) := mE_wf (m_wf_app hp mV_wf ht) (mE_wf (m_wf_app (mK_wf (by omega) (by omega)) (m_wf_app (mK_wf h (by omega)) mV_wf rfl) rfl) mV_wf rfl) rfl
theorem n21a_fl {old made : qT} {to : Nat} : m_fl (n21a old made to) = w_eq made ++ [((-1 : Int32), made), (4 * nI to + 2, qF old made)] ++ [((-1 : Int32), old), (4 * nI (to + 1) + 2, qF made old)] ++ [(1, made)] ++ [(1, made)] := by
  unfold n21a mK mV
  rw [mE_fl, m_ty_N, m_fl_N, m_fl_N, m_fl_N, m_fl_N, m_fl_N]
  show _ ++ ((_ :: ((_ :: ([] ++ [])) ++ (_ :: ((_ :: ([] ++ [])) ++ (_ :: ([] ++ [])))))) ++ (_ :: ([] ++ []))) = _
  simp
theorem n21b_fl {old made : qT} {to : Nat} {p : qM} : m_fl (n21b old made to p) = w_eq qB ++ [((-1 : Int32), qB)] ++ m_fl p ++ [(1, old)] ++ w_eq old ++ [((-1 : Int32), old), (4 * nI (to + 1) + 2, qF made old)] ++ [((-1 : Int32), made), (4 * nI to + 2, qF old made)] ++ [(1, old)] ++ [(1, old)] := by
  unfold n21b mK mV
  rw [mE_fl, m_ty_N, m_fl_N, m_fl_N, mE_fl, m_ty_N, m_fl_N, m_fl_N, m_fl_N, m_fl_N]
  show _ ++ ((_ :: (m_fl p ++ (_ :: ([] ++ [])))) ++ (_ ++ ((_ :: ((_ :: ([] ++ [])) ++ (_ :: ((_ :: ([] ++ [])) ++ (_ :: ([] ++ [])))))) ++ (_ :: ([] ++ []))))) = _
  simp
section SPB
variable {sa : Nat → Nat} {B : Nat} {ρ : hp_L} {P : hp_P} {b : Bool} {n : Nat} {T : Nat → Int32 × Int32 × Int32} {Z : Prop} {G : qT → Prop} {C : sC} {H : List qM} {D : List qS} {kk : Int32 → Nat}
/-- addConstant of anything -/
theorem sg_addC0 {f d k : Nat} {v : Int32} (w : hp_w B ρ) (h3 : P.1 503 = nI k) (hk : k ≤ 200) (hl : (P.2 501).1 = 200) : am_call B sa am_dfl am_tb (f + 1) (d + 1) 26 [.ref (ρ.1 5), .int v] (hp_S sa ρ P) = some (some (.int (if k < 200 then nI k else -1)), hp_S sa ρ (if k < 200 then hp_sI (hp_sA P 501 (nI k) v) 503 (nI (k + 1)) else P)) := by
  have hlt : (nI k < (200 : Int32)) = (k < 200) := by rw [show (200 : Int32) = nI 200 from rfl]; exact propext (nI_ltI (by omega) (by omega))
  rw [am_c_26, am_s26_0]
  simp only [hg_503 w, h3, Option.bind_some, am_c_lt, hlt]
  by_cases e : k < 200
  · rw [if_pos e, if_pos e, if_pos e]
    have ck : hp_ck P 501 (nI k) = some () := hp_ck_nI (by omega) (by omega)
    simp only [hr_501 w, ht_501 w, ck, Option.bind_some, hg_503 w, hA_I, h3, hs_503 w, hI_eq, nI_1, nI_pred]
  · rw [if_neg e, if_neg e, if_neg e]
theorem sI.u_sg {P' : hp_P} {t : List Nat} (h : sI Z G B (c_tk C t) ρ P n T H D b) (fr : hp_fr sg_S 0 ρ P ρ P') (h5 : P'.2 500 = P.2 500) (hl : (P'.2 501).1 = 200) (h1 : ∀ c, c < C.2.2.2.2.2.1.length → (P'.2 501).2 c = (P.2 501).2 c) : uI B C ρ P' n T := by
  obtain ⟨a1, a2, a3, a4, a5, Dr, O, a6, -⟩ := h
  have hs := sgI.W (Q := t) (Q' := []) (tk := C.2.2.2.2.1) (ow := C.2.2.2.2.2.1) (by rw [List.append_nil]; exact a3)
  refine ⟨a1, a2.fr fr fun r a b => decide_eq_false (by omega), ⟨by rw [h5]; exact hs.1, hl, by rw [h5]; exact hs.2.2.1, fun c t hc => by rw [h1 c (List.getElem?_eq_some_iff.mp hc).1]; exact hs.2.2.2 c t hc⟩, ⟨[], C.2.2.2.1, ?_, fun _ _ => rfl⟩, a5, a6.1.fr fr fun r a b => decide_eq_false (by omega), ⟨Dr, O, b, a6.2.1.fr fr fun r a b => decide_eq_false (by omega)⟩, fun s hs => a6.2.2.1 s (by rw [List.flatten_append]; exact List.mem_append.mpr (Or.inl (List.mem_append.mpr (Or.inl hs))))⟩
  rw [List.append_nil]
  exact a4.cg fun r a b => ⟨(fr.2.1 r (decide_eq_false (by omega))).1, (fr.2.1 r (decide_eq_false (by omega))).2.1⟩
/-- 21: the sequent's term, its variables -/
def sp_21 (sq : List qQ) (tk : List Nat) (ow : List qT) (x : Int32) (old made : qT) (p : qM) (k : Nat) : Prop := ∃ s xx vs, en_at sq x s ∧ s.1 = [] ∧ s.2 = mN (-1) qB p xx ∧ (∀ q ∈ m_fl p, ¬ q_fr q.1) ∧ vs_of (m_fl p) vs ∧ vs.length ≤ 2 ∧ tk.length < 40 ∧ ow.length + 2 ≤ 200 ∧ old = m_ty xx ∧ made = q_k (nI tk.length) vs ∧ k = vs.length
/-- both sequents are within the limits -/
def lim21 (S : qT → Prop) (base : Nat) (N1 N2 : qM) : Prop := sq_lim S base ([], N1) ∧ sq_lim (q_un S [N1]) (base + (m_fl N1).length) ([], N2)
/-- the class with the two new sequents -/
def c_21 (C : sC) (old made : qT) (k : Nat) (n1 n2 : Nat) (R1 R2 : List (List rwS)) (N1 N2 : qM) : sC := c_new (c_new (c_ow (c_tk C [k]) [qF old made, qF made old]) C.2.2.1 n1 R1 ([], N1)) (C.2.1.length + 2) n2 R2 ([], N2)
def cO21 (B : Nat) (sa : Nat → Nat) (R : qT → qT → qM → Nat → Prop) (C : sC) (ρ : hp_L) (P : hp_P) (n : Nat) (T : Nat → Int32 × Int32 × Int32) (x : Option (Option Value × am_S)) : Prop :=
  (∃ old made p k ρ' P' n1 n' T' R1 R2, R old made p k ∧ lim21 (ct_S T n) (m_tot (sq_rows C.2.1)) (n21a old made C.2.2.2.2.2.1.length) (n21b old made C.2.2.2.2.2.1.length p) ∧ x = some (some (.int 1), hp_S sa ρ' P') ∧ cI B (c_21 C old made k n1 n' R1 R2 (n21a old made C.2.2.2.2.2.1.length) (n21b old made C.2.2.2.2.2.1.length p)) ρ' P' n' T' ∧ hp_fr cl_S 2 ρ P ρ' P' ∧ ty_xt n T n' T' ∧ ct_S T' n' = q_un (q_un (ct_S T n) [n21a old made C.2.2.2.2.2.1.length]) [n21b old made C.2.2.2.2.2.1.length p]) ∨
  ((∀ old made p k, R old made p k → ¬ lim21 (ct_S T n) (m_tot (sq_rows C.2.1)) (n21a old made C.2.2.2.2.2.1.length) (n21b old made C.2.2.2.2.2.1.length p)) ∧ ∃ ρ' P' n' T', x = some (some (.int 0), hp_S sa ρ' P') ∧ uI B C ρ' P' n' T' ∧ hp_fr cl_S 2 ρ P ρ' P' ∧ ty_xt n T n' T')
theorem vs_of_inj {K : List qS} {vs vs' : List Int32} (h : vs_of K vs) (h' : vs_of K vs') (hl : vs.length ≤ 2) : vs = vs' := by
  have l1 := nd_len (vs_nd h.1) (fun c hc => (h'.2 c).mpr ((h.2 c).mp hc))
  have l2 := nd_len (vs_nd h'.1) (fun c hc => (h.2 c).mpr ((h'.2 c).mp hc))
  have mem : ∀ c, c ∈ vs ↔ c ∈ vs' := fun c => by rw [h.2, h'.2]
  match vs, vs', h, h', hl, l1, l2, mem with
  | [], [], _, _, _, _, _, _ => rfl
  | [a], [a'], _, _, _, _, _, mem =>
    have := (mem a).mp (List.mem_singleton.mpr rfl)
    rw [List.mem_singleton.mp this]
  | [a, b], [a', b'], h, h', _, _, _, mem =>
    have hba : b < a := (List.pairwise_cons.mp h.1).1 b (List.mem_singleton.mpr rfl)
    have hba' : b' < a' := (List.pairwise_cons.mp h'.1).1 b' (List.mem_singleton.mpr rfl)
    have m1 := (mem a).mp List.mem_cons_self
    have m2 := (mem b).mp (List.mem_cons_of_mem _ (List.mem_singleton.mpr rfl))
    rcases List.mem_cons.mp m1 with e1 | e1
    · rcases List.mem_cons.mp m2 with e2 | e2
      · rw [e1, e2] at hba; exact (Int32.lt_irrefl hba).elim
      · rw [e1, List.mem_singleton.mp e2]
    · rw [List.mem_singleton.mp e1] at hba
      rcases List.mem_cons.mp m2 with e2 | e2
      · rw [e2] at hba; exact (Int32.lt_irrefl (Int32.lt_trans hba hba')).elim
      · rw [List.mem_singleton.mp e2] at hba; exact (Int32.lt_irrefl hba).elim
theorem sp_21_inj {sq : List qQ} {tk : List Nat} {ow : List qT} {x : Int32} {o o' m m' : qT} {p p' : qM} {k k' : Nat} (h : sp_21 sq tk ow x o m p k) (h' : sp_21 sq tk ow x o' m' p' k') : o = o' ∧ m = m' ∧ p = p' ∧ k = k' := by
  obtain ⟨s, xx, vs, a1, a2, a3, a4, a5, a6, a7, a8, a9, a10, a11⟩ := h
  obtain ⟨s', xx', vs', b1, b2, b3, b4, b5, b6, b7, b8, b9, b10, b11⟩ := h'
  obtain rfl := en_at_inj a1 b1
  obtain ⟨-, -, rfl, rfl⟩ := mN_inj (a3.symm.trans b3)
  obtain rfl := vs_of_inj a5 b5 a6
  exact ⟨by rw [a9, b9], by rw [a10, b10], rfl, by rw [a11, b11]⟩
end SPB
