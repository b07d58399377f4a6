/-! stretches, runs, calls -/
def am_chain : List am_I → Prop
  | [] => True
  | [_] => True
  | e :: e' :: r => (e.2.2.2.1 = 1 ∨ e'.1 = e.1 + e.2.2.1) ∧ am_chain (e' :: r)
theorem am_chain_suffix : ∀ {code cur : List am_I}, cur <:+ code → am_chain code → am_chain cur := by
  intro code
  induction code with
  | nil =>
    intro cur h _
    rw [List.suffix_nil.mp h]
    trivial
  | cons e r ih =>
    intro cur h hc
    rcases List.suffix_cons_iff.mp h with h | h
    · rw [h]; exact hc
    · refine ih h ?_
      cases r with
      | nil => trivial
      | cons e' r' => exact hc.2
theorem am_dw_head : ∀ {code : List am_I} {pc : Nat} {e : am_I} {r : List am_I}, code.dropWhile (fun e' => e'.1 != pc) = e :: r → e.1 = pc := by
  intro code
  induction code with
  | nil => intro pc e r h; cases h
  | cons a l ih =>
    intro pc e r h
    rw [List.dropWhile_cons] at h
    split at h
    · exact ih h
    · rename_i hne
      cases h
      simpa using hne
theorem am_keep_mem {L : am_L} : ∀ {n i m : Nat} {L' : am_L}, am_keep L i n m = some L' → ∀ q ∈ L', q ∈ L := by
  intro n
  induction n with
  | zero => intro i m L' h q hq; cases h; cases hq
  | succ n ih =>
    intro i m L' h q hq
    unfold am_keep at h
    split at h
    · exact ih h q hq
    · obtain ⟨v, hv, h⟩ := Option.bind_eq_some_iff.mp h
      obtain ⟨r, hr, h⟩ := Option.bind_eq_some_iff.mp h
      cases h
      rcases List.mem_cons.mp hq with rfl | hq
      · exact am_lk_mem hv
      · exact ih hr q hq
theorem am_put_le {B : Nat} {σ σ' : am_S} {a ci k : Nat} {v : Value} (h : am_put B σ a ci k v = some σ') : am_le σ σ' := by
  obtain ⟨fs, ho, -, -, rfl⟩ := am_put_ok h
  exact am_le.upd (am_obj_kn ho)
theorem am_iast_le {B : Nat} {σ σ' : am_S} {a : Nat} {i v : Int32} (h : am_iast B σ a i v = some σ') : am_le σ σ' := by
  obtain ⟨y, ho, -, -, rfl⟩ := am_iast_ok h
  exact am_le.upd (am_arr_kn ho)
theorem am_cpy_le {B : Nat} {σ σ' : am_S} {a0 a : Nat} {sp dp n : Int32} (h : am_cpy B σ a0 sp a dp n = some σ') : am_le σ σ' := by
  obtain ⟨x, y, -, ho, -, -, -, -, -, -, -, rfl⟩ := am_cpy_ok h
  exact am_le.upd (am_arr_kn ho)
section AMM
variable {B : Nat} {sa : Nat → Nat} {dfl : Nat → List Value} {cl : am_F}
set_option maxHeartbeats 4000000 in
theorem am_step_mono {α : Type} (hcl : ∀ mi as σ v σ', cl mi as σ = some (v, σ') → am_le σ σ') {r : am_I} {L : am_L} {st : List Value} {σ : am_S} {nx : am_L → List Value → am_S → Option α} {jp : Nat → am_L → List Value → am_S → Option α} {o : α} {P : Prop}
    (h : am_step B sa dfl cl r L st σ nx jp = some o) (hn : ∀ L' st' σ', am_le σ σ' → nx L' st' σ' = some o → P) (hj : ∀ pc' L' st' σ', am_le σ σ' → jp pc' L' st' σ' = some o → P) : P := by
  have hback : ∀ {kind : Nat} {mi : Nat} {as : List Value} {rest : List Value}, am_back kind (cl mi as σ) rest (nx L) = some o → P := by
    intro kind mi as rest h
    obtain ⟨v, σ', hr, hnx⟩ := am_back_ok h
    exact hn _ _ _ (hcl _ _ _ _ _ hr) hnx
  obtain ⟨pc, ins, len, stop, x, y, z⟩ := r
  cases ins with
  | getfield i =>
    unfold am_step at h
    dsimp only at h
    split at h
    · split at h
      · obtain ⟨v, hv, h⟩ := Option.bind_eq_some_iff.mp h
        exact hn _ _ _ am_le.rf h
      · obtain ⟨v, hv, h⟩ := Option.bind_eq_some_iff.mp h
        exact hn _ _ _ am_le.rf h
    · cases h
  | putfield i =>
    unfold am_step at h
    dsimp only at h
    split at h
    · split at h
      · obtain ⟨v, hv, h⟩ := Option.bind_eq_some_iff.mp h
        exact hn _ _ _ (am_put_le hv) h
      · split at h
        · split at h
          · obtain ⟨v, hv, h⟩ := Option.bind_eq_some_iff.mp h
            exact hn _ _ _ (am_put_le hv) h
          · cases h
        · cases h
    · split at h
      · obtain ⟨v, hv, h⟩ := Option.bind_eq_some_iff.mp h
        exact hn _ _ _ (am_put_le hv) h
      · cases h
    · cases h
  | iaload =>
    unfold am_step at h
    dsimp only at h
    split at h
    · obtain ⟨v, hv, h⟩ := Option.bind_eq_some_iff.mp h
      exact hn _ _ _ am_le.rf h
    · cases h
  | arraylength =>
    unfold am_step at h
    dsimp only at h
    split at h
    · obtain ⟨v, hv, h⟩ := Option.bind_eq_some_iff.mp h
      exact hn _ _ _ am_le.rf h
    · cases h
  | iastore =>
    unfold am_step at h
    dsimp only at h
    split at h
    · obtain ⟨v, hv, h⟩ := Option.bind_eq_some_iff.mp h
      exact hn _ _ _ (am_iast_le hv) h
    · cases h
  | newarray ty =>
    unfold am_step at h
    dsimp only at h
    cases ty with
    | int =>
      dsimp only at h
      split at h
      · split at h
        · cases h
        · exact hn _ _ _ am_le.push h
      · cases h
    | _ => cases h
  | new i =>
    unfold am_step at h
    dsimp only at h
    exact hn _ _ _ am_le.push h
  | tableswitch dflt lo hi offs =>
    unfold am_step at h
    dsimp only at h
    split at h
    · rcases am_sw_ok (P := fun w => w = some o) _ _ _ _ h with ⟨h1, h2⟩ | ⟨i, of, h1, h2, h3⟩
      · exact hj _ _ _ _ am_le.rf h2
      · exact hj _ _ _ _ am_le.rf h3
    · cases h
  | invokespecial i =>
    unfold am_step at h
    dsimp only at h
    split at h
    · split at h
      · split at h
        · exact hn _ _ _ am_le.rf h
        · cases h
      · cases h
    · unfold am_invI at h
      split at h
      · cases h
      · split at h
        · split at h
          · exact hback h
          · cases h
        · cases h
  | invokevirtual i =>
    unfold am_step at h
    dsimp only at h
    unfold am_invV at h
    split at h
    · cases h
    · split at h
      · split at h
        · obtain ⟨v, hv, h⟩ := Option.bind_eq_some_iff.mp h
          exact hback h
        · cases h
      · cases h
  | invokestatic i =>
    unfold am_step at h
    dsimp only at h
    split at h
    · split at h
      · split at h
        · exact hn _ _ _ am_le.rf h
        · cases h
      · cases h
    · split at h
      · split at h
        · split at h
          · exact hn _ _ _ am_le.rf h
          · cases h
        · cases h
      · split at h
        · split at h
          · split at h
            · obtain ⟨v, hv, h⟩ := Option.bind_eq_some_iff.mp h
              exact hn _ _ _ (am_cpy_le hv) h
            · cases h
          · cases h
        · unfold am_inv at h
          split at h
          · cases h
          · split at h
            · exact hback h
            · cases h
  | _ =>
    unfold am_step at h
    dsimp only at h
    repeat' (first | exact hn _ _ _ am_le.rf h | exact hj _ _ _ _ am_le.rf h | (cases h; done) | split at h)
theorem am_blk_mono (hcl : ∀ mi as σ v σ', cl mi as σ = some (v, σ') → am_le σ σ') {code : List am_I} : ∀ (g : Nat) (cur : List am_I) (L : am_L) (st : List Value) (σ : am_S) (o : am_O), am_blk B sa dfl cl code g cur L st σ = some o → am_le σ o.2.2.2 := by
  intro g
  induction g with
  | zero => intro cur L st σ o h; cases h
  | succ g ih =>
    intro cur L st σ o h
    cases cur with
    | nil => cases h
    | cons e rest =>
      unfold am_blk at h
      refine am_step_mono hcl h (fun L' st' σ' hle hx => ?_) (fun pc' L' st' σ' hle hx => ?_)
      · split at hx
        · cases hx
        · split at hx
          · exact hle.tr (ih _ _ _ _ _ hx)
          · cases hx; exact hle
      · split at hx
        · cases hx
        · split at hx
          · exact hle.tr (ih _ _ _ _ _ hx)
          · cases hx; exact hle
theorem am_exec_mono (hcl : ∀ mi as σ v σ', cl mi as σ = some (v, σ') → am_le σ σ') {code : List am_I} : ∀ (f pc : Nat) (L : am_L) (st : List Value) (σ : am_S) (o : Nat × List Value × am_S), am_exec B sa dfl cl code f pc L st σ = some o → am_le σ o.2.2 := by
  intro f
  induction f with
  | zero => intro pc L st σ o h; cases h
  | succ f ih =>
    intro pc L st σ o h
    unfold am_exec at h
    obtain ⟨o', ho, h⟩ := Option.bind_eq_some_iff.mp h
    have hm := am_blk_mono hcl _ _ _ _ _ _ ho
    split at h
    · cases h
    · split at h
      · cases h; exact hm
      · obtain ⟨L', -, h⟩ := Option.bind_eq_some_iff.mp h
        exact hm.tr (ih _ _ _ _ _ h)
theorem am_end_st {code : List am_I} {o : Nat × List Value × am_S} {q : Option Value × am_S} (h : am_end code o = some q) : q.2 = o.2.2 := by
  unfold am_end at h
  split at h
  · cases h
  · split at h
    · split at h
      · cases h; rfl
      · cases h
    · cases h; rfl
    · cases h; rfl
    · cases h; rfl
    · cases h
theorem am_call_mono {tb : Nat → Option am_M} {f : Nat} : ∀ (d mi : Nat) (as : List Value) (σ : am_S) (v : Option Value) (σ' : am_S), am_call B sa dfl tb f d mi as σ = some (v, σ') → am_le σ σ' := by
  intro d
  induction d with
  | zero => intro mi as σ v σ' h; cases h
  | succ d ih =>
    intro mi as σ v σ' h
    unfold am_call at h
    obtain ⟨M, -, h⟩ := Option.bind_eq_some_iff.mp h
    split at h
    · cases h
    · obtain ⟨o, ho, h⟩ := Option.bind_eq_some_iff.mp h
      have h1 := am_exec_mono ih _ _ _ _ _ _ ho
      have h2 := am_end_st h
      dsimp only at h2
      rw [h2]
      exact h1
end AMM
