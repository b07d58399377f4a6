/-! the step theorem -/
section AMU
variable {p : Program} {l : Launch} {e : Env} {R : Room} {s : State} {m : MethodId} {args : Array Value} {below : List Frame} {meth : Method} {c : Code} {Q : State → Prop} {D : va_G} {B : Nat} {sa : Nat → Nat} {cc : ByteArray} {nL d : Nat} {own nm : String} {σ0 σF : am_S} {tb : Nat → Option am_M} {cl : am_F}
theorem am_small_ok {st : List Value} (h : am_small st = true) : (st.map fun v => v.category).sum ≤ 8 := of_decide_eq_true h
set_option maxHeartbeats 4000000 in
theorem am_inv_I {α : Type} (X : am_X p l R s m args meth c D B sa cc nL d own nm σ0 σF tb cl) {M : am_M} {x n pc i : Nat} {L : am_L} {st : List Value} {σ : am_S} {nx : List Value → am_S → Option α} {o : α} (hM : tb x = some M) (hce : am_callee M n) (hret : M.2.2.2.1 = none) (hl : Cond.methodLink own i M.1 ∈ am_W) (hin : Cond.instanceMethod M.1 ∈ am_W) (hnm : M.1.name = "<init>") (hdg : decode cc pc = .ok (.invokespecial i, 3))
    (h : am_invI cl x (n + 1) st σ nx = some o)
    (hn : ∀ st' σ', nx st' σ' = some o → am_Gd p l e R s m args below meth c Q D B nL σ0 σF (pc + 3) L st' σ') : am_Gd p l e R s m args below meth c Q D B nL σ0 σF pc L st σ := by
  obtain ⟨⟨hexec, hb, hml, hown, -⟩, hts, hK, ⟨hfr, hlo, hrc, hrs⟩, hcl⟩ := X
  unfold am_invI at h
  split at h
  · cases h
  · rename_i hlen
    split at h
    · rename_i hsm
      split at h
      · rename_i b As hba
        obtain ⟨v, σ', hr, hnx⟩ := am_back_ok h
        obtain ⟨hmono, hct⟩ := hcl _ _ _ _ _ hr
        obtain ⟨hm1, hm2, -⟩ := id hmono
        obtain ⟨⟨hF1, hF2⟩, hw⟩ := hn _ _ hnx
        refine ⟨⟨by omega, by omega⟩, fun H locs ls hR hS hls h1 h2 => ?_⟩
        have hlA : As.length = n := by
          have := congrArg List.length hba
          rw [List.length_reverse, List.length_take, List.length_cons] at this
          omega
        refine am_w_callI hexec hb hml hown hts hK hR hS hmono (hct M hM) hce hret hl hin hnm hlA hls.1 (by
          have h3 : st = ((st.take (n + 1)).reverse).reverse ++ st.drop (n + 1) := am_take
          rw [hba] at h3
          simpa using h3) (am_small_ok hsm) hfr hlo hdg ⟨by rw [hrc]; omega, by rw [hrs]; omega⟩ fun H1 locs1 hR1 hS1 => ?_
        have := hw H1 locs1 ls hR1 hS1 hls (by omega) (by omega)
        rw [show σ.1 - σ0.1 + (σ'.1 - σ.1) = σ'.1 - σ0.1 by omega, show σ.2.2 - σ0.2.2 + (σ'.2.2 - σ.2.2) = σ'.2.2 - σ0.2.2 by omega]
        exact this
      · cases h
    · cases h
set_option maxHeartbeats 4000000 in
theorem am_inv_S {α : Type} (X : am_X p l R s m args meth c D B sa cc nL d own nm σ0 σF tb cl) {M : am_M} {x n ret pc i : Nat} {L : am_L} {st : List Value} {σ : am_S} {nx : List Value → am_S → Option α} {o : α} (hM : tb x = some M) (hce : am_callee M n) (hst1 : Cond.static M.1 ∈ am_W) (hl : Cond.methodLink own i M.1 ∈ am_W ∨ ∃ host, (own, i, M.1, host) ∈ am_NM) (hdg : decode cc pc = .ok (.invokestatic i, 3))
    (h : am_inv cl x n ret st σ nx = some o)
    (hn : ∀ st' σ', nx st' σ' = some o → am_Gd p l e R s m args below meth c Q D B nL σ0 σF (pc + 3) L st' σ') : am_Gd p l e R s m args below meth c Q D B nL σ0 σF pc L st σ := by
  obtain ⟨⟨hexec, hb, hml, hown, -⟩, hts, hK, ⟨hfr, hlo, hrc, hrs⟩, hcl⟩ := X
  unfold am_inv at h
  split at h
  · cases h
  · rename_i hlen
    split at h
    · rename_i hsm
      obtain ⟨v, σ', hr, hnx⟩ := am_back_ok h
      obtain ⟨hmono, hct⟩ := hcl _ _ _ _ _ hr
      obtain ⟨hm1, hm2, -⟩ := id hmono
      obtain ⟨⟨hF1, hF2⟩, hw⟩ := hn _ _ hnx
      refine ⟨⟨by omega, by omega⟩, fun H locs ls hR hS hls h1 h2 => ?_⟩
      have hl2 : Cond.methodLink own i M.1 ∈ am_W ∨ ∃ host, va_Nw (.methodLinkNest own i M.1 host) s := hl.imp id fun ⟨host, hh⟩ => ⟨host, hK.2.2.1 _ hh⟩
      refine am_w_callS hexec hb hml hown hts hK hR hS hmono (hct M hM) hce hl2 hst1 (by rw [List.length_reverse, List.length_take]; omega) hls.1 am_take (am_small_ok hsm) hfr hlo hdg ⟨by rw [hrc]; omega, by rw [hrs]; omega⟩ fun H1 locs1 hR1 hS1 => ?_
      have := hw H1 locs1 ls hR1 hS1 hls (by omega) (by omega)
      rw [show σ.1 - σ0.1 + (σ'.1 - σ.1) = σ'.1 - σ0.1 by omega, show σ.2.2 - σ0.2.2 + (σ'.2.2 - σ.2.2) = σ'.2.2 - σ0.2.2 by omega]
      exact this
    · cases h
set_option maxHeartbeats 4000000 in
theorem am_inv_V {α : Type} (X : am_X p l R s m args meth c D B sa cc nL d own nm σ0 σF tb cl) {M : am_M} {x n ret ci pc i : Nat} {L : am_L} {st : List Value} {σ : am_S} {nx : List Value → am_S → Option α} {o : α} {q : vw_C} (hM : tb x = some M) (hce : am_callee M n) (hc : vwCl[ci]? = some q) (hcq : q.1 = M.1.cls) (hl : Cond.methodLink own i M.1 ∈ am_W ∨ ∃ host, (own, i, M.1, host) ∈ am_NM) (hin : Cond.instanceMethod M.1 ∈ am_W) (hsel : Cond.selects M.1.cls M.1 M.1 ∈ am_W) (hdg : decode cc pc = .ok (.invokevirtual i, 3))
    (h : am_invV cl x (n + 1) ret ci st σ nx = some o)
    (hn : ∀ st' σ', nx st' σ' = some o → am_Gd p l e R s m args below meth c Q D B nL σ0 σF (pc + 3) L st' σ') : am_Gd p l e R s m args below meth c Q D B nL σ0 σF pc L st σ := by
  obtain ⟨⟨hexec, hb, hml, hown, -⟩, hts, hK, ⟨hfr, hlo, hrc, hrs⟩, hcl⟩ := X
  unfold am_invV at h
  split at h
  · cases h
  · rename_i hlen
    split at h
    · rename_i hsm
      split at h
      · rename_i b As hba
        obtain ⟨fs, ho, h⟩ := Option.bind_eq_some_iff.mp h
        obtain ⟨v, σ', hr, hnx⟩ := am_back_ok h
        obtain ⟨hmono, hct⟩ := hcl _ _ _ _ _ hr
        obtain ⟨hm1, hm2, -⟩ := id hmono
        obtain ⟨⟨hF1, hF2⟩, hw⟩ := hn _ _ hnx
        refine ⟨⟨by omega, by omega⟩, fun H locs ls hR hS hls h1 h2 => ?_⟩
        have hlA : As.length = n := by
          have := congrArg List.length hba
          rw [List.length_reverse, List.length_take, List.length_cons] at this
          omega
        have hl2 : Cond.methodLink own i M.1 ∈ am_W ∨ ∃ host, va_Nw (.methodLinkNest own i M.1 host) s := hl.imp id fun ⟨host, hh⟩ => ⟨host, hK.2.2.1 _ hh⟩
        refine am_w_callV hexec hb hml hown hts hK hR hS hmono (hct M hM) hce ho hc hcq hl2 hin hsel hlA hls.1 (by
          have h3 : st = ((st.take (n + 1)).reverse).reverse ++ st.drop (n + 1) := am_take
          rw [hba] at h3
          simpa using h3) (am_small_ok hsm) hfr hlo hdg ⟨by rw [hrc]; omega, by rw [hrs]; omega⟩ fun H1 locs1 hR1 hS1 => ?_
        have := hw H1 locs1 ls hR1 hS1 hls (by omega) (by omega)
        rw [show σ.1 - σ0.1 + (σ'.1 - σ.1) = σ'.1 - σ0.1 by omega, show σ.2.2 - σ0.2.2 + (σ'.2.2 - σ.2.2) = σ'.2.2 - σ0.2.2 by omega]
        exact this
      · cases h
    · cases h
theorem am_put_ok {σ σ' : am_S} {a ci k : Nat} {v : Value} (h : am_put B σ a ci k v = some σ') : ∃ fs, am_obj σ a ci = some fs ∧ B ≤ a ∧ k < fs.length ∧ σ' = (σ.1, am_upd σ.2.1 a (.inr (ci, fs.set k v)), σ.2.2) := by
  unfold am_put at h
  obtain ⟨fs, ho, h⟩ := Option.bind_eq_some_iff.mp h
  split at h
  · cases h
  · rename_i hc
    cases h
    exact ⟨fs, ho, by omega, by omega, rfl⟩
theorem am_iald_ok {σ : am_S} {a : Nat} {i v : Int32} (h : am_iald σ a i = some v) : ∃ x, am_arr σ a = some x ∧ ¬ (i < 0 ∨ x.1 ≤ i.toNatClampNeg) ∧ v = x.2 i.toNatClampNeg := by
  unfold am_iald at h
  obtain ⟨x, ho, h⟩ := Option.bind_eq_some_iff.mp h
  split at h
  · cases h
  · rename_i hc
    cases h
    exact ⟨x, ho, hc, rfl⟩
theorem am_iast_ok {σ σ' : am_S} {a : Nat} {i v : Int32} (h : am_iast B σ a i v = some σ') : ∃ y, am_arr σ a = some y ∧ B ≤ a ∧ ¬ (i < 0 ∨ y.1 ≤ i.toNatClampNeg) ∧ σ' = (σ.1, am_upd σ.2.1 a (.inl (y.1, upd y.2 i.toNatClampNeg v)), σ.2.2) := by
  unfold am_iast at h
  obtain ⟨x, ho, h⟩ := Option.bind_eq_some_iff.mp h
  split at h
  · cases h
  · rename_i hc
    cases h
    exact ⟨x, ho, by omega, fun z => hc (Or.inr z), rfl⟩
theorem am_geti_ok {σ : am_S} {a ci k : Nat} {v : Int32} (h : am_geti σ a ci k = some v) : ∃ fs, am_obj σ a ci = some fs ∧ fs[k]? = some (.int v) := by
  unfold am_geti at h
  obtain ⟨fs, ho, h⟩ := Option.bind_eq_some_iff.mp h
  split at h
  · rename_i x hx
    cases h
    exact ⟨fs, ho, hx⟩
  · cases h
theorem am_getr_ok {σ : am_S} {a ci k v : Nat} (h : am_getr σ a ci k = some v) : ∃ fs, am_obj σ a ci = some fs ∧ fs[k]? = some (.ref v) := by
  unfold am_getr at h
  obtain ⟨fs, ho, h⟩ := Option.bind_eq_some_iff.mp h
  split at h
  · rename_i x hx
    cases h
    exact ⟨fs, ho, hx⟩
  · cases h
theorem am_cpy_ok {σ σ' : am_S} {a0 a : Nat} {sp dp n : Int32} (h : am_cpy B σ a0 sp a dp n = some σ') : ∃ x y, am_arr σ a0 = some x ∧ am_arr σ a = some y ∧ B ≤ a0 ∧ B ≤ a ∧ ¬ sp < 0 ∧ ¬ dp < 0 ∧ ¬ n < 0 ∧ sp.toNatClampNeg + n.toNatClampNeg ≤ x.1 ∧ dp.toNatClampNeg + n.toNatClampNeg ≤ y.1 ∧ σ' = (σ.1, am_upd σ.2.1 a (.inl (y.1, va_cpy x.2 y.2 sp.toNatClampNeg dp.toNatClampNeg n.toNatClampNeg)), σ.2.2) := by
  unfold am_cpy at h
  obtain ⟨x, ho, h⟩ := Option.bind_eq_some_iff.mp h
  obtain ⟨y, ho2, h⟩ := Option.bind_eq_some_iff.mp h
  split at h
  · cases h
  · rename_i hc
    cases h
    exact ⟨x, y, ho, ho2, by omega, by omega, fun z => hc (by simp [z]), fun z => hc (by simp [z]), fun z => hc (by simp [z]), by omega, by omega, rfl⟩
end AMU
