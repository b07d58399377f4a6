/-! THE SOUNDNESS of the abstract machine: what it computes of a method, the machine does -/
/-- what is checked of a row that ends a method -/
def am_term (cc : ByteArray) (ret : Option FieldType) (r : am_I) : Prop := match r.2.1 with
  | .ireturn => decode cc r.1 = .ok (.ireturn, 1) ∧ (r.2.2.2.2.1 = 0 → ret = some .int) ∧ (r.2.2.2.2.1 ≠ 0 → ret = some .boolean)
  | .areturn => decode cc r.1 = .ok (.areturn, 1) ∧ ∃ rt, ret = some rt ∧ ((∃ n, rt = .object n) ∨ ∃ t, rt = .array t)
  | .return_ => decode cc r.1 = .ok (.return_, 1) ∧ ret = none
  | _ => True
/-- what is checked of a method -/
def am_okM (tb : Nat → Option am_M) (M : am_M) : Prop :=
  (∀ r ∈ M.2.2.2.2, r.2.2.2.1 ≠ 1 → am_good tb M.1.cls M.1.name M.2.2.1 M.2.1 r) ∧ (∀ r ∈ M.2.2.2.2, r.2.2.2.1 = 1 → am_term M.2.1 M.2.2.2.1 r) ∧ am_chain M.2.2.2.2 ∧ (∀ e r, M.2.2.2.2.dropWhile (fun e' => e'.1 != 0) = e :: r → e.2.2.2.1 ≠ 1) ∧ plainName M.1.cls = true
theorem am_exec_stop {B : Nat} {sa : Nat → Nat} {dfl : Nat → List Value} {cl : am_F} {code : List am_I} : ∀ (f pc : Nat) (L : am_L) (st : List Value) (σ : am_S) (o : Nat × List Value × am_S), am_exec B sa dfl cl code f pc L st σ = some o → ∃ e r, code.dropWhile (fun e' => e'.1 != o.1) = e :: r ∧ e.2.2.2.1 = 1 := by
  intro f
  induction f with
  | zero => intro pc L st σ o h; cases h
  | succ f ih =>
    intro pc L st σ o h
    unfold am_exec at h
    obtain ⟨o', ho, h⟩ := Option.bind_eq_some_iff.mp h
    split at h
    · cases h
    · rename_i e' r' hd
      split at h
      · rename_i h1
        cases h
        exact ⟨e', r', hd, h1⟩
      · obtain ⟨L', -, h⟩ := Option.bind_eq_some_iff.mp h
        exact ih _ _ _ _ _ h
section AMZ
variable {p : Program} {l : Launch} {e : Env} {R : Room} {s : State} {m : MethodId} {args : Array Value} {below : List Frame} {meth : Method} {c : Code} {Q : State → Prop} {D : va_G} {B : Nat} {sa : Nat → Nat} {cc : ByteArray} {nL d : Nat} {own nm : String} {σ0 σF : am_S} {tb : Nat → Option am_M} {cl : am_F}
theorem am_blk_ok (X : am_X p l R s m args meth c D B sa cc nL d own nm σ0 σF tb cl) {code : List am_I} (hgood : ∀ r ∈ code, r.2.2.2.1 ≠ 1 → am_good tb own nm nL cc r) (hch : am_chain code) (o : am_O) (hstop : am_Gd p l e R s m args below meth c Q D B nL σ0 σF o.1 o.2.1 o.2.2.1 o.2.2.2) :
    ∀ (g : Nat) (a : am_I) (rest : List am_I) (L : am_L) (st : List Value) (σ : am_S), (a :: rest) <:+ code → a.2.2.2.1 ≠ 1 → am_blk B sa am_dfl cl code g (a :: rest) L st σ = some o → am_Gd p l e R s m args below meth c Q D B nL σ0 σF a.1 L st σ := by
  intro g
  induction g with
  | zero => intro a rest L st σ _ _ h; cases h
  | succ g ih =>
    intro a rest L st σ hsuf hns h
    unfold am_blk at h
    have hmem : a ∈ code := hsuf.subset List.mem_cons_self
    refine am_step_ok X (hgood a hmem hns) h (fun L' st' σ' hx => ?_) (fun pc' L' st' σ' hx => ?_)
    · split at hx
      · cases hx
      · rename_i e' r'
        have hc1 := (am_chain_suffix hsuf hch).1
        have hpc : e'.1 = a.1 + a.2.2.1 := hc1.resolve_left hns
        split at hx
        · rename_i hz
          have := ih e' r' L' st' σ' ((List.suffix_cons _ _).trans hsuf) (by rw [hz]; decide) hx
          rw [hpc] at this
          exact this
        · cases hx
          rw [← hpc]
          exact hstop
    · split at hx
      · cases hx
      · rename_i e' r' hd
        have hpc := am_dw_head hd
        split at hx
        · rename_i hz
          have hsuf2 : (e' :: r') <:+ code := by rw [← hd]; exact List.dropWhile_suffix _
          have := ih e' r' L' st' σ' hsuf2 (by rw [hz]; decide) hx
          rw [hpc] at this
          exact this
        · cases hx
          rw [← hpc]
          exact hstop
theorem am_exec_ok (X : am_X p l R s m args meth c D B sa cc nL d own nm σ0 σF tb cl) {code : List am_I} (hgood : ∀ r ∈ code, r.2.2.2.1 ≠ 1 → am_good tb own nm nL cc r) (hch : am_chain code) (o : Nat × List Value × am_S) (hend : ∀ L', am_Gd p l e R s m args below meth c Q D B nL σ0 σF o.1 L' o.2.1 o.2.2) :
    ∀ (f pc : Nat) (L : am_L) (st : List Value) (σ : am_S), (∀ e r, code.dropWhile (fun e' => e'.1 != pc) = e :: r → e.2.2.2.1 ≠ 1) → am_exec B sa am_dfl cl code f pc L st σ = some o → am_Gd p l e R s m args below meth c Q D B nL σ0 σF pc L st σ := by
  intro f
  induction f with
  | zero => intro pc L st σ _ h; cases h
  | succ f ih =>
    intro pc L st σ hns h
    unfold am_exec at h
    obtain ⟨o', ho, h⟩ := Option.bind_eq_some_iff.mp h
    cases hd : code.dropWhile (fun e' => e'.1 != pc) with
    | nil =>
      rw [hd] at ho
      cases hlen : code.length with
      | zero => rw [hlen] at ho; cases ho
      | succ n => rw [hlen] at ho; cases ho
    | cons a rest =>
      rw [hd] at ho
      have hpc := am_dw_head hd
      have hsuf : (a :: rest) <:+ code := by rw [← hd]; exact List.dropWhile_suffix _
      have key : am_Gd p l e R s m args below meth c Q D B nL σ0 σF o'.1 o'.2.1 o'.2.2.1 o'.2.2.2 := by
        split at h
        · cases h
        · rename_i e' r' hd2
          split at h
          · cases h
            exact hend _
          · rename_i hne
            obtain ⟨L', hk, h⟩ := Option.bind_eq_some_iff.mp h
            have h3 := ih _ _ _ _ (fun e2 r2 h2 => by rw [hd2] at h2; cases h2; exact hne) h
            refine ⟨h3.1, fun H locs ls hR hS hls h1 h2 => ?_⟩
            exact h3.2 H locs ls hR hS ⟨hls.1, hls.2.1, fun q hq => hls.2.2 q (am_keep_mem hk q hq)⟩ h1 h2
      have := am_blk_ok X hgood hch o' key _ a rest L st σ hsuf (hns a rest hd) ho
      rw [hpc] at this
      exact this
set_option maxHeartbeats 4000000 in
theorem am_call_ok (l : Launch) (D : va_G) (B : Nat) (sa : Nat → Nat) (tb : Nat → Option am_M) (hok : ∀ mi M, tb mi = some M → am_okM tb M) (f : Nat) : ∀ (d mi : Nat) (as : List Value) (σ : am_S) (v : Option Value) (σ' : am_S), am_call B sa am_dfl tb f d mi as σ = some (v, σ') → ∀ M, tb mi = some M → am_Ct l D B sa M d as σ v σ' := by
  intro d
  induction d with
  | zero => intro mi as σ v σ' h; cases h
  | succ d ih =>
    intro mi as σ v σ' h M hM
    unfold am_call at h
    rw [hM] at h
    simp only [Option.bind_some] at h
    split at h
    · cases h
    · rename_i hlen
      obtain ⟨o, ho, hend⟩ := Option.bind_eq_some_iff.mp h
      obtain ⟨hgood, hterm, hch, hfirst, hplain⟩ := hok mi M hM
      unfold am_Ct
      refine Met.ofW (cc := M.2.1) (maxL := M.2.2.1) (ret := M.2.2.2.1) hplain rfl ?_
      intro p e s m args below meth c s₁ Bd hml hv
      obtain ⟨rfl, hR, hK⟩ := hv
      have hexec := Bd.exec
      have hb := Bd.bytes
      have hr := Bd.returns
      have hlocks := Bd.notSynchronized
      have hts0 := atoms_spec (ws := .code M.1 M.2.1 M.2.2.1 M.2.2.2.1 :: am_W) Bd.pre
      have hts : ∀ w ∈ am_W, w.before as.toArray s = true := fun w hw => hts0 w (List.mem_cons_of_mem _ hw)
      have hown : s.vm.findClass M.1.cls = some m.cls := findClass_of_methodNamed Bd.named
      have hnm : meth.name = M.1.name := (name_of_methodNamed Bd.named Bd.method).1
      have hst := am_end_st hend
      dsimp only at hst
      have X : am_X p l (headSpec (.code M.1 M.2.1 M.2.2.1 M.2.2.2.1 :: am_W) { frames := d + 1, cells := σ'.1 - σ.1, slots := σ'.2.2 - σ.2.2, locals := 64 * (d + 1) }).room s m as.toArray meth c D B sa M.2.1 M.2.2.1 d M.1.cls M.1.name σ σ' tb (am_call B sa am_dfl tb f d) :=
        ⟨⟨hexec, hb, hml, hown, hnm⟩, hts, hK, ⟨rfl, rfl, rfl, rfl⟩, fun mi as σ v σ' h => ⟨am_call_mono d mi as σ v σ' h, ih mi as σ v σ' h⟩⟩
      have hl := lv_entry as (n := M.2.2.1) (Nat.not_lt.mp hlen)
      rw [lg_entry_eq]
      have hG := am_exec_ok (e := e) (below := below) (Q := MQ below (am_Post D B σ σ' v) as.toArray s (σ'.1 - σ.1) (σ'.2.2 - σ.2.2) (am_A B σ)) X hgood hch o ?_ f 0 (lv_args 0 as) [] σ hfirst ho
      · have := hG.2 s.heap [] _ hR ⟨va_S.rf, am_le.rf⟩ hl (Nat.le_refl _) (Nat.le_refl _)
        rw [Nat.sub_self, Nat.sub_self] at this
        exact this
      · intro L'
        refine ⟨by rw [← hst]; exact ⟨Nat.le_refl _, Nat.le_refl _⟩, fun H locs ls hR1 hS1 hls h1 h2 => ?_⟩
        rw [← hst] at hR1 ⊢
        have post : ∀ t : State, t.heap = H → s.WarmedH t.vm → am_Post D B σ σ' v as.toArray s (.returned v) t := fun t ht hW => ⟨rfl, by rw [ht]; exact hR1.moved hW.alike, hS1.1.F ht⟩
        unfold am_end at hend
        split at hend
        · cases hend
        · rename_i e' r' hd
          have hpc := am_dw_head hd
          have hmem : e' ∈ M.2.2.2.2 := (List.dropWhile_suffix (l := M.2.2.2.2) (fun e' => e'.1 != o.1)).subset (by rw [hd]; exact List.mem_cons_self)
          have hone : e'.2.2.2.1 = 1 := by
            obtain ⟨e2, r2, h2, h3⟩ := am_exec_stop _ _ _ _ _ _ ho
            rw [hd] at h2
            cases h2
            exact h3
          have htm := hterm e' hmem hone
          unfold am_term at htm
          split at hend
          · rename_i v9 hi hs
            split at hend
            · rename_i hv9
              cases hend
              rw [hi] at htm
              obtain ⟨hdg, hint, hboo⟩ := htm
              rw [hs, ← hpc]
              by_cases hx : e'.2.2.2.2.1 = 0
              · exact W.iret hexec hb (hr.trans (hint hx)) post hS1.1.2.2 hdg
              · have h01 : v9 = 0 ∨ v9 = 1 := hv9.resolve_left hx
                exact W.zret (ty := .boolean) hexec hb (hr.trans (hboo hx)) (by rcases h01 with rfl | rfl <;> rfl) post hS1.1.2.2 hdg
            · cases hend
          · rename_i a9 hi hs
            cases hend
            rw [hi] at htm
            obtain ⟨hdg, rt, hrt, hk⟩ := htm
            rw [hs, ← hpc]
            exact W.aret hexec hb (hr.trans hrt) hk (Or.inr ⟨_, rfl⟩) post hS1.1.2.2 hdg
          · rename_i hi hs
            cases hend
            rw [hi] at htm
            obtain ⟨hdg, rt, hrt, hk⟩ := htm
            rw [hs, ← hpc]
            exact W.aret hexec hb (hr.trans hrt) hk (Or.inl rfl) post hS1.1.2.2 hdg
          · rename_i hi hs
            cases hend
            rw [hi] at htm
            obtain ⟨hdg, hrt⟩ := htm
            rw [hs, ← hpc]
            exact W.vret hexec hb (hr.trans hrt) post hS1.1.2.2 hdg
          · cases hend
end AMZ
