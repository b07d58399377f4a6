/-! the step theorem, case by case -/
section AMV
variable {p : Program} {l : Launch} {e : Env} {R : Room} {s : State} {m : MethodId} {args : Array Value} {below : List Frame} {meth : Method} {c : Code} {Q : State → Prop} {D : va_G} {B : Nat} {sa : Nat → Nat} {cc : ByteArray} {nL d : Nat} {own nm : String} {σ0 σF : am_S} {tb : Nat → Option am_M} {cl : am_F}
set_option maxHeartbeats 8000000 in
set_option maxRecDepth 20000 in
theorem am_step_ok {α : Type} (X : am_X p l R s m args meth c D B sa cc nL d own nm σ0 σF tb cl) {r : am_I} (hg : am_good tb own nm nL cc r) {L : am_L} {st : List Value} {σ : am_S} {nx : am_L → List Value → am_S → Option α} {jp : Nat → am_L → List Value → am_S → Option α} {o : α}
    (h : am_step B sa am_dfl cl r L st σ nx jp = some o)
    (hn : ∀ (L' : am_L) (st' : List Value) (σ' : am_S), nx L' st' σ' = some o → am_Gd p l e R s m args below meth c Q D B nL σ0 σF (r.1 + r.2.2.1) L' st' σ')
    (hj : ∀ (pc' : Nat) (L' : am_L) (st' : List Value) (σ' : am_S), jp pc' L' st' σ' = some o → am_Gd p l e R s m args below meth c Q D B nL σ0 σF pc' L' st' σ') : am_Gd p l e R s m args below meth c Q D B nL σ0 σF r.1 L st σ := by
  obtain ⟨pc, ins, len, stop, x, y, z⟩ := r
  obtain ⟨hdg, hg⟩ := hg
  have X0 := X
  obtain ⟨⟨hexec, hb, hml, hown, hnm⟩, hts, hK, ⟨hfr, hlo, hrc, hrs⟩, hcl⟩ := X
  dsimp only at hdg hn ⊢
  cases ins with
  | iconst n =>
    unfold am_step at h
    dsimp only at h hg
    subst hg
    obtain ⟨hF, hw⟩ := hn _ _ _ h
    exact ⟨hF, fun H locs ls hR hS hls h1 h2 => lv_iconst hexec hb hdg rfl (hw H locs ls hR hS hls h1 h2)⟩
  | bipush n =>
    unfold am_step at h
    dsimp only at h hg
    subst hg
    obtain ⟨hF, hw⟩ := hn _ _ _ h
    exact ⟨hF, fun H locs ls hR hS hls h1 h2 => lv_bipush hexec hb hdg rfl (hw H locs ls hR hS hls h1 h2)⟩
  | sipush n =>
    unfold am_step at h
    dsimp only at h hg
    subst hg
    obtain ⟨hF, hw⟩ := hn _ _ _ h
    exact ⟨hF, fun H locs ls hR hS hls h1 h2 => lv_sipush hexec hb hdg rfl (hw H locs ls hR hS hls h1 h2)⟩
  | aconst_null =>
    unfold am_step at h
    dsimp only at h hg
    subst hg
    obtain ⟨hF, hw⟩ := hn _ _ _ h
    exact ⟨hF, fun H locs ls hR hS hls h1 h2 => lv_null hexec hb hdg (hw H locs ls hR hS hls h1 h2)⟩
  | ldc i =>
    unfold am_step at h
    dsimp only at h hg
    obtain ⟨rfl, hc⟩ := hg
    obtain ⟨hF, hw⟩ := hn _ _ _ h
    exact ⟨hF, fun H locs ls hR hS hls h1 h2 => lv_ldc hexec hb hown (hts _ hc) hdg (hw H locs ls hR hS hls h1 h2)⟩
  | ldc_w i =>
    unfold am_step at h
    dsimp only at h hg
    obtain ⟨rfl, hc⟩ := hg
    obtain ⟨hF, hw⟩ := hn _ _ _ h
    exact ⟨hF, fun H locs ls hR hS hls h1 h2 => lv_ldcw hexec hb hown (hts _ hc) hdg (hw H locs ls hR hS hls h1 h2)⟩
  | iload_n k =>
    unfold am_step at h
    dsimp only at h hg
    subst hg
    split at h
    · rename_i v hv
      obtain ⟨hF, hw⟩ := hn _ _ _ h
      exact ⟨hF, fun H locs ls hR hS hls h1 h2 => lv_iload_n hexec hb hdg rfl (am_lk_has hls hv) (hw H locs ls hR hS hls h1 h2)⟩
    · cases h
  | iload k =>
    unfold am_step at h
    dsimp only at h hg
    subst hg
    split at h
    · rename_i v hv
      obtain ⟨hF, hw⟩ := hn _ _ _ h
      exact ⟨hF, fun H locs ls hR hS hls h1 h2 => lv_iload hexec hb hdg (am_lk_has hls hv) (hw H locs ls hR hS hls h1 h2)⟩
    · cases h
  | aload_n k =>
    unfold am_step at h
    dsimp only at h hg
    subst hg
    split at h
    · rename_i v hv
      obtain ⟨hF, hw⟩ := hn _ _ _ h
      exact ⟨hF, fun H locs ls hR hS hls h1 h2 => lv_aload_n hexec hb hdg rfl (am_lk_has hls hv) (hw H locs ls hR hS hls h1 h2)⟩
    · rename_i hv
      obtain ⟨hF, hw⟩ := hn _ _ _ h
      exact ⟨hF, fun H locs ls hR hS hls h1 h2 => lv_aload_nN hexec hb hdg rfl (am_lk_has hls hv) (hw H locs ls hR hS hls h1 h2)⟩
    · cases h
  | aload k =>
    unfold am_step at h
    dsimp only at h hg
    subst hg
    split at h
    · rename_i v hv
      obtain ⟨hF, hw⟩ := hn _ _ _ h
      exact ⟨hF, fun H locs ls hR hS hls h1 h2 => lv_aload hexec hb hdg (am_lk_has hls hv) (hw H locs ls hR hS hls h1 h2)⟩
    · rename_i hv
      obtain ⟨hF, hw⟩ := hn _ _ _ h
      exact ⟨hF, fun H locs ls hR hS hls h1 h2 => lv_aloadN hexec hb hdg (am_lk_has hls hv) (hw H locs ls hR hS hls h1 h2)⟩
    · cases h
  | istore_n k =>
    unfold am_step at h
    dsimp only at h hg
    obtain ⟨rfl, hk⟩ := hg
    split at h
    · obtain ⟨hF, hw⟩ := hn _ _ _ h
      exact ⟨hF, fun H locs ls hR hS hls h1 h2 => lv_istore_n hexec hb hdg rfl hls hk rfl fun ls' hl' => hw H locs ls' hR hS hl' h1 h2⟩
    · cases h
  | istore k =>
    unfold am_step at h
    dsimp only at h hg
    obtain ⟨rfl, hk⟩ := hg
    split at h
    · obtain ⟨hF, hw⟩ := hn _ _ _ h
      exact ⟨hF, fun H locs ls hR hS hls h1 h2 => lv_istore hexec hb hdg hls hk rfl fun ls' hl' => hw H locs ls' hR hS hl' h1 h2⟩
    · cases h
  | astore_n k =>
    unfold am_step at h
    dsimp only at h hg
    obtain ⟨rfl, hk⟩ := hg
    split at h
    · obtain ⟨hF, hw⟩ := hn _ _ _ h
      exact ⟨hF, fun H locs ls hR hS hls h1 h2 => lv_astore_n hexec hb hdg rfl hls hk rfl fun ls' hl' => hw H locs ls' hR hS hl' h1 h2⟩
    · obtain ⟨hF, hw⟩ := hn _ _ _ h
      exact ⟨hF, fun H locs ls hR hS hls h1 h2 => lv_astore_nN hexec hb hdg rfl hls hk rfl fun ls' hl' => hw H locs ls' hR hS hl' h1 h2⟩
    · cases h
  | astore k =>
    unfold am_step at h
    dsimp only at h hg
    obtain ⟨rfl, hk⟩ := hg
    split at h
    · obtain ⟨hF, hw⟩ := hn _ _ _ h
      exact ⟨hF, fun H locs ls hR hS hls h1 h2 => lv_astore hexec hb hdg hls hk rfl fun ls' hl' => hw H locs ls' hR hS hl' h1 h2⟩
    · obtain ⟨hF, hw⟩ := hn _ _ _ h
      exact ⟨hF, fun H locs ls hR hS hls h1 h2 => lv_astoreN hexec hb hdg hls hk rfl fun ls' hl' => hw H locs ls' hR hS hl' h1 h2⟩
    · cases h
  | iinc k n =>
    unfold am_step at h
    dsimp only at h hg
    obtain ⟨rfl, hk⟩ := hg
    split at h
    · rename_i v hv
      obtain ⟨hF, hw⟩ := hn _ _ _ h
      obtain ⟨kk, hkk⟩ := List.getElem?_of_mem (am_lk_mem hv)
      exact ⟨hF, fun H locs ls hR hS hls h1 h2 => lv_iinc hexec hb hdg hls hkk rfl hk rfl fun ls' hl' => hw H locs ls' hR hS hl' h1 h2⟩
    · cases h
  | iadd =>
    unfold am_step at h
    dsimp only at h hg
    subst hg
    split at h
    · obtain ⟨hF, hw⟩ := hn _ _ _ h
      exact ⟨hF, fun H locs ls hR hS hls h1 h2 => lv_iadd hexec hb hdg (hw H locs ls hR hS hls h1 h2)⟩
    · cases h
  | isub =>
    unfold am_step at h
    dsimp only at h hg
    subst hg
    split at h
    · obtain ⟨hF, hw⟩ := hn _ _ _ h
      exact ⟨hF, fun H locs ls hR hS hls h1 h2 => lv_isub hexec hb hdg (hw H locs ls hR hS hls h1 h2)⟩
    · cases h
  | imul =>
    unfold am_step at h
    dsimp only at h hg
    subst hg
    split at h
    · obtain ⟨hF, hw⟩ := hn _ _ _ h
      exact ⟨hF, fun H locs ls hR hS hls h1 h2 => lv_imul hexec hb hdg (hw H locs ls hR hS hls h1 h2)⟩
    · cases h
  | iand =>
    unfold am_step at h
    dsimp only at h hg
    subst hg
    split at h
    · obtain ⟨hF, hw⟩ := hn _ _ _ h
      exact ⟨hF, fun H locs ls hR hS hls h1 h2 => lv_iand hexec hb hdg (hw H locs ls hR hS hls h1 h2)⟩
    · cases h
  | ixor =>
    unfold am_step at h
    dsimp only at h hg
    subst hg
    split at h
    · obtain ⟨hF, hw⟩ := hn _ _ _ h
      exact ⟨hF, fun H locs ls hR hS hls h1 h2 => lv_ixor hexec hb hdg (hw H locs ls hR hS hls h1 h2)⟩
    · cases h
  | ineg =>
    unfold am_step at h
    dsimp only at h hg
    subst hg
    split at h
    · obtain ⟨hF, hw⟩ := hn _ _ _ h
      exact ⟨hF, fun H locs ls hR hS hls h1 h2 => lv_ineg hexec hb hdg (hw H locs ls hR hS hls h1 h2)⟩
    · cases h
  | iushr =>
    unfold am_step at h
    dsimp only at h hg
    subst hg
    split at h
    · obtain ⟨hF, hw⟩ := hn _ _ _ h
      exact ⟨hF, fun H locs ls hR hS hls h1 h2 => lv_iushr hexec hb hdg rfl (hw H locs ls hR hS hls h1 h2)⟩
    · cases h
  | idiv =>
    unfold am_step at h
    dsimp only at h hg
    subst hg
    split at h
    · split at h
      · cases h
      · rename_i hne
        obtain ⟨hF, hw⟩ := hn _ _ _ h
        exact ⟨hF, fun H locs ls hR hS hls h1 h2 => lv_idiv hexec hb hdg hne (hw H locs ls hR hS hls h1 h2)⟩
    · cases h
  | irem =>
    unfold am_step at h
    dsimp only at h hg
    subst hg
    split at h
    · split at h
      · cases h
      · rename_i hne
        obtain ⟨hF, hw⟩ := hn _ _ _ h
        exact ⟨hF, fun H locs ls hR hS hls h1 h2 => lv_irem hexec hb hdg hne (hw H locs ls hR hS hls h1 h2)⟩
    · cases h
  | dup =>
    unfold am_step at h
    dsimp only at h hg
    subst hg
    split at h
    · obtain ⟨hF, hw⟩ := hn _ _ _ h
      exact ⟨hF, fun H locs ls hR hS hls h1 h2 => lv_dup hexec hb hdg rfl (hw H locs ls hR hS hls h1 h2)⟩
    · obtain ⟨hF, hw⟩ := hn _ _ _ h
      exact ⟨hF, fun H locs ls hR hS hls h1 h2 => lv_dup hexec hb hdg rfl (hw H locs ls hR hS hls h1 h2)⟩
    · cases h
  | pop =>
    unfold am_step at h
    dsimp only at h hg
    subst hg
    split at h
    · obtain ⟨hF, hw⟩ := hn _ _ _ h
      exact ⟨hF, fun H locs ls hR hS hls h1 h2 => lv_pop hexec hb hdg rfl (hw H locs ls hR hS hls h1 h2)⟩
    · obtain ⟨hF, hw⟩ := hn _ _ _ h
      exact ⟨hF, fun H locs ls hR hS hls h1 h2 => lv_pop hexec hb hdg rfl (hw H locs ls hR hS hls h1 h2)⟩
    · cases h
  | dup2 =>
    unfold am_step at h
    dsimp only at h hg
    subst hg
    split at h
    · obtain ⟨hF, hw⟩ := hn _ _ _ h
      exact ⟨hF, fun H locs ls hR hS hls h1 h2 => lv_dup2_11 hexec hb hdg rfl rfl (hw H locs ls hR hS hls h1 h2)⟩
    · cases h
  | goto off =>
    unfold am_step at h
    dsimp only at h hg
    obtain ⟨rfl, ht⟩ := hg
    obtain ⟨hF, hw⟩ := hj _ _ _ _ h
    exact ⟨hF, fun H locs ls hR hS hls h1 h2 => lv_goto hexec hb hdg ht (hw H locs ls hR hS hls h1 h2)⟩
  | if_icmp cd off =>
    unfold am_step at h
    dsimp only at h hg
    obtain ⟨rfl, ht⟩ := hg
    split at h
    · split at h
      · rename_i hc
        obtain ⟨hF, hw⟩ := hj _ _ _ _ h
        refine ⟨hF, fun H locs ls hR hS hls h1 h2 => ?_⟩
        have hk := hw H locs ls hR hS hls h1 h2
        cases cd <;> simp only [am_cond, decide_eq_true_eq] at hc
        · exact lv_icmp_eq hexec hb hdg ht (fun _ => hk) (fun hc2 => absurd hc (by first | exact hc2 | exact fun h9 => h9 hc2))
        · exact lv_icmp_ne hexec hb hdg ht (fun _ => hk) (fun hc2 => absurd hc (by first | exact hc2 | exact fun h9 => h9 hc2))
        · exact lv_icmp_lt hexec hb hdg ht (fun _ => hk) (fun hc2 => absurd hc (by first | exact hc2 | exact fun h9 => h9 hc2))
        · exact lv_icmp_ge hexec hb hdg ht (fun _ => hk) (fun hc2 => absurd hc (by first | exact hc2 | exact fun h9 => h9 hc2))
        · exact lv_icmp_gt hexec hb hdg ht (fun _ => hk) (fun hc2 => absurd hc (by first | exact hc2 | exact fun h9 => h9 hc2))
        · exact lv_icmp_le hexec hb hdg ht (fun _ => hk) (fun hc2 => absurd hc (by first | exact hc2 | exact fun h9 => h9 hc2))
      · rename_i hc
        obtain ⟨hF, hw⟩ := hn _ _ _ h
        refine ⟨hF, fun H locs ls hR hS hls h1 h2 => ?_⟩
        have hk := hw H locs ls hR hS hls h1 h2
        cases cd <;> simp only [am_cond, decide_eq_true_eq] at hc
        · exact lv_icmp_eq hexec hb hdg ht (fun hc2 => absurd hc2 hc) (fun _ => hk)
        · exact lv_icmp_ne hexec hb hdg ht (fun hc2 => absurd hc2 hc) (fun _ => hk)
        · exact lv_icmp_lt hexec hb hdg ht (fun hc2 => absurd hc2 hc) (fun _ => hk)
        · exact lv_icmp_ge hexec hb hdg ht (fun hc2 => absurd hc2 hc) (fun _ => hk)
        · exact lv_icmp_gt hexec hb hdg ht (fun hc2 => absurd hc2 hc) (fun _ => hk)
        · exact lv_icmp_le hexec hb hdg ht (fun hc2 => absurd hc2 hc) (fun _ => hk)
    · cases h
  | ifCond cd off =>
    unfold am_step at h
    dsimp only at h hg
    obtain ⟨rfl, ht⟩ := hg
    split at h
    · split at h
      · rename_i hc
        obtain ⟨hF, hw⟩ := hj _ _ _ _ h
        refine ⟨hF, fun H locs ls hR hS hls h1 h2 => ?_⟩
        have hk := hw H locs ls hR hS hls h1 h2
        cases cd <;> simp only [am_cond, decide_eq_true_eq] at hc
        · exact lv_if_eq hexec hb hdg ht (fun _ => hk) (fun hc2 => absurd hc (by first | exact hc2 | exact fun h9 => h9 hc2))
        · exact lv_if_ne hexec hb hdg ht (fun _ => hk) (fun hc2 => absurd hc (by first | exact hc2 | exact fun h9 => h9 hc2))
        · exact lv_if_lt hexec hb hdg ht (fun _ => hk) (fun hc2 => absurd hc (by first | exact hc2 | exact fun h9 => h9 hc2))
        · exact lv_if_ge hexec hb hdg ht (fun _ => hk) (fun hc2 => absurd hc (by first | exact hc2 | exact fun h9 => h9 hc2))
        · exact lv_if_gt hexec hb hdg ht (fun _ => hk) (fun hc2 => absurd hc (by first | exact hc2 | exact fun h9 => h9 hc2))
        · exact lv_if_le hexec hb hdg ht (fun _ => hk) (fun hc2 => absurd hc (by first | exact hc2 | exact fun h9 => h9 hc2))
      · rename_i hc
        obtain ⟨hF, hw⟩ := hn _ _ _ h
        refine ⟨hF, fun H locs ls hR hS hls h1 h2 => ?_⟩
        have hk := hw H locs ls hR hS hls h1 h2
        cases cd <;> simp only [am_cond, decide_eq_true_eq] at hc
        · exact lv_if_eq hexec hb hdg ht (fun hc2 => absurd hc2 hc) (fun _ => hk)
        · exact lv_if_ne hexec hb hdg ht (fun hc2 => absurd hc2 hc) (fun _ => hk)
        · exact lv_if_lt hexec hb hdg ht (fun hc2 => absurd hc2 hc) (fun _ => hk)
        · exact lv_if_ge hexec hb hdg ht (fun hc2 => absurd hc2 hc) (fun _ => hk)
        · exact lv_if_gt hexec hb hdg ht (fun hc2 => absurd hc2 hc) (fun _ => hk)
        · exact lv_if_le hexec hb hdg ht (fun hc2 => absurd hc2 hc) (fun _ => hk)
    · cases h
  | ifnull off =>
    unfold am_step at h
    dsimp only at h hg
    obtain ⟨rfl, ht⟩ := hg
    split at h
    · obtain ⟨hF, hw⟩ := hj _ _ _ _ h
      exact ⟨hF, fun H locs ls hR hS hls h1 h2 => lv_ifnullN hexec hb hdg ht (hw H locs ls hR hS hls h1 h2)⟩
    · obtain ⟨hF, hw⟩ := hn _ _ _ h
      exact ⟨hF, fun H locs ls hR hS hls h1 h2 => lv_ifnull hexec hb hdg (hw H locs ls hR hS hls h1 h2)⟩
    · cases h
  | ifnonnull off =>
    unfold am_step at h
    dsimp only at h hg
    obtain ⟨rfl, ht⟩ := hg
    split at h
    · obtain ⟨hF, hw⟩ := hn _ _ _ h
      exact ⟨hF, fun H locs ls hR hS hls h1 h2 => lv_ifnonnullN hexec hb hdg (hw H locs ls hR hS hls h1 h2)⟩
    · obtain ⟨hF, hw⟩ := hj _ _ _ _ h
      exact ⟨hF, fun H locs ls hR hS hls h1 h2 => lv_ifnonnull hexec hb hdg ht (hw H locs ls hR hS hls h1 h2)⟩
    · cases h
  | tableswitch dflt lo hi offs =>
    unfold am_step at h
    dsimp only at h hg
    obtain ⟨hhi, hd0, hos⟩ := hg
    split at h
    · rename_i v r9
      rcases am_sw_ok (P := fun w => w = some o) _ _ _ _ h with ⟨h1, h2⟩ | ⟨i, of, h1, h2, h3⟩
      · obtain ⟨hF, hw⟩ := hj _ _ _ _ h2
        refine ⟨hF, fun H locs ls hR hS hls g1 g2 => lv_tableOut hexec hb hdg ?_ (Int.toNat_of_nonneg hd0).symm (hw H locs ls hR hS hls g1 g2)⟩
        rw [Array.length_toList] at h1
        omega
      · obtain ⟨hF, hw⟩ := hj _ _ _ _ h3
        have hm : of ∈ offs.toList := List.mem_of_getElem? h2
        have hil : i < offs.size := by rw [← Array.length_toList]; exact (List.getElem?_eq_some_iff.mp h2).1
        refine ⟨hF, fun H locs ls hR hS hls g1 g2 => lv_tableIn hexec hb hdg (by omega) (by omega) (off := of) ?_ (Int.toNat_of_nonneg (hos of hm)).symm (hw H locs ls hR hS hls g1 g2)⟩
        rw [show (v.toInt - lo).toNat = i by omega, ← Array.getElem?_toList]
        exact h2
    · cases h
  | getfield i =>
    unfold am_step at h
    dsimp only at h hg
    obtain ⟨rfl, q, hq, hy, hlk⟩ := hg
    have hlk2 : Cond.fieldLink own i (q.2.1 y).1 (q.2.1 y).2.1 (q.2.1 y).2.2.1 ∈ am_W ∨ ∃ host, va_Nw (.fieldLinkNest own i (q.2.1 y).1 (q.2.1 y).2.1 (q.2.1 y).2.2.1 host) s := hlk.imp id fun ⟨host, hh⟩ => ⟨host, hK.2.1 _ hh⟩
    split at h
    · split at h
      · obtain ⟨v, hv, h⟩ := Option.bind_eq_some_iff.mp h
        obtain ⟨fs, ho, hfv⟩ := am_geti_ok hv
        obtain ⟨hF, hw⟩ := hn _ _ _ h
        exact ⟨hF, fun H locs ls hR hS hls h1 h2 => am_w_get hexec hb hts hown hK.1 hR ho hfv hq hy hlk2 hdg (hw H locs ls hR hS hls h1 h2)⟩
      · obtain ⟨v, hv, h⟩ := Option.bind_eq_some_iff.mp h
        obtain ⟨fs, ho, hfv⟩ := am_getr_ok hv
        obtain ⟨hF, hw⟩ := hn _ _ _ h
        exact ⟨hF, fun H locs ls hR hS hls h1 h2 => am_w_get hexec hb hts hown hK.1 hR ho hfv hq hy hlk2 hdg (hw H locs ls hR hS hls h1 h2)⟩
    · cases h
  | putfield i =>
    unfold am_step at h
    dsimp only at h hg
    obtain ⟨rfl, q, ty, hq, hd, hi0, hi2, hi1, hlk⟩ := hg
    have hlk2 : ((q.2.1 y).2.2.2 = false ∧ (Cond.fieldLink own i (q.2.1 y).1 (q.2.1 y).2.1 (q.2.1 y).2.2.1 ∈ am_W ∨ ∃ host, va_Nw (.fieldLinkNest own i (q.2.1 y).1 (q.2.1 y).2.1 (q.2.1 y).2.2.1 host) s)) ∨ ((q.2.1 y).2.2.2 = true ∧ meth.name = "<init>" ∧ (q.2.1 y).1 = own ∧ Cond.fieldLink own i (q.2.1 y).1 (q.2.1 y).2.1 (q.2.1 y).2.2.1 ∈ am_W) := hlk.imp (fun ⟨g1, g2⟩ => ⟨g1, g2.imp id fun ⟨host, hh⟩ => ⟨host, hK.2.1 _ hh⟩⟩) fun ⟨g1, g2, g3⟩ => ⟨g1, hnm.trans g2, g3⟩
    split at h
    · split at h
      · rename_i hz
        have hty := hi0 hz
        subst hty
        obtain ⟨σ', hv, h⟩ := Option.bind_eq_some_iff.mp h
        obtain ⟨fs, ho, hBa, hkl, rfl⟩ := am_put_ok hv
        obtain ⟨hF, hw⟩ := hn _ _ _ h
        exact ⟨hF, fun H locs ls hR hS hls h1 h2 => am_w_put hexec hb hts hown hK.1 hR hS ho hBa hkl hq hd rfl rfl hlk2 hdg fun H1 locs1 hR1 hS1 => hw H1 locs1 ls hR1 hS1 hls h1 h2⟩
      · split at h
        · rename_i hz
          have hty := hi2 hz
          subst hty
          split at h
          · rename_i h01
            have hbo : ∀ w : Int32, w = 0 ∨ w = 1 → narrow .boolean (.int w) = .int w ∧ fits .boolean (.int w) = true := by
              intro w hw9
              rcases hw9 with rfl | rfl <;> exact ⟨rfl, rfl⟩
            obtain ⟨σ', hv, h⟩ := Option.bind_eq_some_iff.mp h
            obtain ⟨fs, ho, hBa, hkl, rfl⟩ := am_put_ok hv
            obtain ⟨hF, hw⟩ := hn _ _ _ h
            exact ⟨hF, fun H locs ls hR hS hls h1 h2 => am_w_put hexec hb hts hown hK.1 hR hS ho hBa hkl hq hd (hbo _ h01).1 (hbo _ h01).2 hlk2 hdg fun H1 locs1 hR1 hS1 => hw H1 locs1 ls hR1 hS1 hls h1 h2⟩
          · cases h
        · cases h
    · split at h
      · rename_i hz
        have hrf : ∀ a : Nat, narrow ty (.ref a) = .ref a ∧ fits ty (.ref a) = true := by
          intro a
          rcases hi1 hz with ⟨n, rfl⟩ | ⟨t, rfl⟩ <;> exact ⟨rfl, rfl⟩
        obtain ⟨σ', hv, h⟩ := Option.bind_eq_some_iff.mp h
        obtain ⟨fs, ho, hBa, hkl, rfl⟩ := am_put_ok hv
        obtain ⟨hF, hw⟩ := hn _ _ _ h
        exact ⟨hF, fun H locs ls hR hS hls h1 h2 => am_w_put hexec hb hts hown hK.1 hR hS ho hBa hkl hq hd (hrf _).1 (hrf _).2 hlk2 hdg fun H1 locs1 hR1 hS1 => hw H1 locs1 ls hR1 hS1 hls h1 h2⟩
      · cases h
    · cases h
  | getstatic i =>
    unfold am_step at h
    dsimp only at h hg
    obtain ⟨rfl, q, hq, hl⟩ := hg
    obtain ⟨hF, hw⟩ := hn _ _ _ h
    exact ⟨hF, fun H locs ls hR hS hls h1 h2 => va_gets hexec hb (hK.2.2.2 x q hq) hS.S hown (hts _ hl) (fun _ h9 => h9) hdg (hw H locs ls hR hS hls h1 h2)⟩
  | iaload =>
    unfold am_step at h
    dsimp only at h hg
    subst hg
    split at h
    · obtain ⟨v, hv, h⟩ := Option.bind_eq_some_iff.mp h
      obtain ⟨x9, ho, hin, rfl⟩ := am_iald_ok hv
      obtain ⟨hF, hw⟩ := hn _ _ _ h
      exact ⟨hF, fun H locs ls hR hS hls h1 h2 => am_w_iald hexec hb hR ho hin hdg (hw H locs ls hR hS hls h1 h2)⟩
    · cases h
  | iastore =>
    unfold am_step at h
    dsimp only at h hg
    subst hg
    split at h
    · obtain ⟨σ', hv, h⟩ := Option.bind_eq_some_iff.mp h
      obtain ⟨y9, ho, hBa, hin, rfl⟩ := am_iast_ok hv
      obtain ⟨hF, hw⟩ := hn _ _ _ h
      exact ⟨hF, fun H locs ls hR hS hls h1 h2 => am_w_iast hexec hb hR hS ho hBa hin hdg fun H1 locs1 hR1 hS1 => hw H1 locs1 ls hR1 hS1 hls h1 h2⟩
    · cases h
  | arraylength =>
    unfold am_step at h
    dsimp only at h hg
    subst hg
    split at h
    · unfold am_alen at h
      obtain ⟨v, hv, h⟩ := Option.bind_eq_some_iff.mp h
      obtain ⟨x9, ho, hx⟩ := Option.bind_eq_some_iff.mp hv
      cases hx
      obtain ⟨hF, hw⟩ := hn _ _ _ h
      exact ⟨hF, fun H locs ls hR hS hls h1 h2 => am_w_alen hexec hb hR ho hdg (hw H locs ls hR hS hls h1 h2)⟩
    · cases h
  | newarray ty =>
    unfold am_step at h
    dsimp only at h hg
    cases ty with
    | int =>
      dsimp only at h hg
      obtain ⟨rfl, hac⟩ := hg
      split at h
      · split at h
        · cases h
        · rename_i n r9 hcond
          obtain ⟨⟨hF1, hF2⟩, hw⟩ := hn _ _ _ h
          simp only [am_nwa] at hF1 hF2
          have hn0 : ¬ n < 0 := fun z => hcond (Or.inl z)
          have hn1 : n.toNatClampNeg ≤ 100000 := by
            have h5 : ¬ (100000 : Int32) < n := fun z => hcond (Or.inr z)
            have h6 : n.toInt ≤ 100000 := by
              have := Int32.le_iff_toInt_le.mp (Int32.not_lt.mp h5)
              simpa using this
            show n.toInt.toNat ≤ 100000
            omega
          refine ⟨⟨by omega, by omega⟩, fun H locs ls hR hS hls h1 h2 => ?_⟩
          refine am_w_newa hexec hb hts hac hR hS hn0 hn1 (by rw [hrc]; omega) (by rw [hrs]; omega) hdg fun H1 locs1 hR1 hS1 => ?_
          have := hw H1 locs1 ls hR1 hS1 hls (by simp only [am_nwa]; omega) (by simp only [am_nwa]; omega)
          simp only [am_nwa] at this
          rw [show σ.1 - σ0.1 + 1 = σ.1 + 1 - σ0.1 by omega, show σ.2.2 - σ0.2.2 + n.toNatClampNeg = σ.2.2 + n.toNatClampNeg - σ0.2.2 by omega]
          exact this
      · cases h
    | _ => cases h
  | new i =>
    unfold am_step at h
    dsimp only at h hg
    obtain ⟨rfl, q, hq, hcl2, hin2, hini, hlen, hfs⟩ := hg
    obtain ⟨⟨hF1, hF2⟩, hw⟩ := hn _ _ _ h
    simp only [am_new] at hF1 hF2
    refine ⟨⟨by omega, by omega⟩, fun H locs ls hR hS hls h1 h2 => ?_⟩
    refine am_w_new hexec hb hts hown hK.1 hR hS hq hcl2 hin2 hini hlen hfs (by rw [hrc]; omega) (by rw [hrs]; omega) hdg fun H1 locs1 hR1 hS1 => ?_
    have := hw H1 locs1 ls hR1 hS1 hls (by simp only [am_new]; omega) (by simp only [am_new]; omega)
    simp only [am_new] at this
    rw [show σ.1 - σ0.1 + 1 = σ.1 + 1 - σ0.1 by omega, show σ.2.2 - σ0.2.2 + (am_dfl x).length = σ.2.2 + (am_dfl x).length - σ0.2.2 by omega]
    exact this
  | invokespecial i =>
    unfold am_step at h
    dsimp only at h hg
    obtain ⟨rfl, hg0, hg1⟩ := hg
    split at h
    · rename_i hz
      obtain ⟨w1, w2, w3⟩ := hg0 hz
      split at h
      · split at h
        · rename_i hsm
          obtain ⟨hF, hw⟩ := hn _ _ _ h
          refine ⟨hF, fun H locs ls hR hS hls h1 h2 => W.objInit hexec hb hown (hts _ w1) (hts _ w2) (hts _ w3) rfl (by rw [hml]; exact hls.1) rfl hdg (by rw [hfr]; omega) ?_ (hw H locs ls hR hS hls h1 h2)⟩
          have := am_small_ok hsm
          show 2 * 0 + _ + 12 ≤ _
          rw [hlo]
          omega
        · cases h
      · cases h
    · rename_i hz
      obtain ⟨M, hM, hce, hret, w1, w2, w3⟩ := hg1 hz
      exact am_inv_I X0 hM hce hret w1 w2 w3 hdg h fun st' σ' h' => hn _ _ _ h'
  | invokevirtual i =>
    unfold am_step at h
    dsimp only at h hg
    obtain ⟨rfl, M, hM, hce, ⟨q, hq, hcq⟩, w1, w2, w3⟩ := hg
    exact am_inv_V X0 hM hce hq hcq w1 w2 w3 hdg h fun st' σ' h' => hn _ _ _ h'
  | invokestatic i =>
    unfold am_step at h
    dsimp only at h hg
    obtain ⟨rfl, hg5, hg6, hg7, hgM⟩ := hg
    split at h
    · rename_i hz
      obtain ⟨w1, w2, w3, w4⟩ := hg5 hz
      split at h
      · split at h
        · rename_i hsm
          obtain ⟨hF, hw⟩ := hn _ _ _ h
          have hs8 := am_small_ok hsm
          exact ⟨hF, fun H locs ls hR hS hls h1 h2 => va_mmax hexec hb (by rw [hml]; exact hls.1.symm) hown (hts _ w1) (hts _ w2) (hts _ w3) (hts _ w4) (by rw [hfr]; omega) (by rw [hlo]; omega) (by rw [hrc]; omega) (by rw [hrs]; omega) hdg (hw H locs ls hR hS hls h1 h2)⟩
        · cases h
      · cases h
    · rename_i hz5
      split at h
      · rename_i hz
        obtain ⟨w1, w2, w3, w4⟩ := hg6 hz
        split at h
        · split at h
          · rename_i hsm
            obtain ⟨hF, hw⟩ := hn _ _ _ h
            have hs8 := am_small_ok hsm
            exact ⟨hF, fun H locs ls hR hS hls h1 h2 => va_mmin hexec hb (by rw [hml]; exact hls.1.symm) hown (hts _ w1) (hts _ w2) (hts _ w3) (hts _ w4) (by rw [hfr]; omega) (by rw [hlo]; omega) (by rw [hrc]; omega) (by rw [hrs]; omega) hdg (hw H locs ls hR hS hls h1 h2)⟩
          · cases h
        · cases h
      · rename_i hz6
        split at h
        · rename_i hz
          obtain ⟨w1, w2, w3, w4⟩ := hg7 hz
          split at h
          · split at h
            · rename_i hsm
              obtain ⟨σ', hv, h⟩ := Option.bind_eq_some_iff.mp h
              obtain ⟨x9, y9, ho, ho2, hB0, hBa, k1, k2, k3, k4, k5, rfl⟩ := am_cpy_ok hv
              obtain ⟨hF, hw⟩ := hn _ _ _ h
              have hs8 := am_small_ok hsm
              refine ⟨hF, fun H locs ls hR hS hls h1 h2 => am_w_cpy hexec hb (by rw [hml]; exact hls.1.symm) hown hts w1 w2 w3 w4 hR hS ho ho2 hB0 hBa k1 k2 k3 k4 k5 (by rw [hfr]; omega) ?_ hdg fun H1 locs1 hR1 hS1 => hw H1 locs1 ls hR1 hS1 hls h1 h2⟩
              have : nativeFrameWords "java/lang/System" "arraycopy" 5 ≤ 40 := by decide +kernel
              rw [hlo]
              omega
            · cases h
          · cases h
        · rename_i hz7
          obtain ⟨M, hM, hce, w1, w2⟩ := hgM hz5 hz6 hz7
          exact am_inv_S X0 hM hce w1 w2 hdg h fun st' σ' h' => hn _ _ _ h'
  | _ => cases h
end AMV
