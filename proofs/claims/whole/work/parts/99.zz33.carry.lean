/-! WHAT STANDS, carried over the other side's works -/
section CAR
variable {sa : Nat → Nat} {B : Nat} {ρ ρ' : hp_L} {P P' : hp_P} {S : qT → Prop} {A : sV} {ws : List Int32} {flt : Int32}
theorem ks_900 {r : Nat} (h : ks_S r = true) : 900 ≤ r := by
  unfold ks_S at h
  rcases Bool.or_eq_true_iff.mp h with z | z
  · have := of_decide_eq_true z
    omega
  · rcases Bool.or_eq_true_iff.mp z with z | z
    · have := of_decide_eq_true z
      omega
    · have := of_decide_eq_true z
      omega
theorem rr_900 {r : Nat} (h : rr_S r = true) : 900 ≤ r := by
  unfold rr_S at h
  rcases Bool.or_eq_true_iff.mp h with z | z
  · have := of_decide_eq_true z
    omega
  · have := of_decide_eq_true z
    omega
/-- the reference looks at its own roles alone -/
theorem mI.c9 (h : mI S A ws flt P) (k : ∀ r, 900 ≤ r → P'.1 r = P.1 r ∧ P'.2 r = P.2 r) : mI S A ws flt P' := by
  obtain ⟨n, T, ns, b, h45, ⟨J1, J2, J3, J4⟩, v, e3⟩ := h
  have c1 : ∀ r, 900 ≤ r → (hp_sI P' 945 (bI false)).1 r = (hp_sI P 945 (bI false)).1 r ∧ (hp_sI P' 945 (bI false)).2 r = (hp_sI P 945 (bI false)).2 r := fun r hr => by
    refine ⟨?_, (k r hr).2⟩
    by_cases e : r = 945
    · rw [e, hI_eq, hI_eq]
    · rw [hI_ne e, hI_ne e]
      exact (k r hr).1
  have hP : ∀ r, rr_S r = true → (kB (P', n, T, ns, b) false).1.1 r = (kB (P, n, T, ns, b) false).1.1 r ∧ (kB (P', n, T, ns, b) false).1.2 r = (kB (P, n, T, ns, b) false).1.2 r := fun r hr => c1 r (rr_900 hr)
  have hnq : ∀ {v M}, nq (kB (P, n, T, ns, b) false) v M → nq (kB (P', n, T, ns, b) false) v M := fun {v M} z => z
  refine ⟨n, T, ns, b, (k 945 (by decide)).1.trans h45, ⟨J1.cg fun r hr => c1 r (ks_900 hr), ⟨J2.1.go hP fun {v t} z => z, J2.2.1.go hP (fun {v t} z => z) hnq, J2.2.2.1.go hP hnq, ⟨?_, fun j h1 h2 => ?_, ?_⟩, ?_⟩, J3, J4⟩, ⟨(k 901 (by decide)).1.trans v.1, v.2.1, ?_, fun i x hx => ?_⟩, (k 903 (by decide)).1.trans e3⟩
  · rw [(hP 938 rfl).2]; exact J2.2.2.2.1.1
  · obtain ⟨nk, nt, z1, z2⟩ := J2.2.2.2.1.2.1 j h1 h2
    exact ⟨nk, nt, z1.go hP, z2⟩
  · unfold r_mo; rw [(hP 939 rfl).2]; exact J2.2.2.2.1.2.2
  · obtain ⟨s1, s2, s3, s4, s5⟩ := J2.2.2.2.2
    exact ⟨(congrArg Prod.fst (c1 902 (by decide)).2).trans s1, (congrArg Prod.fst (c1 947 (by decide)).2).trans s2, (congrArg Prod.fst (c1 948 (by decide)).2).trans s3, (congrArg Prod.fst (c1 950 (by decide)).2).trans s4, (congrArg Prod.fst (c1 952 (by decide)).2).trans s5⟩
  · show (P'.2 902).1 = 20000
    rw [(k 902 (by decide)).2]; exact v.2.2.1
  · show (P'.2 902).2 i = x
    rw [(k 902 (by decide)).2]; exact v.2.2.2 i x hx
theorem mI.fr {F : Nat → Bool} {e : Nat} (h : mI S A ws flt P) (fr : hp_fr F e ρ P ρ' P') (hF : ∀ r, 900 ≤ r → F r = false) : mI S A ws flt P' := h.c9 fun r hr => ⟨(fr.2.1 r (hF r hr)).1, (fr.2.1 r (hF r hr)).2.1⟩
theorem hp_len_m (m : mfr mp_S P P') : hp_len P' = hp_len P := by
  unfold hp_len
  congr 1
  exact List.map_congr_left fun r _ => m.2 r
theorem mp_fr (m : mfr mp_S P P') : hp_fr mp_S 0 ρ P ρ P' := ⟨rfl, fun r hr => ⟨(m.1 r hr).1, (m.1 r hr).2, rfl⟩, fun _ _ h => h, by have := hp_len_m m; omega, by have := hp_len_m m; omega, fun r => Nat.le_of_eq (m.2 r).symm⟩
/-- the class, carried by a frame of other roles -/
theorem tI.fr {F : Nat → Bool} {e : Nat} (h : tI B sa S A ws flt ρ P) (w : hp_w B ρ') (fr : hp_fr F e ρ P ρ' P') (hF : ∀ r, r < 900 → F r = false) : tI B sa S A ws flt ρ' P' := by
  obtain ⟨C, n, T, h1, h2, h3, h4, h5, h6⟩ := h
  exact ⟨C, n, T, h1.fr w fr fun r _ b => hF r (by omega), h2, h3, h4.fr fr (by rw [(fr.2.1 3 (hF 3 (by decide))).2.1]; exact h4.2.2.1) (by rw [(fr.2.1 4 (hF 4 (by decide))).2.1]; exact h4.2.2.2), h5.cg (fr.2.1 808 (hF 808 (by decide))).1 (fr.2.1 807 (hF 807 (by decide))).2.1, by rw [(fr.2.1 809 (hF 809 (by decide))).1]; exact h6⟩
theorem tI.w (h : tI B sa S A ws flt ρ P) : hp_w B ρ := by
  obtain ⟨C, n, T, h1, -⟩ := h
  exact h1.w
theorem tI.fm (h : tI B sa S A ws flt ρ P) (m : mfr mp_S P P') : tI B sa S A ws flt ρ P' := h.fr h.w (mp_fr m) fun r hr => decide_eq_false (by omega)
/-- more of the heap is used -/
def hp_up (ρ : hp_L) (n k : Nat) : hp_L := (ρ.1, ρ.2.1, ρ.2.2.1, n, k)
theorem hp_up_S {n k : Nat} : hp_S sa (hp_up ρ n k) P = (n, (hp_S sa ρ P).2.1, k) := rfl
theorem hp_up_w {n k : Nat} (w : hp_w B ρ) (h : ρ.2.2.2.1 ≤ n) : hp_w B (hp_up ρ n k) := ⟨w.1, w.2.1, w.2.2.1, fun c hc => ⟨(w.2.2.2.1 c hc).1, Nat.lt_of_lt_of_le (w.2.2.2.1 c hc).2 h⟩, fun r hr => ⟨(w.2.2.2.2.1 r hr).1, Nat.lt_of_lt_of_le (w.2.2.2.2.1 r hr).2 h⟩, fun a ha => w.2.2.2.2.2 a (Nat.le_trans h ha)⟩
theorem tI.up {n k : Nat} (h : tI B sa S A ws flt ρ P) (hn : ρ.2.2.2.1 ≤ n) : tI B sa S A ws flt (hp_up ρ n k) P := by
  obtain ⟨C, m, T, h1, h2, h3, h4, h5, h6⟩ := h
  exact ⟨C, m, T, ⟨hp_up_w h1.1 hn, h1.2⟩, h2, h3, h4, h5, h6⟩
theorem hp_len_e : hp_len P = (P.2 700).1 + ((P.2 701).1 + ((P.2 702).1 + ((P.2 703).1 + ((P.2 704).1 + ((P.2 705).1 + ((P.2 706).1 + ((P.2 102).1 + ((P.2 104).1 + ((P.2 105).1 + ((P.2 106).1 + ((P.2 107).1 + ((P.2 108).1 + ((P.2 109).1 + ((P.2 110).1 + ((P.2 301).1 + ((P.2 302).1 + ((P.2 304).1 + ((P.2 405).1 + ((P.2 406).1 + ((P.2 407).1 + ((P.2 408).1 + ((P.2 807).1 + 0)))))))))))))))))))))) := rfl
theorem tl_sum {l7 x102 le lr x304 ls x807 : Nat} (a2 : l7 ≤ 16384) (c2 : x102 ≤ 16000) (d2 : le ≤ 32000) (f2 : lr ≤ 48000) (g4 : x304 ≤ 50000) (e2 : ls ≤ 2048) (h8 : x807 ≤ 40000) : l7 + (l7 + (l7 + (l7 + (l7 + (l7 + (l7 + (x102 + (le + (le + (le + (le + (le + (le + (le + (lr + (lr + (x304 + (ls + (ls + (ls + (ls + (x807 + 0)))))))))))))))))))))) ≤ 548880 := Nat.le_trans (Nat.add_le_add a2 (Nat.add_le_add a2 (Nat.add_le_add a2 (Nat.add_le_add a2 (Nat.add_le_add a2 (Nat.add_le_add a2 (Nat.add_le_add a2 (Nat.add_le_add c2 (Nat.add_le_add d2 (Nat.add_le_add d2 (Nat.add_le_add d2 (Nat.add_le_add d2 (Nat.add_le_add d2 (Nat.add_le_add d2 (Nat.add_le_add d2 (Nat.add_le_add f2 (Nat.add_le_add f2 (Nat.add_le_add g4 (Nat.add_le_add e2 (Nat.add_le_add e2 (Nat.add_le_add e2 (Nat.add_le_add e2 (Nat.add_le_add h8 (Nat.le_refl 0)))))))))))))))))))))))) (Nat.le_of_ble_eq_true rfl)
/-- the class's arrays are not too long -/
theorem tI.len (h : tI B sa S A ws flt ρ P) : hp_len P ≤ 548880 := by
  obtain ⟨C, n, T, h1, h2, h3, h4, h5, h6⟩ := h
  obtain ⟨l7, -, a2, b0, b1, b2, b3, b4, b5, b6⟩ := h1.y.1.1.1.2.1
  obtain ⟨-, -, -, c2, -⟩ := h1.2.1.1
  obtain ⟨-, ⟨le, -, d2, -, d4⟩, -⟩ := h1.2.1.2.1
  obtain ⟨ls, -, e2, -, e4⟩ := h1.2.2.2.1.2.2.2.2.1
  obtain ⟨-, ⟨lr, -, f2, f3, f4, -⟩, -, ⟨-, -, -, g4, -⟩, -⟩ := h1.2.2.2.2.2.2.1
  have h8 := h5.2.2.2.1
  have r1 := d4 104 (by decide) (by decide)
  have r2 := d4 105 (by decide) (by decide)
  have r3 := d4 106 (by decide) (by decide)
  have r4 := d4 107 (by decide) (by decide)
  have r5 := d4 108 (by decide) (by decide)
  have r6 := d4 109 (by decide) (by decide)
  have r7 := d4 110 (by decide) (by decide)
  have s1 := e4 405 (by decide) (by decide)
  have s2 := e4 406 (by decide) (by decide)
  have s3 := e4 407 (by decide) (by decide)
  have s4 := e4 408 (by decide) (by decide)
  rw [hp_len_e, b0, b1, b2, b3, b4, b5, b6, r1, r2, r3, r4, r5, r6, r7, f3, f4, s1, s2, s3, s4]
  exact tl_sum a2 c2 d2 f2 g4 e2 h8
end CAR
