/-! TYPES of the class, 2: what types are made of; frames; append and make -/
def ty_fold {α : Type} (z : α) (g : Int32 → α → α → α) (T : Nat → Int32 × Int32 × Int32) : Nat → Int32 → α
  | 0, _ => z
  | k + 1, i => if i = -1 then z else g (T i.toNatClampNeg).1 (ty_fold z g T k (T i.toNatClampNeg).2.1) (ty_fold z g T k (T i.toNatClampNeg).2.2)
def ty_in (n : Nat) (i : Int32) : Prop := i = -1 ∨ ∃ a, a < n ∧ i = nI a
def ty_wf (T : Nat → Int32 × Int32 × Int32) (n : Nat) : Prop := ∀ j, j < n → ty_in j (T j).2.1 ∧ ty_in j (T j).2.2
theorem ty_in.mono {n m : Nat} {i : Int32} (h : ty_in n i) (hm : n ≤ m) : ty_in m i := h.imp id fun ⟨a, h1, h2⟩ => ⟨a, by omega, h2⟩
theorem ty_fold_eq {α : Type} {z : α} {g : Int32 → α → α → α} {T T' : Nat → Int32 × Int32 × Int32} {n : Nat} (hw : ty_wf T n) (hT : ∀ j, j < n → T' j = T j) (hn : n < 2 ^ 31) : ∀ (m k k' : Nat) (i : Int32), m ≤ n → ty_in m i → m ≤ k → m ≤ k' → ty_fold z g T k i = ty_fold z g T' k' i := by
  intro m
  induction m using Nat.strongRecOn with
  | ind m ih =>
    intro k k' i hm hi hk hk'
    rcases hi with rfl | ⟨a, ha, rfl⟩
    · cases k <;> cases k' <;> simp [ty_fold]
    · obtain ⟨k, rfl⟩ : ∃ q, k = q + 1 := ⟨k - 1, by omega⟩
      obtain ⟨k', rfl⟩ : ∃ q, k' = q + 1 := ⟨k' - 1, by omega⟩
      have hne := nI_ne_m1 (show a < 2 ^ 31 by omega)
      have hc := nI_clamp (show a < 2 ^ 31 by omega)
      obtain ⟨h1, h2⟩ := hw a (by omega)
      simp only [ty_fold, if_neg hne, hc, hT a (by omega)]
      rw [ih a ha k k' _ (by omega) h1 (by omega) (by omega), ih a ha k k' _ (by omega) h2 (by omega) (by omega)]
/-- symbols, height, prefix of a type of a table of n -/
def ty_sz (T : Nat → Int32 × Int32 × Int32) (n : Nat) (i : Int32) : Nat := ty_fold 0 (fun _ a b => 1 + a + b) T n i
def ty_ht (T : Nat → Int32 × Int32 × Int32) (n : Nat) (i : Int32) : Nat := ty_fold 0 (fun _ a b => 1 + max a b) T n i
def ty_pr (T : Nat → Int32 × Int32 × Int32) (n : Nat) (i : Int32) : List Int32 := ty_fold [] (fun c a b => c :: (a ++ b)) T n i
theorem ty_sz_m1 {T : Nat → Int32 × Int32 × Int32} {n : Nat} : ty_sz T n (-1) = 0 := by unfold ty_sz; cases n <;> simp [ty_fold]
theorem ty_ht_m1 {T : Nat → Int32 × Int32 × Int32} {n : Nat} : ty_ht T n (-1) = 0 := by unfold ty_ht; cases n <;> simp [ty_fold]
/-- one more type -/
def ty_add (T : Nat → Int32 × Int32 × Int32) (n : Nat) (q : Int32 × Int32 × Int32) : Nat → Int32 × Int32 × Int32 := fun j => if j = n then q else T j
def ty_okk (P : hp_P) (n : Nat) (T : Nat → Int32 × Int32 × Int32) : Prop := ty_ok P n T ∧ ty_wf T n ∧ ∀ j, j < n → (P.2 703).2 j = nI (ty_sz T n (nI j)) ∧ (P.2 704).2 j = nI (ty_ht T n (nI j)) ∧ ty_sz T n (nI j) ≤ 200 ∧ ty_ht T n (nI j) ≤ 24
/-- cells that no role has -/
def hp_jk (ρ : hp_L) (a : Nat) (c : am_C) : Prop := (∀ x ∈ hp_cs, ρ.1 x ≠ a) ∧ (∀ r ∈ hp_rs, ρ.2.1 r ≠ a) ∧ ρ.2.2.1 a = some c
/-- the arrays that grow -/
def hp_gs : List Nat := [700, 701, 702, 703, 704, 705, 706, 102, 104, 105, 106, 107, 108, 109, 110, 301, 302, 304, 405, 406, 407, 408, 807]
def hp_len (P : hp_P) : Nat := (hp_gs.map fun r => (P.2 r).1).sum
/-- what stays over a piece of work: all roles but those of S; what it makes is paid for by the arrays' growth, and e cells -/
def hp_fr (S : Nat → Bool) (e : Nat) (ρ : hp_L) (P : hp_P) (ρ' : hp_L) (P' : hp_P) : Prop :=
  ρ'.1 = ρ.1 ∧ (∀ r, S r = false → P'.1 r = P.1 r ∧ P'.2 r = P.2 r ∧ ρ'.2.1 r = ρ.2.1 r) ∧ (∀ a c, hp_jk ρ a c → hp_jk ρ' a c) ∧ ρ'.2.2.2.1 + hp_len P ≤ ρ.2.2.2.1 + hp_len P' + e ∧ ρ'.2.2.2.2 + 2 * hp_len P ≤ ρ.2.2.2.2 + 2 * hp_len P' + 8 * e ∧ ∀ r, (P.2 r).1 ≤ (P'.2 r).1
theorem hp_fr.rf {S : Nat → Bool} {ρ : hp_L} {P : hp_P} : hp_fr S 0 ρ P ρ P := ⟨rfl, fun _ _ => ⟨rfl, rfl, rfl⟩, fun _ _ h => h, by omega, by omega, fun _ => Nat.le_refl _⟩
theorem hp_fr.tr {S : Nat → Bool} {e e' : Nat} {ρ ρ' ρ'' : hp_L} {P P' P'' : hp_P} (h : hp_fr S e ρ P ρ' P') (k : hp_fr S e' ρ' P' ρ'' P'') : hp_fr S (e + e') ρ P ρ'' P'' := by
  obtain ⟨h1, h2, h3, h4, h5, h6⟩ := h
  obtain ⟨k1, k2, k3, k4, k5, k6⟩ := k
  refine ⟨k1.trans h1, fun r hr => ⟨(k2 r hr).1.trans (h2 r hr).1, (k2 r hr).2.1.trans (h2 r hr).2.1, (k2 r hr).2.2.trans (h2 r hr).2.2⟩, fun a c hj => k3 a c (h3 a c hj), by omega, by omega, fun r => Nat.le_trans (h6 r) (k6 r)⟩
theorem hp_fr.tr0 {S : Nat → Bool} {ρ ρ' ρ'' : hp_L} {P P' P'' : hp_P} (h : hp_fr S 0 ρ P ρ' P') (k : hp_fr S 0 ρ' P' ρ'' P'') : hp_fr S 0 ρ P ρ'' P'' := by
  have hh := h.tr k
  rw [Nat.add_zero] at hh
  exact hh
theorem hp_fr.weaken {S S' : Nat → Bool} {e : Nat} {ρ ρ' : hp_L} {P P' : hp_P} (h : hp_fr S e ρ P ρ' P') (hs : ∀ r, S' r = false → S r = false) : hp_fr S' e ρ P ρ' P' := ⟨h.1, fun r hr => h.2.1 r (hs r hr), h.2.2⟩
theorem hp_len_sI {P : hp_P} {r : Nat} {v : Int32} : hp_len (hp_sI P r v) = hp_len P := rfl
theorem hp_fr.sI {S : Nat → Bool} {ρ : hp_L} {P : hp_P} {r : Nat} {v : Int32} (h : S r = true) : hp_fr S 0 ρ P ρ (hp_sI P r v) := ⟨rfl, fun x hx => ⟨hI_ne (fun e => by rw [e, h] at hx; cases hx), rfl, rfl⟩, fun _ _ h => h, by rw [hp_len_sI]; omega, by rw [hp_len_sI]; omega, fun _ => Nat.le_refl _⟩
theorem hp_len_sA {P : hp_P} {r : Nat} {i v : Int32} : hp_len (hp_sA P r i v) = hp_len P := by
  unfold hp_len
  congr 1
  exact List.map_congr_left fun x _ => hA_len
theorem hp_fr.sA {S : Nat → Bool} {ρ : hp_L} {P : hp_P} {r : Nat} {i v : Int32} (h : S r = true) : hp_fr S 0 ρ P ρ (hp_sA P r i v) := ⟨rfl, fun x hx => ⟨rfl, hA_ne (fun e => by rw [e, h] at hx; cases hx), rfl⟩, fun _ _ h => h, by rw [hp_len_sA]; omega, by rw [hp_len_sA]; omega, fun _ => by rw [hA_len]; exact Nat.le_refl _⟩
theorem hp_sum_set : ∀ (l : List Nat) (g g' : Nat → Nat) (r k : Nat), l.Nodup → r ∈ l → g' r = g r + k → (∀ x, x ≠ r → g' x = g x) → (l.map g').sum = (l.map g).sum + k
  | [], _, _, _, _, _, h, _, _ => absurd h List.not_mem_nil
  | a :: l, g, g', r, k, hn, hr, h1, h2 => by
    rw [List.nodup_cons] at hn
    simp only [List.map_cons, List.sum_cons]
    by_cases e : a = r
    · have : l.map g' = l.map g := List.map_congr_left fun x hx => h2 x (fun z => hn.1 (by rw [e, ← z]; exact hx))
      rw [this, e, h1]
      omega
    · have hr' : r ∈ l := (List.mem_cons.mp hr).resolve_left (fun z => e z.symm)
      rw [hp_sum_set l g g' r k hn.2 hr' h1 h2, h2 a e]
      omega
/-- an array grows to the double -/
theorem hp_fr.grow {S : Nat → Bool} {B : Nat} {ρ : hp_L} {P : hp_P} {r len : Nat} {g : Nat → Int32} (w : hp_w B ρ) (hS : S r = true) (hg : r ∈ hp_gs) (hl : (P.2 r).1 = len) (h0 : 0 < len) : hp_fr S 0 ρ P (hp_ad ρ r (P.2 r) (2 * len)) (hp_sR P r (2 * len, g)) := by
  have hlen : hp_len (hp_sR P r (2 * len, g)) = hp_len P + len := hp_sum_set hp_gs _ _ r len (by decide) hg (by rw [hR_eq, hl]; show 2 * len = len + len; omega) (fun x hx => by rw [hR_ne hx])
  refine ⟨rfl, fun x hx => ⟨rfl, hR_ne (fun e => by rw [e, hS] at hx; cases hx), ?_⟩, fun a c hj => ?_, ?_, ?_, fun x => ?_⟩
  · show (if x = r then ρ.2.2.2.1 else ρ.2.1 x) = ρ.2.1 x
    rw [if_neg (fun e => by rw [e, hS] at hx; cases hx)]
  · obtain ⟨j1, j2, j3⟩ := hj
    have hrs : r ∈ hp_rs := by
      have : ∀ x ∈ hp_gs, x ∈ hp_rs := by decide
      exact this r hg
    refine ⟨j1, fun x hx => ?_, ?_⟩
    · show (if x = r then ρ.2.2.2.1 else ρ.2.1 x) ≠ a
      split
      · intro e
        have := w.2.2.2.2.2 a (by omega)
        rw [this] at j3
        cases j3
      · exact j2 x hx
    · show (if a = ρ.2.1 r then some (Sum.inl (P.2 r)) else ρ.2.2.1 a) = some c
      rw [if_neg (fun e => j2 r hrs e.symm)]
      exact j3
  · show ρ.2.2.2.1 + 1 + hp_len P ≤ _
    rw [hlen]
    omega
  · show ρ.2.2.2.2 + 2 * len + 2 * hp_len P ≤ _
    rw [hlen]
    omega
  · by_cases e : x = r
    · rw [e, hR_eq, hl]
      show len ≤ 2 * len
      omega
    · rw [hR_ne e]
      exact Nat.le_refl _
