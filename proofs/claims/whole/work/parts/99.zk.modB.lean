/-! THE REFERENCE, 23: variables noted -/
def o_S : Nat → Bool := fun r => decide (r = 951 ∨ r = 952)
def nt_ok (K : kS) (P : hp_P) (vs : List Int32) : Prop := ∀ i c, vs[i]? = some c → ∃ a, a < K.2.1 ∧ (K.2.2.1 a).1 = c ∧ (P.2 952).2 i = nI a
/-- the noted variables -/
def oI (K : kS) (P : hp_P) (vs : List Int32) : Prop := P.1 951 = nI vs.length ∧ vs.length ≤ 250 ∧ vs.Pairwise (fun a b => b < a) ∧ nt_ok K P vs
/-- what noting comes to -/
def nO (vs vs' : List Int32) (V : Int32 → Prop) : Prop := (∀ c ∈ vs, c ∈ vs') ∧ (∀ c ∈ vs', c ∈ vs ∨ V c) ∧ ((∀ c, V c → c ∈ vs') ∨ vs'.length = 250)
theorem nO.rf {vs : List Int32} {V : Int32 → Prop} (h : ∀ c, V c → c ∈ vs) : nO vs vs V := ⟨fun _ z => z, fun _ z => Or.inl z, Or.inl h⟩
theorem nO.tr {vs vs' vs'' : List Int32} {V V' W : Int32 → Prop} (h : nO vs vs' V) (k : nO vs' vs'' V') (hw : ∀ c, W c ↔ V c ∨ V' c) (hn : vs'.Pairwise (fun a b => b < a)) (h250 : vs''.length ≤ 250) : nO vs vs'' W := by
  refine ⟨fun c z => k.1 c (h.1 c z), fun c z => ?_, ?_⟩
  · rcases k.2.1 c z with y | y
    · exact (h.2.1 c y).imp id fun x => (hw c).mpr (Or.inl x)
    · exact Or.inr ((hw c).mpr (Or.inr y))
  · rcases h.2.2 with a | a
    · rcases k.2.2 with b | b
      · exact Or.inl fun c z => ((hw c).mp z).elim (fun y => k.1 c (a c y)) (b c)
      · exact Or.inr b
    · right
      have := nodup_sub (vs_nd hn) k.1
      omega
def q_subl : qT → List qT
  | .leaf _ => []
  | .branch c l r => .branch c l r :: (q_subl l ++ q_subl r)
theorem q_subl_mem {t : qT} : ∀ {u : qT}, t ∈ q_subl u ↔ q_sub t u
  | .leaf _ => ⟨fun z => absurd z List.not_mem_nil, fun z => (show False from z).elim⟩
  | .branch c l r => by
    show t ∈ _ :: (q_subl l ++ q_subl r) ↔ t = _ ∨ q_sub t l ∨ q_sub t r
    rw [List.mem_cons, List.mem_append, q_subl_mem (u := l), q_subl_mem (u := r)]
theorem q_subl_len : ∀ {u : qT}, (q_subl u).length = q_sz u
  | .leaf _ => rfl
  | .branch c l r => by
    show (_ :: (q_subl l ++ q_subl r)).length = 1 + q_sz l + q_sz r
    rw [List.length_cons, List.length_append, q_subl_len (u := l), q_subl_len (u := r)]
    omega
theorem q_vr_inj {a b : Int32} (h : q_vr a = q_vr b) : a = b := (qN_inj.mp h).1
/-- variables of a type are at most its symbols -/
theorem vs_le {vs : List Int32} {u : qT} (hn : vs.Pairwise (fun a b => b < a)) (h : ∀ c ∈ vs, q_sub (q_vr c) u) : vs.length ≤ q_sz u := by
  have := nodup_sub (a := vs.map q_vr) (l := q_subl u) (by
    rw [List.nodup_iff_pairwise_ne, List.pairwise_map]
    exact hn.imp fun {a b} hab e => by rw [q_vr_inj e] at hab; exact Int32.lt_irrefl hab) (fun x hx => by
    obtain ⟨c, hc, e⟩ := List.mem_map.mp hx
    rw [← e]; exact q_subl_mem.mpr (h c hc))
  rw [List.length_map, q_subl_len] at this
  exact this
section NT
variable {Z : Prop} {G : qT → Prop} {L : List qM} {sa : Nat → Nat} {B : Nat} {ρ : hp_L} {K K' K0 K1 : kS} {P : hp_P} {vs : List Int32}
theorem o_ks {r : Nat} (h : ks_S r = true) : o_S r = false := by
  refine decide_eq_false fun z => ?_
  rcases z with rfl | rfl <;> exact absurd h (by decide)
theorem o_rr {r : Nat} (h : rr_S r = true) : o_S r = false := by
  refine decide_eq_false fun z => ?_
  rcases z with rfl | rfl <;> exact absurd h (by decide)
theorem o_dx {P P' : hp_P} (h : mfr o_S P P') : mfr dx_S P P' := h.up fun r hr => by
  have := of_decide_eq_false hr
  refine decide_eq_false fun z => ?_
  omega
theorem kI.o (h : kI Z G L K) (fr : mfr o_S K.1 P) : kI Z G L (P, K.2) := h.cg fun r hr => fr.1 r (o_ks hr)
/-- one is put among them -/
theorem k_ins {cl : am_F} {a : Nat} {c : Int32} (w : hp_w B ρ) (h : kI Z G L K) (ha : a < K.2.1) (ec : (K.2.2.1 a).1 = c) (hp : vs.Pairwise (fun a b => b < a)) (hn : c ∉ vs) (hl : vs.length < 250) : ∀ (k g : Nat) (P : hp_P), mfr o_S K.1 P → (P.2 952).1 = 256 → P.1 951 = nI vs.length → k ≤ vs.length → (∀ i x, i < k → vs[i]? = some x → ∃ b, b < K.2.1 ∧ (K.2.2.1 b).1 = x ∧ (P.2 952).2 i = nI b) → (∀ i x, k ≤ i → vs[i]? = some x → x < c ∧ ∃ b, b < K.2.1 ∧ (K.2.2.1 b).1 = x ∧ (P.2 952).2 (i + 1) = nI b) → k + 1 ≤ g →
    ∃ P' vs', am_go B sa am_dfl cl am_r169 g 93 [(0, .ref (ρ.1 9)), (1, .int (nI a)), (2, .int (nI k))] [] (hp_S sa ρ P) = some (none, hp_S sa ρ P') ∧ mfr o_S K.1 P' ∧ oI K P' vs' ∧ ∀ x, x ∈ vs' ↔ x ∈ vs ∨ x = c := by
  have n8 := h.1.1.2
  have store : ∀ {k : Nat} {P : hp_P}, mfr o_S K.1 P → (P.2 952).1 = 256 → P.1 951 = nI vs.length → k ≤ vs.length → (∀ i x, i < k → vs[i]? = some x → c < x ∧ ∃ b, b < K.2.1 ∧ (K.2.2.1 b).1 = x ∧ (P.2 952).2 i = nI b) → (∀ i x, k ≤ i → vs[i]? = some x → x < c ∧ ∃ b, b < K.2.1 ∧ (K.2.2.1 b).1 = x ∧ (P.2 952).2 (i + 1) = nI b) → mfr o_S K.1 (hp_sI (hp_sA P 952 (nI k) (nI a)) 951 (nI (vs.length + 1))) ∧ oI K (hp_sI (hp_sA P 952 (nI k) (nI a)) 951 (nI (vs.length + 1))) (vs.take k ++ c :: vs.drop k) ∧ ∀ x, x ∈ vs.take k ++ c :: vs.drop k ↔ x ∈ vs ∨ x = c := by
    intro k P fr l2 e1 hk h1 h2
    have e52 : ((hp_sI (hp_sA P 952 (nI k) (nI a)) 951 (nI (vs.length + 1))).2 952).2 = upd (P.2 952).2 k (nI a) := by
      rw [hI_A, hA_eq, nI_clamp (by omega)]
    have ll : (vs.take k ++ c :: vs.drop k).length = vs.length + 1 := by rw [List.length_append, List.length_take, List.length_cons, List.length_drop]; omega
    refine ⟨fr.tr ((mfr.sA rfl).tr (mfr.sI rfl)), ⟨by rw [ll]; exact hI_eq, by rw [ll]; omega, ?_, ?_⟩, fun x => ?_⟩
    · rw [List.pairwise_append]
      refine ⟨hp.sublist (List.take_sublist _ _), List.pairwise_cons.mpr ⟨fun x hx => ?_, hp.sublist (List.drop_sublist _ _)⟩, fun x hx y hy => ?_⟩
      · obtain ⟨i, hi, e⟩ := List.mem_iff_getElem.mp hx
        have : (vs.drop k)[i]? = some x := List.getElem?_eq_some_iff.mpr ⟨hi, e⟩
        rw [List.getElem?_drop] at this
        exact (h2 (k + i) x (by omega) this).1
      · obtain ⟨i, hi, e⟩ := List.mem_iff_getElem.mp hx
        rw [List.length_take] at hi
        have hxi : vs[i]? = some x := by
          have : (vs.take k)[i]? = some x := List.getElem?_eq_some_iff.mpr ⟨by rw [List.length_take]; exact hi, e⟩
          rw [List.getElem?_take] at this
          split at this
          · exact this
          · cases this
        have hcx := (h1 i x (by omega) hxi).1
        rcases List.mem_cons.mp hy with z | z
        · rw [z]; exact hcx
        · obtain ⟨j, hj, e'⟩ := List.mem_iff_getElem.mp z
          have : (vs.drop k)[j]? = some y := List.getElem?_eq_some_iff.mpr ⟨hj, e'⟩
          rw [List.getElem?_drop] at this
          exact Int32.lt_trans (h2 (k + j) y (by omega) this).1 hcx
    · intro i x hi
      rw [e52]
      by_cases z1 : i < k
      · rw [List.getElem?_append_left (by rw [List.length_take]; omega), List.getElem?_take, if_pos z1] at hi
        rw [pk_un (by omega)]
        exact (h1 i x z1 hi).2
      · rw [List.getElem?_append_right (by rw [List.length_take]; omega), List.length_take, Nat.min_eq_left hk] at hi
        by_cases z2 : i = k
        · rw [z2, Nat.sub_self] at hi
          rw [z2, pk_us]
          exact ⟨a, ha, by rw [ec]; exact Option.some.inj hi, rfl⟩
        · obtain ⟨q, rfl⟩ : ∃ q, i = k + q + 1 := ⟨i - k - 1, by omega⟩
          rw [show k + q + 1 - k = q + 1 by omega, List.getElem?_cons_succ, List.getElem?_drop] at hi
          rw [pk_un (by omega)]
          exact (h2 (k + q) x (by omega) hi).2
    · rw [List.mem_append, List.mem_cons]
      constructor
      · rintro (z | z | z)
        · exact Or.inl (List.mem_of_mem_take z)
        · exact Or.inr z
        · exact Or.inl (List.mem_of_mem_drop z)
      · rintro (z | z)
        · rw [← List.take_append_drop k vs, List.mem_append] at z
          exact z.elim Or.inl fun y => Or.inr (Or.inr y)
        · exact Or.inr (Or.inl z)
  intro k
  induction k with
  | zero =>
    intro g P fr l2 e1 hk h1 h2 hg
    obtain ⟨g, rfl⟩ : ∃ x, g = x + 1 := ⟨g - 1, by omega⟩
    have ck : hp_ck P 952 (nI 0) = some () := hp_ck_nI (by rw [l2]; omega) (by decide)
    rw [am_s169_93]
    simp only [am_c_le, am_c_ge, hr_952 w, ht_952 w, ck, hA_I, hg_951 w, e1, hs_951 w, nI_1, Option.bind_some]
    rw [if_pos (show (nI 0 : Int32) ≤ 0 by decide)]
    obtain ⟨s1, s2, s3⟩ := store fr l2 e1 hk (fun i x hi => absurd hi (Nat.not_lt_zero _)) h2
    exact ⟨_, _, rfl, s1, s2, s3⟩
  | succ k ih =>
    intro g P fr l2 e1 hk h1 h2 hg
    obtain ⟨g, rfl⟩ : ∃ x, g = x + 1 := ⟨g - 1, by omega⟩
    have ck : hp_ck P 952 (nI (k + 1)) = some () := hp_ck_nI (by rw [l2]; omega) (by omega)
    have kl : k < vs.length := by omega
    have hk' := List.getElem?_eq_getElem kl
    obtain ⟨b, b1, b2, b3⟩ := h1 k _ (by omega) hk'
    have r52 : hp_rd P 952 (nI (k + 1) - 1) = some (nI b) := by rw [nI_pred, hp_rd_nI (by rw [l2]; omega) (by omega), b3]
    have kP' := h.o fr
    have rb := (kP'.rdT (show b < (P, K.2).2.1 from b1)).1
    have ra := (kP'.rdT (show a < (P, K.2).2.1 from ha)).1
    have rb : hp_rd P 905 (nI b) = some (K.2.2.1 b).1 := rb
    have ra : hp_rd P 905 (nI a) = some (K.2.2.1 a).1 := ra
    rw [am_s169_93]
    simp only [am_c_le, am_c_ge, hr_905 w, hr_952 w, hl_952 w, r52, hl_905 w, rb, ra, ht_952 w, ck, hA_I, hg_951 w, e1, hs_951 w, nI_1, Option.bind_some]
    rw [if_neg (show ¬ (nI (k + 1) : Int32) ≤ 0 from nI_nle (by omega) (by omega)), b2, ec]
    by_cases e : c ≤ vs[k]
    · rw [if_pos e]
      have clt : c < vs[k] := by
        rcases Int32.lt_or_eq_of_le e with z | z
        · exact z
        · exact absurd (z ▸ List.getElem_mem kl) hn
      have h1' : ∀ i x, i < k + 1 → vs[i]? = some x → c < x ∧ ∃ b, b < K.2.1 ∧ (K.2.2.1 b).1 = x ∧ (P.2 952).2 i = nI b := fun i x hi hx => by
        refine ⟨?_, h1 i x hi hx⟩
        by_cases z : i = k
        · rw [z, hk'] at hx; rw [← Option.some.inj hx]; exact clt
        · have il := (List.getElem?_eq_some_iff.mp hx)
          have := List.pairwise_iff_getElem.mp hp i k il.1 kl (by omega)
          rw [← il.2]
          exact Int32.lt_trans clt this
      obtain ⟨s1, s2, s3⟩ := store (k := k + 1) fr l2 e1 hk h1' h2
      exact ⟨_, _, rfl, s1, s2, s3⟩
    · rw [if_neg e]
      have ek : nI (k + 1) + Int32.ofInt (-1) = nI k := by
        have : nI (k + 1) + Int32.ofInt (-1) = nI (k + 1) - 1 := by rw [Int32.sub_eq_add_neg]; rfl
        rw [this, nI_pred]
      rw [ek]
      have e52 : ((hp_sA P 952 (nI (k + 1)) (nI b)).2 952).2 = upd (P.2 952).2 (k + 1) (nI b) := by rw [hA_eq, nI_clamp (by omega)]
      refine ih g (hp_sA P 952 (nI (k + 1)) (nI b)) (fr.tr (mfr.sA rfl)) (by rw [hA_len]; exact l2) e1 (by omega) (fun i x hi hx => ?_) (fun i x hi hx => ?_) (by omega)
      · rw [e52, pk_un (by omega)]; exact h1 i x (by omega) hx
      · rw [e52]
        by_cases z : i = k
        · rw [z, hk'] at hx
          rw [z, pk_us, ← Option.some.inj hx]
          exact ⟨Int32.not_le.mp e, b, b1, b2, rfl⟩
        · rw [pk_un (by omega)]; exact h2 i x (by omega) hx
/-- noteType -/
theorem k_noteT {f : Nat} {kk : Int32 → Nat} (hk0 : ∀ c, c < 0 → kk c = 0) (w : hp_w B ρ) (h : kI Z G L K) (har : ty_ar kk K.2.2.1 K.2.1) (l2 : (K.1.2 952).1 = 256) (hf : 1000 ≤ f) : ∀ (a d : Nat) (P : hp_P) (vs : List Int32), a < K.2.1 → mfr o_S K.1 P → oI K P vs → q_ht (ct K.2.2.1 K.2.1 (nI a)) ≤ d →
    ∃ P' vs', am_call B sa am_dfl am_tb f (d + 1) 169 [.ref (ρ.1 9), .int (nI a)] (hp_S sa ρ P) = some (none, hp_S sa ρ P') ∧ mfr o_S K.1 P' ∧ oI K P' vs' ∧ nO vs vs' (fun c => c < 0 ∧ q_sub (q_vr c) (ct K.2.2.1 K.2.1 (nI a))) := by
  obtain ⟨f, rfl⟩ : ∃ g, f = g + 1 := ⟨f - 1, by omega⟩
  intro a
  induction a using Nat.strongRecOn with
  | ind a ih =>
    intro d P vs ha fr ho hd
    have n8 := h.1.1.2
    obtain ⟨r0, r1, r2⟩ := (h.o fr).rdT (show a < (P, K.2).2.1 from ha)
    have r0 : hp_rd P 905 (nI a) = some (K.2.2.1 a).1 := r0
    have r1 : hp_rd P 906 (nI a) = some (K.2.2.1 a).2.1 := r1
    have r2 : hp_rd P 907 (nI a) = some (K.2.2.1 a).2.2 := r2
    have e0 := ct_at h.wf h.n31 ha
    have e0h : q_ht (ct K.2.2.1 K.2.1 (nI a)) = 1 + max (q_ht (ct K.2.2.1 K.2.1 (K.2.2.1 a).2.1)) (q_ht (ct K.2.2.1 K.2.1 (K.2.2.1 a).2.2)) := by rw [e0]; rfl
    rw [am_c_169, am_s169_0]
    simp only [hr_905 w, hl_905 w, r0, Option.bind_some, am_c_lt, am_c_eq]
    by_cases hc : (K.2.2.1 a).1 < 0
    · rw [if_pos hc]
      have ev : ct K.2.2.1 K.2.1 (nI a) = q_vr (K.2.2.1 a).1 := by
        have := ty_vrow hk0 h har ha hc
        rw [e0, this, ct_m1]; rfl
      have V : ∀ c, (c < 0 ∧ q_sub (q_vr c) (ct K.2.2.1 K.2.1 (nI a))) ↔ c = (K.2.2.1 a).1 := by
        intro c
        rw [ev]
        refine ⟨fun z => q_vr_inj (q_sub_0 z.2), fun z => ?_⟩
        rw [z]; exact ⟨hc, q_sub_rf⟩
      obtain ⟨o1, o2, o3, o4⟩ := ho
      have l2' : (P.2 952).1 = 256 := by rw [fr.2]; exact l2
      have loop : ∀ (j k g : Nat), vs.length - k = j → k ≤ vs.length → (∀ i x, i < k → vs[i]? = some x → x ≠ (K.2.2.1 a).1) → j + 400 ≤ g → ∃ P' vs', am_go B sa am_dfl (am_call B sa am_dfl am_tb (f + 1) d) am_r169 g 52 [(0, .ref (ρ.1 9)), (1, .int (nI a)), (2, .int (nI k))] [] (hp_S sa ρ P) = some (none, hp_S sa ρ P') ∧ mfr o_S K.1 P' ∧ oI K P' vs' ∧ nO vs vs' (fun c => c < 0 ∧ q_sub (q_vr c) (ct K.2.2.1 K.2.1 (nI a))) := by
        intro j
        induction j with
        | zero =>
          intro k g hj hk hne hg
          obtain ⟨g, rfl⟩ : ∃ x, g = x + 1 := ⟨g - 1, by omega⟩
          have hn : (K.2.2.1 a).1 ∉ vs := fun z => by
            obtain ⟨i, hi, e⟩ := List.mem_iff_getElem.mp z
            exact hne i _ (by omega) (List.getElem?_eq_some_iff.mpr ⟨hi, e⟩) rfl
          rw [am_s169_52]
          simp only [hg_951 w, o1, Option.bind_some, am_c_ge, am_c_ne]
          rw [if_pos (nI_le (by omega) (by omega))]
          by_cases e : vs.length = 250
          · rw [if_neg (fun z => z (by rw [e]; rfl))]
            exact ⟨P, vs, rfl, fr, ⟨o1, o2, o3, o4⟩, fun _ z => z, fun _ z => Or.inl z, Or.inr e⟩
          · rw [if_pos (show (nI vs.length : Int32) ≠ 250 from fun z => e ((nI_eq (b := 250) (by omega) (by decide)).mp z))]
            obtain ⟨P', vs', q1, q2, q3, q4⟩ := k_ins (sa := sa) (cl := am_call B sa am_dfl am_tb (f + 1) d) (a := a) w h ha rfl o3 hn (by omega) vs.length g P fr l2' o1 (Nat.le_refl _) (fun i x hi hx => o4 i x hx) (fun i x hi hx => by have := (List.getElem?_eq_some_iff.mp hx).1; omega) (by omega)
            refine ⟨P', vs', q1, q2, q3, fun c z => (q4 c).mpr (Or.inl z), fun c z => ?_, Or.inl fun c z => (q4 c).mpr (Or.inr ((V c).mp z))⟩
            exact ((q4 c).mp z).imp id fun y => (V c).mpr y
        | succ j ih' =>
          intro k g hj hk hne hg
          obtain ⟨g, rfl⟩ : ∃ x, g = x + 1 := ⟨g - 1, by omega⟩
          have kl : k < vs.length := by omega
          have hk' := List.getElem?_eq_getElem kl
          obtain ⟨b, b1, b2, b3⟩ := o4 k _ hk'
          have r52 : hp_rd P 952 (nI k) = some (nI b) := by rw [hp_rd_nI (by rw [l2']; omega) (by omega), b3]
          rw [am_s169_52]
          simp only [hg_951 w, o1, Option.bind_some, am_c_ge, am_c_ne, hr_952 w, hl_952 w, r52]
          rw [if_neg (nI_ge kl (by omega))]
          by_cases e : b = a
          · rw [if_neg (fun z => z (by rw [e]))]
            refine ⟨P, vs, rfl, fr, ⟨o1, o2, o3, o4⟩, nO.rf fun c z => ?_⟩
            rw [(V c).mp z, ← e, b2]; exact List.getElem_mem kl
          · rw [if_pos (fun z => e ((nI_eq (by omega) (by omega)).mp z)), nI_1]
            refine ih' (k + 1) g (by omega) (by omega) (fun i x hi hx => ?_) (by omega)
            by_cases z : i = k
            · rw [z, hk'] at hx
              rw [← Option.some.inj hx, ← b2]
              exact fun y => e (ty_vinj hk0 h har ha b1 hc y)
            · exact hne i x (by omega) hx
      exact loop vs.length 0 f (by omega) (by omega) (fun i x hi => absurd hi (Nat.not_lt_zero _)) (by omega)
    · rw [if_neg hc]
      simp only [hr_906 w, hl_906 w, r1, hr_907 w, hl_907 w, r2, Option.bind_some]
      have V : ∀ c, (c < 0 ∧ q_sub (q_vr c) (ct K.2.2.1 K.2.1 (nI a))) ↔ (c < 0 ∧ q_sub (q_vr c) (ct K.2.2.1 K.2.1 (K.2.2.1 a).2.1)) ∨ (c < 0 ∧ q_sub (q_vr c) (ct K.2.2.1 K.2.1 (K.2.2.1 a).2.2)) := by
        intro c
        rw [e0, q_sub_N]
        constructor
        · rintro ⟨z, y | y | y⟩
          · exact absurd ((qN_inj.mp y).1 ▸ z) hc
          · exact Or.inl ⟨z, y⟩
          · exact Or.inr ⟨z, y⟩
        · rintro (⟨z, y⟩ | ⟨z, y⟩)
          · exact ⟨z, Or.inr (Or.inl y)⟩
          · exact ⟨z, Or.inr (Or.inr y)⟩
      have sub : ∀ {x : Int32} {P : hp_P} {vs : List Int32}, ty_in a x → x ≠ -1 → mfr o_S K.1 P → oI K P vs → q_ht (ct K.2.2.1 K.2.1 x) + 1 ≤ d → ∃ d', d = d' + 1 ∧ ∃ P' vs', am_call B sa am_dfl am_tb (f + 1) (d' + 1) 169 [.ref (ρ.1 9), .int x] (hp_S sa ρ P) = some (none, hp_S sa ρ P') ∧ mfr o_S K.1 P' ∧ oI K P' vs' ∧ nO vs vs' (fun c => c < 0 ∧ q_sub (q_vr c) (ct K.2.2.1 K.2.1 x)) := by
        intro x P vs hx hne fr ho hd
        obtain ⟨i, i1, rfl⟩ := hx.resolve_left hne
        exact ⟨d - 1, by omega, ih i i1 (d - 1) P vs (by omega) fr ho (by omega)⟩
      have no1 : ∀ {x : Int32} {vs : List Int32}, x = -1 → nO vs vs (fun c => c < 0 ∧ q_sub (q_vr c) (ct K.2.2.1 K.2.1 x)) := fun {x vs} e => nO.rf fun c z => by
        rw [e, ct_m1] at z; exact (show False from z.2).elim
      by_cases el : (K.2.2.1 a).2.1 = -1
      · rw [if_pos el]
        by_cases er : (K.2.2.1 a).2.2 = -1
        · rw [if_pos er]
          exact ⟨P, vs, rfl, fr, ho, (no1 el).tr (no1 er) V ho.2.2.1 ho.2.1⟩
        · rw [if_neg er]
          obtain ⟨d', rfl, P', vs', q1, q2, q3, q4⟩ := sub ((h.wf a ha).2) er fr ho (by omega)
          simp only [hx_9 w, Option.bind_some]
          rw [q1, am_v_some]
          exact ⟨P', vs', rfl, q2, q3, (no1 el).tr q4 V ho.2.2.1 q3.2.1⟩
      · rw [if_neg el]
        obtain ⟨d', rfl, P', vs', q1, q2, q3, q4⟩ := sub ((h.wf a ha).1) el fr ho (by omega)
        simp only [hx_9 w, Option.bind_some]
        rw [q1, am_v_some]
        have r2' : hp_rd P' 907 (nI a) = some (K.2.2.1 a).2.2 := ((h.o q2).rdT (show a < (P', K.2).2.1 from ha)).2.2
        simp only [hr_907 w, hl_907 w, r2', Option.bind_some]
        by_cases er : (K.2.2.1 a).2.2 = -1
        · rw [if_pos er]
          exact ⟨P', vs', rfl, q2, q3, q4.tr (no1 er) V q3.2.2.1 q3.2.1⟩
        · rw [if_neg er]
          obtain ⟨d'', hd'', P'', vs'', t1, t2, t3, t4⟩ := sub ((h.wf a ha).2) er q2 q3 (by omega)
          obtain rfl : d' = d'' := by omega
          simp only [hx_9 w, Option.bind_some]
          rw [t1, am_v_some]
          exact ⟨P'', vs'', rfl, t2, t3, q4.tr t4 V q3.2.2.1 t3.2.1⟩
end NT
