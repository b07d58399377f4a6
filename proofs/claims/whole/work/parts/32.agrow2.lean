/-! an array grows by TraceJudge.longer, as one step -/
section LG
variable {sa : Nat → Nat} {B : Nat} {ρ : hp_L} {P : hp_P}
theorem lg_102 {α : Type} {K : am_S → Option α} {kn : am_S → Option α} {o f d len : Nat} (w : hp_w B ρ) (ho : ρ.1 1 = o) (hl : (P.2 102).1 = len) (h0 : 0 < len) (h5 : len ≤ 50000) :
    ((am_getr (hp_S sa ρ P) o 1 2).bind fun p => am_p (am_call B sa am_dfl am_tb (f + 1) (d + 2) 118 [.ref p] (hp_S sa ρ P)) (fun p' g' => (am_put B g' o 1 2 (.ref p')).bind K) kn) = K (hp_S sa (ty_g1 len 102 (ρ, P)).1 (ty_g1 len 102 (ρ, P)).2) := by
  subst ho
  simp only [hr_102 w, Option.bind_some, hp_longer w (show 102 ∈ hp_rs by decide) hl h0 h5, am_p_some, hd_102 w]
  rfl
theorem lg_104 {α : Type} {K : am_S → Option α} {kn : am_S → Option α} {o f d len : Nat} (w : hp_w B ρ) (ho : ρ.1 1 = o) (hl : (P.2 104).1 = len) (h0 : 0 < len) (h5 : len ≤ 50000) :
    ((am_getr (hp_S sa ρ P) o 1 4).bind fun p => am_p (am_call B sa am_dfl am_tb (f + 1) (d + 2) 118 [.ref p] (hp_S sa ρ P)) (fun p' g' => (am_put B g' o 1 4 (.ref p')).bind K) kn) = K (hp_S sa (ty_g1 len 104 (ρ, P)).1 (ty_g1 len 104 (ρ, P)).2) := by
  subst ho
  simp only [hr_104 w, Option.bind_some, hp_longer w (show 104 ∈ hp_rs by decide) hl h0 h5, am_p_some, hd_104 w]
  rfl
theorem lg_105 {α : Type} {K : am_S → Option α} {kn : am_S → Option α} {o f d len : Nat} (w : hp_w B ρ) (ho : ρ.1 1 = o) (hl : (P.2 105).1 = len) (h0 : 0 < len) (h5 : len ≤ 50000) :
    ((am_getr (hp_S sa ρ P) o 1 5).bind fun p => am_p (am_call B sa am_dfl am_tb (f + 1) (d + 2) 118 [.ref p] (hp_S sa ρ P)) (fun p' g' => (am_put B g' o 1 5 (.ref p')).bind K) kn) = K (hp_S sa (ty_g1 len 105 (ρ, P)).1 (ty_g1 len 105 (ρ, P)).2) := by
  subst ho
  simp only [hr_105 w, Option.bind_some, hp_longer w (show 105 ∈ hp_rs by decide) hl h0 h5, am_p_some, hd_105 w]
  rfl
theorem lg_106 {α : Type} {K : am_S → Option α} {kn : am_S → Option α} {o f d len : Nat} (w : hp_w B ρ) (ho : ρ.1 1 = o) (hl : (P.2 106).1 = len) (h0 : 0 < len) (h5 : len ≤ 50000) :
    ((am_getr (hp_S sa ρ P) o 1 6).bind fun p => am_p (am_call B sa am_dfl am_tb (f + 1) (d + 2) 118 [.ref p] (hp_S sa ρ P)) (fun p' g' => (am_put B g' o 1 6 (.ref p')).bind K) kn) = K (hp_S sa (ty_g1 len 106 (ρ, P)).1 (ty_g1 len 106 (ρ, P)).2) := by
  subst ho
  simp only [hr_106 w, Option.bind_some, hp_longer w (show 106 ∈ hp_rs by decide) hl h0 h5, am_p_some, hd_106 w]
  rfl
theorem lg_107 {α : Type} {K : am_S → Option α} {kn : am_S → Option α} {o f d len : Nat} (w : hp_w B ρ) (ho : ρ.1 1 = o) (hl : (P.2 107).1 = len) (h0 : 0 < len) (h5 : len ≤ 50000) :
    ((am_getr (hp_S sa ρ P) o 1 7).bind fun p => am_p (am_call B sa am_dfl am_tb (f + 1) (d + 2) 118 [.ref p] (hp_S sa ρ P)) (fun p' g' => (am_put B g' o 1 7 (.ref p')).bind K) kn) = K (hp_S sa (ty_g1 len 107 (ρ, P)).1 (ty_g1 len 107 (ρ, P)).2) := by
  subst ho
  simp only [hr_107 w, Option.bind_some, hp_longer w (show 107 ∈ hp_rs by decide) hl h0 h5, am_p_some, hd_107 w]
  rfl
theorem lg_108 {α : Type} {K : am_S → Option α} {kn : am_S → Option α} {o f d len : Nat} (w : hp_w B ρ) (ho : ρ.1 1 = o) (hl : (P.2 108).1 = len) (h0 : 0 < len) (h5 : len ≤ 50000) :
    ((am_getr (hp_S sa ρ P) o 1 8).bind fun p => am_p (am_call B sa am_dfl am_tb (f + 1) (d + 2) 118 [.ref p] (hp_S sa ρ P)) (fun p' g' => (am_put B g' o 1 8 (.ref p')).bind K) kn) = K (hp_S sa (ty_g1 len 108 (ρ, P)).1 (ty_g1 len 108 (ρ, P)).2) := by
  subst ho
  simp only [hr_108 w, Option.bind_some, hp_longer w (show 108 ∈ hp_rs by decide) hl h0 h5, am_p_some, hd_108 w]
  rfl
theorem lg_109 {α : Type} {K : am_S → Option α} {kn : am_S → Option α} {o f d len : Nat} (w : hp_w B ρ) (ho : ρ.1 1 = o) (hl : (P.2 109).1 = len) (h0 : 0 < len) (h5 : len ≤ 50000) :
    ((am_getr (hp_S sa ρ P) o 1 9).bind fun p => am_p (am_call B sa am_dfl am_tb (f + 1) (d + 2) 118 [.ref p] (hp_S sa ρ P)) (fun p' g' => (am_put B g' o 1 9 (.ref p')).bind K) kn) = K (hp_S sa (ty_g1 len 109 (ρ, P)).1 (ty_g1 len 109 (ρ, P)).2) := by
  subst ho
  simp only [hr_109 w, Option.bind_some, hp_longer w (show 109 ∈ hp_rs by decide) hl h0 h5, am_p_some, hd_109 w]
  rfl
theorem lg_110 {α : Type} {K : am_S → Option α} {kn : am_S → Option α} {o f d len : Nat} (w : hp_w B ρ) (ho : ρ.1 1 = o) (hl : (P.2 110).1 = len) (h0 : 0 < len) (h5 : len ≤ 50000) :
    ((am_getr (hp_S sa ρ P) o 1 10).bind fun p => am_p (am_call B sa am_dfl am_tb (f + 1) (d + 2) 118 [.ref p] (hp_S sa ρ P)) (fun p' g' => (am_put B g' o 1 10 (.ref p')).bind K) kn) = K (hp_S sa (ty_g1 len 110 (ρ, P)).1 (ty_g1 len 110 (ρ, P)).2) := by
  subst ho
  simp only [hr_110 w, Option.bind_some, hp_longer w (show 110 ∈ hp_rs by decide) hl h0 h5, am_p_some, hd_110 w]
  rfl
theorem lg_301 {α : Type} {K : am_S → Option α} {kn : am_S → Option α} {o f d len : Nat} (w : hp_w B ρ) (ho : ρ.1 3 = o) (hl : (P.2 301).1 = len) (h0 : 0 < len) (h5 : len ≤ 50000) :
    ((am_getr (hp_S sa ρ P) o 3 1).bind fun p => am_p (am_call B sa am_dfl am_tb (f + 1) (d + 2) 118 [.ref p] (hp_S sa ρ P)) (fun p' g' => (am_put B g' o 3 1 (.ref p')).bind K) kn) = K (hp_S sa (ty_g1 len 301 (ρ, P)).1 (ty_g1 len 301 (ρ, P)).2) := by
  subst ho
  simp only [hr_301 w, Option.bind_some, hp_longer w (show 301 ∈ hp_rs by decide) hl h0 h5, am_p_some, hd_301 w]
  rfl
theorem lg_302 {α : Type} {K : am_S → Option α} {kn : am_S → Option α} {o f d len : Nat} (w : hp_w B ρ) (ho : ρ.1 3 = o) (hl : (P.2 302).1 = len) (h0 : 0 < len) (h5 : len ≤ 50000) :
    ((am_getr (hp_S sa ρ P) o 3 2).bind fun p => am_p (am_call B sa am_dfl am_tb (f + 1) (d + 2) 118 [.ref p] (hp_S sa ρ P)) (fun p' g' => (am_put B g' o 3 2 (.ref p')).bind K) kn) = K (hp_S sa (ty_g1 len 302 (ρ, P)).1 (ty_g1 len 302 (ρ, P)).2) := by
  subst ho
  simp only [hr_302 w, Option.bind_some, hp_longer w (show 302 ∈ hp_rs by decide) hl h0 h5, am_p_some, hd_302 w]
  rfl
theorem lg_304 {α : Type} {K : am_S → Option α} {kn : am_S → Option α} {o f d len : Nat} (w : hp_w B ρ) (ho : ρ.1 3 = o) (hl : (P.2 304).1 = len) (h0 : 0 < len) (h5 : len ≤ 50000) :
    ((am_getr (hp_S sa ρ P) o 3 4).bind fun p => am_p (am_call B sa am_dfl am_tb (f + 1) (d + 2) 118 [.ref p] (hp_S sa ρ P)) (fun p' g' => (am_put B g' o 3 4 (.ref p')).bind K) kn) = K (hp_S sa (ty_g1 len 304 (ρ, P)).1 (ty_g1 len 304 (ρ, P)).2) := by
  subst ho
  simp only [hr_304 w, Option.bind_some, hp_longer w (show 304 ∈ hp_rs by decide) hl h0 h5, am_p_some, hd_304 w]
  rfl
theorem lg_405 {α : Type} {K : am_S → Option α} {kn : am_S → Option α} {o f d len : Nat} (w : hp_w B ρ) (ho : ρ.1 4 = o) (hl : (P.2 405).1 = len) (h0 : 0 < len) (h5 : len ≤ 50000) :
    ((am_getr (hp_S sa ρ P) o 4 5).bind fun p => am_p (am_call B sa am_dfl am_tb (f + 1) (d + 2) 118 [.ref p] (hp_S sa ρ P)) (fun p' g' => (am_put B g' o 4 5 (.ref p')).bind K) kn) = K (hp_S sa (ty_g1 len 405 (ρ, P)).1 (ty_g1 len 405 (ρ, P)).2) := by
  subst ho
  simp only [hr_405 w, Option.bind_some, hp_longer w (show 405 ∈ hp_rs by decide) hl h0 h5, am_p_some, hd_405 w]
  rfl
theorem lg_406 {α : Type} {K : am_S → Option α} {kn : am_S → Option α} {o f d len : Nat} (w : hp_w B ρ) (ho : ρ.1 4 = o) (hl : (P.2 406).1 = len) (h0 : 0 < len) (h5 : len ≤ 50000) :
    ((am_getr (hp_S sa ρ P) o 4 6).bind fun p => am_p (am_call B sa am_dfl am_tb (f + 1) (d + 2) 118 [.ref p] (hp_S sa ρ P)) (fun p' g' => (am_put B g' o 4 6 (.ref p')).bind K) kn) = K (hp_S sa (ty_g1 len 406 (ρ, P)).1 (ty_g1 len 406 (ρ, P)).2) := by
  subst ho
  simp only [hr_406 w, Option.bind_some, hp_longer w (show 406 ∈ hp_rs by decide) hl h0 h5, am_p_some, hd_406 w]
  rfl
theorem lg_407 {α : Type} {K : am_S → Option α} {kn : am_S → Option α} {o f d len : Nat} (w : hp_w B ρ) (ho : ρ.1 4 = o) (hl : (P.2 407).1 = len) (h0 : 0 < len) (h5 : len ≤ 50000) :
    ((am_getr (hp_S sa ρ P) o 4 7).bind fun p => am_p (am_call B sa am_dfl am_tb (f + 1) (d + 2) 118 [.ref p] (hp_S sa ρ P)) (fun p' g' => (am_put B g' o 4 7 (.ref p')).bind K) kn) = K (hp_S sa (ty_g1 len 407 (ρ, P)).1 (ty_g1 len 407 (ρ, P)).2) := by
  subst ho
  simp only [hr_407 w, Option.bind_some, hp_longer w (show 407 ∈ hp_rs by decide) hl h0 h5, am_p_some, hd_407 w]
  rfl
theorem lg_408 {α : Type} {K : am_S → Option α} {kn : am_S → Option α} {o f d len : Nat} (w : hp_w B ρ) (ho : ρ.1 4 = o) (hl : (P.2 408).1 = len) (h0 : 0 < len) (h5 : len ≤ 50000) :
    ((am_getr (hp_S sa ρ P) o 4 8).bind fun p => am_p (am_call B sa am_dfl am_tb (f + 1) (d + 2) 118 [.ref p] (hp_S sa ρ P)) (fun p' g' => (am_put B g' o 4 8 (.ref p')).bind K) kn) = K (hp_S sa (ty_g1 len 408 (ρ, P)).1 (ty_g1 len 408 (ρ, P)).2) := by
  subst ho
  simp only [hr_408 w, Option.bind_some, hp_longer w (show 408 ∈ hp_rs by decide) hl h0 h5, am_p_some, hd_408 w]
  rfl
theorem lg_807 {α : Type} {K : am_S → Option α} {kn : am_S → Option α} {o f d len : Nat} (w : hp_w B ρ) (ho : ρ.1 8 = o) (hl : (P.2 807).1 = len) (h0 : 0 < len) (h5 : len ≤ 50000) :
    ((am_getr (hp_S sa ρ P) o 8 7).bind fun p => am_p (am_call B sa am_dfl am_tb (f + 1) (d + 2) 118 [.ref p] (hp_S sa ρ P)) (fun p' g' => (am_put B g' o 8 7 (.ref p')).bind K) kn) = K (hp_S sa (ty_g1 len 807 (ρ, P)).1 (ty_g1 len 807 (ρ, P)).2) := by
  subst ho
  simp only [hr_807 w, Option.bind_some, hp_longer w (show 807 ∈ hp_rs by decide) hl h0 h5, am_p_some, hd_807 w]
  rfl
end LG
