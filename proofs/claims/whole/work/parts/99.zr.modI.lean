/-! THE REFERENCE, 30: a new type, what is asked -/
section TY4
variable {Z : Prop} {G : qT → Prop} {L : List qM} {sa : Nat → Nat} {B : Nat} {ρ : hp_L} {K K' K0 K1 K2 : kS} {P : hp_P} {vs : List Int32} {A : sV} {S : qT → Prop} {k fr : Nat} {ws wr : List Int32} {H : List qM} {M : qM}
theorem ct_vr {kk : Int32 → Nat} (hk0 : ∀ c, c < 0 → kk c = 0) (h : kI Z G L K) (har : ty_ar kk K.2.2.1 K.2.1) {a : Nat} (ha : a < K.2.1) (hc : (K.2.2.1 a).1 < 0) : ct K.2.2.1 K.2.1 (nI a) = q_vr (K.2.2.1 a).1 := by
  have := ty_vrow hk0 h har ha hc
  rw [ct_at h.wf h.n31 ha, this, ct_m1]; rfl
set_option maxHeartbeats 8000000 in
theorem e_21 {f d : Nat} (w : hp_w B ρ) (J : kJ S A K0) (hI : aI S A) (hv : vS ws K0) (hs : A.1.length + 2 ≤ 1000) (h8 : A.2.2.2.2.2.1.length < 8000) (h16 : A.2.2.2.2.2.2.length < 16000) (hfr : fr < ws.length) (hf : 100000 ≤ f) :
    eO sa ρ S A 21 fr (ws.drop fr) K0 (am_call B sa am_dfl am_tb f (d + 200) 162 [.ref (ρ.1 9), .int (nI 21)] (hp_S sa ρ (kP K0 (fr + 1) false).1)) := by
  obtain ⟨f, rfl⟩ : ∃ g, f = g + 8 := ⟨f - 8, by omega⟩
  have h40 := hI.2.2.2.1.2.2.2.1
  have h200 := hI.2.2.2.2.1.2
  have har := J.ar hI
  obtain ⟨v1, p1, b1, e1, e2, e3⟩ := k_nextSeq (sa := sa) (f := f + 7) (d := d + 196) (b := false) (p := fr + 1) w hv J.2.1 (by omega)
  rw [am_c_162, am_s162_0, if_neg (by decide), if_neg (by decide), if_neg (by decide), if_neg (by decide), if_neg (by decide), if_neg (by decide), if_neg (by decide), if_neg (by decide), if_neg (by decide), if_neg (by decide), if_neg (by decide), if_pos (show Int32.toInt (nI 21) = 21 by decide)]
  have e1 : am_call B sa am_dfl am_tb (f + 8) (d + 199) 151 [.ref (ρ.1 9)] (hp_S sa ρ (kP K0 (fr + 1) false).1) = _ := e1
  simp only [hx_9 w, Option.bind_some]
  rw [e1, am_i_some]
  simp only [hx_9 w, Option.bind_some]
  refine eO.v ?_
  rw [am_c_172, am_s172_0]
  simp only [hg_945 w, kP_45, Option.bind_some, am_c_eq, am_c_ne]
  rcases e3 with ⟨rfl, -, rfl, j, s, g4, rfl, g5⟩ | ⟨rfl, g2⟩
  · have g4' := w_dr g4
    have l2 : 2 ≤ (ws.drop fr).length := by have := (List.getElem?_eq_some_iff.mp g4').1; omega
    rw [if_pos (show bI false = 0 from rfl)]
    have jl := (List.getElem?_eq_some_iff.mp g5).1
    have ms := List.mem_of_getElem? g5
    have rP : rI A (kP K0 (fr + 1 + 1) false) := kP.r J.2.1 J.1
    have kP0 : kI True S (K0.2.2.2.1 ++ []) (kP K0 (fr + 1 + 1) false) := kI_0 J
    have noN : (∀ old made p kk, ¬ sp_21 A.1 A.2.2.2.1 A.2.2.2.2.1 (nI j) old made p kk) → Zc S A 21 (ws.drop fr) := by
      rintro z ⟨Lc, S', A', -, -, hE⟩
      obtain ⟨old, made, p, kk, y1, -⟩ := kE_21 hE
      rw [wd_at g4'] at y1
      exact z old made p kk y1
    have us : ∀ {s'}, en_at A.1 (nI j) s' → s = s' := fun h => en_nI (by omega) g5 h
    obtain ⟨c1, c2⟩ := rP.c g5
    generalize hp : ((kP K0 (fr + 1 + 1) false).1.2 935).2 j = cc at c1 c2
    have q3 := (J.2.1.2.2.1.2.2.2.2.2 j s g5).2.2.1
    have q4 := (J.2.1.2.2.1.2.2.2.2.2 j s g5).2.2.2.1
    have r37 : hp_rd (kP K0 (fr + 1 + 1) false).1 937 (nI j) = some (nI s.1.length) := by rw [rP.r37 (by decide) (by decide) (by omega)]; exact congrArg some q3
    simp only [hr_935 w, hl_935 w, c1, hr_937 w, hl_937 w, r37, Option.bind_some]
    have bad40 : Zc S A 21 (ws.drop fr) → eO sa ρ S A 21 fr (ws.drop fr) K0 (am_go B sa am_dfl (am_call B sa am_dfl am_tb (f + 8) (d + 198)) am_r172 (f + 7) 40 [(0, .ref (ρ.1 9)), (2, .int cc)] [.int 0, .ref (ρ.1 9)] (hp_S sa ρ (kP K0 (fr + 1 + 1) false).1)) := by
      intro hZ
      rw [am_s172_40]
      simp only [hx_9 w, Option.bind_some]
      rw [m_need0 w kP_45, am_i_some]
      simp only [am_c_ne]
      rw [if_neg (fun z => z rfl), show (1 : Int32) = bI true from rfl, kP_bad]
      exact eO.bad1 hZ J.1 J.2.1
    by_cases sE : s.1 = []
    · have l0 : (nI s.1.length : Int32) = 0 := by rw [sE]; rfl
      rw [if_neg (fun z => z l0)]
      have tb := hI.2.2.2.2.2.1 s ms
      rcases nq_cases kP0 c2 with ⟨u, p, xx, w1, w2, eM, r1, r2, r3, qp, qx, hty⟩ | ⟨t', Y', w1, w2, eM, r1, -⟩ | ⟨x', e', u', k', eM, r1, r2, hx', he⟩
      · simp only [hr_918 w, hl_918 w, r1, Option.bind_some]
        rw [if_neg (fun z => z rfl), am_s172_40]
        simp only [hx_9 w, Option.bind_some]
        rw [m_need1 w kP_45 (by decide), am_i_some]
        simp only [am_c_ne, am_c_eq, am_c_ge, am_c_gt]
        rw [if_pos (by decide)]
        simp only [hr_919 w, hl_919 w, r2, Option.bind_some, hs_951 w, hx_9 w]
        have eu : u = qB := by rw [eM, m_ty_N] at tb; exact tb
        subst eu
        have wp := qp.wf kP0
        have hp120 := (J.mem (show nq K0 w1 p from qp)).2.2.2.1
        have l52 := rP.2.2.2.2.2.2.2.2
        have f1 : mfr o_S (kP K0 (fr + 1 + 1) false).1 (hp_sI (kP K0 (fr + 1 + 1) false).1 951 0) := mfr.sI rfl
        obtain ⟨P2, vs, a1, a2, a3, a4⟩ := k_noteAll (sa := sa) (f := f + 8) (K := kP K0 (fr + 1 + 1) false) q_tk_neg w kP0 har l52 (by omega) p wp (d + 168) _ [] w1 qp f1 (oI_0 _) (by omega)
        rw [a1, am_i_some]
        have r2' : rI A (P2, (kP K0 (fr + 1 + 1) false).2) := rP.cg kP0.wf kP0.n31 (fun r hr => a2.1 r (o_rr hr)) a2.2 ty_xt.rf ⟨[], (List.append_nil _).symm⟩
        have k2' := kP0.o a2
        have e45 : P2.1 945 = bI false := (a2.1 945 rfl).1.trans kP_45
        have bad110 : Zc S A 21 (ws.drop fr) → eO sa ρ S A 21 fr (ws.drop fr) K0 (am_go B sa am_dfl (am_call B sa am_dfl am_tb (f + 8) (d + 198)) am_r172 (f + 6) 110 [(0, .ref (ρ.1 9)), (2, .int cc), (3, .int w1)] [.int 0, .ref (ρ.1 9)] (hp_S sa ρ P2)) := by
          intro hZ
          rw [am_s172_110]
          simp only [hx_9 w, Option.bind_some]
          rw [m_need0 w e45, am_i_some]
          simp only [am_c_ne]
          rw [if_neg (fun z => z rfl)]
          exact eO.bad2 (K1 := (P2, (kP K0 (fr + 1 + 1) false).2)) hZ k2' r2' ⟨kP.dx.tr (o_dx a2), rfl, rfl, rfl⟩
        have up : ∀ {old made p' kk}, sp_21 A.1 A.2.2.2.1 A.2.2.2.2.1 (nI j) old made p' kk → (∀ q ∈ m_fl p, ¬ q_fr q.1) ∧ (∃ vs', vs_of (m_fl p) vs' ∧ vs'.length ≤ 2) ∧ A.2.2.2.1.length < 40 ∧ A.2.2.2.2.1.length + 2 ≤ 200 := by
          rintro old made p' kk ⟨s', xx', vs', z1, z2, z3, z4, z5, z6, z7, z8, -⟩
          obtain rfl := us z1
          rw [eM] at z3
          obtain ⟨-, -, rfl, -⟩ := mN_inj z3
          exact ⟨z4, ⟨vs', z5, z6⟩, z7, z8⟩
        have e51 : P2.1 951 = nI vs.length := a3.1
        have e15 : P2.1 915 = nI A.2.2.2.2.1.length := r2'.1.2.2.2.1
        have e13 : P2.1 913 = nI A.2.2.2.1.length := r2'.1.1
        have e32 : P2.1 932 = nI A.1.length := r2'.2.2.1.1.1
        by_cases cF : ∀ q ∈ m_fl p, ¬ q_fr q.1
        · rw [bP_t cF, if_neg (by decide)]
          simp only [hg_951 w, e51, hg_915 w, e15, hg_913 w, e13, hg_932 w, e32, Option.bind_some]
          have l250 := a3.2.1
          by_cases cV : vs.length < 3
          · rw [if_neg (show ¬ (3 : Int32) ≤ nI vs.length from nI_ge (b := 3) cV (by decide))]
            by_cases cO : A.2.2.2.2.1.length ≤ 198
            · rw [if_neg (show ¬ (198 : Int32) < nI A.2.2.2.2.1.length from nI_nlt (a := 198) cO (by decide))]
              by_cases cK : A.2.2.2.1.length < 40
              · rw [if_neg (show ¬ (40 : Int32) ≤ nI A.2.2.2.1.length from nI_ge (b := 40) cK (by decide)), if_neg (show ¬ (998 : Int32) < nI A.1.length from nI_nlt (a := 998) (by omega) (by decide)), am_s172_110]
                simp only [hx_9 w, Option.bind_some]
                rw [m_need1 w e45 (by decide), am_i_some]
                simp only [am_c_ne, am_c_le]
                rw [if_pos (by decide)]
                have V : ∀ c, c ∈ vs ↔ vs_in (m_fl p) c := fun c => ⟨fun z => (a4.2.1 c z).resolve_left List.not_mem_nil, fun z => a4.2.2.elim (fun q => q c z) fun q => by omega⟩
                have hvs : vs_of (m_fl p) vs := ⟨a3.2.2.1, V⟩
                -- the type's side
                have r3' : hp_rd P2 920 cc = some w2 := by
                  obtain ⟨m1, m2, -, -, m3, -, m4, -⟩ := nq_app k2' (show nq (P2, (kP K0 (fr + 1 + 1) false).2) cc _ from eM ▸ c2)
                  have : m2 = w2 := m4.uq (show nq (P2, (kP K0 (fr + 1 + 1) false).2) w2 xx from qx) k2'
                  rw [← this]; exact m3
                obtain ⟨o, s1, s2⟩ := k2'.rdt (show nq (P2, (kP K0 (fr + 1 + 1) false).2) w2 xx from qx)
                have s1 : hp_rd P2 921 w2 = some o := s1
                have s2 : pl K0.2.1 K0.2.2.1 o (m_ty xx) := s2
                have l14 : (P2.2 914).1 = 42 := r2'.1.2.1
                have ck : hp_ck P2 914 (nI A.2.2.2.1.length) = some () := hp_ck_nI (by rw [l14]; omega) (by omega)
                simp only [hr_921 w, hr_920 w, hl_920 w, r3', hl_921 w, s1, hr_914 w, hg_913 w, e13, hg_951 w, e51, ht_914 w, ck, hA_I, Option.bind_some]
                -- what it is to be
                generalize hmade : q_k (nI A.2.2.2.1.length) vs = made
                have hsp : sp_21 A.1 A.2.2.2.1 A.2.2.2.2.1 (wd (ws.drop fr) 1) (m_ty xx) made p vs.length := by
                  rw [wd_at g4']
                  exact ⟨s, xx, vs, ⟨j, rfl, by omega, g5⟩, sE, eM, cF, hvs, by omega, cK, by omega, rfl, hmade.symm, rfl⟩
                have hzl : ¬ lim21 S (m_tot (sq_rows A.1)) (n21a (m_ty xx) made A.2.2.2.2.1.length) (n21b (m_ty xx) made A.2.2.2.2.1.length p) → Zc S A 21 (ws.drop fr) := by
                  rintro z ⟨Lc, S', A', -, -, hE⟩
                  obtain ⟨old, made', p', kk, y1, y2⟩ := kE_21 hE
                  obtain ⟨rfl, rfl, rfl, rfl⟩ := sp_21_inj hsp y1
                  exact z y2
                have hol := hI.2.2.2.2.1.1
                have ol : 1 ≤ A.2.2.2.2.1.length := by have := (List.getElem?_eq_some_iff.mp hol).1; omega
                have okS := hI.2.2.2.2.2.2.2.1 _ (sq_mc ms)
                rw [eM] at okS
                obtain ⟨-, okp, okx⟩ := m_ok_N.mp okS
                have wx := qx.wf kP0
                have hsg := hI.2.2.2.1
                have hold : q_ok (A.2.2.2.1 ++ [vs.length]) (m_ty xx) := (okx.ty wx).ap cK
                have hmd : q_ok (A.2.2.2.1 ++ [vs.length]) made := by rw [← hmade]; exact q_k_ok hsg cK okp hvs (by omega)
                have hsg' := hsg.ap (k := vs.length) cK (by omega)
                have F1 := q_ok.F hsg' hold hmd
                have F2 := q_ok.F hsg' hmd hold
                have hB := q_ok.B hsg'
                have kV : ∀ {t}, q_ok (A.2.2.2.1 ++ [vs.length]) t → m_ok (A.2.2.2.1 ++ [vs.length]) (mV t) := fun h => m_ok_N.mpr ⟨h, m_ok_lf, m_ok_lf⟩
                have kK : ∀ {c t}, q_ok (A.2.2.2.1 ++ [vs.length]) t → m_ok (A.2.2.2.1 ++ [vs.length]) (mK c t) := fun h => m_ok_N.mpr ⟨h, m_ok_lf, m_ok_lf⟩
                have ka : m_ok (A.2.2.2.1 ++ [vs.length]) (n21a (m_ty xx) made A.2.2.2.2.1.length) := m_ok_E hsg' (m_ok_N.mpr ⟨hmd, kK F1, m_ok_N.mpr ⟨hold, kK F2, kV hmd⟩⟩) (kV hmd) hmd
                have kb : m_ok (A.2.2.2.1 ++ [vs.length]) (n21b (m_ty xx) made A.2.2.2.2.1.length p) := m_ok_E hsg' (m_ok_N.mpr ⟨hB, okp.ap cK, kV hold⟩) (m_ok_E hsg' (m_ok_N.mpr ⟨hold, kK F2, m_ok_N.mpr ⟨hmd, kK F1, kV hold⟩⟩) (kV hold) hold) hB
                have wN1 := n21a_wf1 (old := m_ty xx) (made := made) ol (show A.2.2.2.2.1.length ≤ 900 by omega)
                have wN2 := n21b_wf1 (made := made) ol (show A.2.2.2.2.1.length ≤ 900 by omega) wp hty
                have e2m : ∀ a b : qM, m_tot [a, b] = (m_fl a).length + ((m_fl b).length + 0) := fun _ _ => rfl
                have e0m : m_tot ([] : List qM) = 0 := rfl
                have kz' : kz (Zc S A 21 (ws.drop fr)) (q_un S [n21a (m_ty xx) made A.2.2.2.2.1.length, n21b (m_ty xx) made A.2.2.2.2.1.length p]) (K0.2.2.2.1 ++ [n21a (m_ty xx) made A.2.2.2.2.1.length, n21b (m_ty xx) made A.2.2.2.2.1.length p].flatMap m_subs) := by
                  refine kz_2 (tk := A.2.2.2.1 ++ [vs.length]) J h16 (fun X hX => ?_) (fun X hX => ?_) (fun z => hzl fun y => z (by rw [← q_un_2]; exact y.2.2.2.2)) (fun X hX => ?_) (fun z => hzl fun y => ?_)
                  · rcases List.mem_cons.mp hX with z | z
                    · rw [z]; exact wN1
                    · rw [List.mem_singleton.mp z]; exact wN2
                  · rcases List.mem_cons.mp hX with z | z
                    · rw [z]; exact ka
                    · rw [List.mem_singleton.mp z]; exact kb
                  · rcases List.mem_cons.mp hX with z | z
                    · rw [z]
                      exact ⟨fun q => hzl fun y => Nat.not_lt.mpr (y.1.2.1 _ mem_last).1 q, fun q => hzl fun y => Nat.not_lt.mpr (y.1.2.1 _ mem_last).2 q⟩
                    · rw [List.mem_singleton.mp z]
                      exact ⟨fun q => hzl fun y => Nat.not_lt.mpr (y.2.2.1 _ mem_last).1 q, fun q => hzl fun y => Nat.not_lt.mpr (y.2.2.1 _ mem_last).2 q⟩
                  · have := y.2.2.2.1
                    rw [e2m] at z
                    dsimp only at this
                    omega
                -- the state
                let P3 : hp_P := hp_sA P2 914 (nI A.2.2.2.1.length) (nI vs.length)
                have kQ : kI (Zc S A 21 (ws.drop fr)) (q_un S [n21a (m_ty xx) made A.2.2.2.2.1.length, n21b (m_ty xx) made A.2.2.2.2.1.length p]) (K0.2.2.2.1 ++ [n21a (m_ty xx) made A.2.2.2.2.1.length, n21b (m_ty xx) made A.2.2.2.2.1.length p].flatMap m_subs) (P3, (kP K0 (fr + 1 + 1) false).2) := by
                  have := (kI_Q (p := fr + 1 + 1) (Z := Zc S A 21 (ws.drop fr)) (rows := [n21a (m_ty xx) made A.2.2.2.2.1.length, n21b (m_ty xx) made A.2.2.2.2.1.length p]) (Q := [n21a (m_ty xx) made A.2.2.2.2.1.length, n21b (m_ty xx) made A.2.2.2.2.1.length p].flatMap m_subs) J).o a2
                  exact this.cg fun r hr => ⟨rfl, hA_ne (ks_ne hr rfl)⟩
                have r3 : rI A (P3, (kP K0 (fr + 1 + 1) false).2) := r2'.tk (by omega)
                have dx3 : mfr dx_S K0.1 P3 := (kP.dx.tr (o_dx a2)).tr (mfr.sA rfl)
                have h49 : P3.1 949 = nI (fr + 2) := (a2.1 949 rfl).1.trans kP_49
                have tk3 : (P3.2 914).2 A.2.2.2.1.length = nI vs.length := by
                  show ((hp_sA P2 914 (nI _) _).2 914).2 _ = _
                  rw [hA_eq, nI_clamp (by omega)]
                  exact pk_us
                have qp3 : nq (P3, (kP K0 (fr + 1 + 1) false).2) w1 p := qp
                have at' : ∀ {y0 y1 : Int32}, ty_in K0.2.1 y1 → ty_in K0.2.1 y0 → qN (nI A.2.2.2.1.length) (ct K0.2.2.1 K0.2.1 y1) (ct K0.2.2.1 K0.2.1 y0) = made → eO sa ρ S A 21 fr (ws.drop fr) K0 (am_go B sa am_dfl (am_call B sa am_dfl am_tb (f + 8) (d + 198)) am_r172 (f + 5) 183 [(0, .ref (ρ.1 9)), (3, .int w1), (4, .int o)] [.int y0, .int y1, .int (nI A.2.2.2.1.length), .ref (ρ.1 9)] (hp_S sa ρ P3)) := by
                  intro y0 y1 i1 i0 em
                  have := e_21b (B := B) (sa := sa) (f := f + 2) (d := d + 192) (g := f + 1) (K2 := (P3, (kP K0 (fr + 1 + 1) false).2)) w J hI hs h8 h16 hsp l2 wp hty kz' hzl kQ r3 ⟨rfl, rfl, rfl⟩ dx3 h49 tk3 i1 i0 em s2 qp3 (by omega)
                  exact this
                have note : ∀ {i : Nat} {c : Int32}, vs[i]? = some c → ∃ a, hp_rd P3 952 (nI i) = some (nI a) ∧ a < K0.2.1 ∧ ct K0.2.2.1 K0.2.1 (nI a) = q_vr c := by
                  intro i c hc
                  have il := (List.getElem?_eq_some_iff.mp hc).1
                  obtain ⟨a, b1, b2, b3⟩ := a3.2.2.2 i c hc
                  refine ⟨a, ?_, b1, ?_⟩
                  · rw [hp_rd_nI (by show i < ((hp_sA P2 914 _ _).2 952).1; rw [hA_len, a2.2]; show i < (K0.1.2 952).1; rw [show (K0.1.2 952).1 = 256 from l52]; omega) (by omega)]
                    show some (((hp_sA P2 914 _ _).2 952).2 i) = _
                    rw [hA_ne (by decide), b3]
                  · have hneg : c < 0 := ((V c).mp (List.mem_of_getElem? hc)).1
                    have b2 : (K0.2.2.1 a).1 = c := b2
                    rw [ct_vr q_tk_neg J.1 har b1 (by rw [b2]; exact hneg), b2]
                have e51' : P3.1 951 = nI vs.length := e51
                cases vs with
                | nil =>
                  rw [if_pos (show (nI ([] : List Int32).length : Int32) ≤ 0 by decide)]
                  rw [if_pos (show (nI ([] : List Int32).length : Int32) ≤ 1 by decide)]
                  exact at' (Or.inl rfl) (Or.inl rfl) (by rw [ct_m1, ← hmade]; rfl)
                | cons c0 vs =>
                  obtain ⟨a0, n1, n2, n3⟩ := note (i := 0) (c := c0) rfl
                  have n1 : hp_rd (hp_sA P2 914 (nI A.2.2.2.1.length) (nI (c0 :: vs).length)) 952 0 = some (nI a0) := n1
                  rw [if_neg (show ¬ (nI (c0 :: vs).length : Int32) ≤ 0 from nI_nle (by rw [List.length_cons]; omega) (by omega))]
                  simp only [hr_952 w, hl_952 w, n1, hg_951 w, hA_I, e51, Option.bind_some]
                  cases vs with
                  | nil =>
                    rw [if_pos (show (nI [c0].length : Int32) ≤ 1 from show (nI 1 : Int32) ≤ 1 by decide)]
                    exact at' (Or.inr ⟨a0, n2, rfl⟩) (Or.inl rfl) (by rw [n3, ct_m1, ← hmade]; rfl)
                  | cons c1 vs =>
                    obtain ⟨a1', m1, m2, m3⟩ := note (i := 1) (c := c1) rfl
                    have m1 : hp_rd (hp_sA P2 914 (nI A.2.2.2.1.length) (nI (c0 :: c1 :: vs).length)) 952 1 = some (nI a1') := m1
                    rw [if_neg (show ¬ (nI (c0 :: c1 :: vs).length : Int32) ≤ 1 from nI_ge (a := 1) (by rw [List.length_cons, List.length_cons]; omega) (by omega))]
                    simp only [hl_952 w, m1, Option.bind_some]
                    exact at' (Or.inr ⟨a0, n2, rfl⟩) (Or.inr ⟨a1', m2, rfl⟩) (by rw [n3, m3, ← hmade]; rfl)
              · rw [if_pos (show (40 : Int32) ≤ nI A.2.2.2.1.length from nI_le (a := 40) (by omega) (by omega))]
                exact bad110 (noN fun old made p' kk z => cK (up z).2.2.1)
            · rw [if_pos (show (198 : Int32) < nI A.2.2.2.2.1.length from nI_lt (a := 198) (by omega) (by omega))]
              exact bad110 (noN fun old made p' kk z => by have := (up z).2.2.2; omega)
          · rw [if_pos (show (3 : Int32) ≤ nI vs.length from nI_le (a := 3) (by omega) (by omega))]
            refine bad110 (noN fun old made p' kk z => ?_)
            obtain ⟨vs', y1, y2⟩ := (up z).2.1
            have := nodup_sub (vs_nd a3.2.2.1) (fun c hc => (y1.2 c).mpr ((a4.2.1 c hc).resolve_left List.not_mem_nil))
            omega
        · rw [bP_f cF, if_pos rfl]
          exact bad110 (noN fun old made p' kk z => cF (up z).1)
      · simp only [hr_918 w, hl_918 w, r1, Option.bind_some]
        rw [if_pos (by decide)]
        refine bad40 (noN fun old made p' kk ⟨s', xx', vs', z1, z2, z3, _⟩ => ?_)
        rw [← us z1, eM] at z3
        exact absurd (mN_inj z3).1 (by decide)
      · simp only [hr_918 w, hl_918 w, r1, Option.bind_some]
        have n4 : k' ≠ 4 := by rcases he with ⟨z, -⟩ | ⟨z, -⟩ | ⟨z, -⟩ <;> rw [z] <;> decide
        rw [if_pos n4]
        refine bad40 (noN fun old made p' kk ⟨s', xx', vs', z1, z2, z3, _⟩ => ?_)
        rw [← us z1, eM] at z3
        exact absurd (mN_inj z3).1 (nd_code_m1 hx' (by omega)).1
    · have l0 : (nI s.1.length : Int32) ≠ 0 := nI_ne0 (by
        have : s.1.length ≠ 0 := fun z => sE (List.length_eq_zero_iff.mp z)
        omega) (by omega)
      rw [if_pos l0]
      refine bad40 (noN fun old made p' kk ⟨s', xx', vs', z1, z2, z3, _⟩ => sE ?_)
      rw [us z1]; exact z2
  · rw [if_neg (show ¬ bI true = 0 by decide)]
    refine eO.bad1 ?_ J.1 J.2.1
    rintro ⟨Lc, S', A', hL, hl, hE⟩
    have := aL_ge hL
    obtain ⟨old, made, p, kk, ⟨s', xx', vs', z1, -⟩, -⟩ := kE_21 hE
    exact g2.resolve_left (by decide) ⟨_, s', w_dr' (i := 1) (wd_some (by omega)), z1⟩
end TY4
