/-! CONSTRUCTORS, 5: the reference's rows made -/
section CTM
variable {n0 k k' B q m kf d f : Nat} {sa : Nat → Nat} {h0 : Nat → Option am_C} {L as : List am_C} {fs : List Value} {v : Value}

def moF (n0 : Nat) : List Value := [.int 0, .int 0, .ref (n0 + 40), .int (-1), .int 0, .ref (n0 + 41), .ref (n0 + 42), .ref (n0 + 43), .ref (n0 + 44), .ref (n0 + 45), .ref (n0 + 46), .ref (n0 + 47), .ref (n0 + 48), .int 3, .ref (n0 + 49), .int 0, .ref (n0 + 50), .int 0, .ref (n0 + 51), .ref (n0 + 52), .ref (n0 + 53), .ref (n0 + 54), .ref (n0 + 55), .ref (n0 + 56), .ref (n0 + 57), .ref (n0 + 58), .ref (n0 + 59), .ref (n0 + 60), .int 0, .int 0, .ref (n0 + 61), .ref (n0 + 62), .int 0, .int 0, .int 0, .ref (n0 + 63), .ref (n0 + 64), .ref (n0 + 65), .ref (n0 + 66), .ref (n0 + 67), .ref (n0 + 68), .ref (n0 + 69), .ref (n0 + 70), .ref (n0 + 71), .int 0, .int 0, .int 0, .ref (n0 + 72), .ref (n0 + 73), .int 0, .ref (n0 + 74), .int 0, .ref (n0 + 75)]
def moA : List am_C := [.inl (20000, fun _ => 0), .inl (9000, fun _ => 0), .inl (9000, fun _ => 0), .inl (9000, fun _ => 0), .inl (9000, fun _ => 0), .inl (9000, fun _ => 0), .inl (9000, fun _ => 0), .inl (4096, fun _ => 0), .inl (9000, fun _ => 0), .inl (42, fun _ => 0), .inl (202, fun _ => 0), .inl (60000, fun _ => 0), .inl (60000, fun _ => 0), .inl (60000, fun _ => 0), .inl (60000, fun _ => 0), .inl (60000, fun _ => 0), .inl (60000, fun _ => 0), .inl (60000, fun _ => 0), .inl (60000, fun _ => 0), .inl (4096, fun _ => 0), .inl (60000, fun _ => 0), .inl (8000, fun _ => 0), .inl (16000, fun _ => 0), .inl (1002, fun _ => 0), .inl (1002, fun _ => 0), .inl (1002, fun _ => 0), .inl (1002, fun _ => 0), .inl (1002, fun _ => 0), .inl (1002, fun _ => 0), .inl (1002, fun _ => 0), .inl (1002, fun _ => 0), .inl (62000, fun _ => 0), .inl (256, fun _ => 0), .inl (256, fun _ => 0), .inl (256, fun _ => 0), .inl (256, fun _ => 0)]
set_option maxRecDepth 100000 in
set_option maxHeartbeats 8000000 in
theorem c_121a (hB : B ≤ n0) (hL : L.length = 39) : am_call B sa am_dfl am_tb (f + 1) (d + 1) 121 [.ref (n0 + 39)] (wS n0 h0 (L ++ [.inr (9, am_dfl 9)]) k) = am_go B sa am_dfl (am_call B sa am_dfl am_tb (f + 1) d) am_r121 f 329 [(0, .ref (n0 + 39)), (1, .int 0)] [] (wS n0 h0 (L ++ .inr (9, moF n0) :: moA) (k + 726476)) := by
  rw [am_c_121, am_s121_0]
  refine cs_n (by decide) (cs_b (go_al (j := 0) (m := 20000) (k' := k + 20000) hB hL rfl (by decide) (Nat.le_of_ble_eq_true rfl) (by omega)) ?_)
  refine cs_b (go_put hB hL (Nat.le_of_ble_eq_true rfl)) ?_
  refine cs_n (by decide) (cs_b (go_al (j := 1) (m := 9000) (k' := k + 29000) hB hL rfl (by decide) (Nat.le_of_ble_eq_true rfl) (by omega)) ?_)
  refine cs_n (by decide) (cs_b (go_al (j := 2) (m := 9000) (k' := k + 38000) hB hL rfl (by decide) (Nat.le_of_ble_eq_true rfl) (by omega)) ?_)
  refine cs_n (by decide) (cs_b (go_al (j := 3) (m := 9000) (k' := k + 47000) hB hL rfl (by decide) (Nat.le_of_ble_eq_true rfl) (by omega)) ?_)
  refine cs_n (by decide) (cs_b (go_al (j := 4) (m := 9000) (k' := k + 56000) hB hL rfl (by decide) (Nat.le_of_ble_eq_true rfl) (by omega)) ?_)
  refine cs_n (by decide) (cs_b (go_al (j := 5) (m := 9000) (k' := k + 65000) hB hL rfl (by decide) (Nat.le_of_ble_eq_true rfl) (by omega)) ?_)
  refine cs_n (by decide) (cs_b (go_al (j := 6) (m := 9000) (k' := k + 74000) hB hL rfl (by decide) (Nat.le_of_ble_eq_true rfl) (by omega)) ?_)
  refine cs_n (by decide) (cs_b (go_al (j := 7) (m := 4096) (k' := k + 78096) hB hL rfl (by decide) (Nat.le_of_ble_eq_true rfl) (by omega)) ?_)
  refine cs_n (by decide) (cs_b (go_al (j := 8) (m := 9000) (k' := k + 87096) hB hL rfl (by decide) (Nat.le_of_ble_eq_true rfl) (by omega)) ?_)
  refine cs_b (go_put hB hL (Nat.le_of_ble_eq_true rfl)) ?_
  refine cs_n (by decide) (cs_b (go_al (j := 9) (m := 42) (k' := k + 87138) hB hL rfl (by decide) (Nat.le_of_ble_eq_true rfl) (by omega)) ?_)
  refine cs_n (by decide) (cs_b (go_al (j := 10) (m := 202) (k' := k + 87340) hB hL rfl (by decide) (Nat.le_of_ble_eq_true rfl) (by omega)) ?_)
  refine cs_n (by decide) (cs_b (go_al (j := 11) (m := 60000) (k' := k + 147340) hB hL rfl (by decide) (Nat.le_of_ble_eq_true rfl) (by omega)) ?_)
  refine cs_n (by decide) (cs_b (go_al (j := 12) (m := 60000) (k' := k + 207340) hB hL rfl (by decide) (Nat.le_of_ble_eq_true rfl) (by omega)) ?_)
  refine cs_n (by decide) (cs_b (go_al (j := 13) (m := 60000) (k' := k + 267340) hB hL rfl (by decide) (Nat.le_of_ble_eq_true rfl) (by omega)) ?_)
  refine cs_n (by decide) (cs_b (go_al (j := 14) (m := 60000) (k' := k + 327340) hB hL rfl (by decide) (Nat.le_of_ble_eq_true rfl) (by omega)) ?_)
  refine cs_n (by decide) (cs_b (go_al (j := 15) (m := 60000) (k' := k + 387340) hB hL rfl (by decide) (Nat.le_of_ble_eq_true rfl) (by omega)) ?_)
  refine cs_n (by decide) (cs_b (go_al (j := 16) (m := 60000) (k' := k + 447340) hB hL rfl (by decide) (Nat.le_of_ble_eq_true rfl) (by omega)) ?_)
  refine cs_n (by decide) (cs_b (go_al (j := 17) (m := 60000) (k' := k + 507340) hB hL rfl (by decide) (Nat.le_of_ble_eq_true rfl) (by omega)) ?_)
  refine cs_n (by decide) (cs_b (go_al (j := 18) (m := 60000) (k' := k + 567340) hB hL rfl (by decide) (Nat.le_of_ble_eq_true rfl) (by omega)) ?_)
  refine cs_n (by decide) (cs_b (go_al (j := 19) (m := 4096) (k' := k + 571436) hB hL rfl (by decide) (Nat.le_of_ble_eq_true rfl) (by omega)) ?_)
  refine cs_n (by decide) (cs_b (go_al (j := 20) (m := 60000) (k' := k + 631436) hB hL rfl (by decide) (Nat.le_of_ble_eq_true rfl) (by omega)) ?_)
  refine cs_n (by decide) (cs_b (go_al (j := 21) (m := 8000) (k' := k + 639436) hB hL rfl (by decide) (Nat.le_of_ble_eq_true rfl) (by omega)) ?_)
  refine cs_n (by decide) (cs_b (go_al (j := 22) (m := 16000) (k' := k + 655436) hB hL rfl (by decide) (Nat.le_of_ble_eq_true rfl) (by omega)) ?_)
  refine cs_n (by decide) (cs_b (go_al (j := 23) (m := 1002) (k' := k + 656438) hB hL rfl (by decide) (Nat.le_of_ble_eq_true rfl) (by omega)) ?_)
  refine cs_n (by decide) (cs_b (go_al (j := 24) (m := 1002) (k' := k + 657440) hB hL rfl (by decide) (Nat.le_of_ble_eq_true rfl) (by omega)) ?_)
  refine cs_n (by decide) (cs_b (go_al (j := 25) (m := 1002) (k' := k + 658442) hB hL rfl (by decide) (Nat.le_of_ble_eq_true rfl) (by omega)) ?_)
  refine cs_n (by decide) (cs_b (go_al (j := 26) (m := 1002) (k' := k + 659444) hB hL rfl (by decide) (Nat.le_of_ble_eq_true rfl) (by omega)) ?_)
  refine cs_n (by decide) (cs_b (go_al (j := 27) (m := 1002) (k' := k + 660446) hB hL rfl (by decide) (Nat.le_of_ble_eq_true rfl) (by omega)) ?_)
  refine cs_n (by decide) (cs_b (go_al (j := 28) (m := 1002) (k' := k + 661448) hB hL rfl (by decide) (Nat.le_of_ble_eq_true rfl) (by omega)) ?_)
  refine cs_n (by decide) (cs_b (go_al (j := 29) (m := 1002) (k' := k + 662450) hB hL rfl (by decide) (Nat.le_of_ble_eq_true rfl) (by omega)) ?_)
  refine cs_n (by decide) (cs_b (go_al (j := 30) (m := 1002) (k' := k + 663452) hB hL rfl (by decide) (Nat.le_of_ble_eq_true rfl) (by omega)) ?_)
  refine cs_n (by decide) (cs_b (go_al (j := 31) (m := 62000) (k' := k + 725452) hB hL rfl (by decide) (Nat.le_of_ble_eq_true rfl) (by omega)) ?_)
  refine cs_n (by decide) (cs_b (go_al (j := 32) (m := 256) (k' := k + 725708) hB hL rfl (by decide) (Nat.le_of_ble_eq_true rfl) (by omega)) ?_)
  refine cs_n (by decide) (cs_b (go_al (j := 33) (m := 256) (k' := k + 725964) hB hL rfl (by decide) (Nat.le_of_ble_eq_true rfl) (by omega)) ?_)
  refine cs_n (by decide) (cs_b (go_al (j := 34) (m := 256) (k' := k + 726220) hB hL rfl (by decide) (Nat.le_of_ble_eq_true rfl) (by omega)) ?_)
  refine cs_n (by decide) (cs_b (go_al (j := 35) (m := 256) (k' := k + 726476) hB hL rfl (by decide) (Nat.le_of_ble_eq_true rfl) (by omega)) ?_)
  rfl
end CTM
