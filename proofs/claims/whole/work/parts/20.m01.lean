/-- LampRoundsModel.copyRow([IIII) on (96,) -/
def b_234_1_0 (n : Nat) (K0 : Int32 → Int32 → Int32 → Int32 → FI → FL → Option (FI × FL)) (x1 : Int32) (x2 : Int32) (x3 : Int32) (x4 : Int32) (I : FI) (L : FL) : Option (FI × FL) :=
  if x1 ≤ x4 then
    some (I, L)
  else
    if pin ((x1 * x2) + x4) 45 = true then (if pin ((x1 * x3) + x4) 45 = true then K0 x1 x2 x3 (x4 + (1 : Int32)) (u2 I 96 (((x1 * x3) + x4).toNatClampNeg) (I 96 (((x1 * x2) + x4).toNatClampNeg))) L else none) else none
def c_234_1_0 (n : Nat) : Nat → Int32 → Int32 → Int32 → Int32 → FI → FL → Option (FI × FL)
  | 0, _, _, _, _, _, _ => none
  | m + 1, x1, x2, x3, x4, I, L => b_234_1_0 n (c_234_1_0 n m) x1 x2 x3 x4 I L
set_option maxHeartbeats 1000000 in
set_option maxRecDepth 20000 in
theorem tc_234_1_0 (Ls : Nat) (xs : Nat → Int32) (d : Nat) (kp : Option Nat) (tl : List (Nat × Nat)) (rl : List (List (Option Nat))) (nh : Option Nat) (rh : Option Nat) (n : Nat) : ∀ (m : Nat) (x1 : Int32) (x2 : Int32) (x3 : Int32) (x4 : Int32) (I : FI) (L : FL) (r : FI × FL), c_234_1_0 n m x1 x2 x3 x4 I L = some r → Bs cd_234 (sf 12 rs_12 false 5 none Ls xs (d + 0)) (3, [some (.ref 96), some (.int x1), some (.int x2), some (.int x3), some (.int x4)], [], hp kp nh rh tl rl I L) (none, hp kp nh rh tl rl r.1 r.2)
  | 0, x1, x2, x3, x4, I, L, r, hf => by cases hf
  | m + 1, x1, x2, x3, x4, I, L, r, hf => by
    unfold c_234_1_0 b_234_1_0 at hf
    have hK0 := tc_234_1_0 Ls xs d kp tl rl nh rh n m
    refine bs_st 2 (x' := (6, [some (.ref 96), some (.int x1), some (.int x2), some (.int x3), some (.int x4)], [.int x1, .int x4], hp kp nh rh tl rl I L)) rfl ?_
    refine bs_br (t := 31) (e := 9) (lo := [some (.ref 96), some (.int x1), some (.int x2), some (.int x3), some (.int x4)]) (st := []) (h := hp kp nh rh tl rl I L) rfl hf (fun hc hf => ?_) (fun hc hf => ?_)
    · cases hf
      exact bs_ret rfl
    · refine bs_st 12 (x' := (23, [some (.ref 96), some (.int x1), some (.int x2), some (.int x3), some (.int x4)], [.int ((x1 * x2) + x4), .ref 96, .int ((x1 * x3) + x4), .ref 96], hp kp nh rh tl rl I L)) rfl ?_
      refine bs_gd (x' := (24, [some (.ref 96), some (.int x1), some (.int x2), some (.int x3), some (.int x4)], [.int (I 96 (((x1 * x2) + x4).toNatClampNeg)), .int ((x1 * x3) + x4), .ref 96], hp kp nh rh tl rl I L)) rfl hf (fun hc hf => ?_)
      refine bs_gd (x' := (25, [some (.ref 96), some (.int x1), some (.int x2), some (.int x3), some (.int x4)], [], hp kp nh rh tl rl (u2 I 96 (((x1 * x3) + x4).toNatClampNeg) (I 96 (((x1 * x2) + x4).toNatClampNeg))) L)) rfl hf (fun hc hf => ?_)
      refine bs_st 2 (x' := (3, [some (.ref 96), some (.int x1), some (.int x2), some (.int x3), some (.int (x4 + (1 : Int32)))], [], hp kp nh rh tl rl (u2 I 96 (((x1 * x3) + x4).toNatClampNeg) (I 96 (((x1 * x2) + x4).toNatClampNeg))) L)) rfl ?_
      exact hK0 x1 x2 x3 (x4 + (1 : Int32)) (u2 I 96 (((x1 * x3) + x4).toNatClampNeg) (I 96 (((x1 * x2) + x4).toNatClampNeg))) L r hf
def f_234_1 (n : Nat) (x1 : Int32) (x2 : Int32) (x3 : Int32) (I : FI) (L : FL) : Option (FI × FL) :=
  c_234_1_0 n n x1 x2 x3 (0 : Int32) I L
set_option maxHeartbeats 1000000 in
set_option maxRecDepth 20000 in
theorem t_234_1 (Ls : Nat) (xs : Nat → Int32) (d : Nat) (kp : Option Nat) (tl : List (Nat × Nat)) (rl : List (List (Option Nat))) (nh : Option Nat) (rh : Option Nat) (n : Nat) (x1 : Int32) (x2 : Int32) (x3 : Int32) (I : FI) (L : FL) (r : FI × FL) (hf : f_234_1 n x1 x2 x3 I L = some r) : pEN Ls xs (d + 1) 234 [.ref 96, .int x1, .int x2, .int x3] (hp kp nh rh tl rl I L) = some (none, hp kp nh rh tl rl r.1 r.2) := by
  refine en_run (d := d + 0) (cd := cd_234) (f := (sf 12 rs_12 false 5 none Ls xs (d + 0))) rfl rfl (x := (0, [some (.ref 96), some (.int x1), some (.int x2), some (.int x3), none], [], hp kp nh rh tl rl I L)) rfl rfl (Nat.le_of_ble_eq_true rfl) ?_
  unfold f_234_1 at hf
  refine bs_st 2 (x' := (3, [some (.ref 96), some (.int x1), some (.int x2), some (.int x3), some (.int (0 : Int32))], [], hp kp nh rh tl rl I L)) rfl ?_
  exact tc_234_1_0 Ls xs d kp tl rl nh rh n n x1 x2 x3 (0 : Int32) I L r hf
/-- LampRoundsModel.copyRow([IIII) on (97,) -/
def b_234_2_0 (n : Nat) (K0 : Int32 → Int32 → Int32 → Int32 → FI → FL → Option (FI × FL)) (x1 : Int32) (x2 : Int32) (x3 : Int32) (x4 : Int32) (I : FI) (L : FL) : Option (FI × FL) :=
  if x1 ≤ x4 then
    some (I, L)
  else
    if pin ((x1 * x2) + x4) 40 = true then (if pin ((x1 * x3) + x4) 40 = true then K0 x1 x2 x3 (x4 + (1 : Int32)) (u2 I 97 (((x1 * x3) + x4).toNatClampNeg) (I 97 (((x1 * x2) + x4).toNatClampNeg))) L else none) else none
def c_234_2_0 (n : Nat) : Nat → Int32 → Int32 → Int32 → Int32 → FI → FL → Option (FI × FL)
  | 0, _, _, _, _, _, _ => none
  | m + 1, x1, x2, x3, x4, I, L => b_234_2_0 n (c_234_2_0 n m) x1 x2 x3 x4 I L
set_option maxHeartbeats 1000000 in
set_option maxRecDepth 20000 in
theorem tc_234_2_0 (Ls : Nat) (xs : Nat → Int32) (d : Nat) (kp : Option Nat) (tl : List (Nat × Nat)) (rl : List (List (Option Nat))) (nh : Option Nat) (rh : Option Nat) (n : Nat) : ∀ (m : Nat) (x1 : Int32) (x2 : Int32) (x3 : Int32) (x4 : Int32) (I : FI) (L : FL) (r : FI × FL), c_234_2_0 n m x1 x2 x3 x4 I L = some r → Bs cd_234 (sf 12 rs_12 false 5 none Ls xs (d + 0)) (3, [some (.ref 97), some (.int x1), some (.int x2), some (.int x3), some (.int x4)], [], hp kp nh rh tl rl I L) (none, hp kp nh rh tl rl r.1 r.2)
  | 0, x1, x2, x3, x4, I, L, r, hf => by cases hf
  | m + 1, x1, x2, x3, x4, I, L, r, hf => by
    unfold c_234_2_0 b_234_2_0 at hf
    have hK0 := tc_234_2_0 Ls xs d kp tl rl nh rh n m
    refine bs_st 2 (x' := (6, [some (.ref 97), some (.int x1), some (.int x2), some (.int x3), some (.int x4)], [.int x1, .int x4], hp kp nh rh tl rl I L)) rfl ?_
    refine bs_br (t := 31) (e := 9) (lo := [some (.ref 97), some (.int x1), some (.int x2), some (.int x3), some (.int x4)]) (st := []) (h := hp kp nh rh tl rl I L) rfl hf (fun hc hf => ?_) (fun hc hf => ?_)
    · cases hf
      exact bs_ret rfl
    · refine bs_st 12 (x' := (23, [some (.ref 97), some (.int x1), some (.int x2), some (.int x3), some (.int x4)], [.int ((x1 * x2) + x4), .ref 97, .int ((x1 * x3) + x4), .ref 97], hp kp nh rh tl rl I L)) rfl ?_
      refine bs_gd (x' := (24, [some (.ref 97), some (.int x1), some (.int x2), some (.int x3), some (.int x4)], [.int (I 97 (((x1 * x2) + x4).toNatClampNeg)), .int ((x1 * x3) + x4), .ref 97], hp kp nh rh tl rl I L)) rfl hf (fun hc hf => ?_)
      refine bs_gd (x' := (25, [some (.ref 97), some (.int x1), some (.int x2), some (.int x3), some (.int x4)], [], hp kp nh rh tl rl (u2 I 97 (((x1 * x3) + x4).toNatClampNeg) (I 97 (((x1 * x2) + x4).toNatClampNeg))) L)) rfl hf (fun hc hf => ?_)
      refine bs_st 2 (x' := (3, [some (.ref 97), some (.int x1), some (.int x2), some (.int x3), some (.int (x4 + (1 : Int32)))], [], hp kp nh rh tl rl (u2 I 97 (((x1 * x3) + x4).toNatClampNeg) (I 97 (((x1 * x2) + x4).toNatClampNeg))) L)) rfl ?_
      exact hK0 x1 x2 x3 (x4 + (1 : Int32)) (u2 I 97 (((x1 * x3) + x4).toNatClampNeg) (I 97 (((x1 * x2) + x4).toNatClampNeg))) L r hf
def f_234_2 (n : Nat) (x1 : Int32) (x2 : Int32) (x3 : Int32) (I : FI) (L : FL) : Option (FI × FL) :=
  c_234_2_0 n n x1 x2 x3 (0 : Int32) I L
set_option maxHeartbeats 1000000 in
set_option maxRecDepth 20000 in
theorem t_234_2 (Ls : Nat) (xs : Nat → Int32) (d : Nat) (kp : Option Nat) (tl : List (Nat × Nat)) (rl : List (List (Option Nat))) (nh : Option Nat) (rh : Option Nat) (n : Nat) (x1 : Int32) (x2 : Int32) (x3 : Int32) (I : FI) (L : FL) (r : FI × FL) (hf : f_234_2 n x1 x2 x3 I L = some r) : pEN Ls xs (d + 1) 234 [.ref 97, .int x1, .int x2, .int x3] (hp kp nh rh tl rl I L) = some (none, hp kp nh rh tl rl r.1 r.2) := by
  refine en_run (d := d + 0) (cd := cd_234) (f := (sf 12 rs_12 false 5 none Ls xs (d + 0))) rfl rfl (x := (0, [some (.ref 97), some (.int x1), some (.int x2), some (.int x3), none], [], hp kp nh rh tl rl I L)) rfl rfl (Nat.le_of_ble_eq_true rfl) ?_
  unfold f_234_2 at hf
  refine bs_st 2 (x' := (3, [some (.ref 97), some (.int x1), some (.int x2), some (.int x3), some (.int (0 : Int32))], [], hp kp nh rh tl rl I L)) rfl ?_
  exact tc_234_2_0 Ls xs d kp tl rl nh rh n n x1 x2 x3 (0 : Int32) I L r hf
/-- LampRoundsModel.copyRow([IIII) on (98,) -/
def b_234_3_0 (n : Nat) (K0 : Int32 → Int32 → Int32 → Int32 → FI → FL → Option (FI × FL)) (x1 : Int32) (x2 : Int32) (x3 : Int32) (x4 : Int32) (I : FI) (L : FL) : Option (FI × FL) :=
  if x1 ≤ x4 then
    some (I, L)
  else
    if pin ((x1 * x2) + x4) 60 = true then (if pin ((x1 * x3) + x4) 60 = true then K0 x1 x2 x3 (x4 + (1 : Int32)) (u2 I 98 (((x1 * x3) + x4).toNatClampNeg) (I 98 (((x1 * x2) + x4).toNatClampNeg))) L else none) else none
def c_234_3_0 (n : Nat) : Nat → Int32 → Int32 → Int32 → Int32 → FI → FL → Option (FI × FL)
  | 0, _, _, _, _, _, _ => none
  | m + 1, x1, x2, x3, x4, I, L => b_234_3_0 n (c_234_3_0 n m) x1 x2 x3 x4 I L
set_option maxHeartbeats 1000000 in
set_option maxRecDepth 20000 in
theorem tc_234_3_0 (Ls : Nat) (xs : Nat → Int32) (d : Nat) (kp : Option Nat) (tl : List (Nat × Nat)) (rl : List (List (Option Nat))) (nh : Option Nat) (rh : Option Nat) (n : Nat) : ∀ (m : Nat) (x1 : Int32) (x2 : Int32) (x3 : Int32) (x4 : Int32) (I : FI) (L : FL) (r : FI × FL), c_234_3_0 n m x1 x2 x3 x4 I L = some r → Bs cd_234 (sf 12 rs_12 false 5 none Ls xs (d + 0)) (3, [some (.ref 98), some (.int x1), some (.int x2), some (.int x3), some (.int x4)], [], hp kp nh rh tl rl I L) (none, hp kp nh rh tl rl r.1 r.2)
  | 0, x1, x2, x3, x4, I, L, r, hf => by cases hf
  | m + 1, x1, x2, x3, x4, I, L, r, hf => by
    unfold c_234_3_0 b_234_3_0 at hf
    have hK0 := tc_234_3_0 Ls xs d kp tl rl nh rh n m
    refine bs_st 2 (x' := (6, [some (.ref 98), some (.int x1), some (.int x2), some (.int x3), some (.int x4)], [.int x1, .int x4], hp kp nh rh tl rl I L)) rfl ?_
    refine bs_br (t := 31) (e := 9) (lo := [some (.ref 98), some (.int x1), some (.int x2), some (.int x3), some (.int x4)]) (st := []) (h := hp kp nh rh tl rl I L) rfl hf (fun hc hf => ?_) (fun hc hf => ?_)
    · cases hf
      exact bs_ret rfl
    · refine bs_st 12 (x' := (23, [some (.ref 98), some (.int x1), some (.int x2), some (.int x3), some (.int x4)], [.int ((x1 * x2) + x4), .ref 98, .int ((x1 * x3) + x4), .ref 98], hp kp nh rh tl rl I L)) rfl ?_
      refine bs_gd (x' := (24, [some (.ref 98), some (.int x1), some (.int x2), some (.int x3), some (.int x4)], [.int (I 98 (((x1 * x2) + x4).toNatClampNeg)), .int ((x1 * x3) + x4), .ref 98], hp kp nh rh tl rl I L)) rfl hf (fun hc hf => ?_)
      refine bs_gd (x' := (25, [some (.ref 98), some (.int x1), some (.int x2), some (.int x3), some (.int x4)], [], hp kp nh rh tl rl (u2 I 98 (((x1 * x3) + x4).toNatClampNeg) (I 98 (((x1 * x2) + x4).toNatClampNeg))) L)) rfl hf (fun hc hf => ?_)
      refine bs_st 2 (x' := (3, [some (.ref 98), some (.int x1), some (.int x2), some (.int x3), some (.int (x4 + (1 : Int32)))], [], hp kp nh rh tl rl (u2 I 98 (((x1 * x3) + x4).toNatClampNeg) (I 98 (((x1 * x2) + x4).toNatClampNeg))) L)) rfl ?_
      exact hK0 x1 x2 x3 (x4 + (1 : Int32)) (u2 I 98 (((x1 * x3) + x4).toNatClampNeg) (I 98 (((x1 * x2) + x4).toNatClampNeg))) L r hf
def f_234_3 (n : Nat) (x1 : Int32) (x2 : Int32) (x3 : Int32) (I : FI) (L : FL) : Option (FI × FL) :=
  c_234_3_0 n n x1 x2 x3 (0 : Int32) I L
set_option maxHeartbeats 1000000 in
set_option maxRecDepth 20000 in
theorem t_234_3 (Ls : Nat) (xs : Nat → Int32) (d : Nat) (kp : Option Nat) (tl : List (Nat × Nat)) (rl : List (List (Option Nat))) (nh : Option Nat) (rh : Option Nat) (n : Nat) (x1 : Int32) (x2 : Int32) (x3 : Int32) (I : FI) (L : FL) (r : FI × FL) (hf : f_234_3 n x1 x2 x3 I L = some r) : pEN Ls xs (d + 1) 234 [.ref 98, .int x1, .int x2, .int x3] (hp kp nh rh tl rl I L) = some (none, hp kp nh rh tl rl r.1 r.2) := by
  refine en_run (d := d + 0) (cd := cd_234) (f := (sf 12 rs_12 false 5 none Ls xs (d + 0))) rfl rfl (x := (0, [some (.ref 98), some (.int x1), some (.int x2), some (.int x3), none], [], hp kp nh rh tl rl I L)) rfl rfl (Nat.le_of_ble_eq_true rfl) ?_
  unfold f_234_3 at hf
  refine bs_st 2 (x' := (3, [some (.ref 98), some (.int x1), some (.int x2), some (.int x3), some (.int (0 : Int32))], [], hp kp nh rh tl rl I L)) rfl ?_
  exact tc_234_3_0 Ls xs d kp tl rl nh rh n n x1 x2 x3 (0 : Int32) I L r hf
/-- LampRoundsModel.copyRow([IIII) on (99,) -/
def b_234_4_0 (n : Nat) (K0 : Int32 → Int32 → Int32 → Int32 → FI → FL → Option (FI × FL)) (x1 : Int32) (x2 : Int32) (x3 : Int32) (x4 : Int32) (I : FI) (L : FL) : Option (FI × FL) :=
  if x1 ≤ x4 then
    some (I, L)
  else
    if pin ((x1 * x2) + x4) 50 = true then (if pin ((x1 * x3) + x4) 50 = true then K0 x1 x2 x3 (x4 + (1 : Int32)) (u2 I 99 (((x1 * x3) + x4).toNatClampNeg) (I 99 (((x1 * x2) + x4).toNatClampNeg))) L else none) else none
def c_234_4_0 (n : Nat) : Nat → Int32 → Int32 → Int32 → Int32 → FI → FL → Option (FI × FL)
  | 0, _, _, _, _, _, _ => none
  | m + 1, x1, x2, x3, x4, I, L => b_234_4_0 n (c_234_4_0 n m) x1 x2 x3 x4 I L
set_option maxHeartbeats 1000000 in
set_option maxRecDepth 20000 in
theorem tc_234_4_0 (Ls : Nat) (xs : Nat → Int32) (d : Nat) (kp : Option Nat) (tl : List (Nat × Nat)) (rl : List (List (Option Nat))) (nh : Option Nat) (rh : Option Nat) (n : Nat) : ∀ (m : Nat) (x1 : Int32) (x2 : Int32) (x3 : Int32) (x4 : Int32) (I : FI) (L : FL) (r : FI × FL), c_234_4_0 n m x1 x2 x3 x4 I L = some r → Bs cd_234 (sf 12 rs_12 false 5 none Ls xs (d + 0)) (3, [some (.ref 99), some (.int x1), some (.int x2), some (.int x3), some (.int x4)], [], hp kp nh rh tl rl I L) (none, hp kp nh rh tl rl r.1 r.2)
  | 0, x1, x2, x3, x4, I, L, r, hf => by cases hf
  | m + 1, x1, x2, x3, x4, I, L, r, hf => by
    unfold c_234_4_0 b_234_4_0 at hf
    have hK0 := tc_234_4_0 Ls xs d kp tl rl nh rh n m
    refine bs_st 2 (x' := (6, [some (.ref 99), some (.int x1), some (.int x2), some (.int x3), some (.int x4)], [.int x1, .int x4], hp kp nh rh tl rl I L)) rfl ?_
    refine bs_br (t := 31) (e := 9) (lo := [some (.ref 99), some (.int x1), some (.int x2), some (.int x3), some (.int x4)]) (st := []) (h := hp kp nh rh tl rl I L) rfl hf (fun hc hf => ?_) (fun hc hf => ?_)
    · cases hf
      exact bs_ret rfl
    · refine bs_st 12 (x' := (23, [some (.ref 99), some (.int x1), some (.int x2), some (.int x3), some (.int x4)], [.int ((x1 * x2) + x4), .ref 99, .int ((x1 * x3) + x4), .ref 99], hp kp nh rh tl rl I L)) rfl ?_
      refine bs_gd (x' := (24, [some (.ref 99), some (.int x1), some (.int x2), some (.int x3), some (.int x4)], [.int (I 99 (((x1 * x2) + x4).toNatClampNeg)), .int ((x1 * x3) + x4), .ref 99], hp kp nh rh tl rl I L)) rfl hf (fun hc hf => ?_)
      refine bs_gd (x' := (25, [some (.ref 99), some (.int x1), some (.int x2), some (.int x3), some (.int x4)], [], hp kp nh rh tl rl (u2 I 99 (((x1 * x3) + x4).toNatClampNeg) (I 99 (((x1 * x2) + x4).toNatClampNeg))) L)) rfl hf (fun hc hf => ?_)
      refine bs_st 2 (x' := (3, [some (.ref 99), some (.int x1), some (.int x2), some (.int x3), some (.int (x4 + (1 : Int32)))], [], hp kp nh rh tl rl (u2 I 99 (((x1 * x3) + x4).toNatClampNeg) (I 99 (((x1 * x2) + x4).toNatClampNeg))) L)) rfl ?_
      exact hK0 x1 x2 x3 (x4 + (1 : Int32)) (u2 I 99 (((x1 * x3) + x4).toNatClampNeg) (I 99 (((x1 * x2) + x4).toNatClampNeg))) L r hf
def f_234_4 (n : Nat) (x1 : Int32) (x2 : Int32) (x3 : Int32) (I : FI) (L : FL) : Option (FI × FL) :=
  c_234_4_0 n n x1 x2 x3 (0 : Int32) I L
set_option maxHeartbeats 1000000 in
set_option maxRecDepth 20000 in
theorem t_234_4 (Ls : Nat) (xs : Nat → Int32) (d : Nat) (kp : Option Nat) (tl : List (Nat × Nat)) (rl : List (List (Option Nat))) (nh : Option Nat) (rh : Option Nat) (n : Nat) (x1 : Int32) (x2 : Int32) (x3 : Int32) (I : FI) (L : FL) (r : FI × FL) (hf : f_234_4 n x1 x2 x3 I L = some r) : pEN Ls xs (d + 1) 234 [.ref 99, .int x1, .int x2, .int x3] (hp kp nh rh tl rl I L) = some (none, hp kp nh rh tl rl r.1 r.2) := by
  refine en_run (d := d + 0) (cd := cd_234) (f := (sf 12 rs_12 false 5 none Ls xs (d + 0))) rfl rfl (x := (0, [some (.ref 99), some (.int x1), some (.int x2), some (.int x3), none], [], hp kp nh rh tl rl I L)) rfl rfl (Nat.le_of_ble_eq_true rfl) ?_
  unfold f_234_4 at hf
  refine bs_st 2 (x' := (3, [some (.ref 99), some (.int x1), some (.int x2), some (.int x3), some (.int (0 : Int32))], [], hp kp nh rh tl rl I L)) rfl ?_
  exact tc_234_4_0 Ls xs d kp tl rl nh rh n n x1 x2 x3 (0 : Int32) I L r hf
/-- LampRoundsModel.copyRow([IIII) on (100,) -/
def b_234_5_0 (n : Nat) (K0 : Int32 → Int32 → Int32 → Int32 → FI → FL → Option (FI × FL)) (x1 : Int32) (x2 : Int32) (x3 : Int32) (x4 : Int32) (I : FI) (L : FL) : Option (FI × FL) :=
  if x1 ≤ x4 then
    some (I, L)
  else
    if pin ((x1 * x2) + x4) 60 = true then (if pin ((x1 * x3) + x4) 60 = true then K0 x1 x2 x3 (x4 + (1 : Int32)) (u2 I 100 (((x1 * x3) + x4).toNatClampNeg) (I 100 (((x1 * x2) + x4).toNatClampNeg))) L else none) else none
def c_234_5_0 (n : Nat) : Nat → Int32 → Int32 → Int32 → Int32 → FI → FL → Option (FI × FL)
  | 0, _, _, _, _, _, _ => none
  | m + 1, x1, x2, x3, x4, I, L => b_234_5_0 n (c_234_5_0 n m) x1 x2 x3 x4 I L
set_option maxHeartbeats 1000000 in
set_option maxRecDepth 20000 in
theorem tc_234_5_0 (Ls : Nat) (xs : Nat → Int32) (d : Nat) (kp : Option Nat) (tl : List (Nat × Nat)) (rl : List (List (Option Nat))) (nh : Option Nat) (rh : Option Nat) (n : Nat) : ∀ (m : Nat) (x1 : Int32) (x2 : Int32) (x3 : Int32) (x4 : Int32) (I : FI) (L : FL) (r : FI × FL), c_234_5_0 n m x1 x2 x3 x4 I L = some r → Bs cd_234 (sf 12 rs_12 false 5 none Ls xs (d + 0)) (3, [some (.ref 100), some (.int x1), some (.int x2), some (.int x3), some (.int x4)], [], hp kp nh rh tl rl I L) (none, hp kp nh rh tl rl r.1 r.2)
  | 0, x1, x2, x3, x4, I, L, r, hf => by cases hf
  | m + 1, x1, x2, x3, x4, I, L, r, hf => by
    unfold c_234_5_0 b_234_5_0 at hf
    have hK0 := tc_234_5_0 Ls xs d kp tl rl nh rh n m
    refine bs_st 2 (x' := (6, [some (.ref 100), some (.int x1), some (.int x2), some (.int x3), some (.int x4)], [.int x1, .int x4], hp kp nh rh tl rl I L)) rfl ?_
    refine bs_br (t := 31) (e := 9) (lo := [some (.ref 100), some (.int x1), some (.int x2), some (.int x3), some (.int x4)]) (st := []) (h := hp kp nh rh tl rl I L) rfl hf (fun hc hf => ?_) (fun hc hf => ?_)
    · cases hf
      exact bs_ret rfl
    · refine bs_st 12 (x' := (23, [some (.ref 100), some (.int x1), some (.int x2), some (.int x3), some (.int x4)], [.int ((x1 * x2) + x4), .ref 100, .int ((x1 * x3) + x4), .ref 100], hp kp nh rh tl rl I L)) rfl ?_
      refine bs_gd (x' := (24, [some (.ref 100), some (.int x1), some (.int x2), some (.int x3), some (.int x4)], [.int (I 100 (((x1 * x2) + x4).toNatClampNeg)), .int ((x1 * x3) + x4), .ref 100], hp kp nh rh tl rl I L)) rfl hf (fun hc hf => ?_)
      refine bs_gd (x' := (25, [some (.ref 100), some (.int x1), some (.int x2), some (.int x3), some (.int x4)], [], hp kp nh rh tl rl (u2 I 100 (((x1 * x3) + x4).toNatClampNeg) (I 100 (((x1 * x2) + x4).toNatClampNeg))) L)) rfl hf (fun hc hf => ?_)
      refine bs_st 2 (x' := (3, [some (.ref 100), some (.int x1), some (.int x2), some (.int x3), some (.int (x4 + (1 : Int32)))], [], hp kp nh rh tl rl (u2 I 100 (((x1 * x3) + x4).toNatClampNeg) (I 100 (((x1 * x2) + x4).toNatClampNeg))) L)) rfl ?_
      exact hK0 x1 x2 x3 (x4 + (1 : Int32)) (u2 I 100 (((x1 * x3) + x4).toNatClampNeg) (I 100 (((x1 * x2) + x4).toNatClampNeg))) L r hf
def f_234_5 (n : Nat) (x1 : Int32) (x2 : Int32) (x3 : Int32) (I : FI) (L : FL) : Option (FI × FL) :=
  c_234_5_0 n n x1 x2 x3 (0 : Int32) I L
set_option maxHeartbeats 1000000 in
set_option maxRecDepth 20000 in
theorem t_234_5 (Ls : Nat) (xs : Nat → Int32) (d : Nat) (kp : Option Nat) (tl : List (Nat × Nat)) (rl : List (List (Option Nat))) (nh : Option Nat) (rh : Option Nat) (n : Nat) (x1 : Int32) (x2 : Int32) (x3 : Int32) (I : FI) (L : FL) (r : FI × FL) (hf : f_234_5 n x1 x2 x3 I L = some r) : pEN Ls xs (d + 1) 234 [.ref 100, .int x1, .int x2, .int x3] (hp kp nh rh tl rl I L) = some (none, hp kp nh rh tl rl r.1 r.2) := by
  refine en_run (d := d + 0) (cd := cd_234) (f := (sf 12 rs_12 false 5 none Ls xs (d + 0))) rfl rfl (x := (0, [some (.ref 100), some (.int x1), some (.int x2), some (.int x3), none], [], hp kp nh rh tl rl I L)) rfl rfl (Nat.le_of_ble_eq_true rfl) ?_
  unfold f_234_5 at hf
  refine bs_st 2 (x' := (3, [some (.ref 100), some (.int x1), some (.int x2), some (.int x3), some (.int (0 : Int32))], [], hp kp nh rh tl rl I L)) rfl ?_
  exact tc_234_5_0 Ls xs d kp tl rl nh rh n n x1 x2 x3 (0 : Int32) I L r hf
/-- LampRoundsModel.copyRow([IIII) on (101,) -/
def b_234_6_0 (n : Nat) (K0 : Int32 → Int32 → Int32 → Int32 → FI → FL → Option (FI × FL)) (x1 : Int32) (x2 : Int32) (x3 : Int32) (x4 : Int32) (I : FI) (L : FL) : Option (FI × FL) :=
  if x1 ≤ x4 then
    some (I, L)
  else
    if pin ((x1 * x2) + x4) 300 = true then (if pin ((x1 * x3) + x4) 300 = true then K0 x1 x2 x3 (x4 + (1 : Int32)) (u2 I 101 (((x1 * x3) + x4).toNatClampNeg) (I 101 (((x1 * x2) + x4).toNatClampNeg))) L else none) else none
def c_234_6_0 (n : Nat) : Nat → Int32 → Int32 → Int32 → Int32 → FI → FL → Option (FI × FL)
  | 0, _, _, _, _, _, _ => none
  | m + 1, x1, x2, x3, x4, I, L => b_234_6_0 n (c_234_6_0 n m) x1 x2 x3 x4 I L
set_option maxHeartbeats 1000000 in
set_option maxRecDepth 20000 in
theorem tc_234_6_0 (Ls : Nat) (xs : Nat → Int32) (d : Nat) (kp : Option Nat) (tl : List (Nat × Nat)) (rl : List (List (Option Nat))) (nh : Option Nat) (rh : Option Nat) (n : Nat) : ∀ (m : Nat) (x1 : Int32) (x2 : Int32) (x3 : Int32) (x4 : Int32) (I : FI) (L : FL) (r : FI × FL), c_234_6_0 n m x1 x2 x3 x4 I L = some r → Bs cd_234 (sf 12 rs_12 false 5 none Ls xs (d + 0)) (3, [some (.ref 101), some (.int x1), some (.int x2), some (.int x3), some (.int x4)], [], hp kp nh rh tl rl I L) (none, hp kp nh rh tl rl r.1 r.2)
  | 0, x1, x2, x3, x4, I, L, r, hf => by cases hf
  | m + 1, x1, x2, x3, x4, I, L, r, hf => by
    unfold c_234_6_0 b_234_6_0 at hf
    have hK0 := tc_234_6_0 Ls xs d kp tl rl nh rh n m
    refine bs_st 2 (x' := (6, [some (.ref 101), some (.int x1), some (.int x2), some (.int x3), some (.int x4)], [.int x1, .int x4], hp kp nh rh tl rl I L)) rfl ?_
    refine bs_br (t := 31) (e := 9) (lo := [some (.ref 101), some (.int x1), some (.int x2), some (.int x3), some (.int x4)]) (st := []) (h := hp kp nh rh tl rl I L) rfl hf (fun hc hf => ?_) (fun hc hf => ?_)
    · cases hf
      exact bs_ret rfl
    · refine bs_st 12 (x' := (23, [some (.ref 101), some (.int x1), some (.int x2), some (.int x3), some (.int x4)], [.int ((x1 * x2) + x4), .ref 101, .int ((x1 * x3) + x4), .ref 101], hp kp nh rh tl rl I L)) rfl ?_
      refine bs_gd (x' := (24, [some (.ref 101), some (.int x1), some (.int x2), some (.int x3), some (.int x4)], [.int (I 101 (((x1 * x2) + x4).toNatClampNeg)), .int ((x1 * x3) + x4), .ref 101], hp kp nh rh tl rl I L)) rfl hf (fun hc hf => ?_)
      refine bs_gd (x' := (25, [some (.ref 101), some (.int x1), some (.int x2), some (.int x3), some (.int x4)], [], hp kp nh rh tl rl (u2 I 101 (((x1 * x3) + x4).toNatClampNeg) (I 101 (((x1 * x2) + x4).toNatClampNeg))) L)) rfl hf (fun hc hf => ?_)
      refine bs_st 2 (x' := (3, [some (.ref 101), some (.int x1), some (.int x2), some (.int x3), some (.int (x4 + (1 : Int32)))], [], hp kp nh rh tl rl (u2 I 101 (((x1 * x3) + x4).toNatClampNeg) (I 101 (((x1 * x2) + x4).toNatClampNeg))) L)) rfl ?_
      exact hK0 x1 x2 x3 (x4 + (1 : Int32)) (u2 I 101 (((x1 * x3) + x4).toNatClampNeg) (I 101 (((x1 * x2) + x4).toNatClampNeg))) L r hf
def f_234_6 (n : Nat) (x1 : Int32) (x2 : Int32) (x3 : Int32) (I : FI) (L : FL) : Option (FI × FL) :=
  c_234_6_0 n n x1 x2 x3 (0 : Int32) I L
set_option maxHeartbeats 1000000 in
set_option maxRecDepth 20000 in
theorem t_234_6 (Ls : Nat) (xs : Nat → Int32) (d : Nat) (kp : Option Nat) (tl : List (Nat × Nat)) (rl : List (List (Option Nat))) (nh : Option Nat) (rh : Option Nat) (n : Nat) (x1 : Int32) (x2 : Int32) (x3 : Int32) (I : FI) (L : FL) (r : FI × FL) (hf : f_234_6 n x1 x2 x3 I L = some r) : pEN Ls xs (d + 1) 234 [.ref 101, .int x1, .int x2, .int x3] (hp kp nh rh tl rl I L) = some (none, hp kp nh rh tl rl r.1 r.2) := by
  refine en_run (d := d + 0) (cd := cd_234) (f := (sf 12 rs_12 false 5 none Ls xs (d + 0))) rfl rfl (x := (0, [some (.ref 101), some (.int x1), some (.int x2), some (.int x3), none], [], hp kp nh rh tl rl I L)) rfl rfl (Nat.le_of_ble_eq_true rfl) ?_
  unfold f_234_6 at hf
  refine bs_st 2 (x' := (3, [some (.ref 101), some (.int x1), some (.int x2), some (.int x3), some (.int (0 : Int32))], [], hp kp nh rh tl rl I L)) rfl ?_
  exact tc_234_6_0 Ls xs d kp tl rl nh rh n n x1 x2 x3 (0 : Int32) I L r hf
/-- LampRoundsModel.copyHouse(II) on (89,) -/
def f_235 (n : Nat) (x1 : Int32) (x2 : Int32) (I : FI) (L : FL) : Option (FI × FL) :=
  (f_234 n (1 : Int32) x1 x2 I L).bind fun q0 =>
  (f_234_1 n (9 : Int32) x1 x2 q0.1 q0.2).bind fun q1 =>
  (f_234_2 n (8 : Int32) x1 x2 q1.1 q1.2).bind fun q2 =>
  (f_234_3 n (12 : Int32) x1 x2 q2.1 q2.2).bind fun q3 =>
  (f_234_4 n (10 : Int32) x1 x2 q3.1 q3.2).bind fun q4 =>
  (f_234_5 n (12 : Int32) x1 x2 q4.1 q4.2).bind fun q5 =>
  (f_234_6 n (60 : Int32) x1 x2 q5.1 q5.2).bind fun q6 =>
  some (q6.1, q6.2)
set_option maxHeartbeats 1000000 in
set_option maxRecDepth 20000 in
theorem t_235 (Ls : Nat) (xs : Nat → Int32) (d : Nat) (kp : Option Nat) (tl : List (Nat × Nat)) (rl : List (List (Option Nat))) (nh : Option Nat) (rh : Option Nat) (n : Nat) (x1 : Int32) (x2 : Int32) (I : FI) (L : FL) (r : FI × FL) (hf : f_235 n x1 x2 I L = some r) : pEN Ls xs (d + 2) 235 [.ref 89, .int x1, .int x2] (hp kp nh rh tl rl I L) = some (none, hp kp nh rh tl rl r.1 r.2) := by
  refine en_run (d := d + 1) (cd := cd_235) (f := (sf 12 rs_12 false 3 none Ls xs (d + 1))) rfl rfl (x := (0, [some (.ref 89), some (.int x1), some (.int x2)], [], hp kp nh rh tl rl I L)) rfl rfl (Nat.le_of_ble_eq_true rfl) ?_
  unfold f_235 at hf
  refine bs_st 5 (x' := (7, [some (.ref 89), some (.int x1), some (.int x2)], [.int x2, .int x1, .int (1 : Int32), .ref 95], hp kp nh rh tl rl I L)) rfl ?_
  obtain ⟨q0, hq0, hf⟩ := Option.bind_eq_some_iff.mp hf
  refine bs_call (o := pEN Ls xs (d + 1) 234 [.ref 95, .int (1 : Int32), .int x1, .int x2] (hp kp nh rh tl rl I L)) (w := none) (h' := hp kp nh rh tl rl q0.1 q0.2) (pc := 10) (lo := [some (.ref 89), some (.int x1), some (.int x2)]) (rest := []) rfl (t_234 Ls xs (d + 0) kp tl rl nh rh n (1 : Int32) x1 x2 I L q0 hq0) ?_
  refine bs_st 5 (x' := (18, [some (.ref 89), some (.int x1), some (.int x2)], [.int x2, .int x1, .int (9 : Int32), .ref 96], hp kp nh rh tl rl q0.1 q0.2)) rfl ?_
  obtain ⟨q1, hq1, hf⟩ := Option.bind_eq_some_iff.mp hf
  refine bs_call (o := pEN Ls xs (d + 1) 234 [.ref 96, .int (9 : Int32), .int x1, .int x2] (hp kp nh rh tl rl q0.1 q0.2)) (w := none) (h' := hp kp nh rh tl rl q1.1 q1.2) (pc := 21) (lo := [some (.ref 89), some (.int x1), some (.int x2)]) (rest := []) rfl (t_234_1 Ls xs (d + 0) kp tl rl nh rh n (9 : Int32) x1 x2 q0.1 q0.2 q1 hq1) ?_
  refine bs_st 5 (x' := (29, [some (.ref 89), some (.int x1), some (.int x2)], [.int x2, .int x1, .int (8 : Int32), .ref 97], hp kp nh rh tl rl q1.1 q1.2)) rfl ?_
  obtain ⟨q2, hq2, hf⟩ := Option.bind_eq_some_iff.mp hf
  refine bs_call (o := pEN Ls xs (d + 1) 234 [.ref 97, .int (8 : Int32), .int x1, .int x2] (hp kp nh rh tl rl q1.1 q1.2)) (w := none) (h' := hp kp nh rh tl rl q2.1 q2.2) (pc := 32) (lo := [some (.ref 89), some (.int x1), some (.int x2)]) (rest := []) rfl (t_234_2 Ls xs (d + 0) kp tl rl nh rh n (8 : Int32) x1 x2 q1.1 q1.2 q2 hq2) ?_
  refine bs_st 5 (x' := (40, [some (.ref 89), some (.int x1), some (.int x2)], [.int x2, .int x1, .int (12 : Int32), .ref 98], hp kp nh rh tl rl q2.1 q2.2)) rfl ?_
  obtain ⟨q3, hq3, hf⟩ := Option.bind_eq_some_iff.mp hf
  refine bs_call (o := pEN Ls xs (d + 1) 234 [.ref 98, .int (12 : Int32), .int x1, .int x2] (hp kp nh rh tl rl q2.1 q2.2)) (w := none) (h' := hp kp nh rh tl rl q3.1 q3.2) (pc := 43) (lo := [some (.ref 89), some (.int x1), some (.int x2)]) (rest := []) rfl (t_234_3 Ls xs (d + 0) kp tl rl nh rh n (12 : Int32) x1 x2 q2.1 q2.2 q3 hq3) ?_
  refine bs_st 5 (x' := (51, [some (.ref 89), some (.int x1), some (.int x2)], [.int x2, .int x1, .int (10 : Int32), .ref 99], hp kp nh rh tl rl q3.1 q3.2)) rfl ?_
  obtain ⟨q4, hq4, hf⟩ := Option.bind_eq_some_iff.mp hf
  refine bs_call (o := pEN Ls xs (d + 1) 234 [.ref 99, .int (10 : Int32), .int x1, .int x2] (hp kp nh rh tl rl q3.1 q3.2)) (w := none) (h' := hp kp nh rh tl rl q4.1 q4.2) (pc := 54) (lo := [some (.ref 89), some (.int x1), some (.int x2)]) (rest := []) rfl (t_234_4 Ls xs (d + 0) kp tl rl nh rh n (10 : Int32) x1 x2 q3.1 q3.2 q4 hq4) ?_
  refine bs_st 5 (x' := (62, [some (.ref 89), some (.int x1), some (.int x2)], [.int x2, .int x1, .int (12 : Int32), .ref 100], hp kp nh rh tl rl q4.1 q4.2)) rfl ?_
  obtain ⟨q5, hq5, hf⟩ := Option.bind_eq_some_iff.mp hf
  refine bs_call (o := pEN Ls xs (d + 1) 234 [.ref 100, .int (12 : Int32), .int x1, .int x2] (hp kp nh rh tl rl q4.1 q4.2)) (w := none) (h' := hp kp nh rh tl rl q5.1 q5.2) (pc := 65) (lo := [some (.ref 89), some (.int x1), some (.int x2)]) (rest := []) rfl (t_234_5 Ls xs (d + 0) kp tl rl nh rh n (12 : Int32) x1 x2 q4.1 q4.2 q5 hq5) ?_
  refine bs_st 5 (x' := (73, [some (.ref 89), some (.int x1), some (.int x2)], [.int x2, .int x1, .int (60 : Int32), .ref 101], hp kp nh rh tl rl q5.1 q5.2)) rfl ?_
  obtain ⟨q6, hq6, hf⟩ := Option.bind_eq_some_iff.mp hf
  refine bs_call (o := pEN Ls xs (d + 1) 234 [.ref 101, .int (60 : Int32), .int x1, .int x2] (hp kp nh rh tl rl q5.1 q5.2)) (w := none) (h' := hp kp nh rh tl rl q6.1 q6.2) (pc := 76) (lo := [some (.ref 89), some (.int x1), some (.int x2)]) (rest := []) rfl (t_234_6 Ls xs (d + 0) kp tl rl nh rh n (60 : Int32) x1 x2 q5.1 q5.2 q6 hq6) ?_
  cases hf
  exact bs_ret rfl
/-- LampRoundsModel.house() on (89,) -/
def c_233_1 (n : Nat) (I : FI) (L : FL) : Option (Int32 × FI × FL) :=
  (f_221 I L).bind fun q3 =>
  if q3.1 89 12 = 0 then
    (f_235 n (4 : Int32) (0 : Int32) q3.1 q3.2).bind fun q4 =>
    some (q4.1 95 0, q4.1, q4.2)
  else
    some ((-4 : Int32), q3.1, q3.2)
set_option maxHeartbeats 1000000 in
set_option maxRecDepth 20000 in
theorem tc_233_1 (Ls : Nat) (xs : Nat → Int32) (d : Nat) (kp : Option Nat) (tl : List (Nat × Nat)) (rl : List (List (Option Nat))) (nh : Option Nat) (rh : Option Nat) (n : Nat) (I : FI) (L : FL) (r : Int32 × FI × FL) (hf : c_233_1 n I L = some r) : Bs cd_233 (sf 12 rs_12 false 1 (some (.int)) Ls xs (d + 7)) (118, [some (.ref 89)], [], hp kp nh rh tl rl I L) (some (.int r.1), hp kp nh rh tl rl r.2.1 r.2.2) := by
  unfold c_233_1 at hf
  refine bs_st 1 (x' := (119, [some (.ref 89)], [.ref 89], hp kp nh rh tl rl I L)) rfl ?_
  obtain ⟨q3, hq3, hf⟩ := Option.bind_eq_some_iff.mp hf
  refine bs_call (o := pEN Ls xs (d + 7) 221 [.ref 89] (hp kp nh rh tl rl I L)) (w := none) (h' := hp kp nh rh tl rl q3.1 q3.2) (pc := 122) (lo := [some (.ref 89)]) (rest := []) rfl (t_221 Ls xs (d + 6) kp tl rl nh rh I L q3 hq3) ?_
  refine bs_st 2 (x' := (126, [some (.ref 89)], [.int (q3.1 89 12)], hp kp nh rh tl rl q3.1 q3.2)) rfl ?_
  refine bs_br (t := 132) (e := 129) (lo := [some (.ref 89)]) (st := []) (h := hp kp nh rh tl rl q3.1 q3.2) rfl hf (fun hc hf => ?_) (fun hc hf => ?_)
  · refine bs_st 3 (x' := (135, [some (.ref 89)], [.int (0 : Int32), .int (4 : Int32), .ref 89], hp kp nh rh tl rl q3.1 q3.2)) rfl ?_
    obtain ⟨q4, hq4, hf⟩ := Option.bind_eq_some_iff.mp hf
    refine bs_call (o := pEN Ls xs (d + 7) 235 [.ref 89, .int (4 : Int32), .int (0 : Int32)] (hp kp nh rh tl rl q3.1 q3.2)) (w := none) (h' := hp kp nh rh tl rl q4.1 q4.2) (pc := 138) (lo := [some (.ref 89)]) (rest := []) rfl (t_235 Ls xs (d + 5) kp tl rl nh rh n (4 : Int32) (0 : Int32) q3.1 q3.2 q4 hq4) ?_
    refine bs_st 4 (x' := (144, [some (.ref 89)], [.int (q4.1 95 0)], hp kp nh rh tl rl q4.1 q4.2)) rfl ?_
    cases hf
    exact bs_ret rfl
  · refine bs_st 1 (x' := (131, [some (.ref 89)], [.int (-4 : Int32)], hp kp nh rh tl rl q3.1 q3.2)) rfl ?_
    cases hf
    exact bs_ret rfl
def c_233_3 (n : Nat) (K0 : FI → FL → Option (Int32 × FI × FL)) (I : FI) (L : FL) : Option (Int32 × FI × FL) :=
  K0 (u2 I 95 4 ((I 95 4) + (1 : Int32))) L
set_option maxHeartbeats 1000000 in
set_option maxRecDepth 20000 in
theorem tc_233_3 (Ls : Nat) (xs : Nat → Int32) (d : Nat) (kp : Option Nat) (tl : List (Nat × Nat)) (rl : List (List (Option Nat))) (nh : Option Nat) (rh : Option Nat) (n : Nat) (K0 : FI → FL → Option (Int32 × FI × FL)) (hK0 : ∀ (I : FI) (L : FL) (r : Int32 × FI × FL), K0 I L = some r → Bs cd_233 (sf 12 rs_12 false 1 (some (.int)) Ls xs (d + 7)) (13, [some (.ref 89)], [], hp kp nh rh tl rl I L) (some (.int r.1), hp kp nh rh tl rl r.2.1 r.2.2)) (I : FI) (L : FL) (r : Int32 × FI × FL) (hf : c_233_3 n K0 I L = some r) : Bs cd_233 (sf 12 rs_12 false 1 (some (.int)) Ls xs (d + 7)) (105, [some (.ref 89)], [], hp kp nh rh tl rl I L) (some (.int r.1), hp kp nh rh tl rl r.2.1 r.2.2) := by
  unfold c_233_3 at hf
  refine bs_st 9 (x' := (13, [some (.ref 89)], [], hp kp nh rh tl rl (u2 I 95 4 ((I 95 4) + (1 : Int32))) L)) rfl ?_
  exact hK0 (u2 I 95 4 ((I 95 4) + (1 : Int32))) L r hf
def c_233_2 (n : Nat) (K0 : FI → FL → Option (Int32 × FI × FL)) (I : FI) (L : FL) : Option (Int32 × FI × FL) :=
  (f_212 I L).bind fun q6 =>
  if q6 = 0 then
    c_233_3 n K0 I L
  else
    (f_219 n I L).bind fun q7 =>
    c_233_3 n K0 q7.1 q7.2
set_option maxHeartbeats 1000000 in
set_option maxRecDepth 20000 in
theorem tc_233_2 (Ls : Nat) (xs : Nat → Int32) (d : Nat) (kp : Option Nat) (tl : List (Nat × Nat)) (rl : List (List (Option Nat))) (nh : Option Nat) (rh : Option Nat) (n : Nat) (K0 : FI → FL → Option (Int32 × FI × FL)) (hK0 : ∀ (I : FI) (L : FL) (r : Int32 × FI × FL), K0 I L = some r → Bs cd_233 (sf 12 rs_12 false 1 (some (.int)) Ls xs (d + 7)) (13, [some (.ref 89)], [], hp kp nh rh tl rl I L) (some (.int r.1), hp kp nh rh tl rl r.2.1 r.2.2)) (I : FI) (L : FL) (r : Int32 × FI × FL) (hf : c_233_2 n K0 I L = some r) : Bs cd_233 (sf 12 rs_12 false 1 (some (.int)) Ls xs (d + 7)) (94, [some (.ref 89)], [], hp kp nh rh tl rl I L) (some (.int r.1), hp kp nh rh tl rl r.2.1 r.2.2) := by
  unfold c_233_2 at hf
  refine bs_st 1 (x' := (95, [some (.ref 89)], [.ref 89], hp kp nh rh tl rl I L)) rfl ?_
  obtain ⟨q6, hq6, hf⟩ := Option.bind_eq_some_iff.mp hf
  refine bs_call (o := pEN Ls xs (d + 7) 212 [.ref 89] (hp kp nh rh tl rl I L)) (w := some (.int q6)) (h' := hp kp nh rh tl rl I L) (pc := 98) (lo := [some (.ref 89)]) (rest := []) rfl (t_212 Ls xs (d + 6) kp tl rl nh rh I L q6 hq6) ?_
  refine bs_br (t := 105) (e := 101) (lo := [some (.ref 89)]) (st := []) (h := hp kp nh rh tl rl I L) rfl hf (fun hc hf => ?_) (fun hc hf => ?_)
  · exact tc_233_3 Ls xs d kp tl rl nh rh n _ hK0 I L r hf
  · refine bs_st 1 (x' := (102, [some (.ref 89)], [.ref 89], hp kp nh rh tl rl I L)) rfl ?_
    obtain ⟨q7, hq7, hf⟩ := Option.bind_eq_some_iff.mp hf
    refine bs_call (o := pEN Ls xs (d + 7) 219 [.ref 89] (hp kp nh rh tl rl I L)) (w := none) (h' := hp kp nh rh tl rl q7.1 q7.2) (pc := 105) (lo := [some (.ref 89)]) (rest := []) rfl (t_219 Ls xs (d + 4) kp tl rl nh rh n I L q7 hq7) ?_
    exact tc_233_3 Ls xs d kp tl rl nh rh n _ hK0 q7.1 q7.2 r hf
def b_233_0 (n : Nat) (K0 : FI → FL → Option (Int32 × FI × FL)) (I : FI) (L : FL) : Option (Int32 × FI × FL) :=
  (f_212 I L).bind fun q2 =>
  if q2 = 0 then
    c_233_1 n I L
  else
    if I 89 8 = 0 then
      c_233_1 n I L
    else
      if ¬ I 95 4 = 0 then
        (f_231 n I L).bind fun q5 =>
        c_233_2 n K0 q5.1 q5.2
      else
        (f_216 n (4562600 : Int64) I L).bind fun q8 =>
        (f_218 n (8798 : Int64) (0 : Int32) (3 : Int32) q8.1 q8.2).bind fun q9 =>
        (f_224 (0 : Int32) q9.1 q9.2.1 q9.2.2).bind fun q10 =>
        (f_218 n (298288 : Int64) (0 : Int32) (10 : Int32) q10.1 q10.2).bind fun q11 =>
        (f_224 (1 : Int32) q11.1 q11.2.1 q11.2.2).bind fun q12 =>
        (f_218 n (5173474771 : Int64) (1 : Int32) (30 : Int32) q12.1 q12.2).bind fun q13 =>
        (f_224 (2 : Int32) q13.1 q13.2.1 q13.2.2).bind fun q14 =>
        c_233_2 n K0 q14.1 q14.2
def c_233_0 (n : Nat) : Nat → FI → FL → Option (Int32 × FI × FL)
  | 0, _, _ => none
  | m + 1, I, L => b_233_0 n (c_233_0 n m) I L
set_option maxHeartbeats 1000000 in
set_option maxRecDepth 20000 in
theorem tc_233_0 (Ls : Nat) (xs : Nat → Int32) (d : Nat) (kp : Option Nat) (tl : List (Nat × Nat)) (rl : List (List (Option Nat))) (nh : Option Nat) (rh : Option Nat) (n : Nat) : ∀ (m : Nat) (I : FI) (L : FL) (r : Int32 × FI × FL), c_233_0 n m I L = some r → Bs cd_233 (sf 12 rs_12 false 1 (some (.int)) Ls xs (d + 7)) (13, [some (.ref 89)], [], hp kp nh rh tl rl I L) (some (.int r.1), hp kp nh rh tl rl r.2.1 r.2.2)
  | 0, I, L, r, hf => by cases hf
  | m + 1, I, L, r, hf => by
    unfold c_233_0 b_233_0 at hf
    have hK0 := tc_233_0 Ls xs d kp tl rl nh rh n m
    refine bs_st 1 (x' := (14, [some (.ref 89)], [.ref 89], hp kp nh rh tl rl I L)) rfl ?_
    obtain ⟨q2, hq2, hf⟩ := Option.bind_eq_some_iff.mp hf
    refine bs_call (o := pEN Ls xs (d + 7) 212 [.ref 89] (hp kp nh rh tl rl I L)) (w := some (.int q2)) (h' := hp kp nh rh tl rl I L) (pc := 17) (lo := [some (.ref 89)]) (rest := []) rfl (t_212 Ls xs (d + 6) kp tl rl nh rh I L q2 hq2) ?_
    refine bs_br (t := 118) (e := 20) (lo := [some (.ref 89)]) (st := []) (h := hp kp nh rh tl rl I L) rfl hf (fun hc hf => ?_) (fun hc hf => ?_)
    · exact tc_233_1 Ls xs d kp tl rl nh rh n I L r hf
    · refine bs_st 2 (x' := (24, [some (.ref 89)], [.int (I 89 8)], hp kp nh rh tl rl I L)) rfl ?_
      refine bs_br (t := 118) (e := 27) (lo := [some (.ref 89)]) (st := []) (h := hp kp nh rh tl rl I L) rfl hf (fun hc hf => ?_) (fun hc hf => ?_)
      · exact tc_233_1 Ls xs d kp tl rl nh rh n I L r hf
      · refine bs_st 4 (x' := (33, [some (.ref 89)], [.int (I 95 4)], hp kp nh rh tl rl I L)) rfl ?_
        refine bs_br (t := 90) (e := 36) (lo := [some (.ref 89)]) (st := []) (h := hp kp nh rh tl rl I L) rfl hf (fun hc hf => ?_) (fun hc hf => ?_)
        · refine bs_st 1 (x' := (91, [some (.ref 89)], [.ref 89], hp kp nh rh tl rl I L)) rfl ?_
          obtain ⟨q5, hq5, hf⟩ := Option.bind_eq_some_iff.mp hf
          refine bs_call (o := pEN Ls xs (d + 7) 231 [.ref 89] (hp kp nh rh tl rl I L)) (w := none) (h' := hp kp nh rh tl rl q5.1 q5.2) (pc := 94) (lo := [some (.ref 89)]) (rest := []) rfl (t_231 Ls xs (d + 0) kp tl rl nh rh n I L q5 hq5) ?_
          exact tc_233_2 Ls xs d kp tl rl nh rh n _ hK0 q5.1 q5.2 r hf
        · refine bs_st 2 (x' := (40, [some (.ref 89)], [.long (4562600 : Int64), .ref 89], hp kp nh rh tl rl I L)) rfl ?_
          obtain ⟨q8, hq8, hf⟩ := Option.bind_eq_some_iff.mp hf
          refine bs_call (o := pEN Ls xs (d + 7) 216 [.ref 89, .long (4562600 : Int64)] (hp kp nh rh tl rl I L)) (w := none) (h' := hp kp nh rh tl rl q8.1 q8.2) (pc := 43) (lo := [some (.ref 89)]) (rest := []) rfl (t_216 Ls xs (d + 3) kp tl rl nh rh n (4562600 : Int64) I L q8 hq8) ?_
          refine bs_st 6 (x' := (51, [some (.ref 89)], [.int (3 : Int32), .int (0 : Int32), .long (8798 : Int64), .ref 89, .int (0 : Int32), .ref 89], hp kp nh rh tl rl q8.1 q8.2)) rfl ?_
          obtain ⟨q9, hq9, hf⟩ := Option.bind_eq_some_iff.mp hf
          refine bs_call (o := pEN Ls xs (d + 7) 218 [.ref 89, .long (8798 : Int64), .int (0 : Int32), .int (3 : Int32)] (hp kp nh rh tl rl q8.1 q8.2)) (w := some (.int q9.1)) (h' := hp kp nh rh tl rl q9.2.1 q9.2.2) (pc := 54) (lo := [some (.ref 89)]) (rest := [.int (0 : Int32), .ref 89]) rfl (t_218 Ls xs (d + 2) kp tl rl nh rh n (8798 : Int64) (0 : Int32) (3 : Int32) q8.1 q8.2 q9 hq9) ?_
          obtain ⟨q10, hq10, hf⟩ := Option.bind_eq_some_iff.mp hf
          refine bs_call (o := pEN Ls xs (d + 7) 224 [.ref 89, .int (0 : Int32), .int q9.1] (hp kp nh rh tl rl q9.2.1 q9.2.2)) (w := none) (h' := hp kp nh rh tl rl q10.1 q10.2) (pc := 57) (lo := [some (.ref 89)]) (rest := []) rfl (t_224 Ls xs (d + 6) kp tl rl nh rh (0 : Int32) q9.1 q9.2.1 q9.2.2 q10 hq10) ?_
          refine bs_st 6 (x' := (66, [some (.ref 89)], [.int (10 : Int32), .int (0 : Int32), .long (298288 : Int64), .ref 89, .int (1 : Int32), .ref 89], hp kp nh rh tl rl q10.1 q10.2)) rfl ?_
          obtain ⟨q11, hq11, hf⟩ := Option.bind_eq_some_iff.mp hf
          refine bs_call (o := pEN Ls xs (d + 7) 218 [.ref 89, .long (298288 : Int64), .int (0 : Int32), .int (10 : Int32)] (hp kp nh rh tl rl q10.1 q10.2)) (w := some (.int q11.1)) (h' := hp kp nh rh tl rl q11.2.1 q11.2.2) (pc := 69) (lo := [some (.ref 89)]) (rest := [.int (1 : Int32), .ref 89]) rfl (t_218 Ls xs (d + 2) kp tl rl nh rh n (298288 : Int64) (0 : Int32) (10 : Int32) q10.1 q10.2 q11 hq11) ?_
          obtain ⟨q12, hq12, hf⟩ := Option.bind_eq_some_iff.mp hf
          refine bs_call (o := pEN Ls xs (d + 7) 224 [.ref 89, .int (1 : Int32), .int q11.1] (hp kp nh rh tl rl q11.2.1 q11.2.2)) (w := none) (h' := hp kp nh rh tl rl q12.1 q12.2) (pc := 72) (lo := [some (.ref 89)]) (rest := []) rfl (t_224 Ls xs (d + 6) kp tl rl nh rh (1 : Int32) q11.1 q11.2.1 q11.2.2 q12 hq12) ?_
          refine bs_st 6 (x' := (81, [some (.ref 89)], [.int (30 : Int32), .int (1 : Int32), .long (5173474771 : Int64), .ref 89, .int (2 : Int32), .ref 89], hp kp nh rh tl rl q12.1 q12.2)) rfl ?_
          obtain ⟨q13, hq13, hf⟩ := Option.bind_eq_some_iff.mp hf
          refine bs_call (o := pEN Ls xs (d + 7) 218 [.ref 89, .long (5173474771 : Int64), .int (1 : Int32), .int (30 : Int32)] (hp kp nh rh tl rl q12.1 q12.2)) (w := some (.int q13.1)) (h' := hp kp nh rh tl rl q13.2.1 q13.2.2) (pc := 84) (lo := [some (.ref 89)]) (rest := [.int (2 : Int32), .ref 89]) rfl (t_218 Ls xs (d + 2) kp tl rl nh rh n (5173474771 : Int64) (1 : Int32) (30 : Int32) q12.1 q12.2 q13 hq13) ?_
          obtain ⟨q14, hq14, hf⟩ := Option.bind_eq_some_iff.mp hf
          refine bs_call (o := pEN Ls xs (d + 7) 224 [.ref 89, .int (2 : Int32), .int q13.1] (hp kp nh rh tl rl q13.2.1 q13.2.2)) (w := none) (h' := hp kp nh rh tl rl q14.1 q14.2) (pc := 87) (lo := [some (.ref 89)]) (rest := []) rfl (t_224 Ls xs (d + 6) kp tl rl nh rh (2 : Int32) q13.1 q13.2.1 q13.2.2 q14 hq14) ?_
          refine bs_st 1 (x' := (94, [some (.ref 89)], [], hp kp nh rh tl rl q14.1 q14.2)) rfl ?_
          exact tc_233_2 Ls xs d kp tl rl nh rh n _ hK0 q14.1 q14.2 r hf
def f_233 (n : Nat) (I : FI) (L : FL) : Option (Int32 × FI × FL) :=
  (f_232 n (u2 I 89 0 (0 : Int32)) L).bind fun q0 =>
  (f_220 n q0.1 q0.2).bind fun q1 =>
  c_233_0 n n q1.1 q1.2
set_option maxHeartbeats 1000000 in
set_option maxRecDepth 20000 in
theorem t_233 (Ls : Nat) (xs : Nat → Int32) (d : Nat) (kp : Option Nat) (tl : List (Nat × Nat)) (rl : List (List (Option Nat))) (nh : Option Nat) (rh : Option Nat) (n : Nat) (I : FI) (L : FL) (r : Int32 × FI × FL) (hf : f_233 n I L = some r) : pEN Ls xs (d + 8) 233 [.ref 89] (hp kp nh rh tl rl I L) = some (some (.int r.1), hp kp nh rh tl rl r.2.1 r.2.2) := by
  refine en_run (d := d + 7) (cd := cd_233) (f := (sf 12 rs_12 false 1 (some (.int)) Ls xs (d + 7))) rfl rfl (x := (0, [some (.ref 89)], [], hp kp nh rh tl rl I L)) rfl rfl (Nat.le_of_ble_eq_true rfl) ?_
  unfold f_233 at hf
  refine bs_st 4 (x' := (6, [some (.ref 89)], [.ref 89], hp kp nh rh tl rl (u2 I 89 0 (0 : Int32)) L)) rfl ?_
  obtain ⟨q0, hq0, hf⟩ := Option.bind_eq_some_iff.mp hf
  refine bs_call (o := pEN Ls xs (d + 7) 232 [.ref 89] (hp kp nh rh tl rl (u2 I 89 0 (0 : Int32)) L)) (w := none) (h' := hp kp nh rh tl rl q0.1 q0.2) (pc := 9) (lo := [some (.ref 89)]) (rest := []) rfl (t_232 Ls xs (d + 5) kp tl rl nh rh n (u2 I 89 0 (0 : Int32)) L q0 hq0) ?_
  refine bs_st 1 (x' := (10, [some (.ref 89)], [.ref 89], hp kp nh rh tl rl q0.1 q0.2)) rfl ?_
  obtain ⟨q1, hq1, hf⟩ := Option.bind_eq_some_iff.mp hf
  refine bs_call (o := pEN Ls xs (d + 7) 220 [.ref 89] (hp kp nh rh tl rl q0.1 q0.2)) (w := none) (h' := hp kp nh rh tl rl q1.1 q1.2) (pc := 13) (lo := [some (.ref 89)]) (rest := []) rfl (t_220 Ls xs (d + 4) kp tl rl nh rh n q0.1 q0.2 q1 hq1) ?_
  exact tc_233_0 Ls xs d kp tl rl nh rh n n q1.1 q1.2 r hf
/-- LampRoundsModel.isHouse() on (89,) -/
def f_236 (I : FI) (L : FL) : Option (Int32) :=
  if I 95 0 ≤ 0 then
    some ((0 : Int32))
  else
    some ((1 : Int32))
set_option maxHeartbeats 1000000 in
set_option maxRecDepth 20000 in
theorem t_236 (Ls : Nat) (xs : Nat → Int32) (d : Nat) (kp : Option Nat) (tl : List (Nat × Nat)) (rl : List (List (Option Nat))) (nh : Option Nat) (rh : Option Nat) (I : FI) (L : FL) (r : Int32) (hf : f_236 I L = some r) : pEN Ls xs (d + 1) 236 [.ref 89] (hp kp nh rh tl rl I L) = some (some (.int r), hp kp nh rh tl rl I L) := by
  refine en_run (d := d + 0) (cd := cd_236) (f := (sf 12 rs_12 false 1 (some (.boolean)) Ls xs (d + 0))) rfl rfl (x := (0, [some (.ref 89)], [], hp kp nh rh tl rl I L)) rfl rfl (Nat.le_of_ble_eq_true rfl) ?_
  unfold f_236 at hf
  refine bs_st 4 (x' := (6, [some (.ref 89)], [.int (I 95 0)], hp kp nh rh tl rl I L)) rfl ?_
  refine bs_br (t := 13) (e := 9) (lo := [some (.ref 89)]) (st := []) (h := hp kp nh rh tl rl I L) rfl hf (fun hc hf => ?_) (fun hc hf => ?_)
  · refine bs_st 1 (x' := (14, [some (.ref 89)], [.int (0 : Int32)], hp kp nh rh tl rl I L)) rfl ?_
    cases hf
    exact bs_ret rfl
  · refine bs_st 2 (x' := (14, [some (.ref 89)], [.int (1 : Int32)], hp kp nh rh tl rl I L)) rfl ?_
    cases hf
    exact bs_ret rfl
/-- LampRoundsModel.rooms() on (89,) -/
def f_237 (I : FI) (L : FL) : Option (Int32) :=
  some (I 96 3)
set_option maxHeartbeats 1000000 in
set_option maxRecDepth 20000 in
theorem t_237 (Ls : Nat) (xs : Nat → Int32) (d : Nat) (kp : Option Nat) (tl : List (Nat × Nat)) (rl : List (List (Option Nat))) (nh : Option Nat) (rh : Option Nat) (I : FI) (L : FL) (r : Int32) (hf : f_237 I L = some r) : pEN Ls xs (d + 1) 237 [.ref 89] (hp kp nh rh tl rl I L) = some (some (.int r), hp kp nh rh tl rl I L) := by
  refine en_run (d := d + 0) (cd := cd_237) (f := (sf 12 rs_12 false 1 (some (.int)) Ls xs (d + 0))) rfl rfl (x := (0, [some (.ref 89)], [], hp kp nh rh tl rl I L)) rfl rfl (Nat.le_of_ble_eq_true rfl) ?_
  unfold f_237 at hf
  refine bs_st 4 (x' := (6, [some (.ref 89)], [.int (I 96 3)], hp kp nh rh tl rl I L)) rfl ?_
  cases hf
  exact bs_ret rfl
/-- LampRoundsModel.minutes() on (89,) -/
def f_238 (I : FI) (L : FL) : Option (Int32) :=
  some (I 96 2)
set_option maxHeartbeats 1000000 in
set_option maxRecDepth 20000 in
theorem t_238 (Ls : Nat) (xs : Nat → Int32) (d : Nat) (kp : Option Nat) (tl : List (Nat × Nat)) (rl : List (List (Option Nat))) (nh : Option Nat) (rh : Option Nat) (I : FI) (L : FL) (r : Int32) (hf : f_238 I L = some r) : pEN Ls xs (d + 1) 238 [.ref 89] (hp kp nh rh tl rl I L) = some (some (.int r), hp kp nh rh tl rl I L) := by
  refine en_run (d := d + 0) (cd := cd_238) (f := (sf 12 rs_12 false 1 (some (.int)) Ls xs (d + 0))) rfl rfl (x := (0, [some (.ref 89)], [], hp kp nh rh tl rl I L)) rfl rfl (Nat.le_of_ble_eq_true rfl) ?_
  unfold f_238 at hf
  refine bs_st 4 (x' := (6, [some (.ref 89)], [.int (I 96 2)], hp kp nh rh tl rl I L)) rfl ?_
  cases hf
  exact bs_ret rfl
/-- LampRoundsModel.isIn(J) on (89,) -/
def f_239 (y1 : Int64) (I : FI) (L : FL) : Option (Int32) :=
  (f_237 I L).bind fun q0 =>
  (f_201 y1 (0 : Int64) (q0.toInt64 - (1 : Int64)) I L).bind fun q1 =>
  if narrow .boolean (.int q1) = .int q1 then some (q1) else none
set_option maxHeartbeats 1000000 in
set_option maxRecDepth 20000 in
theorem t_239 (Ls : Nat) (xs : Nat → Int32) (d : Nat) (kp : Option Nat) (tl : List (Nat × Nat)) (rl : List (List (Option Nat))) (nh : Option Nat) (rh : Option Nat) (y1 : Int64) (I : FI) (L : FL) (r : Int32) (hf : f_239 y1 I L = some r) : pEN Ls xs (d + 2) 239 [.ref 89, .long y1] (hp kp nh rh tl rl I L) = some (some (.int r), hp kp nh rh tl rl I L) := by
  refine en_run (d := d + 1) (cd := cd_239) (f := (sf 12 rs_12 false 3 (some (.boolean)) Ls xs (d + 1))) rfl rfl (x := (0, [some (.ref 89), some (.long y1), none], [], hp kp nh rh tl rl I L)) rfl rfl (Nat.le_of_ble_eq_true rfl) ?_
  unfold f_239 at hf
  refine bs_st 3 (x' := (3, [some (.ref 89), some (.long y1), none], [.ref 89, .long (0 : Int64), .long y1], hp kp nh rh tl rl I L)) rfl ?_
  obtain ⟨q0, hq0, hf⟩ := Option.bind_eq_some_iff.mp hf
  refine bs_call (o := pEN Ls xs (d + 1) 237 [.ref 89] (hp kp nh rh tl rl I L)) (w := some (.int q0)) (h' := hp kp nh rh tl rl I L) (pc := 6) (lo := [some (.ref 89), some (.long y1), none]) (rest := [.long (0 : Int64), .long y1]) rfl (t_237 Ls xs (d + 0) kp tl rl nh rh I L q0 hq0) ?_
  refine bs_st 3 (x' := (9, [some (.ref 89), some (.long y1), none], [.long (q0.toInt64 - (1 : Int64)), .long (0 : Int64), .long y1], hp kp nh rh tl rl I L)) rfl ?_
  obtain ⟨q1, hq1, hf⟩ := Option.bind_eq_some_iff.mp hf
  refine bs_call (o := pEN Ls xs (d + 1) 201 [.long y1, .long (0 : Int64), .long (q0.toInt64 - (1 : Int64))] (hp kp nh rh tl rl I L)) (w := some (.int q1)) (h' := hp kp nh rh tl rl I L) (pc := 12) (lo := [some (.ref 89), some (.long y1), none]) (rest := []) rfl (t_201 Ls xs (d + 0) kp tl rl nh rh y1 (0 : Int64) (q0.toInt64 - (1 : Int64)) I L q1 hq1) ?_
  split at hf
  · rename_i hg; cases hf; exact bs_rg rfl hg
  · cases hf
/-- LampRoundsModel.areTwo(II) on (89,) -/
def f_240 (x1 : Int32) (x2 : Int32) (I : FI) (L : FL) : Option (Int32) :=
  (f_239 x1.toInt64 I L).bind fun q0 =>
  if q0 = 0 then
    some ((0 : Int32))
  else
    (f_239 x2.toInt64 I L).bind fun q1 =>
    if q1 = 0 then
      some ((0 : Int32))
    else
      if x1 = x2 then
        some ((0 : Int32))
      else
        some ((1 : Int32))
set_option maxHeartbeats 1000000 in
set_option maxRecDepth 20000 in
theorem t_240 (Ls : Nat) (xs : Nat → Int32) (d : Nat) (kp : Option Nat) (tl : List (Nat × Nat)) (rl : List (List (Option Nat))) (nh : Option Nat) (rh : Option Nat) (x1 : Int32) (x2 : Int32) (I : FI) (L : FL) (r : Int32) (hf : f_240 x1 x2 I L = some r) : pEN Ls xs (d + 3) 240 [.ref 89, .int x1, .int x2] (hp kp nh rh tl rl I L) = some (some (.int r), hp kp nh rh tl rl I L) := by
  refine en_run (d := d + 2) (cd := cd_240) (f := (sf 12 rs_12 false 3 (some (.boolean)) Ls xs (d + 2))) rfl rfl (x := (0, [some (.ref 89), some (.int x1), some (.int x2)], [], hp kp nh rh tl rl I L)) rfl rfl (Nat.le_of_ble_eq_true rfl) ?_
  unfold f_240 at hf
  refine bs_st 3 (x' := (3, [some (.ref 89), some (.int x1), some (.int x2)], [.long x1.toInt64, .ref 89], hp kp nh rh tl rl I L)) rfl ?_
  obtain ⟨q0, hq0, hf⟩ := Option.bind_eq_some_iff.mp hf
  refine bs_call (o := pEN Ls xs (d + 2) 239 [.ref 89, .long x1.toInt64] (hp kp nh rh tl rl I L)) (w := some (.int q0)) (h' := hp kp nh rh tl rl I L) (pc := 6) (lo := [some (.ref 89), some (.int x1), some (.int x2)]) (rest := []) rfl (t_239 Ls xs (d + 0) kp tl rl nh rh x1.toInt64 I L q0 hq0) ?_
  refine bs_br (t := 27) (e := 9) (lo := [some (.ref 89), some (.int x1), some (.int x2)]) (st := []) (h := hp kp nh rh tl rl I L) rfl hf (fun hc hf => ?_) (fun hc hf => ?_)
  · refine bs_st 1 (x' := (28, [some (.ref 89), some (.int x1), some (.int x2)], [.int (0 : Int32)], hp kp nh rh tl rl I L)) rfl ?_
    cases hf
    exact bs_ret rfl
  · refine bs_st 3 (x' := (12, [some (.ref 89), some (.int x1), some (.int x2)], [.long x2.toInt64, .ref 89], hp kp nh rh tl rl I L)) rfl ?_
    obtain ⟨q1, hq1, hf⟩ := Option.bind_eq_some_iff.mp hf
    refine bs_call (o := pEN Ls xs (d + 2) 239 [.ref 89, .long x2.toInt64] (hp kp nh rh tl rl I L)) (w := some (.int q1)) (h' := hp kp nh rh tl rl I L) (pc := 15) (lo := [some (.ref 89), some (.int x1), some (.int x2)]) (rest := []) rfl (t_239 Ls xs (d + 0) kp tl rl nh rh x2.toInt64 I L q1 hq1) ?_
    refine bs_br (t := 27) (e := 18) (lo := [some (.ref 89), some (.int x1), some (.int x2)]) (st := []) (h := hp kp nh rh tl rl I L) rfl hf (fun hc hf => ?_) (fun hc hf => ?_)
    · refine bs_st 1 (x' := (28, [some (.ref 89), some (.int x1), some (.int x2)], [.int (0 : Int32)], hp kp nh rh tl rl I L)) rfl ?_
      cases hf
      exact bs_ret rfl
    · refine bs_st 2 (x' := (20, [some (.ref 89), some (.int x1), some (.int x2)], [.int x2, .int x1], hp kp nh rh tl rl I L)) rfl ?_
      refine bs_br (t := 27) (e := 23) (lo := [some (.ref 89), some (.int x1), some (.int x2)]) (st := []) (h := hp kp nh rh tl rl I L) rfl hf (fun hc hf => ?_) (fun hc hf => ?_)
      · refine bs_st 1 (x' := (28, [some (.ref 89), some (.int x1), some (.int x2)], [.int (0 : Int32)], hp kp nh rh tl rl I L)) rfl ?_
        cases hf
        exact bs_ret rfl
      · refine bs_st 2 (x' := (28, [some (.ref 89), some (.int x1), some (.int x2)], [.int (1 : Int32)], hp kp nh rh tl rl I L)) rfl ?_
        cases hf
        exact bs_ret rfl
/-- LampRoundsModel.isMinute(J) on (89,) -/
def f_241 (y1 : Int64) (I : FI) (L : FL) : Option (Int32) :=
  (f_238 I L).bind fun q0 =>
  (f_201 y1 (0 : Int64) (q0.toInt64 - (1 : Int64)) I L).bind fun q1 =>
  if narrow .boolean (.int q1) = .int q1 then some (q1) else none
set_option maxHeartbeats 1000000 in
set_option maxRecDepth 20000 in
theorem t_241 (Ls : Nat) (xs : Nat → Int32) (d : Nat) (kp : Option Nat) (tl : List (Nat × Nat)) (rl : List (List (Option Nat))) (nh : Option Nat) (rh : Option Nat) (y1 : Int64) (I : FI) (L : FL) (r : Int32) (hf : f_241 y1 I L = some r) : pEN Ls xs (d + 2) 241 [.ref 89, .long y1] (hp kp nh rh tl rl I L) = some (some (.int r), hp kp nh rh tl rl I L) := by
  refine en_run (d := d + 1) (cd := cd_241) (f := (sf 12 rs_12 false 3 (some (.boolean)) Ls xs (d + 1))) rfl rfl (x := (0, [some (.ref 89), some (.long y1), none], [], hp kp nh rh tl rl I L)) rfl rfl (Nat.le_of_ble_eq_true rfl) ?_
  unfold f_241 at hf
  refine bs_st 3 (x' := (3, [some (.ref 89), some (.long y1), none], [.ref 89, .long (0 : Int64), .long y1], hp kp nh rh tl rl I L)) rfl ?_
  obtain ⟨q0, hq0, hf⟩ := Option.bind_eq_some_iff.mp hf
  refine bs_call (o := pEN Ls xs (d + 1) 238 [.ref 89] (hp kp nh rh tl rl I L)) (w := some (.int q0)) (h' := hp kp nh rh tl rl I L) (pc := 6) (lo := [some (.ref 89), some (.long y1), none]) (rest := [.long (0 : Int64), .long y1]) rfl (t_238 Ls xs (d + 0) kp tl rl nh rh I L q0 hq0) ?_
  refine bs_st 3 (x' := (9, [some (.ref 89), some (.long y1), none], [.long (q0.toInt64 - (1 : Int64)), .long (0 : Int64), .long y1], hp kp nh rh tl rl I L)) rfl ?_
  obtain ⟨q1, hq1, hf⟩ := Option.bind_eq_some_iff.mp hf
  refine bs_call (o := pEN Ls xs (d + 1) 201 [.long y1, .long (0 : Int64), .long (q0.toInt64 - (1 : Int64))] (hp kp nh rh tl rl I L)) (w := some (.int q1)) (h' := hp kp nh rh tl rl I L) (pc := 12) (lo := [some (.ref 89), some (.long y1), none]) (rest := []) rfl (t_201 Ls xs (d + 0) kp tl rl nh rh y1 (0 : Int64) (q0.toInt64 - (1 : Int64)) I L q1 hq1) ?_
  split at hf
  · rename_i hg; cases hf; exact bs_rg rfl hg
  · cases hf
/-- LampRoundsModel.isHalf(I) on () -/
def f_242 (x0 : Int32) (I : FI) (L : FL) : Option (Int32) :=
  (f_201 x0.toInt64 (0 : Int64) (1 : Int64) I L).bind fun q0 =>
  if narrow .boolean (.int q0) = .int q0 then some (q0) else none
set_option maxHeartbeats 1000000 in
set_option maxRecDepth 20000 in
theorem t_242 (Ls : Nat) (xs : Nat → Int32) (d : Nat) (kp : Option Nat) (tl : List (Nat × Nat)) (rl : List (List (Option Nat))) (nh : Option Nat) (rh : Option Nat) (x0 : Int32) (I : FI) (L : FL) (r : Int32) (hf : f_242 x0 I L = some r) : pEN Ls xs (d + 2) 242 [.int x0] (hp kp nh rh tl rl I L) = some (some (.int r), hp kp nh rh tl rl I L) := by
  refine en_run (d := d + 1) (cd := cd_242) (f := (sf 12 rs_12 false 1 (some (.boolean)) Ls xs (d + 1))) rfl rfl (x := (0, [some (.int x0)], [], hp kp nh rh tl rl I L)) rfl rfl (Nat.le_of_ble_eq_true rfl) ?_
  unfold f_242 at hf
  refine bs_st 4 (x' := (4, [some (.int x0)], [.long (1 : Int64), .long (0 : Int64), .long x0.toInt64], hp kp nh rh tl rl I L)) rfl ?_
  obtain ⟨q0, hq0, hf⟩ := Option.bind_eq_some_iff.mp hf
  refine bs_call (o := pEN Ls xs (d + 1) 201 [.long x0.toInt64, .long (0 : Int64), .long (1 : Int64)] (hp kp nh rh tl rl I L)) (w := some (.int q0)) (h' := hp kp nh rh tl rl I L) (pc := 7) (lo := [some (.int x0)]) (rest := []) rfl (t_201 Ls xs (d + 0) kp tl rl nh rh x0.toInt64 (0 : Int64) (1 : Int64) I L q0 hq0) ?_
  split at hf
  · rename_i hg; cases hf; exact bs_rg rfl hg
  · cases hf
/-- LampRoundsModel.isThen(II) on (89,) -/
def f_243 (x1 : Int32) (x2 : Int32) (I : FI) (L : FL) : Option (Int32) :=
  (f_242 x1 I L).bind fun q0 =>
  if q0 = 0 then
    some ((0 : Int32))
  else
    (f_241 x2.toInt64 I L).bind fun q1 =>
    if q1 = 0 then
      some ((0 : Int32))
    else
      some ((1 : Int32))
set_option maxHeartbeats 1000000 in
set_option maxRecDepth 20000 in
theorem t_243 (Ls : Nat) (xs : Nat → Int32) (d : Nat) (kp : Option Nat) (tl : List (Nat × Nat)) (rl : List (List (Option Nat))) (nh : Option Nat) (rh : Option Nat) (x1 : Int32) (x2 : Int32) (I : FI) (L : FL) (r : Int32) (hf : f_243 x1 x2 I L = some r) : pEN Ls xs (d + 3) 243 [.ref 89, .int x1, .int x2] (hp kp nh rh tl rl I L) = some (some (.int r), hp kp nh rh tl rl I L) := by
  refine en_run (d := d + 2) (cd := cd_243) (f := (sf 12 rs_12 false 3 (some (.boolean)) Ls xs (d + 2))) rfl rfl (x := (0, [some (.ref 89), some (.int x1), some (.int x2)], [], hp kp nh rh tl rl I L)) rfl rfl (Nat.le_of_ble_eq_true rfl) ?_
  unfold f_243 at hf
  refine bs_st 1 (x' := (1, [some (.ref 89), some (.int x1), some (.int x2)], [.int x1], hp kp nh rh tl rl I L)) rfl ?_
  obtain ⟨q0, hq0, hf⟩ := Option.bind_eq_some_iff.mp hf
  refine bs_call (o := pEN Ls xs (d + 2) 242 [.int x1] (hp kp nh rh tl rl I L)) (w := some (.int q0)) (h' := hp kp nh rh tl rl I L) (pc := 4) (lo := [some (.ref 89), some (.int x1), some (.int x2)]) (rest := []) rfl (t_242 Ls xs (d + 0) kp tl rl nh rh x1 I L q0 hq0) ?_
  refine bs_br (t := 20) (e := 7) (lo := [some (.ref 89), some (.int x1), some (.int x2)]) (st := []) (h := hp kp nh rh tl rl I L) rfl hf (fun hc hf => ?_) (fun hc hf => ?_)
  · refine bs_st 1 (x' := (21, [some (.ref 89), some (.int x1), some (.int x2)], [.int (0 : Int32)], hp kp nh rh tl rl I L)) rfl ?_
    cases hf
    exact bs_ret rfl
  · refine bs_st 3 (x' := (10, [some (.ref 89), some (.int x1), some (.int x2)], [.long x2.toInt64, .ref 89], hp kp nh rh tl rl I L)) rfl ?_
    obtain ⟨q1, hq1, hf⟩ := Option.bind_eq_some_iff.mp hf
    refine bs_call (o := pEN Ls xs (d + 2) 241 [.ref 89, .long x2.toInt64] (hp kp nh rh tl rl I L)) (w := some (.int q1)) (h' := hp kp nh rh tl rl I L) (pc := 13) (lo := [some (.ref 89), some (.int x1), some (.int x2)]) (rest := []) rfl (t_241 Ls xs (d + 0) kp tl rl nh rh x2.toInt64 I L q1 hq1) ?_
    refine bs_br (t := 20) (e := 16) (lo := [some (.ref 89), some (.int x1), some (.int x2)]) (st := []) (h := hp kp nh rh tl rl I L) rfl hf (fun hc hf => ?_) (fun hc hf => ?_)
    · refine bs_st 1 (x' := (21, [some (.ref 89), some (.int x1), some (.int x2)], [.int (0 : Int32)], hp kp nh rh tl rl I L)) rfl ?_
      cases hf
      exact bs_ret rfl
    · refine bs_st 2 (x' := (21, [some (.ref 89), some (.int x1), some (.int x2)], [.int (1 : Int32)], hp kp nh rh tl rl I L)) rfl ?_
      cases hf
      exact bs_ret rfl
/-- LampRoundsModel.isFlame(II) on (89,) -/
def f_244 (x1 : Int32) (x2 : Int32) (I : FI) (L : FL) : Option (Int32) :=
  (f_242 x1 I L).bind fun q0 =>
  if q0 = 0 then
    some ((0 : Int32))
  else
    (f_239 x2.toInt64 I L).bind fun q1 =>
    if q1 = 0 then
      some ((0 : Int32))
    else
      some ((1 : Int32))
set_option maxHeartbeats 1000000 in
set_option maxRecDepth 20000 in
theorem t_244 (Ls : Nat) (xs : Nat → Int32) (d : Nat) (kp : Option Nat) (tl : List (Nat × Nat)) (rl : List (List (Option Nat))) (nh : Option Nat) (rh : Option Nat) (x1 : Int32) (x2 : Int32) (I : FI) (L : FL) (r : Int32) (hf : f_244 x1 x2 I L = some r) : pEN Ls xs (d + 3) 244 [.ref 89, .int x1, .int x2] (hp kp nh rh tl rl I L) = some (some (.int r), hp kp nh rh tl rl I L) := by
  refine en_run (d := d + 2) (cd := cd_244) (f := (sf 12 rs_12 false 3 (some (.boolean)) Ls xs (d + 2))) rfl rfl (x := (0, [some (.ref 89), some (.int x1), some (.int x2)], [], hp kp nh rh tl rl I L)) rfl rfl (Nat.le_of_ble_eq_true rfl) ?_
  unfold f_244 at hf
  refine bs_st 1 (x' := (1, [some (.ref 89), some (.int x1), some (.int x2)], [.int x1], hp kp nh rh tl rl I L)) rfl ?_
  obtain ⟨q0, hq0, hf⟩ := Option.bind_eq_some_iff.mp hf
  refine bs_call (o := pEN Ls xs (d + 2) 242 [.int x1] (hp kp nh rh tl rl I L)) (w := some (.int q0)) (h' := hp kp nh rh tl rl I L) (pc := 4) (lo := [some (.ref 89), some (.int x1), some (.int x2)]) (rest := []) rfl (t_242 Ls xs (d + 0) kp tl rl nh rh x1 I L q0 hq0) ?_
  refine bs_br (t := 20) (e := 7) (lo := [some (.ref 89), some (.int x1), some (.int x2)]) (st := []) (h := hp kp nh rh tl rl I L) rfl hf (fun hc hf => ?_) (fun hc hf => ?_)
  · refine bs_st 1 (x' := (21, [some (.ref 89), some (.int x1), some (.int x2)], [.int (0 : Int32)], hp kp nh rh tl rl I L)) rfl ?_
    cases hf
    exact bs_ret rfl
  · refine bs_st 3 (x' := (10, [some (.ref 89), some (.int x1), some (.int x2)], [.long x2.toInt64, .ref 89], hp kp nh rh tl rl I L)) rfl ?_
    obtain ⟨q1, hq1, hf⟩ := Option.bind_eq_some_iff.mp hf
    refine bs_call (o := pEN Ls xs (d + 2) 239 [.ref 89, .long x2.toInt64] (hp kp nh rh tl rl I L)) (w := some (.int q1)) (h' := hp kp nh rh tl rl I L) (pc := 13) (lo := [some (.ref 89), some (.int x1), some (.int x2)]) (rest := []) rfl (t_239 Ls xs (d + 0) kp tl rl nh rh x2.toInt64 I L q1 hq1) ?_
    refine bs_br (t := 20) (e := 16) (lo := [some (.ref 89), some (.int x1), some (.int x2)]) (st := []) (h := hp kp nh rh tl rl I L) rfl hf (fun hc hf => ?_) (fun hc hf => ?_)
    · refine bs_st 1 (x' := (21, [some (.ref 89), some (.int x1), some (.int x2)], [.int (0 : Int32)], hp kp nh rh tl rl I L)) rfl ?_
      cases hf
      exact bs_ret rfl
    · refine bs_st 2 (x' := (21, [some (.ref 89), some (.int x1), some (.int x2)], [.int (1 : Int32)], hp kp nh rh tl rl I L)) rfl ?_
      cases hf
      exact bs_ret rfl
/-- LampRoundsModel.isMode(I) on (89,) -/
def f_245 (x1 : Int32) (I : FI) (L : FL) : Option (Int32) :=
  (f_236 I L).bind fun q0 =>
  if q0 = 0 then
    some ((0 : Int32))
  else
    (f_242 x1 I L).bind fun q1 =>
    if q1 = 0 then
      some ((0 : Int32))
    else
      some ((1 : Int32))
set_option maxHeartbeats 1000000 in
set_option maxRecDepth 20000 in
theorem t_245 (Ls : Nat) (xs : Nat → Int32) (d : Nat) (kp : Option Nat) (tl : List (Nat × Nat)) (rl : List (List (Option Nat))) (nh : Option Nat) (rh : Option Nat) (x1 : Int32) (I : FI) (L : FL) (r : Int32) (hf : f_245 x1 I L = some r) : pEN Ls xs (d + 3) 245 [.ref 89, .int x1] (hp kp nh rh tl rl I L) = some (some (.int r), hp kp nh rh tl rl I L) := by
  refine en_run (d := d + 2) (cd := cd_245) (f := (sf 12 rs_12 false 2 (some (.boolean)) Ls xs (d + 2))) rfl rfl (x := (0, [some (.ref 89), some (.int x1)], [], hp kp nh rh tl rl I L)) rfl rfl (Nat.le_of_ble_eq_true rfl) ?_
  unfold f_245 at hf
  refine bs_st 1 (x' := (1, [some (.ref 89), some (.int x1)], [.ref 89], hp kp nh rh tl rl I L)) rfl ?_
  obtain ⟨q0, hq0, hf⟩ := Option.bind_eq_some_iff.mp hf
  refine bs_call (o := pEN Ls xs (d + 2) 236 [.ref 89] (hp kp nh rh tl rl I L)) (w := some (.int q0)) (h' := hp kp nh rh tl rl I L) (pc := 4) (lo := [some (.ref 89), some (.int x1)]) (rest := []) rfl (t_236 Ls xs (d + 1) kp tl rl nh rh I L q0 hq0) ?_
  refine bs_br (t := 18) (e := 7) (lo := [some (.ref 89), some (.int x1)]) (st := []) (h := hp kp nh rh tl rl I L) rfl hf (fun hc hf => ?_) (fun hc hf => ?_)
  · refine bs_st 1 (x' := (19, [some (.ref 89), some (.int x1)], [.int (0 : Int32)], hp kp nh rh tl rl I L)) rfl ?_
    cases hf
    exact bs_ret rfl
  · refine bs_st 1 (x' := (8, [some (.ref 89), some (.int x1)], [.int x1], hp kp nh rh tl rl I L)) rfl ?_
    obtain ⟨q1, hq1, hf⟩ := Option.bind_eq_some_iff.mp hf
    refine bs_call (o := pEN Ls xs (d + 2) 242 [.int x1] (hp kp nh rh tl rl I L)) (w := some (.int q1)) (h' := hp kp nh rh tl rl I L) (pc := 11) (lo := [some (.ref 89), some (.int x1)]) (rest := []) rfl (t_242 Ls xs (d + 0) kp tl rl nh rh x1 I L q1 hq1) ?_
    refine bs_br (t := 18) (e := 14) (lo := [some (.ref 89), some (.int x1)]) (st := []) (h := hp kp nh rh tl rl I L) rfl hf (fun hc hf => ?_) (fun hc hf => ?_)
    · refine bs_st 1 (x' := (19, [some (.ref 89), some (.int x1)], [.int (0 : Int32)], hp kp nh rh tl rl I L)) rfl ?_
      cases hf
      exact bs_ret rfl
    · refine bs_st 2 (x' := (19, [some (.ref 89), some (.int x1)], [.int (1 : Int32)], hp kp nh rh tl rl I L)) rfl ?_
      cases hf
      exact bs_ret rfl
/-- LampRoundsModel.isSet(I) on (89,) -/
def f_246 (x1 : Int32) (I : FI) (L : FL) : Option (Int32) :=
  (f_236 I L).bind fun q0 =>
  if q0 = 0 then
    some ((0 : Int32))
  else
    (f_237 I L).bind fun q1 =>
    (f_201 x1.toInt64 (0 : Int64) ((((1 : Int32) <<< (q1 &&& 31)).toInt64) - (1 : Int64)) I L).bind fun q2 =>
    if q2 = 0 then
      some ((0 : Int32))
    else
      some ((1 : Int32))
set_option maxHeartbeats 1000000 in
set_option maxRecDepth 20000 in
theorem t_246 (Ls : Nat) (xs : Nat → Int32) (d : Nat) (kp : Option Nat) (tl : List (Nat × Nat)) (rl : List (List (Option Nat))) (nh : Option Nat) (rh : Option Nat) (x1 : Int32) (I : FI) (L : FL) (r : Int32) (hf : f_246 x1 I L = some r) : pEN Ls xs (d + 2) 246 [.ref 89, .int x1] (hp kp nh rh tl rl I L) = some (some (.int r), hp kp nh rh tl rl I L) := by
  refine en_run (d := d + 1) (cd := cd_246) (f := (sf 12 rs_12 false 2 (some (.boolean)) Ls xs (d + 1))) rfl rfl (x := (0, [some (.ref 89), some (.int x1)], [], hp kp nh rh tl rl I L)) rfl rfl (Nat.le_of_ble_eq_true rfl) ?_
  unfold f_246 at hf
  refine bs_st 1 (x' := (1, [some (.ref 89), some (.int x1)], [.ref 89], hp kp nh rh tl rl I L)) rfl ?_
  obtain ⟨q0, hq0, hf⟩ := Option.bind_eq_some_iff.mp hf
  refine bs_call (o := pEN Ls xs (d + 1) 236 [.ref 89] (hp kp nh rh tl rl I L)) (w := some (.int q0)) (h' := hp kp nh rh tl rl I L) (pc := 4) (lo := [some (.ref 89), some (.int x1)]) (rest := []) rfl (t_236 Ls xs (d + 0) kp tl rl nh rh I L q0 hq0) ?_
  refine bs_br (t := 29) (e := 7) (lo := [some (.ref 89), some (.int x1)]) (st := []) (h := hp kp nh rh tl rl I L) rfl hf (fun hc hf => ?_) (fun hc hf => ?_)
  · refine bs_st 1 (x' := (30, [some (.ref 89), some (.int x1)], [.int (0 : Int32)], hp kp nh rh tl rl I L)) rfl ?_
    cases hf
    exact bs_ret rfl
  · refine bs_st 5 (x' := (12, [some (.ref 89), some (.int x1)], [.ref 89, .int (1 : Int32), .long (0 : Int64), .long x1.toInt64], hp kp nh rh tl rl I L)) rfl ?_
    obtain ⟨q1, hq1, hf⟩ := Option.bind_eq_some_iff.mp hf
    refine bs_call (o := pEN Ls xs (d + 1) 237 [.ref 89] (hp kp nh rh tl rl I L)) (w := some (.int q1)) (h' := hp kp nh rh tl rl I L) (pc := 15) (lo := [some (.ref 89), some (.int x1)]) (rest := [.int (1 : Int32), .long (0 : Int64), .long x1.toInt64]) rfl (t_237 Ls xs (d + 0) kp tl rl nh rh I L q1 hq1) ?_
    refine bs_st 4 (x' := (19, [some (.ref 89), some (.int x1)], [.long ((((1 : Int32) <<< (q1 &&& 31)).toInt64) - (1 : Int64)), .long (0 : Int64), .long x1.toInt64], hp kp nh rh tl rl I L)) rfl ?_
    obtain ⟨q2, hq2, hf⟩ := Option.bind_eq_some_iff.mp hf
    refine bs_call (o := pEN Ls xs (d + 1) 201 [.long x1.toInt64, .long (0 : Int64), .long ((((1 : Int32) <<< (q1 &&& 31)).toInt64) - (1 : Int64))] (hp kp nh rh tl rl I L)) (w := some (.int q2)) (h' := hp kp nh rh tl rl I L) (pc := 22) (lo := [some (.ref 89), some (.int x1)]) (rest := []) rfl (t_201 Ls xs (d + 0) kp tl rl nh rh x1.toInt64 (0 : Int64) ((((1 : Int32) <<< (q1 &&& 31)).toInt64) - (1 : Int64)) I L q2 hq2) ?_
    refine bs_br (t := 29) (e := 25) (lo := [some (.ref 89), some (.int x1)]) (st := []) (h := hp kp nh rh tl rl I L) rfl hf (fun hc hf => ?_) (fun hc hf => ?_)
    · refine bs_st 1 (x' := (30, [some (.ref 89), some (.int x1)], [.int (0 : Int32)], hp kp nh rh tl rl I L)) rfl ?_
      cases hf
      exact bs_ret rfl
    · refine bs_st 2 (x' := (30, [some (.ref 89), some (.int x1)], [.int (1 : Int32)], hp kp nh rh tl rl I L)) rfl ?_
      cases hf
      exact bs_ret rfl
/-- LampRoundsModel.isBit(II) on () -/
def f_247 (x0 : Int32) (x1 : Int32) (I : FI) (L : FL) : Option (Int32) :=
  if ¬ ((x0 >>> (x1 &&& 31)) &&& (1 : Int32)) = (1 : Int32) then
    some ((0 : Int32))
  else
    some ((1 : Int32))
set_option maxHeartbeats 1000000 in
set_option maxRecDepth 20000 in
theorem t_247 (Ls : Nat) (xs : Nat → Int32) (d : Nat) (kp : Option Nat) (tl : List (Nat × Nat)) (rl : List (List (Option Nat))) (nh : Option Nat) (rh : Option Nat) (x0 : Int32) (x1 : Int32) (I : FI) (L : FL) (r : Int32) (hf : f_247 x0 x1 I L = some r) : pEN Ls xs (d + 1) 247 [.int x0, .int x1] (hp kp nh rh tl rl I L) = some (some (.int r), hp kp nh rh tl rl I L) := by
  refine en_run (d := d + 0) (cd := cd_247) (f := (sf 12 rs_12 false 2 (some (.boolean)) Ls xs (d + 0))) rfl rfl (x := (0, [some (.int x0), some (.int x1)], [], hp kp nh rh tl rl I L)) rfl rfl (Nat.le_of_ble_eq_true rfl) ?_
  unfold f_247 at hf
  refine bs_st 6 (x' := (6, [some (.int x0), some (.int x1)], [.int (1 : Int32), .int ((x0 >>> (x1 &&& 31)) &&& (1 : Int32))], hp kp nh rh tl rl I L)) rfl ?_
  refine bs_br (t := 13) (e := 9) (lo := [some (.int x0), some (.int x1)]) (st := []) (h := hp kp nh rh tl rl I L) rfl hf (fun hc hf => ?_) (fun hc hf => ?_)
  · refine bs_st 1 (x' := (14, [some (.int x0), some (.int x1)], [.int (0 : Int32)], hp kp nh rh tl rl I L)) rfl ?_
    cases hf
    exact bs_ret rfl
  · refine bs_st 2 (x' := (14, [some (.int x0), some (.int x1)], [.int (1 : Int32)], hp kp nh rh tl rl I L)) rfl ?_
    cases hf
    exact bs_ret rfl
/-- LampRoundsModel.sizeOf(I) on () -/
def b_248_0 (n : Nat) (I : FI) (L : FL) (K0 : Int32 → Int32 → Option (Int32)) (x1 : Int32) (x2 : Int32) : Option (Int32) :=
  if x2 = 0 then
    some (x1)
  else
    K0 (x1 + (1 : Int32)) (x2 &&& (x2 - (1 : Int32)))
def c_248_0 (n : Nat) (I : FI) (L : FL) : Nat → Int32 → Int32 → Option (Int32)
  | 0, _, _ => none
  | m + 1, x1, x2 => b_248_0 n I L (c_248_0 n I L m) x1 x2
set_option maxHeartbeats 1000000 in
set_option maxRecDepth 20000 in
theorem tc_248_0 (Ls : Nat) (xs : Nat → Int32) (d : Nat) (kp : Option Nat) (tl : List (Nat × Nat)) (rl : List (List (Option Nat))) (nh : Option Nat) (rh : Option Nat) (n : Nat) (I : FI) (L : FL) : ∀ (m : Nat) (w0 : Option Value) (x1 : Int32) (x2 : Int32) (r : Int32), c_248_0 n I L m x1 x2 = some r → Bs cd_248 (sf 12 rs_12 false 3 (some (.int)) Ls xs (d + 0)) (4, [w0, some (.int x1), some (.int x2)], [], hp kp nh rh tl rl I L) (some (.int r), hp kp nh rh tl rl I L)
  | 0, w0, x1, x2, r, hf => by cases hf
  | m + 1, w0, x1, x2, r, hf => by
    unfold c_248_0 b_248_0 at hf
    have hK0 := tc_248_0 Ls xs d kp tl rl nh rh n I L m
    refine bs_st 1 (x' := (5, [w0, some (.int x1), some (.int x2)], [.int x2], hp kp nh rh tl rl I L)) rfl ?_
    refine bs_br (t := 20) (e := 8) (lo := [w0, some (.int x1), some (.int x2)]) (st := []) (h := hp kp nh rh tl rl I L) rfl hf (fun hc hf => ?_) (fun hc hf => ?_)
    · refine bs_st 1 (x' := (21, [w0, some (.int x1), some (.int x2)], [.int x1], hp kp nh rh tl rl I L)) rfl ?_
      cases hf
      exact bs_ret rfl
    · refine bs_st 8 (x' := (4, [(pcl w0), some (.int (x1 + (1 : Int32))), some (.int (x2 &&& (x2 - (1 : Int32))))], [], hp kp nh rh tl rl I L)) rfl ?_
      exact hK0 (pcl w0) (x1 + (1 : Int32)) (x2 &&& (x2 - (1 : Int32))) r hf
def f_248 (n : Nat) (x0 : Int32) (I : FI) (L : FL) : Option (Int32) :=
  c_248_0 n I L n (0 : Int32) x0
set_option maxHeartbeats 1000000 in
set_option maxRecDepth 20000 in
theorem t_248 (Ls : Nat) (xs : Nat → Int32) (d : Nat) (kp : Option Nat) (tl : List (Nat × Nat)) (rl : List (List (Option Nat))) (nh : Option Nat) (rh : Option Nat) (n : Nat) (x0 : Int32) (I : FI) (L : FL) (r : Int32) (hf : f_248 n x0 I L = some r) : pEN Ls xs (d + 1) 248 [.int x0] (hp kp nh rh tl rl I L) = some (some (.int r), hp kp nh rh tl rl I L) := by
  refine en_run (d := d + 0) (cd := cd_248) (f := (sf 12 rs_12 false 3 (some (.int)) Ls xs (d + 0))) rfl rfl (x := (0, [some (.int x0), none, none], [], hp kp nh rh tl rl I L)) rfl rfl (Nat.le_of_ble_eq_true rfl) ?_
  unfold f_248 at hf
  refine bs_st 4 (x' := (4, [some (.int x0), some (.int (0 : Int32)), some (.int x0)], [], hp kp nh rh tl rl I L)) rfl ?_
  exact tc_248_0 Ls xs d kp tl rl nh rh n I L n (some (.int x0)) (0 : Int32) x0 r hf
/-- LampRoundsModel.isWay(II) on (89,) -/
def c_249_2 (n : Nat) (I : FI) (L : FL) (K0 : Int32 → Int32 → Int32 → Option (Int32)) (x1 : Int32) (x2 : Int32) (x3 : Int32) : Option (Int32) :=
  K0 x1 x2 (x3 + (1 : Int32))
set_option maxHeartbeats 1000000 in
set_option maxRecDepth 20000 in
theorem tc_249_2 (Ls : Nat) (xs : Nat → Int32) (d : Nat) (kp : Option Nat) (tl : List (Nat × Nat)) (rl : List (List (Option Nat))) (nh : Option Nat) (rh : Option Nat) (n : Nat) (I : FI) (L : FL) (K0 : Int32 → Int32 → Int32 → Option (Int32)) (hK0 : ∀ (x1 : Int32) (x2 : Int32) (x3 : Int32) (r : Int32), K0 x1 x2 x3 = some r → Bs cd_249 (sf 12 rs_12 false 4 (some (.boolean)) Ls xs (d + 0)) (2, [some (.ref 89), some (.int x1), some (.int x2), some (.int x3)], [], hp kp nh rh tl rl I L) (some (.int r), hp kp nh rh tl rl I L)) (x1 : Int32) (x2 : Int32) (x3 : Int32) (r : Int32) (hf : c_249_2 n I L K0 x1 x2 x3 = some r) : Bs cd_249 (sf 12 rs_12 false 4 (some (.boolean)) Ls xs (d + 0)) (66, [some (.ref 89), some (.int x1), some (.int x2), some (.int x3)], [], hp kp nh rh tl rl I L) (some (.int r), hp kp nh rh tl rl I L) := by
  unfold c_249_2 at hf
  refine bs_st 2 (x' := (2, [some (.ref 89), some (.int x1), some (.int x2), some (.int (x3 + (1 : Int32)))], [], hp kp nh rh tl rl I L)) rfl ?_
  exact hK0 x1 x2 (x3 + (1 : Int32)) r hf
def c_249_1 (n : Nat) (I : FI) (L : FL) (K0 : Int32 → Int32 → Int32 → Option (Int32)) (x1 : Int32) (x2 : Int32) (x3 : Int32) : Option (Int32) :=
  if pin ((2 : Int32) * x3) 60 = true then (if ¬ I 98 (((2 : Int32) * x3).toNatClampNeg) = x2 then
      c_249_2 n I L K0 x1 x2 x3
    else
      if pin (((2 : Int32) * x3) + (1 : Int32)) 60 = true then (if ¬ I 98 ((((2 : Int32) * x3) + (1 : Int32)).toNatClampNeg) = x1 then
          c_249_2 n I L K0 x1 x2 x3
        else
          some ((1 : Int32))) else none) else none
set_option maxHeartbeats 1000000 in
set_option maxRecDepth 20000 in
theorem tc_249_1 (Ls : Nat) (xs : Nat → Int32) (d : Nat) (kp : Option Nat) (tl : List (Nat × Nat)) (rl : List (List (Option Nat))) (nh : Option Nat) (rh : Option Nat) (n : Nat) (I : FI) (L : FL) (K0 : Int32 → Int32 → Int32 → Option (Int32)) (hK0 : ∀ (x1 : Int32) (x2 : Int32) (x3 : Int32) (r : Int32), K0 x1 x2 x3 = some r → Bs cd_249 (sf 12 rs_12 false 4 (some (.boolean)) Ls xs (d + 0)) (2, [some (.ref 89), some (.int x1), some (.int x2), some (.int x3)], [], hp kp nh rh tl rl I L) (some (.int r), hp kp nh rh tl rl I L)) (x1 : Int32) (x2 : Int32) (x3 : Int32) (r : Int32) (hf : c_249_1 n I L K0 x1 x2 x3 = some r) : Bs cd_249 (sf 12 rs_12 false 4 (some (.boolean)) Ls xs (d + 0)) (38, [some (.ref 89), some (.int x1), some (.int x2), some (.int x3)], [], hp kp nh rh tl rl I L) (some (.int r), hp kp nh rh tl rl I L) := by
  unfold c_249_1 at hf
  refine bs_st 5 (x' := (45, [some (.ref 89), some (.int x1), some (.int x2), some (.int x3)], [.int ((2 : Int32) * x3), .ref 98], hp kp nh rh tl rl I L)) rfl ?_
  refine bs_gd (x' := (46, [some (.ref 89), some (.int x1), some (.int x2), some (.int x3)], [.int (I 98 (((2 : Int32) * x3).toNatClampNeg))], hp kp nh rh tl rl I L)) rfl hf (fun hc hf => ?_)
  refine bs_st 1 (x' := (47, [some (.ref 89), some (.int x1), some (.int x2), some (.int x3)], [.int x2, .int (I 98 (((2 : Int32) * x3).toNatClampNeg))], hp kp nh rh tl rl I L)) rfl ?_
  refine bs_br (t := 66) (e := 50) (lo := [some (.ref 89), some (.int x1), some (.int x2), some (.int x3)]) (st := []) (h := hp kp nh rh tl rl I L) rfl hf (fun hc hf => ?_) (fun hc hf => ?_)
  · exact tc_249_2 Ls xs d kp tl rl nh rh n I L _ hK0 x1 x2 x3 r hf
  · refine bs_st 7 (x' := (59, [some (.ref 89), some (.int x1), some (.int x2), some (.int x3)], [.int (((2 : Int32) * x3) + (1 : Int32)), .ref 98], hp kp nh rh tl rl I L)) rfl ?_
    refine bs_gd (x' := (60, [some (.ref 89), some (.int x1), some (.int x2), some (.int x3)], [.int (I 98 ((((2 : Int32) * x3) + (1 : Int32)).toNatClampNeg))], hp kp nh rh tl rl I L)) rfl hf (fun hc hf => ?_)
    refine bs_st 1 (x' := (61, [some (.ref 89), some (.int x1), some (.int x2), some (.int x3)], [.int x1, .int (I 98 ((((2 : Int32) * x3) + (1 : Int32)).toNatClampNeg))], hp kp nh rh tl rl I L)) rfl ?_
    refine bs_br (t := 66) (e := 64) (lo := [some (.ref 89), some (.int x1), some (.int x2), some (.int x3)]) (st := []) (h := hp kp nh rh tl rl I L) rfl hf (fun hc hf => ?_) (fun hc hf => ?_)
    · exact tc_249_2 Ls xs d kp tl rl nh rh n I L _ hK0 x1 x2 x3 r hf
    · refine bs_st 1 (x' := (65, [some (.ref 89), some (.int x1), some (.int x2), some (.int x3)], [.int (1 : Int32)], hp kp nh rh tl rl I L)) rfl ?_
      cases hf
      exact bs_ret rfl
def b_249_0 (n : Nat) (I : FI) (L : FL) (K0 : Int32 → Int32 → Int32 → Option (Int32)) (x1 : Int32) (x2 : Int32) (x3 : Int32) : Option (Int32) :=
  if I 96 4 ≤ x3 then
    some ((0 : Int32))
  else
    if pin ((2 : Int32) * x3) 60 = true then (if ¬ I 98 (((2 : Int32) * x3).toNatClampNeg) = x1 then
        c_249_1 n I L K0 x1 x2 x3
      else
        if pin (((2 : Int32) * x3) + (1 : Int32)) 60 = true then (if I 98 ((((2 : Int32) * x3) + (1 : Int32)).toNatClampNeg) = x2 then
            some ((1 : Int32))
          else
            c_249_1 n I L K0 x1 x2 x3) else none) else none
def c_249_0 (n : Nat) (I : FI) (L : FL) : Nat → Int32 → Int32 → Int32 → Option (Int32)
  | 0, _, _, _ => none
  | m + 1, x1, x2, x3 => b_249_0 n I L (c_249_0 n I L m) x1 x2 x3
set_option maxHeartbeats 1000000 in
set_option maxRecDepth 20000 in
theorem tc_249_0 (Ls : Nat) (xs : Nat → Int32) (d : Nat) (kp : Option Nat) (tl : List (Nat × Nat)) (rl : List (List (Option Nat))) (nh : Option Nat) (rh : Option Nat) (n : Nat) (I : FI) (L : FL) : ∀ (m : Nat) (x1 : Int32) (x2 : Int32) (x3 : Int32) (r : Int32), c_249_0 n I L m x1 x2 x3 = some r → Bs cd_249 (sf 12 rs_12 false 4 (some (.boolean)) Ls xs (d + 0)) (2, [some (.ref 89), some (.int x1), some (.int x2), some (.int x3)], [], hp kp nh rh tl rl I L) (some (.int r), hp kp nh rh tl rl I L)
  | 0, x1, x2, x3, r, hf => by cases hf
  | m + 1, x1, x2, x3, r, hf => by
    unfold c_249_0 b_249_0 at hf
    have hK0 := tc_249_0 Ls xs d kp tl rl nh rh n I L m
    refine bs_st 5 (x' := (9, [some (.ref 89), some (.int x1), some (.int x2), some (.int x3)], [.int (I 96 4), .int x3], hp kp nh rh tl rl I L)) rfl ?_
    refine bs_br (t := 72) (e := 12) (lo := [some (.ref 89), some (.int x1), some (.int x2), some (.int x3)]) (st := []) (h := hp kp nh rh tl rl I L) rfl hf (fun hc hf => ?_) (fun hc hf => ?_)
    · refine bs_st 1 (x' := (73, [some (.ref 89), some (.int x1), some (.int x2), some (.int x3)], [.int (0 : Int32)], hp kp nh rh tl rl I L)) rfl ?_
      cases hf
      exact bs_ret rfl
    · refine bs_st 5 (x' := (19, [some (.ref 89), some (.int x1), some (.int x2), some (.int x3)], [.int ((2 : Int32) * x3), .ref 98], hp kp nh rh tl rl I L)) rfl ?_
      refine bs_gd (x' := (20, [some (.ref 89), some (.int x1), some (.int x2), some (.int x3)], [.int (I 98 (((2 : Int32) * x3).toNatClampNeg))], hp kp nh rh tl rl I L)) rfl hf (fun hc hf => ?_)
      refine bs_st 1 (x' := (21, [some (.ref 89), some (.int x1), some (.int x2), some (.int x3)], [.int x1, .int (I 98 (((2 : Int32) * x3).toNatClampNeg))], hp kp nh rh tl rl I L)) rfl ?_
      refine bs_br (t := 38) (e := 24) (lo := [some (.ref 89), some (.int x1), some (.int x2), some (.int x3)]) (st := []) (h := hp kp nh rh tl rl I L) rfl hf (fun hc hf => ?_) (fun hc hf => ?_)
      · exact tc_249_1 Ls xs d kp tl rl nh rh n I L _ hK0 x1 x2 x3 r hf
      · refine bs_st 7 (x' := (33, [some (.ref 89), some (.int x1), some (.int x2), some (.int x3)], [.int (((2 : Int32) * x3) + (1 : Int32)), .ref 98], hp kp nh rh tl rl I L)) rfl ?_
        refine bs_gd (x' := (34, [some (.ref 89), some (.int x1), some (.int x2), some (.int x3)], [.int (I 98 ((((2 : Int32) * x3) + (1 : Int32)).toNatClampNeg))], hp kp nh rh tl rl I L)) rfl hf (fun hc hf => ?_)
        refine bs_st 1 (x' := (35, [some (.ref 89), some (.int x1), some (.int x2), some (.int x3)], [.int x2, .int (I 98 ((((2 : Int32) * x3) + (1 : Int32)).toNatClampNeg))], hp kp nh rh tl rl I L)) rfl ?_
        refine bs_br (t := 64) (e := 38) (lo := [some (.ref 89), some (.int x1), some (.int x2), some (.int x3)]) (st := []) (h := hp kp nh rh tl rl I L) rfl hf (fun hc hf => ?_) (fun hc hf => ?_)
        · refine bs_st 1 (x' := (65, [some (.ref 89), some (.int x1), some (.int x2), some (.int x3)], [.int (1 : Int32)], hp kp nh rh tl rl I L)) rfl ?_
          cases hf
          exact bs_ret rfl
        · exact tc_249_1 Ls xs d kp tl rl nh rh n I L _ hK0 x1 x2 x3 r hf
def f_249 (n : Nat) (x1 : Int32) (x2 : Int32) (I : FI) (L : FL) : Option (Int32) :=
  c_249_0 n I L n x1 x2 (0 : Int32)
set_option maxHeartbeats 1000000 in
set_option maxRecDepth 20000 in
theorem t_249 (Ls : Nat) (xs : Nat → Int32) (d : Nat) (kp : Option Nat) (tl : List (Nat × Nat)) (rl : List (List (Option Nat))) (nh : Option Nat) (rh : Option Nat) (n : Nat) (x1 : Int32) (x2 : Int32) (I : FI) (L : FL) (r : Int32) (hf : f_249 n x1 x2 I L = some r) : pEN Ls xs (d + 1) 249 [.ref 89, .int x1, .int x2] (hp kp nh rh tl rl I L) = some (some (.int r), hp kp nh rh tl rl I L) := by
  refine en_run (d := d + 0) (cd := cd_249) (f := (sf 12 rs_12 false 4 (some (.boolean)) Ls xs (d + 0))) rfl rfl (x := (0, [some (.ref 89), some (.int x1), some (.int x2), none], [], hp kp nh rh tl rl I L)) rfl rfl (Nat.le_of_ble_eq_true rfl) ?_
  unfold f_249 at hf
  refine bs_st 2 (x' := (2, [some (.ref 89), some (.int x1), some (.int x2), some (.int (0 : Int32))], [], hp kp nh rh tl rl I L)) rfl ?_
  exact tc_249_0 Ls xs d kp tl rl nh rh n I L n x1 x2 (0 : Int32) r hf
/-- LampRoundsModel.isStep(II) on (89,) -/
def f_250 (n : Nat) (x1 : Int32) (x2 : Int32) (I : FI) (L : FL) : Option (Int32) :=
  if x1 = x2 then
    some ((1 : Int32))
  else
    (f_249 n x1 x2 I L).bind fun q0 =>
    if q0 = 0 then
      some ((0 : Int32))
    else
      some ((1 : Int32))
set_option maxHeartbeats 1000000 in
set_option maxRecDepth 20000 in
theorem t_250 (Ls : Nat) (xs : Nat → Int32) (d : Nat) (kp : Option Nat) (tl : List (Nat × Nat)) (rl : List (List (Option Nat))) (nh : Option Nat) (rh : Option Nat) (n : Nat) (x1 : Int32) (x2 : Int32) (I : FI) (L : FL) (r : Int32) (hf : f_250 n x1 x2 I L = some r) : pEN Ls xs (d + 2) 250 [.ref 89, .int x1, .int x2] (hp kp nh rh tl rl I L) = some (some (.int r), hp kp nh rh tl rl I L) := by
  refine en_run (d := d + 1) (cd := cd_250) (f := (sf 12 rs_12 false 3 (some (.boolean)) Ls xs (d + 1))) rfl rfl (x := (0, [some (.ref 89), some (.int x1), some (.int x2)], [], hp kp nh rh tl rl I L)) rfl rfl (Nat.le_of_ble_eq_true rfl) ?_
  unfold f_250 at hf
  refine bs_st 2 (x' := (2, [some (.ref 89), some (.int x1), some (.int x2)], [.int x2, .int x1], hp kp nh rh tl rl I L)) rfl ?_
  refine bs_br (t := 14) (e := 5) (lo := [some (.ref 89), some (.int x1), some (.int x2)]) (st := []) (h := hp kp nh rh tl rl I L) rfl hf (fun hc hf => ?_) (fun hc hf => ?_)
  · refine bs_st 2 (x' := (19, [some (.ref 89), some (.int x1), some (.int x2)], [.int (1 : Int32)], hp kp nh rh tl rl I L)) rfl ?_
    cases hf
    exact bs_ret rfl
  · refine bs_st 3 (x' := (8, [some (.ref 89), some (.int x1), some (.int x2)], [.int x2, .int x1, .ref 89], hp kp nh rh tl rl I L)) rfl ?_
    obtain ⟨q0, hq0, hf⟩ := Option.bind_eq_some_iff.mp hf
    refine bs_call (o := pEN Ls xs (d + 1) 249 [.ref 89, .int x1, .int x2] (hp kp nh rh tl rl I L)) (w := some (.int q0)) (h' := hp kp nh rh tl rl I L) (pc := 11) (lo := [some (.ref 89), some (.int x1), some (.int x2)]) (rest := []) rfl (t_249 Ls xs (d + 0) kp tl rl nh rh n x1 x2 I L q0 hq0) ?_
    refine bs_br (t := 18) (e := 14) (lo := [some (.ref 89), some (.int x1), some (.int x2)]) (st := []) (h := hp kp nh rh tl rl I L) rfl hf (fun hc hf => ?_) (fun hc hf => ?_)
    · refine bs_st 1 (x' := (19, [some (.ref 89), some (.int x1), some (.int x2)], [.int (0 : Int32)], hp kp nh rh tl rl I L)) rfl ?_
      cases hf
      exact bs_ret rfl
    · refine bs_st 2 (x' := (19, [some (.ref 89), some (.int x1), some (.int x2)], [.int (1 : Int32)], hp kp nh rh tl rl I L)) rfl ?_
      cases hf
      exact bs_ret rfl
/-- LampRoundsModel.farOf(II) on (89,) -/
def c_251_4 (n : Nat) (K1 : Int32 → Int32 → FI → FL → Option (Int32 × FI × FL)) (K2 : Int32 → Int32 → Int32 → FI → FL → Option (Int32 × FI × FL)) (K3 : Int32 → Int32 → Int32 → Int32 → FI → FL → Option (Int32 × FI × FL)) (x2 : Int32) (x3 : Int32) (x4 : Int32) (x5 : Int32) (I : FI) (L : FL) : Option (Int32 × FI × FL) :=
  K3 x2 x3 x4 (x5 + (1 : Int32)) I L
set_option maxHeartbeats 1000000 in
set_option maxRecDepth 20000 in
theorem tc_251_4 (Ls : Nat) (xs : Nat → Int32) (d : Nat) (kp : Option Nat) (tl : List (Nat × Nat)) (rl : List (List (Option Nat))) (nh : Option Nat) (rh : Option Nat) (n : Nat) (K1 : Int32 → Int32 → FI → FL → Option (Int32 × FI × FL)) (K2 : Int32 → Int32 → Int32 → FI → FL → Option (Int32 × FI × FL)) (K3 : Int32 → Int32 → Int32 → Int32 → FI → FL → Option (Int32 × FI × FL)) (hK1 : ∀ (w1 : Option Value) (w4 : Option Value) (w5 : Option Value) (x2 : Int32) (x3 : Int32) (I : FI) (L : FL) (r : Int32 × FI × FL), K1 x2 x3 I L = some r → Bs cd_251 (sf 12 rs_12 false 6 (some (.int)) Ls xs (d + 1)) (35, [some (.ref 89), w1, some (.int x2), some (.int x3), w4, w5], [], hp kp nh rh tl rl I L) (some (.int r.1), hp kp nh rh tl rl r.2.1 r.2.2)) (hK2 : ∀ (w1 : Option Value) (w5 : Option Value) (x2 : Int32) (x3 : Int32) (x4 : Int32) (I : FI) (L : FL) (r : Int32 × FI × FL), K2 x2 x3 x4 I L = some r → Bs cd_251 (sf 12 rs_12 false 6 (some (.int)) Ls xs (d + 1)) (46, [some (.ref 89), w1, some (.int x2), some (.int x3), some (.int x4), w5], [], hp kp nh rh tl rl I L) (some (.int r.1), hp kp nh rh tl rl r.2.1 r.2.2)) (hK3 : ∀ (w1 : Option Value) (x2 : Int32) (x3 : Int32) (x4 : Int32) (x5 : Int32) (I : FI) (L : FL) (r : Int32 × FI × FL), K3 x2 x3 x4 x5 I L = some r → Bs cd_251 (sf 12 rs_12 false 6 (some (.int)) Ls xs (d + 1)) (58, [some (.ref 89), w1, some (.int x2), some (.int x3), some (.int x4), some (.int x5)], [], hp kp nh rh tl rl I L) (some (.int r.1), hp kp nh rh tl rl r.2.1 r.2.2)) (w1 : Option Value) (x2 : Int32) (x3 : Int32) (x4 : Int32) (x5 : Int32) (I : FI) (L : FL) (r : Int32 × FI × FL) (hf : c_251_4 n K1 K2 K3 x2 x3 x4 x5 I L = some r) : Bs cd_251 (sf 12 rs_12 false 6 (some (.int)) Ls xs (d + 1)) (113, [some (.ref 89), w1, some (.int x2), some (.int x3), some (.int x4), some (.int x5)], [], hp kp nh rh tl rl I L) (some (.int r.1), hp kp nh rh tl rl r.2.1 r.2.2) := by
  unfold c_251_4 at hf
  refine bs_st 2 (x' := (58, [some (.ref 89), w1, some (.int x2), some (.int x3), some (.int x4), some (.int (x5 + (1 : Int32)))], [], hp kp nh rh tl rl I L)) rfl ?_
  exact hK3 w1 x2 x3 x4 (x5 + (1 : Int32)) I L r hf
def b_251_3 (n : Nat) (K1 : Int32 → Int32 → FI → FL → Option (Int32 × FI × FL)) (K2 : Int32 → Int32 → Int32 → FI → FL → Option (Int32 × FI × FL)) (K3 : Int32 → Int32 → Int32 → Int32 → FI → FL → Option (Int32 × FI × FL)) (x2 : Int32) (x3 : Int32) (x4 : Int32) (x5 : Int32) (I : FI) (L : FL) : Option (Int32 × FI × FL) :=
  (f_237 I L).bind fun q3 =>
  if q3 ≤ x5 then
    K2 x2 x3 (x4 + (1 : Int32)) I L
  else
    (f_249 n x4 x5 I L).bind fun q4 =>
    if q4 = 0 then
      c_251_4 n K1 K2 K3 x2 x3 x4 x5 I L
    else
      if pin x4 4 = true then (if pin x5 4 = true then (if I 103 x5.toNatClampNeg ≤ ((I 103 x4.toNatClampNeg) + (1 : Int32)) then
            c_251_4 n K1 K2 K3 x2 x3 x4 x5 I L
          else
            if pin x4 4 = true then (if pin x5 4 = true then c_251_4 n K1 K2 K3 x2 x3 x4 x5 (u2 I 103 x5.toNatClampNeg ((I 103 x4.toNatClampNeg) + (1 : Int32))) L else none) else none) else none) else none
def c_251_3 (n : Nat) (K1 : Int32 → Int32 → FI → FL → Option (Int32 × FI × FL)) (K2 : Int32 → Int32 → Int32 → FI → FL → Option (Int32 × FI × FL)) : Nat → Int32 → Int32 → Int32 → Int32 → FI → FL → Option (Int32 × FI × FL)
  | 0, _, _, _, _, _, _ => none
  | m + 1, x2, x3, x4, x5, I, L => b_251_3 n K1 K2 (c_251_3 n K1 K2 m) x2 x3 x4 x5 I L
set_option maxHeartbeats 1000000 in
set_option maxRecDepth 20000 in
theorem tc_251_3 (Ls : Nat) (xs : Nat → Int32) (d : Nat) (kp : Option Nat) (tl : List (Nat × Nat)) (rl : List (List (Option Nat))) (nh : Option Nat) (rh : Option Nat) (n : Nat) (K1 : Int32 → Int32 → FI → FL → Option (Int32 × FI × FL)) (K2 : Int32 → Int32 → Int32 → FI → FL → Option (Int32 × FI × FL)) (hK1 : ∀ (w1 : Option Value) (w4 : Option Value) (w5 : Option Value) (x2 : Int32) (x3 : Int32) (I : FI) (L : FL) (r : Int32 × FI × FL), K1 x2 x3 I L = some r → Bs cd_251 (sf 12 rs_12 false 6 (some (.int)) Ls xs (d + 1)) (35, [some (.ref 89), w1, some (.int x2), some (.int x3), w4, w5], [], hp kp nh rh tl rl I L) (some (.int r.1), hp kp nh rh tl rl r.2.1 r.2.2)) (hK2 : ∀ (w1 : Option Value) (w5 : Option Value) (x2 : Int32) (x3 : Int32) (x4 : Int32) (I : FI) (L : FL) (r : Int32 × FI × FL), K2 x2 x3 x4 I L = some r → Bs cd_251 (sf 12 rs_12 false 6 (some (.int)) Ls xs (d + 1)) (46, [some (.ref 89), w1, some (.int x2), some (.int x3), some (.int x4), w5], [], hp kp nh rh tl rl I L) (some (.int r.1), hp kp nh rh tl rl r.2.1 r.2.2)) : ∀ (m : Nat) (w1 : Option Value) (x2 : Int32) (x3 : Int32) (x4 : Int32) (x5 : Int32) (I : FI) (L : FL) (r : Int32 × FI × FL), c_251_3 n K1 K2 m x2 x3 x4 x5 I L = some r → Bs cd_251 (sf 12 rs_12 false 6 (some (.int)) Ls xs (d + 1)) (58, [some (.ref 89), w1, some (.int x2), some (.int x3), some (.int x4), some (.int x5)], [], hp kp nh rh tl rl I L) (some (.int r.1), hp kp nh rh tl rl r.2.1 r.2.2)
  | 0, w1, x2, x3, x4, x5, I, L, r, hf => by cases hf
  | m + 1, w1, x2, x3, x4, x5, I, L, r, hf => by
    unfold c_251_3 b_251_3 at hf
    have hK3 := tc_251_3 Ls xs d kp tl rl nh rh n K1 K2 hK1 hK2 m
    refine bs_st 2 (x' := (61, [some (.ref 89), w1, some (.int x2), some (.int x3), some (.int x4), some (.int x5)], [.ref 89, .int x5], hp kp nh rh tl rl I L)) rfl ?_
    obtain ⟨q3, hq3, hf⟩ := Option.bind_eq_some_iff.mp hf
    refine bs_call (o := pEN Ls xs (d + 1) 237 [.ref 89] (hp kp nh rh tl rl I L)) (w := some (.int q3)) (h' := hp kp nh rh tl rl I L) (pc := 64) (lo := [some (.ref 89), w1, some (.int x2), some (.int x3), some (.int x4), some (.int x5)]) (rest := [.int x5]) rfl (t_237 Ls xs (d + 0) kp tl rl nh rh I L q3 hq3) ?_
    refine bs_br (t := 119) (e := 67) (lo := [some (.ref 89), w1, some (.int x2), some (.int x3), some (.int x4), some (.int x5)]) (st := []) (h := hp kp nh rh tl rl I L) rfl hf (fun hc hf => ?_) (fun hc hf => ?_)
    · refine bs_st 2 (x' := (46, [some (.ref 89), w1, some (.int x2), some (.int x3), some (.int (x4 + (1 : Int32))), some (.int x5)], [], hp kp nh rh tl rl I L)) rfl ?_
      exact hK2 w1 (some (.int x5)) x2 x3 (x4 + (1 : Int32)) I L r hf
    · refine bs_st 3 (x' := (72, [some (.ref 89), w1, some (.int x2), some (.int x3), some (.int x4), some (.int x5)], [.int x5, .int x4, .ref 89], hp kp nh rh tl rl I L)) rfl ?_
      obtain ⟨q4, hq4, hf⟩ := Option.bind_eq_some_iff.mp hf
      refine bs_call (o := pEN Ls xs (d + 1) 249 [.ref 89, .int x4, .int x5] (hp kp nh rh tl rl I L)) (w := some (.int q4)) (h' := hp kp nh rh tl rl I L) (pc := 75) (lo := [some (.ref 89), w1, some (.int x2), some (.int x3), some (.int x4), some (.int x5)]) (rest := []) rfl (t_249 Ls xs (d + 0) kp tl rl nh rh n x4 x5 I L q4 hq4) ?_
      refine bs_br (t := 113) (e := 78) (lo := [some (.ref 89), w1, some (.int x2), some (.int x3), some (.int x4), some (.int x5)]) (st := []) (h := hp kp nh rh tl rl I L) rfl hf (fun hc hf => ?_) (fun hc hf => ?_)
      · exact tc_251_4 Ls xs d kp tl rl nh rh n _ _ _ hK1 hK2 hK3 w1 x2 x3 x4 x5 I L r hf
      · refine bs_st 3 (x' := (84, [some (.ref 89), w1, some (.int x2), some (.int x3), some (.int x4), some (.int x5)], [.int x4, .ref 103], hp kp nh rh tl rl I L)) rfl ?_
        refine bs_gd (x' := (85, [some (.ref 89), w1, some (.int x2), some (.int x3), some (.int x4), some (.int x5)], [.int (I 103 x4.toNatClampNeg)], hp kp nh rh tl rl I L)) rfl hf (fun hc hf => ?_)
        refine bs_st 5 (x' := (93, [some (.ref 89), w1, some (.int x2), some (.int x3), some (.int x4), some (.int x5)], [.int x5, .ref 103, .int ((I 103 x4.toNatClampNeg) + (1 : Int32))], hp kp nh rh tl rl I L)) rfl ?_
        refine bs_gd (x' := (94, [some (.ref 89), w1, some (.int x2), some (.int x3), some (.int x4), some (.int x5)], [.int (I 103 x5.toNatClampNeg), .int ((I 103 x4.toNatClampNeg) + (1 : Int32))], hp kp nh rh tl rl I L)) rfl hf (fun hc hf => ?_)
        refine bs_br (t := 113) (e := 97) (lo := [some (.ref 89), w1, some (.int x2), some (.int x3), some (.int x4), some (.int x5)]) (st := []) (h := hp kp nh rh tl rl I L) rfl hf (fun hc hf => ?_) (fun hc hf => ?_)
        · exact tc_251_4 Ls xs d kp tl rl nh rh n _ _ _ hK1 hK2 hK3 w1 x2 x3 x4 x5 I L r hf
        · refine bs_st 6 (x' := (109, [some (.ref 89), w1, some (.int x2), some (.int x3), some (.int x4), some (.int x5)], [.int x4, .ref 103, .int x5, .ref 103], hp kp nh rh tl rl I L)) rfl ?_
          refine bs_gd (x' := (110, [some (.ref 89), w1, some (.int x2), some (.int x3), some (.int x4), some (.int x5)], [.int (I 103 x4.toNatClampNeg), .int x5, .ref 103], hp kp nh rh tl rl I L)) rfl hf (fun hc hf => ?_)
          refine bs_st 2 (x' := (112, [some (.ref 89), w1, some (.int x2), some (.int x3), some (.int x4), some (.int x5)], [.int ((I 103 x4.toNatClampNeg) + (1 : Int32)), .int x5, .ref 103], hp kp nh rh tl rl I L)) rfl ?_
          refine bs_gd (x' := (113, [some (.ref 89), w1, some (.int x2), some (.int x3), some (.int x4), some (.int x5)], [], hp kp nh rh tl rl (u2 I 103 x5.toNatClampNeg ((I 103 x4.toNatClampNeg) + (1 : Int32))) L)) rfl hf (fun hc hf => ?_)
          exact tc_251_4 Ls xs d kp tl rl nh rh n _ _ _ hK1 hK2 hK3 w1 x2 x3 x4 x5 (u2 I 103 x5.toNatClampNeg ((I 103 x4.toNatClampNeg) + (1 : Int32))) L r hf
def b_251_2 (n : Nat) (K1 : Int32 → Int32 → FI → FL → Option (Int32 × FI × FL)) (K2 : Int32 → Int32 → Int32 → FI → FL → Option (Int32 × FI × FL)) (x2 : Int32) (x3 : Int32) (x4 : Int32) (I : FI) (L : FL) : Option (Int32 × FI × FL) :=
  (f_237 I L).bind fun q2 =>
  if q2 ≤ x4 then
    K1 x2 (x3 + (1 : Int32)) I L
  else
    c_251_3 n K1 K2 n x2 x3 x4 (0 : Int32) I L
def c_251_2 (n : Nat) (K1 : Int32 → Int32 → FI → FL → Option (Int32 × FI × FL)) : Nat → Int32 → Int32 → Int32 → FI → FL → Option (Int32 × FI × FL)
  | 0, _, _, _, _, _ => none
  | m + 1, x2, x3, x4, I, L => b_251_2 n K1 (c_251_2 n K1 m) x2 x3 x4 I L
set_option maxHeartbeats 1000000 in
set_option maxRecDepth 20000 in
theorem tc_251_2 (Ls : Nat) (xs : Nat → Int32) (d : Nat) (kp : Option Nat) (tl : List (Nat × Nat)) (rl : List (List (Option Nat))) (nh : Option Nat) (rh : Option Nat) (n : Nat) (K1 : Int32 → Int32 → FI → FL → Option (Int32 × FI × FL)) (hK1 : ∀ (w1 : Option Value) (w4 : Option Value) (w5 : Option Value) (x2 : Int32) (x3 : Int32) (I : FI) (L : FL) (r : Int32 × FI × FL), K1 x2 x3 I L = some r → Bs cd_251 (sf 12 rs_12 false 6 (some (.int)) Ls xs (d + 1)) (35, [some (.ref 89), w1, some (.int x2), some (.int x3), w4, w5], [], hp kp nh rh tl rl I L) (some (.int r.1), hp kp nh rh tl rl r.2.1 r.2.2)) : ∀ (m : Nat) (w1 : Option Value) (w5 : Option Value) (x2 : Int32) (x3 : Int32) (x4 : Int32) (I : FI) (L : FL) (r : Int32 × FI × FL), c_251_2 n K1 m x2 x3 x4 I L = some r → Bs cd_251 (sf 12 rs_12 false 6 (some (.int)) Ls xs (d + 1)) (46, [some (.ref 89), w1, some (.int x2), some (.int x3), some (.int x4), w5], [], hp kp nh rh tl rl I L) (some (.int r.1), hp kp nh rh tl rl r.2.1 r.2.2)
  | 0, w1, w5, x2, x3, x4, I, L, r, hf => by cases hf
  | m + 1, w1, w5, x2, x3, x4, I, L, r, hf => by
    unfold c_251_2 b_251_2 at hf
    have hK2 := tc_251_2 Ls xs d kp tl rl nh rh n K1 hK1 m
    refine bs_st 2 (x' := (49, [some (.ref 89), w1, some (.int x2), some (.int x3), some (.int x4), w5], [.ref 89, .int x4], hp kp nh rh tl rl I L)) rfl ?_
    obtain ⟨q2, hq2, hf⟩ := Option.bind_eq_some_iff.mp hf
    refine bs_call (o := pEN Ls xs (d + 1) 237 [.ref 89] (hp kp nh rh tl rl I L)) (w := some (.int q2)) (h' := hp kp nh rh tl rl I L) (pc := 52) (lo := [some (.ref 89), w1, some (.int x2), some (.int x3), some (.int x4), w5]) (rest := [.int x4]) rfl (t_237 Ls xs (d + 0) kp tl rl nh rh I L q2 hq2) ?_
    refine bs_br (t := 125) (e := 55) (lo := [some (.ref 89), w1, some (.int x2), some (.int x3), some (.int x4), w5]) (st := []) (h := hp kp nh rh tl rl I L) rfl hf (fun hc hf => ?_) (fun hc hf => ?_)
    · refine bs_st 2 (x' := (35, [some (.ref 89), w1, some (.int x2), some (.int (x3 + (1 : Int32))), some (.int x4), w5], [], hp kp nh rh tl rl I L)) rfl ?_
      exact hK1 w1 (some (.int x4)) w5 x2 (x3 + (1 : Int32)) I L r hf
    · refine bs_st 2 (x' := (58, [some (.ref 89), w1, some (.int x2), some (.int x3), some (.int x4), some (.int (0 : Int32))], [], hp kp nh rh tl rl I L)) rfl ?_
      exact tc_251_3 Ls xs d kp tl rl nh rh n _ _ hK1 hK2 n w1 x2 x3 x4 (0 : Int32) I L r hf
def b_251_1 (n : Nat) (K1 : Int32 → Int32 → FI → FL → Option (Int32 × FI × FL)) (x2 : Int32) (x3 : Int32) (I : FI) (L : FL) : Option (Int32 × FI × FL) :=
  (f_237 I L).bind fun q1 =>
  if q1 ≤ x3 then
    if pin x2 4 = true then some (I 103 x2.toNatClampNeg, I, L) else none
  else
    c_251_2 n K1 n x2 x3 (0 : Int32) I L
def c_251_1 (n : Nat) : Nat → Int32 → Int32 → FI → FL → Option (Int32 × FI × FL)
  | 0, _, _, _, _ => none
  | m + 1, x2, x3, I, L => b_251_1 n (c_251_1 n m) x2 x3 I L
set_option maxHeartbeats 1000000 in
set_option maxRecDepth 20000 in
theorem tc_251_1 (Ls : Nat) (xs : Nat → Int32) (d : Nat) (kp : Option Nat) (tl : List (Nat × Nat)) (rl : List (List (Option Nat))) (nh : Option Nat) (rh : Option Nat) (n : Nat) : ∀ (m : Nat) (w1 : Option Value) (w4 : Option Value) (w5 : Option Value) (x2 : Int32) (x3 : Int32) (I : FI) (L : FL) (r : Int32 × FI × FL), c_251_1 n m x2 x3 I L = some r → Bs cd_251 (sf 12 rs_12 false 6 (some (.int)) Ls xs (d + 1)) (35, [some (.ref 89), w1, some (.int x2), some (.int x3), w4, w5], [], hp kp nh rh tl rl I L) (some (.int r.1), hp kp nh rh tl rl r.2.1 r.2.2)
  | 0, w1, w4, w5, x2, x3, I, L, r, hf => by cases hf
  | m + 1, w1, w4, w5, x2, x3, I, L, r, hf => by
    unfold c_251_1 b_251_1 at hf
    have hK1 := tc_251_1 Ls xs d kp tl rl nh rh n m
    refine bs_st 2 (x' := (37, [some (.ref 89), w1, some (.int x2), some (.int x3), w4, w5], [.ref 89, .int x3], hp kp nh rh tl rl I L)) rfl ?_
    obtain ⟨q1, hq1, hf⟩ := Option.bind_eq_some_iff.mp hf
    refine bs_call (o := pEN Ls xs (d + 1) 237 [.ref 89] (hp kp nh rh tl rl I L)) (w := some (.int q1)) (h' := hp kp nh rh tl rl I L) (pc := 40) (lo := [some (.ref 89), w1, some (.int x2), some (.int x3), w4, w5]) (rest := [.int x3]) rfl (t_237 Ls xs (d + 0) kp tl rl nh rh I L q1 hq1) ?_
    refine bs_br (t := 131) (e := 43) (lo := [some (.ref 89), w1, some (.int x2), some (.int x3), w4, w5]) (st := []) (h := hp kp nh rh tl rl I L) rfl hf (fun hc hf => ?_) (fun hc hf => ?_)
    · refine bs_st 3 (x' := (136, [some (.ref 89), w1, some (.int x2), some (.int x3), w4, w5], [.int x2, .ref 103], hp kp nh rh tl rl I L)) rfl ?_
      refine bs_gd (x' := (137, [some (.ref 89), w1, some (.int x2), some (.int x3), w4, w5], [.int (I 103 x2.toNatClampNeg)], hp kp nh rh tl rl I L)) rfl hf (fun hc hf => ?_)
      cases hf
      exact bs_ret rfl
    · refine bs_st 2 (x' := (46, [some (.ref 89), w1, some (.int x2), some (.int x3), some (.int (0 : Int32)), w5], [], hp kp nh rh tl rl I L)) rfl ?_
      exact tc_251_2 Ls xs d kp tl rl nh rh n _ hK1 n w1 w5 x2 x3 (0 : Int32) I L r hf
def c_251_5 (n : Nat) (K0 : Int32 → Int32 → Int32 → FI → FL → Option (Int32 × FI × FL)) (x1 : Int32) (x2 : Int32) (x3 : Int32) (s0 : Int32) (s1 : Int32) (I : FI) (L : FL) : Option (Int32 × FI × FL) :=
  if pin s1 4 = true then K0 x1 x2 (x3 + (1 : Int32)) (u2 I 103 s1.toNatClampNeg s0) L else none
set_option maxHeartbeats 1000000 in
set_option maxRecDepth 20000 in
theorem tc_251_5 (Ls : Nat) (xs : Nat → Int32) (d : Nat) (kp : Option Nat) (tl : List (Nat × Nat)) (rl : List (List (Option Nat))) (nh : Option Nat) (rh : Option Nat) (n : Nat) (K0 : Int32 → Int32 → Int32 → FI → FL → Option (Int32 × FI × FL)) (hK0 : ∀ (w4 : Option Value) (w5 : Option Value) (x1 : Int32) (x2 : Int32) (x3 : Int32) (I : FI) (L : FL) (r : Int32 × FI × FL), K0 x1 x2 x3 I L = some r → Bs cd_251 (sf 12 rs_12 false 6 (some (.int)) Ls xs (d + 1)) (2, [some (.ref 89), some (.int x1), some (.int x2), some (.int x3), w4, w5], [], hp kp nh rh tl rl I L) (some (.int r.1), hp kp nh rh tl rl r.2.1 r.2.2)) (w4 : Option Value) (w5 : Option Value) (x1 : Int32) (x2 : Int32) (x3 : Int32) (s0 : Int32) (s1 : Int32) (I : FI) (L : FL) (r : Int32 × FI × FL) (hf : c_251_5 n K0 x1 x2 x3 s0 s1 I L = some r) : Bs cd_251 (sf 12 rs_12 false 6 (some (.int)) Ls xs (d + 1)) (26, [some (.ref 89), some (.int x1), some (.int x2), some (.int x3), w4, w5], [.int s0, .int s1, .ref 103], hp kp nh rh tl rl I L) (some (.int r.1), hp kp nh rh tl rl r.2.1 r.2.2) := by
  unfold c_251_5 at hf
  refine bs_gd (x' := (27, [some (.ref 89), some (.int x1), some (.int x2), some (.int x3), w4, w5], [], hp kp nh rh tl rl (u2 I 103 s1.toNatClampNeg s0) L)) rfl hf (fun hc hf => ?_)
  refine bs_st 2 (x' := (2, [some (.ref 89), some (.int x1), some (.int x2), some (.int (x3 + (1 : Int32))), w4, w5], [], hp kp nh rh tl rl (u2 I 103 s1.toNatClampNeg s0) L)) rfl ?_
  exact hK0 w4 w5 x1 x2 (x3 + (1 : Int32)) (u2 I 103 s1.toNatClampNeg s0) L r hf
def b_251_0 (n : Nat) (K0 : Int32 → Int32 → Int32 → FI → FL → Option (Int32 × FI × FL)) (x1 : Int32) (x2 : Int32) (x3 : Int32) (I : FI) (L : FL) : Option (Int32 × FI × FL) :=
  (f_237 I L).bind fun q0 =>
  if q0 ≤ x3 then
    c_251_1 n n x2 (1 : Int32) I L
  else
    if ¬ x3 = x1 then
      c_251_5 n K0 x1 x2 x3 (100000 : Int32) x3 I L
    else
      c_251_5 n K0 x1 x2 x3 (0 : Int32) x3 I L
def c_251_0 (n : Nat) : Nat → Int32 → Int32 → Int32 → FI → FL → Option (Int32 × FI × FL)
  | 0, _, _, _, _, _ => none
  | m + 1, x1, x2, x3, I, L => b_251_0 n (c_251_0 n m) x1 x2 x3 I L
set_option maxHeartbeats 1000000 in
set_option maxRecDepth 20000 in
theorem tc_251_0 (Ls : Nat) (xs : Nat → Int32) (d : Nat) (kp : Option Nat) (tl : List (Nat × Nat)) (rl : List (List (Option Nat))) (nh : Option Nat) (rh : Option Nat) (n : Nat) : ∀ (m : Nat) (w4 : Option Value) (w5 : Option Value) (x1 : Int32) (x2 : Int32) (x3 : Int32) (I : FI) (L : FL) (r : Int32 × FI × FL), c_251_0 n m x1 x2 x3 I L = some r → Bs cd_251 (sf 12 rs_12 false 6 (some (.int)) Ls xs (d + 1)) (2, [some (.ref 89), some (.int x1), some (.int x2), some (.int x3), w4, w5], [], hp kp nh rh tl rl I L) (some (.int r.1), hp kp nh rh tl rl r.2.1 r.2.2)
  | 0, w4, w5, x1, x2, x3, I, L, r, hf => by cases hf
  | m + 1, w4, w5, x1, x2, x3, I, L, r, hf => by
    unfold c_251_0 b_251_0 at hf
    have hK0 := tc_251_0 Ls xs d kp tl rl nh rh n m
    refine bs_st 2 (x' := (4, [some (.ref 89), some (.int x1), some (.int x2), some (.int x3), w4, w5], [.ref 89, .int x3], hp kp nh rh tl rl I L)) rfl ?_
    obtain ⟨q0, hq0, hf⟩ := Option.bind_eq_some_iff.mp hf
    refine bs_call (o := pEN Ls xs (d + 1) 237 [.ref 89] (hp kp nh rh tl rl I L)) (w := some (.int q0)) (h' := hp kp nh rh tl rl I L) (pc := 7) (lo := [some (.ref 89), some (.int x1), some (.int x2), some (.int x3), w4, w5]) (rest := [.int x3]) rfl (t_237 Ls xs (d + 0) kp tl rl nh rh I L q0 hq0) ?_
    refine bs_br (t := 33) (e := 10) (lo := [some (.ref 89), some (.int x1), some (.int x2), some (.int x3), w4, w5]) (st := []) (h := hp kp nh rh tl rl I L) rfl hf (fun hc hf => ?_) (fun hc hf => ?_)
    · refine bs_st 2 (x' := (35, [some (.ref 89), some (.int x1), some (.int x2), some (.int (1 : Int32)), w4, w5], [], hp kp nh rh tl rl I L)) rfl ?_
      exact tc_251_1 Ls xs d kp tl rl nh rh n n (some (.int x1)) w4 w5 x2 (1 : Int32) I L r hf
    · refine bs_st 5 (x' := (17, [some (.ref 89), some (.int x1), some (.int x2), some (.int x3), w4, w5], [.int x1, .int x3, .int x3, .ref 103], hp kp nh rh tl rl I L)) rfl ?_
      refine bs_br (t := 24) (e := 20) (lo := [some (.ref 89), some (.int x1), some (.int x2), some (.int x3), w4, w5]) (st := [.int x3, .ref 103]) (h := hp kp nh rh tl rl I L) rfl hf (fun hc hf => ?_) (fun hc hf => ?_)
      · refine bs_st 1 (x' := (26, [some (.ref 89), some (.int x1), some (.int x2), some (.int x3), w4, w5], [.int (100000 : Int32), .int x3, .ref 103], hp kp nh rh tl rl I L)) rfl ?_
        exact tc_251_5 Ls xs d kp tl rl nh rh n _ hK0 w4 w5 x1 x2 x3 (100000 : Int32) x3 I L r hf
      · refine bs_st 2 (x' := (26, [some (.ref 89), some (.int x1), some (.int x2), some (.int x3), w4, w5], [.int (0 : Int32), .int x3, .ref 103], hp kp nh rh tl rl I L)) rfl ?_
        exact tc_251_5 Ls xs d kp tl rl nh rh n _ hK0 w4 w5 x1 x2 x3 (0 : Int32) x3 I L r hf
def f_251 (n : Nat) (x1 : Int32) (x2 : Int32) (I : FI) (L : FL) : Option (Int32 × FI × FL) :=
  c_251_0 n n x1 x2 (0 : Int32) I L
set_option maxHeartbeats 1000000 in
set_option maxRecDepth 20000 in
theorem t_251 (Ls : Nat) (xs : Nat → Int32) (d : Nat) (kp : Option Nat) (tl : List (Nat × Nat)) (rl : List (List (Option Nat))) (nh : Option Nat) (rh : Option Nat) (n : Nat) (x1 : Int32) (x2 : Int32) (I : FI) (L : FL) (r : Int32 × FI × FL) (hf : f_251 n x1 x2 I L = some r) : pEN Ls xs (d + 2) 251 [.ref 89, .int x1, .int x2] (hp kp nh rh tl rl I L) = some (some (.int r.1), hp kp nh rh tl rl r.2.1 r.2.2) := by
  refine en_run (d := d + 1) (cd := cd_251) (f := (sf 12 rs_12 false 6 (some (.int)) Ls xs (d + 1))) rfl rfl (x := (0, [some (.ref 89), some (.int x1), some (.int x2), none, none, none], [], hp kp nh rh tl rl I L)) rfl rfl (Nat.le_of_ble_eq_true rfl) ?_
  unfold f_251 at hf
  refine bs_st 2 (x' := (2, [some (.ref 89), some (.int x1), some (.int x2), some (.int (0 : Int32)), none, none], [], hp kp nh rh tl rl I L)) rfl ?_
  exact tc_251_0 Ls xs d kp tl rl nh rh n n none none x1 x2 (0 : Int32) I L r hf
/-- LampRoundsModel.lays() on (89,) -/
def b_252_0 (n : Nat) (K0 : Int32 → FI → FL → Option (FI × FL)) (x1 : Int32) (I : FI) (L : FL) : Option (FI × FL) :=
  (f_237 I L).bind fun q0 =>
  if q0 ≤ x1 then
    some (I, L)
  else
    if pin ((2 : Int32) * x1) 40 = true then (if pin x1 4 = true then K0 (x1 + (1 : Int32)) (u2 I 104 x1.toNatClampNeg (I 97 (((2 : Int32) * x1).toNatClampNeg))) L else none) else none
def c_252_0 (n : Nat) : Nat → Int32 → FI → FL → Option (FI × FL)
  | 0, _, _, _ => none
  | m + 1, x1, I, L => b_252_0 n (c_252_0 n m) x1 I L
set_option maxHeartbeats 1000000 in
set_option maxRecDepth 20000 in
theorem tc_252_0 (Ls : Nat) (xs : Nat → Int32) (d : Nat) (kp : Option Nat) (tl : List (Nat × Nat)) (rl : List (List (Option Nat))) (nh : Option Nat) (rh : Option Nat) (n : Nat) : ∀ (m : Nat) (x1 : Int32) (I : FI) (L : FL) (r : FI × FL), c_252_0 n m x1 I L = some r → Bs cd_252 (sf 12 rs_12 false 2 none Ls xs (d + 1)) (27, [some (.ref 89), some (.int x1)], [], hp kp nh rh tl rl I L) (none, hp kp nh rh tl rl r.1 r.2)
  | 0, x1, I, L, r, hf => by cases hf
  | m + 1, x1, I, L, r, hf => by
    unfold c_252_0 b_252_0 at hf
    have hK0 := tc_252_0 Ls xs d kp tl rl nh rh n m
    refine bs_st 2 (x' := (29, [some (.ref 89), some (.int x1)], [.ref 89, .int x1], hp kp nh rh tl rl I L)) rfl ?_
    obtain ⟨q0, hq0, hf⟩ := Option.bind_eq_some_iff.mp hf
    refine bs_call (o := pEN Ls xs (d + 1) 237 [.ref 89] (hp kp nh rh tl rl I L)) (w := some (.int q0)) (h' := hp kp nh rh tl rl I L) (pc := 32) (lo := [some (.ref 89), some (.int x1)]) (rest := [.int x1]) rfl (t_237 Ls xs (d + 0) kp tl rl nh rh I L q0 hq0) ?_
    refine bs_br (t := 55) (e := 35) (lo := [some (.ref 89), some (.int x1)]) (st := []) (h := hp kp nh rh tl rl I L) rfl hf (fun hc hf => ?_) (fun hc hf => ?_)
    · cases hf
      exact bs_ret rfl
    · refine bs_st 8 (x' := (47, [some (.ref 89), some (.int x1)], [.int ((2 : Int32) * x1), .ref 97, .int x1, .ref 104], hp kp nh rh tl rl I L)) rfl ?_
      refine bs_gd (x' := (48, [some (.ref 89), some (.int x1)], [.int (I 97 (((2 : Int32) * x1).toNatClampNeg)), .int x1, .ref 104], hp kp nh rh tl rl I L)) rfl hf (fun hc hf => ?_)
      refine bs_gd (x' := (49, [some (.ref 89), some (.int x1)], [], hp kp nh rh tl rl (u2 I 104 x1.toNatClampNeg (I 97 (((2 : Int32) * x1).toNatClampNeg))) L)) rfl hf (fun hc hf => ?_)
      refine bs_st 2 (x' := (27, [some (.ref 89), some (.int (x1 + (1 : Int32)))], [], hp kp nh rh tl rl (u2 I 104 x1.toNatClampNeg (I 97 (((2 : Int32) * x1).toNatClampNeg))) L)) rfl ?_
      exact hK0 (x1 + (1 : Int32)) (u2 I 104 x1.toNatClampNeg (I 97 (((2 : Int32) * x1).toNatClampNeg))) L r hf
def f_252 (n : Nat) (I : FI) (L : FL) : Option (FI × FL) :=
  c_252_0 n n (0 : Int32) (u2 (u2 (u2 (u2 I 89 25 (I 96 0)) 89 26 (0 : Int32)) 89 27 (0 : Int32)) 89 28 (-1 : Int32)) L
set_option maxHeartbeats 1000000 in
set_option maxRecDepth 20000 in
theorem t_252 (Ls : Nat) (xs : Nat → Int32) (d : Nat) (kp : Option Nat) (tl : List (Nat × Nat)) (rl : List (List (Option Nat))) (nh : Option Nat) (rh : Option Nat) (n : Nat) (I : FI) (L : FL) (r : FI × FL) (hf : f_252 n I L = some r) : pEN Ls xs (d + 2) 252 [.ref 89] (hp kp nh rh tl rl I L) = some (none, hp kp nh rh tl rl r.1 r.2) := by
  refine en_run (d := d + 1) (cd := cd_252) (f := (sf 12 rs_12 false 2 none Ls xs (d + 1))) rfl rfl (x := (0, [some (.ref 89), none], [], hp kp nh rh tl rl I L)) rfl rfl (Nat.le_of_ble_eq_true rfl) ?_
  unfold f_252 at hf
  refine bs_st 17 (x' := (27, [some (.ref 89), some (.int (0 : Int32))], [], hp kp nh rh tl rl (u2 (u2 (u2 (u2 I 89 25 (I 96 0)) 89 26 (0 : Int32)) 89 27 (0 : Int32)) 89 28 (-1 : Int32)) L)) rfl ?_
  exact tc_252_0 Ls xs d kp tl rl nh rh n n (0 : Int32) (u2 (u2 (u2 (u2 I 89 25 (I 96 0)) 89 26 (0 : Int32)) 89 27 (0 : Int32)) 89 28 (-1 : Int32)) L r hf
/-- LampRoundsModel.ages(III) on (89,) -/
def c_253_6 (n : Nat) (K0 : Int32 → Int32 → Int32 → Int32 → FI → FL → Option (FI × FL)) (x1 : Int32) (x2 : Int32) (x3 : Int32) (x4 : Int32) (I : FI) (L : FL) : Option (FI × FL) :=
  K0 x1 x2 x3 (x4 + (1 : Int32)) I L
set_option maxHeartbeats 1000000 in
set_option maxRecDepth 20000 in
theorem tc_253_6 (Ls : Nat) (xs : Nat → Int32) (d : Nat) (kp : Option Nat) (tl : List (Nat × Nat)) (rl : List (List (Option Nat))) (nh : Option Nat) (rh : Option Nat) (n : Nat) (K0 : Int32 → Int32 → Int32 → Int32 → FI → FL → Option (FI × FL)) (hK0 : ∀ (w5 : Option Value) (w6 : Option Value) (w7 : Option Value) (x1 : Int32) (x2 : Int32) (x3 : Int32) (x4 : Int32) (I : FI) (L : FL) (r : FI × FL), K0 x1 x2 x3 x4 I L = some r → Bs cd_253 (sf 12 rs_12 false 8 none Ls xs (d + 1)) (3, [some (.ref 89), some (.int x1), some (.int x2), some (.int x3), some (.int x4), w5, w6, w7], [], hp kp nh rh tl rl I L) (none, hp kp nh rh tl rl r.1 r.2)) (w5 : Option Value) (w6 : Option Value) (w7 : Option Value) (x1 : Int32) (x2 : Int32) (x3 : Int32) (x4 : Int32) (I : FI) (L : FL) (r : FI × FL) (hf : c_253_6 n K0 x1 x2 x3 x4 I L = some r) : Bs cd_253 (sf 12 rs_12 false 8 none Ls xs (d + 1)) (154, [some (.ref 89), some (.int x1), some (.int x2), some (.int x3), some (.int x4), w5, w6, w7], [], hp kp nh rh tl rl I L) (none, hp kp nh rh tl rl r.1 r.2) := by
  unfold c_253_6 at hf
  refine bs_st 2 (x' := (3, [some (.ref 89), some (.int x1), some (.int x2), some (.int x3), some (.int (x4 + (1 : Int32))), w5, w6, w7], [], hp kp nh rh tl rl I L)) rfl ?_
  exact hK0 w5 w6 w7 x1 x2 x3 (x4 + (1 : Int32)) I L r hf
def c_253_5 (n : Nat) (K0 : Int32 → Int32 → Int32 → Int32 → FI → FL → Option (FI × FL)) (x1 : Int32) (x2 : Int32) (x3 : Int32) (x4 : Int32) (s0 : Int32) (s1 : Int32) (I : FI) (L : FL) : Option (FI × FL) :=
  if pin s1 4 = true then c_253_6 n K0 x1 x2 x3 x4 (u2 I 105 s1.toNatClampNeg s0) L else none
set_option maxHeartbeats 1000000 in
set_option maxRecDepth 20000 in
theorem tc_253_5 (Ls : Nat) (xs : Nat → Int32) (d : Nat) (kp : Option Nat) (tl : List (Nat × Nat)) (rl : List (List (Option Nat))) (nh : Option Nat) (rh : Option Nat) (n : Nat) (K0 : Int32 → Int32 → Int32 → Int32 → FI → FL → Option (FI × FL)) (hK0 : ∀ (w5 : Option Value) (w6 : Option Value) (w7 : Option Value) (x1 : Int32) (x2 : Int32) (x3 : Int32) (x4 : Int32) (I : FI) (L : FL) (r : FI × FL), K0 x1 x2 x3 x4 I L = some r → Bs cd_253 (sf 12 rs_12 false 8 none Ls xs (d + 1)) (3, [some (.ref 89), some (.int x1), some (.int x2), some (.int x3), some (.int x4), w5, w6, w7], [], hp kp nh rh tl rl I L) (none, hp kp nh rh tl rl r.1 r.2)) (w5 : Option Value) (w6 : Option Value) (w7 : Option Value) (x1 : Int32) (x2 : Int32) (x3 : Int32) (x4 : Int32) (s0 : Int32) (s1 : Int32) (I : FI) (L : FL) (r : FI × FL) (hf : c_253_5 n K0 x1 x2 x3 x4 s0 s1 I L = some r) : Bs cd_253 (sf 12 rs_12 false 8 none Ls xs (d + 1)) (153, [some (.ref 89), some (.int x1), some (.int x2), some (.int x3), some (.int x4), w5, w6, w7], [.int s0, .int s1, .ref 105], hp kp nh rh tl rl I L) (none, hp kp nh rh tl rl r.1 r.2) := by
  unfold c_253_5 at hf
  refine bs_gd (x' := (154, [some (.ref 89), some (.int x1), some (.int x2), some (.int x3), some (.int x4), w5, w6, w7], [], hp kp nh rh tl rl (u2 I 105 s1.toNatClampNeg s0) L)) rfl hf (fun hc hf => ?_)
  exact tc_253_6 Ls xs d kp tl rl nh rh n _ hK0 w5 w6 w7 x1 x2 x3 x4 (u2 I 105 s1.toNatClampNeg s0) L r hf
def c_253_4 (n : Nat) (K0 : Int32 → Int32 → Int32 → Int32 → FI → FL → Option (FI × FL)) (x1 : Int32) (x2 : Int32) (x3 : Int32) (x4 : Int32) (x7 : Int32) (I : FI) (L : FL) : Option (FI × FL) :=
  if pin x4 4 = true then (if x7 ≤ I 104 x4.toNatClampNeg then
      c_253_5 n K0 x1 x2 x3 x4 x7 x4 I L
    else
      c_253_5 n K0 x1 x2 x3 x4 (99 : Int32) x4 I L) else none
set_option maxHeartbeats 1000000 in
set_option maxRecDepth 20000 in
theorem tc_253_4 (Ls : Nat) (xs : Nat → Int32) (d : Nat) (kp : Option Nat) (tl : List (Nat × Nat)) (rl : List (List (Option Nat))) (nh : Option Nat) (rh : Option Nat) (n : Nat) (K0 : Int32 → Int32 → Int32 → Int32 → FI → FL → Option (FI × FL)) (hK0 : ∀ (w5 : Option Value) (w6 : Option Value) (w7 : Option Value) (x1 : Int32) (x2 : Int32) (x3 : Int32) (x4 : Int32) (I : FI) (L : FL) (r : FI × FL), K0 x1 x2 x3 x4 I L = some r → Bs cd_253 (sf 12 rs_12 false 8 none Ls xs (d + 1)) (3, [some (.ref 89), some (.int x1), some (.int x2), some (.int x3), some (.int x4), w5, w6, w7], [], hp kp nh rh tl rl I L) (none, hp kp nh rh tl rl r.1 r.2)) (w5 : Option Value) (w6 : Option Value) (x1 : Int32) (x2 : Int32) (x3 : Int32) (x4 : Int32) (x7 : Int32) (I : FI) (L : FL) (r : FI × FL) (hf : c_253_4 n K0 x1 x2 x3 x4 x7 I L = some r) : Bs cd_253 (sf 12 rs_12 false 8 none Ls xs (d + 1)) (128, [some (.ref 89), some (.int x1), some (.int x2), some (.int x3), some (.int x4), w5, w6, some (.int x7)], [], hp kp nh rh tl rl I L) (none, hp kp nh rh tl rl r.1 r.2) := by
  unfold c_253_4 at hf
  refine bs_st 7 (x' := (142, [some (.ref 89), some (.int x1), some (.int x2), some (.int x3), some (.int x4), w5, w6, some (.int x7)], [.int x4, .ref 104, .int x7, .int x4, .ref 105], hp kp nh rh tl rl I L)) rfl ?_
  refine bs_gd (x' := (143, [some (.ref 89), some (.int x1), some (.int x2), some (.int x3), some (.int x4), w5, w6, some (.int x7)], [.int (I 104 x4.toNatClampNeg), .int x7, .int x4, .ref 105], hp kp nh rh tl rl I L)) rfl hf (fun hc hf => ?_)
  refine bs_br (t := 151) (e := 146) (lo := [some (.ref 89), some (.int x1), some (.int x2), some (.int x3), some (.int x4), w5, w6, some (.int x7)]) (st := [.int x4, .ref 105]) (h := hp kp nh rh tl rl I L) rfl hf (fun hc hf => ?_) (fun hc hf => ?_)
  · refine bs_st 1 (x' := (153, [some (.ref 89), some (.int x1), some (.int x2), some (.int x3), some (.int x4), w5, w6, some (.int x7)], [.int x7, .int x4, .ref 105], hp kp nh rh tl rl I L)) rfl ?_
    exact tc_253_5 Ls xs d kp tl rl nh rh n _ hK0 w5 w6 (some (.int x7)) x1 x2 x3 x4 x7 x4 I L r hf
  · refine bs_st 2 (x' := (153, [some (.ref 89), some (.int x1), some (.int x2), some (.int x3), some (.int x4), w5, w6, some (.int x7)], [.int (99 : Int32), .int x4, .ref 105], hp kp nh rh tl rl I L)) rfl ?_
    exact tc_253_5 Ls xs d kp tl rl nh rh n _ hK0 w5 w6 (some (.int x7)) x1 x2 x3 x4 (99 : Int32) x4 I L r hf
def c_253_3 (n : Nat) (K0 : Int32 → Int32 → Int32 → Int32 → FI → FL → Option (FI × FL)) (x1 : Int32) (x2 : Int32) (x3 : Int32) (x4 : Int32) (s0 : Int32) (I : FI) (L : FL) : Option (FI × FL) :=
  c_253_4 n K0 x1 x2 x3 x4 s0 I L
set_option maxHeartbeats 1000000 in
set_option maxRecDepth 20000 in
theorem tc_253_3 (Ls : Nat) (xs : Nat → Int32) (d : Nat) (kp : Option Nat) (tl : List (Nat × Nat)) (rl : List (List (Option Nat))) (nh : Option Nat) (rh : Option Nat) (n : Nat) (K0 : Int32 → Int32 → Int32 → Int32 → FI → FL → Option (FI × FL)) (hK0 : ∀ (w5 : Option Value) (w6 : Option Value) (w7 : Option Value) (x1 : Int32) (x2 : Int32) (x3 : Int32) (x4 : Int32) (I : FI) (L : FL) (r : FI × FL), K0 x1 x2 x3 x4 I L = some r → Bs cd_253 (sf 12 rs_12 false 8 none Ls xs (d + 1)) (3, [some (.ref 89), some (.int x1), some (.int x2), some (.int x3), some (.int x4), w5, w6, w7], [], hp kp nh rh tl rl I L) (none, hp kp nh rh tl rl r.1 r.2)) (w5 : Option Value) (w6 : Option Value) (w7 : Option Value) (x1 : Int32) (x2 : Int32) (x3 : Int32) (x4 : Int32) (s0 : Int32) (I : FI) (L : FL) (r : FI × FL) (hf : c_253_3 n K0 x1 x2 x3 x4 s0 I L = some r) : Bs cd_253 (sf 12 rs_12 false 8 none Ls xs (d + 1)) (96, [some (.ref 89), some (.int x1), some (.int x2), some (.int x3), some (.int x4), w5, w6, w7], [.int s0], hp kp nh rh tl rl I L) (none, hp kp nh rh tl rl r.1 r.2) := by
  unfold c_253_3 at hf
  refine bs_st 2 (x' := (128, [some (.ref 89), some (.int x1), some (.int x2), some (.int x3), some (.int x4), w5, (pcl w6), some (.int s0)], [], hp kp nh rh tl rl I L)) rfl ?_
  exact tc_253_4 Ls xs d kp tl rl nh rh n _ hK0 w5 (pcl w6) x1 x2 x3 x4 s0 I L r hf
def c_253_2 (n : Nat) (K0 : Int32 → Int32 → Int32 → Int32 → FI → FL → Option (FI × FL)) (x1 : Int32) (x2 : Int32) (x3 : Int32) (x4 : Int32) (I : FI) (L : FL) : Option (FI × FL) :=
  c_253_3 n K0 x1 x2 x3 x4 (0 : Int32) I L
set_option maxHeartbeats 1000000 in
set_option maxRecDepth 20000 in
theorem tc_253_2 (Ls : Nat) (xs : Nat → Int32) (d : Nat) (kp : Option Nat) (tl : List (Nat × Nat)) (rl : List (List (Option Nat))) (nh : Option Nat) (rh : Option Nat) (n : Nat) (K0 : Int32 → Int32 → Int32 → Int32 → FI → FL → Option (FI × FL)) (hK0 : ∀ (w5 : Option Value) (w6 : Option Value) (w7 : Option Value) (x1 : Int32) (x2 : Int32) (x3 : Int32) (x4 : Int32) (I : FI) (L : FL) (r : FI × FL), K0 x1 x2 x3 x4 I L = some r → Bs cd_253 (sf 12 rs_12 false 8 none Ls xs (d + 1)) (3, [some (.ref 89), some (.int x1), some (.int x2), some (.int x3), some (.int x4), w5, w6, w7], [], hp kp nh rh tl rl I L) (none, hp kp nh rh tl rl r.1 r.2)) (w5 : Option Value) (w6 : Option Value) (w7 : Option Value) (x1 : Int32) (x2 : Int32) (x3 : Int32) (x4 : Int32) (I : FI) (L : FL) (r : FI × FL) (hf : c_253_2 n K0 x1 x2 x3 x4 I L = some r) : Bs cd_253 (sf 12 rs_12 false 8 none Ls xs (d + 1)) (95, [some (.ref 89), some (.int x1), some (.int x2), some (.int x3), some (.int x4), w5, w6, w7], [], hp kp nh rh tl rl I L) (none, hp kp nh rh tl rl r.1 r.2) := by
  unfold c_253_2 at hf
  refine bs_st 1 (x' := (96, [some (.ref 89), some (.int x1), some (.int x2), some (.int x3), some (.int x4), w5, w6, w7], [.int (0 : Int32)], hp kp nh rh tl rl I L)) rfl ?_
  exact tc_253_3 Ls xs d kp tl rl nh rh n _ hK0 w5 w6 w7 x1 x2 x3 x4 (0 : Int32) I L r hf
def c_253_1 (n : Nat) (K0 : Int32 → Int32 → Int32 → Int32 → FI → FL → Option (FI × FL)) (x1 : Int32) (x2 : Int32) (x3 : Int32) (x4 : Int32) (x5 : Int32) (x6 : Int32) (I : FI) (L : FL) : Option (FI × FL) :=
  if ¬ I 89 25 = (1 : Int32) then
    if ¬ I 89 25 = (2 : Int32) then
      c_253_2 n K0 x1 x2 x3 x4 I L
    else
      if ¬ x6 = 0 then
        c_253_2 n K0 x1 x2 x3 x4 I L
      else
        if x2 = x4 then
          c_253_2 n K0 x1 x2 x3 x4 I L
        else
          c_253_3 n K0 x1 x2 x3 x4 x5 I L
  else
    c_253_3 n K0 x1 x2 x3 x4 (x5 / (2 : Int32)) I L
set_option maxHeartbeats 1000000 in
set_option maxRecDepth 20000 in
theorem tc_253_1 (Ls : Nat) (xs : Nat → Int32) (d : Nat) (kp : Option Nat) (tl : List (Nat × Nat)) (rl : List (List (Option Nat))) (nh : Option Nat) (rh : Option Nat) (n : Nat) (K0 : Int32 → Int32 → Int32 → Int32 → FI → FL → Option (FI × FL)) (hK0 : ∀ (w5 : Option Value) (w6 : Option Value) (w7 : Option Value) (x1 : Int32) (x2 : Int32) (x3 : Int32) (x4 : Int32) (I : FI) (L : FL) (r : FI × FL), K0 x1 x2 x3 x4 I L = some r → Bs cd_253 (sf 12 rs_12 false 8 none Ls xs (d + 1)) (3, [some (.ref 89), some (.int x1), some (.int x2), some (.int x3), some (.int x4), w5, w6, w7], [], hp kp nh rh tl rl I L) (none, hp kp nh rh tl rl r.1 r.2)) (w7 : Option Value) (x1 : Int32) (x2 : Int32) (x3 : Int32) (x4 : Int32) (x5 : Int32) (x6 : Int32) (I : FI) (L : FL) (r : FI × FL) (hf : c_253_1 n K0 x1 x2 x3 x4 x5 x6 I L = some r) : Bs cd_253 (sf 12 rs_12 false 8 none Ls xs (d + 1)) (56, [some (.ref 89), some (.int x1), some (.int x2), some (.int x3), some (.int x4), some (.int x5), some (.int x6), w7], [], hp kp nh rh tl rl I L) (none, hp kp nh rh tl rl r.1 r.2) := by
  unfold c_253_1 at hf
  refine bs_st 3 (x' := (61, [some (.ref 89), some (.int x1), some (.int x2), some (.int x3), some (.int x4), some (.int x5), some (.int x6), w7], [.int (1 : Int32), .int (I 89 25)], hp kp nh rh tl rl I L)) rfl ?_
  refine bs_br (t := 71) (e := 64) (lo := [some (.ref 89), some (.int x1), some (.int x2), some (.int x3), some (.int x4), some (.int x5), some (.int x6), w7]) (st := []) (h := hp kp nh rh tl rl I L) rfl hf (fun hc hf => ?_) (fun hc hf => ?_)
  · refine bs_st 3 (x' := (76, [some (.ref 89), some (.int x1), some (.int x2), some (.int x3), some (.int x4), some (.int x5), some (.int x6), w7], [.int (2 : Int32), .int (I 89 25)], hp kp nh rh tl rl I L)) rfl ?_
    refine bs_br (t := 95) (e := 79) (lo := [some (.ref 89), some (.int x1), some (.int x2), some (.int x3), some (.int x4), some (.int x5), some (.int x6), w7]) (st := []) (h := hp kp nh rh tl rl I L) rfl hf (fun hc hf => ?_) (fun hc hf => ?_)
    · exact tc_253_2 Ls xs d kp tl rl nh rh n _ hK0 (some (.int x5)) (some (.int x6)) w7 x1 x2 x3 x4 I L r hf
    · refine bs_st 1 (x' := (81, [some (.ref 89), some (.int x1), some (.int x2), some (.int x3), some (.int x4), some (.int x5), some (.int x6), w7], [.int x6], hp kp nh rh tl rl I L)) rfl ?_
      refine bs_br (t := 95) (e := 84) (lo := [some (.ref 89), some (.int x1), some (.int x2), some (.int x3), some (.int x4), some (.int x5), some (.int x6), w7]) (st := []) (h := hp kp nh rh tl rl I L) rfl hf (fun hc hf => ?_) (fun hc hf => ?_)
      · exact tc_253_2 Ls xs d kp tl rl nh rh n _ hK0 (some (.int x5)) (some (.int x6)) w7 x1 x2 x3 x4 I L r hf
      · refine bs_st 2 (x' := (87, [some (.ref 89), some (.int x1), some (.int x2), some (.int x3), some (.int x4), some (.int x5), some (.int x6), w7], [.int x4, .int x2], hp kp nh rh tl rl I L)) rfl ?_
        refine bs_br (t := 95) (e := 90) (lo := [some (.ref 89), some (.int x1), some (.int x2), some (.int x3), some (.int x4), some (.int x5), some (.int x6), w7]) (st := []) (h := hp kp nh rh tl rl I L) rfl hf (fun hc hf => ?_) (fun hc hf => ?_)
        · exact tc_253_2 Ls xs d kp tl rl nh rh n _ hK0 (some (.int x5)) (some (.int x6)) w7 x1 x2 x3 x4 I L r hf
        · refine bs_st 2 (x' := (96, [some (.ref 89), some (.int x1), some (.int x2), some (.int x3), some (.int x4), some (.int x5), some (.int x6), w7], [.int x5], hp kp nh rh tl rl I L)) rfl ?_
          exact tc_253_3 Ls xs d kp tl rl nh rh n _ hK0 (some (.int x5)) (some (.int x6)) w7 x1 x2 x3 x4 x5 I L r hf
  · refine bs_st 4 (x' := (96, [some (.ref 89), some (.int x1), some (.int x2), some (.int x3), some (.int x4), some (.int x5), some (.int x6), w7], [.int (x5 / (2 : Int32))], hp kp nh rh tl rl I L)) rfl ?_
    exact tc_253_3 Ls xs d kp tl rl nh rh n _ hK0 (some (.int x5)) (some (.int x6)) w7 x1 x2 x3 x4 (x5 / (2 : Int32)) I L r hf
def b_253_0 (n : Nat) (K0 : Int32 → Int32 → Int32 → Int32 → FI → FL → Option (FI × FL)) (x1 : Int32) (x2 : Int32) (x3 : Int32) (x4 : Int32) (I : FI) (L : FL) : Option (FI × FL) :=
  (f_237 I L).bind fun q0 =>
  if q0 ≤ x4 then
    some (I, L)
  else
    if pin x4 4 = true then (if ¬ I 105 x4.toNatClampNeg = (99 : Int32) then
        (f_247 x3 x4 I L).bind fun q1 =>
        if x1 = x4 then
          c_253_1 n K0 x1 x2 x3 x4 (I 105 x4.toNatClampNeg) q1 I L
        else
          if q1 = 0 then
            if ¬ I 89 25 = (3 : Int32) then
              c_253_4 n K0 x1 x2 x3 x4 ((I 105 x4.toNatClampNeg) + (1 : Int32)) I L
            else
              if x1 = (-1 : Int32) then
                c_253_4 n K0 x1 x2 x3 x4 ((I 105 x4.toNatClampNeg) + (1 : Int32)) I L
              else
                (f_249 n x1 x4 I L).bind fun q2 =>
                if q2 = 0 then
                  c_253_4 n K0 x1 x2 x3 x4 ((I 105 x4.toNatClampNeg) + (1 : Int32)) I L
                else
                  c_253_4 n K0 x1 x2 x3 x4 (I 105 x4.toNatClampNeg) I L
          else
            c_253_1 n K0 x1 x2 x3 x4 (I 105 x4.toNatClampNeg) q1 I L
      else
        c_253_6 n K0 x1 x2 x3 x4 I L) else none
def c_253_0 (n : Nat) : Nat → Int32 → Int32 → Int32 → Int32 → FI → FL → Option (FI × FL)
  | 0, _, _, _, _, _, _ => none
  | m + 1, x1, x2, x3, x4, I, L => b_253_0 n (c_253_0 n m) x1 x2 x3 x4 I L
set_option maxHeartbeats 1000000 in
set_option maxRecDepth 20000 in
theorem tc_253_0 (Ls : Nat) (xs : Nat → Int32) (d : Nat) (kp : Option Nat) (tl : List (Nat × Nat)) (rl : List (List (Option Nat))) (nh : Option Nat) (rh : Option Nat) (n : Nat) : ∀ (m : Nat) (w5 : Option Value) (w6 : Option Value) (w7 : Option Value) (x1 : Int32) (x2 : Int32) (x3 : Int32) (x4 : Int32) (I : FI) (L : FL) (r : FI × FL), c_253_0 n m x1 x2 x3 x4 I L = some r → Bs cd_253 (sf 12 rs_12 false 8 none Ls xs (d + 1)) (3, [some (.ref 89), some (.int x1), some (.int x2), some (.int x3), some (.int x4), w5, w6, w7], [], hp kp nh rh tl rl I L) (none, hp kp nh rh tl rl r.1 r.2)
  | 0, w5, w6, w7, x1, x2, x3, x4, I, L, r, hf => by cases hf
  | m + 1, w5, w6, w7, x1, x2, x3, x4, I, L, r, hf => by
    unfold c_253_0 b_253_0 at hf
    have hK0 := tc_253_0 Ls xs d kp tl rl nh rh n m
    refine bs_st 2 (x' := (6, [some (.ref 89), some (.int x1), some (.int x2), some (.int x3), some (.int x4), w5, w6, w7], [.ref 89, .int x4], hp kp nh rh tl rl I L)) rfl ?_
    obtain ⟨q0, hq0, hf⟩ := Option.bind_eq_some_iff.mp hf
    refine bs_call (o := pEN Ls xs (d + 1) 237 [.ref 89] (hp kp nh rh tl rl I L)) (w := some (.int q0)) (h' := hp kp nh rh tl rl I L) (pc := 9) (lo := [some (.ref 89), some (.int x1), some (.int x2), some (.int x3), some (.int x4), w5, w6, w7]) (rest := [.int x4]) rfl (t_237 Ls xs (d + 0) kp tl rl nh rh I L q0 hq0) ?_
    refine bs_br (t := 160) (e := 12) (lo := [some (.ref 89), some (.int x1), some (.int x2), some (.int x3), some (.int x4), w5, w6, w7]) (st := []) (h := hp kp nh rh tl rl I L) rfl hf (fun hc hf => ?_) (fun hc hf => ?_)
    · cases hf
      exact bs_ret rfl
    · refine bs_st 3 (x' := (18, [some (.ref 89), some (.int x1), some (.int x2), some (.int x3), some (.int x4), w5, w6, w7], [.int x4, .ref 105], hp kp nh rh tl rl I L)) rfl ?_
      refine bs_gd (x' := (19, [some (.ref 89), some (.int x1), some (.int x2), some (.int x3), some (.int x4), w5, w6, w7], [.int (I 105 x4.toNatClampNeg)], hp kp nh rh tl rl I L)) rfl hf (fun hc hf => ?_)
      refine bs_st 3 (x' := (25, [some (.ref 89), some (.int x1), some (.int x2), some (.int x3), some (.int x4), some (.int (I 105 x4.toNatClampNeg)), w6, w7], [.int (99 : Int32), .int (I 105 x4.toNatClampNeg)], hp kp nh rh tl rl I L)) rfl ?_
      refine bs_br (t := 31) (e := 28) (lo := [some (.ref 89), some (.int x1), some (.int x2), some (.int x3), some (.int x4), some (.int (I 105 x4.toNatClampNeg)), w6, w7]) (st := []) (h := hp kp nh rh tl rl I L) rfl hf (fun hc hf => ?_) (fun hc hf => ?_)
      · refine bs_st 2 (x' := (34, [some (.ref 89), some (.int x1), some (.int x2), some (.int x3), some (.int x4), some (.int (I 105 x4.toNatClampNeg)), w6, w7], [.int x4, .int x3], hp kp nh rh tl rl I L)) rfl ?_
        obtain ⟨q1, hq1, hf⟩ := Option.bind_eq_some_iff.mp hf
        refine bs_call (o := pEN Ls xs (d + 1) 247 [.int x3, .int x4] (hp kp nh rh tl rl I L)) (w := some (.int q1)) (h' := hp kp nh rh tl rl I L) (pc := 37) (lo := [some (.ref 89), some (.int x1), some (.int x2), some (.int x3), some (.int x4), some (.int (I 105 x4.toNatClampNeg)), w6, w7]) (rest := []) rfl (t_247 Ls xs (d + 0) kp tl rl nh rh x3 x4 I L q1 hq1) ?_
        refine bs_st 7 (x' := (48, [some (.ref 89), some (.int x1), some (.int x2), some (.int x3), some (.int x4), some (.int (I 105 x4.toNatClampNeg)), some (.int q1), some (.int ((I 105 x4.toNatClampNeg) + (1 : Int32)))], [.int x4, .int x1], hp kp nh rh tl rl I L)) rfl ?_
        refine bs_br (t := 56) (e := 51) (lo := [some (.ref 89), some (.int x1), some (.int x2), some (.int x3), some (.int x4), some (.int (I 105 x4.toNatClampNeg)), some (.int q1), some (.int ((I 105 x4.toNatClampNeg) + (1 : Int32)))]) (st := []) (h := hp kp nh rh tl rl I L) rfl hf (fun hc hf => ?_) (fun hc hf => ?_)
        · exact tc_253_1 Ls xs d kp tl rl nh rh n _ hK0 (some (.int ((I 105 x4.toNatClampNeg) + (1 : Int32)))) x1 x2 x3 x4 (I 105 x4.toNatClampNeg) q1 I L r hf
        · refine bs_st 1 (x' := (53, [some (.ref 89), some (.int x1), some (.int x2), some (.int x3), some (.int x4), some (.int (I 105 x4.toNatClampNeg)), some (.int q1), some (.int ((I 105 x4.toNatClampNeg) + (1 : Int32)))], [.int q1], hp kp nh rh tl rl I L)) rfl ?_
          refine bs_br (t := 101) (e := 56) (lo := [some (.ref 89), some (.int x1), some (.int x2), some (.int x3), some (.int x4), some (.int (I 105 x4.toNatClampNeg)), some (.int q1), some (.int ((I 105 x4.toNatClampNeg) + (1 : Int32)))]) (st := []) (h := hp kp nh rh tl rl I L) rfl hf (fun hc hf => ?_) (fun hc hf => ?_)
          · refine bs_st 3 (x' := (106, [some (.ref 89), some (.int x1), some (.int x2), some (.int x3), some (.int x4), some (.int (I 105 x4.toNatClampNeg)), some (.int q1), some (.int ((I 105 x4.toNatClampNeg) + (1 : Int32)))], [.int (3 : Int32), .int (I 89 25)], hp kp nh rh tl rl I L)) rfl ?_
            refine bs_br (t := 128) (e := 109) (lo := [some (.ref 89), some (.int x1), some (.int x2), some (.int x3), some (.int x4), some (.int (I 105 x4.toNatClampNeg)), some (.int q1), some (.int ((I 105 x4.toNatClampNeg) + (1 : Int32)))]) (st := []) (h := hp kp nh rh tl rl I L) rfl hf (fun hc hf => ?_) (fun hc hf => ?_)
            · exact tc_253_4 Ls xs d kp tl rl nh rh n _ hK0 (some (.int (I 105 x4.toNatClampNeg))) (some (.int q1)) x1 x2 x3 x4 ((I 105 x4.toNatClampNeg) + (1 : Int32)) I L r hf
            · refine bs_st 2 (x' := (111, [some (.ref 89), some (.int x1), some (.int x2), some (.int x3), some (.int x4), some (.int (I 105 x4.toNatClampNeg)), some (.int q1), some (.int ((I 105 x4.toNatClampNeg) + (1 : Int32)))], [.int (-1 : Int32), .int x1], hp kp nh rh tl rl I L)) rfl ?_
              refine bs_br (t := 128) (e := 114) (lo := [some (.ref 89), some (.int x1), some (.int x2), some (.int x3), some (.int x4), some (.int (I 105 x4.toNatClampNeg)), some (.int q1), some (.int ((I 105 x4.toNatClampNeg) + (1 : Int32)))]) (st := []) (h := hp kp nh rh tl rl I L) rfl hf (fun hc hf => ?_) (fun hc hf => ?_)
              · exact tc_253_4 Ls xs d kp tl rl nh rh n _ hK0 (some (.int (I 105 x4.toNatClampNeg))) (some (.int q1)) x1 x2 x3 x4 ((I 105 x4.toNatClampNeg) + (1 : Int32)) I L r hf
              · refine bs_st 3 (x' := (118, [some (.ref 89), some (.int x1), some (.int x2), some (.int x3), some (.int x4), some (.int (I 105 x4.toNatClampNeg)), some (.int q1), some (.int ((I 105 x4.toNatClampNeg) + (1 : Int32)))], [.int x4, .int x1, .ref 89], hp kp nh rh tl rl I L)) rfl ?_
                obtain ⟨q2, hq2, hf⟩ := Option.bind_eq_some_iff.mp hf
                refine bs_call (o := pEN Ls xs (d + 1) 249 [.ref 89, .int x1, .int x4] (hp kp nh rh tl rl I L)) (w := some (.int q2)) (h' := hp kp nh rh tl rl I L) (pc := 121) (lo := [some (.ref 89), some (.int x1), some (.int x2), some (.int x3), some (.int x4), some (.int (I 105 x4.toNatClampNeg)), some (.int q1), some (.int ((I 105 x4.toNatClampNeg) + (1 : Int32)))]) (rest := []) rfl (t_249 Ls xs (d + 0) kp tl rl nh rh n x1 x4 I L q2 hq2) ?_
                refine bs_br (t := 128) (e := 124) (lo := [some (.ref 89), some (.int x1), some (.int x2), some (.int x3), some (.int x4), some (.int (I 105 x4.toNatClampNeg)), some (.int q1), some (.int ((I 105 x4.toNatClampNeg) + (1 : Int32)))]) (st := []) (h := hp kp nh rh tl rl I L) rfl hf (fun hc hf => ?_) (fun hc hf => ?_)
                · exact tc_253_4 Ls xs d kp tl rl nh rh n _ hK0 (some (.int (I 105 x4.toNatClampNeg))) (some (.int q1)) x1 x2 x3 x4 ((I 105 x4.toNatClampNeg) + (1 : Int32)) I L r hf
                · refine bs_st 2 (x' := (128, [some (.ref 89), some (.int x1), some (.int x2), some (.int x3), some (.int x4), some (.int (I 105 x4.toNatClampNeg)), some (.int q1), some (.int (I 105 x4.toNatClampNeg))], [], hp kp nh rh tl rl I L)) rfl ?_
                  exact tc_253_4 Ls xs d kp tl rl nh rh n _ hK0 (some (.int (I 105 x4.toNatClampNeg))) (some (.int q1)) x1 x2 x3 x4 (I 105 x4.toNatClampNeg) I L r hf
          · exact tc_253_1 Ls xs d kp tl rl nh rh n _ hK0 (some (.int ((I 105 x4.toNatClampNeg) + (1 : Int32)))) x1 x2 x3 x4 (I 105 x4.toNatClampNeg) q1 I L r hf
      · refine bs_st 1 (x' := (154, [some (.ref 89), some (.int x1), some (.int x2), some (.int x3), some (.int x4), some (.int (I 105 x4.toNatClampNeg)), w6, w7], [], hp kp nh rh tl rl I L)) rfl ?_
        exact tc_253_6 Ls xs d kp tl rl nh rh n _ hK0 (some (.int (I 105 x4.toNatClampNeg))) w6 w7 x1 x2 x3 x4 I L r hf
def f_253 (n : Nat) (x1 : Int32) (x2 : Int32) (x3 : Int32) (I : FI) (L : FL) : Option (FI × FL) :=
  c_253_0 n n x1 x2 x3 (0 : Int32) I L
set_option maxHeartbeats 1000000 in
set_option maxRecDepth 20000 in
theorem t_253 (Ls : Nat) (xs : Nat → Int32) (d : Nat) (kp : Option Nat) (tl : List (Nat × Nat)) (rl : List (List (Option Nat))) (nh : Option Nat) (rh : Option Nat) (n : Nat) (x1 : Int32) (x2 : Int32) (x3 : Int32) (I : FI) (L : FL) (r : FI × FL) (hf : f_253 n x1 x2 x3 I L = some r) : pEN Ls xs (d + 2) 253 [.ref 89, .int x1, .int x2, .int x3] (hp kp nh rh tl rl I L) = some (none, hp kp nh rh tl rl r.1 r.2) := by
  refine en_run (d := d + 1) (cd := cd_253) (f := (sf 12 rs_12 false 8 none Ls xs (d + 1))) rfl rfl (x := (0, [some (.ref 89), some (.int x1), some (.int x2), some (.int x3), none, none, none, none], [], hp kp nh rh tl rl I L)) rfl rfl (Nat.le_of_ble_eq_true rfl) ?_
  unfold f_253 at hf
  refine bs_st 2 (x' := (3, [some (.ref 89), some (.int x1), some (.int x2), some (.int x3), some (.int (0 : Int32)), none, none, none], [], hp kp nh rh tl rl I L)) rfl ?_
  exact tc_253_0 Ls xs d kp tl rl nh rh n n none none none x1 x2 x3 (0 : Int32) I L r hf
/-- LampRoundsModel.urgentNow() on (89,) -/
def c_254_1 (n : Nat) (I : FI) (L : FL) (K0 : Int32 → Int32 → Option (Int32)) (x1 : Int32) (x2 : Int32) : Option (Int32) :=
  K0 x1 (x2 + (1 : Int32))
set_option maxHeartbeats 1000000 in
set_option maxRecDepth 20000 in
theorem tc_254_1 (Ls : Nat) (xs : Nat → Int32) (d : Nat) (kp : Option Nat) (tl : List (Nat × Nat)) (rl : List (List (Option Nat))) (nh : Option Nat) (rh : Option Nat) (n : Nat) (I : FI) (L : FL) (K0 : Int32 → Int32 → Option (Int32)) (hK0 : ∀ (x1 : Int32) (x2 : Int32) (r : Int32), K0 x1 x2 = some r → Bs cd_254 (sf 12 rs_12 false 3 (some (.int)) Ls xs (d + 1)) (4, [some (.ref 89), some (.int x1), some (.int x2)], [], hp kp nh rh tl rl I L) (some (.int r), hp kp nh rh tl rl I L)) (x1 : Int32) (x2 : Int32) (r : Int32) (hf : c_254_1 n I L K0 x1 x2 = some r) : Bs cd_254 (sf 12 rs_12 false 3 (some (.int)) Ls xs (d + 1)) (59, [some (.ref 89), some (.int x1), some (.int x2)], [], hp kp nh rh tl rl I L) (some (.int r), hp kp nh rh tl rl I L) := by
  unfold c_254_1 at hf
  refine bs_st 2 (x' := (4, [some (.ref 89), some (.int x1), some (.int (x2 + (1 : Int32)))], [], hp kp nh rh tl rl I L)) rfl ?_
  exact hK0 x1 (x2 + (1 : Int32)) r hf
def c_254_2 (n : Nat) (I : FI) (L : FL) (K0 : Int32 → Int32 → Option (Int32)) (x2 : Int32) : Option (Int32) :=
  c_254_1 n I L K0 x2 x2
set_option maxHeartbeats 1000000 in
set_option maxRecDepth 20000 in
theorem tc_254_2 (Ls : Nat) (xs : Nat → Int32) (d : Nat) (kp : Option Nat) (tl : List (Nat × Nat)) (rl : List (List (Option Nat))) (nh : Option Nat) (rh : Option Nat) (n : Nat) (I : FI) (L : FL) (K0 : Int32 → Int32 → Option (Int32)) (hK0 : ∀ (x1 : Int32) (x2 : Int32) (r : Int32), K0 x1 x2 = some r → Bs cd_254 (sf 12 rs_12 false 3 (some (.int)) Ls xs (d + 1)) (4, [some (.ref 89), some (.int x1), some (.int x2)], [], hp kp nh rh tl rl I L) (some (.int r), hp kp nh rh tl rl I L)) (w1 : Option Value) (x2 : Int32) (r : Int32) (hf : c_254_2 n I L K0 x2 = some r) : Bs cd_254 (sf 12 rs_12 false 3 (some (.int)) Ls xs (d + 1)) (57, [some (.ref 89), w1, some (.int x2)], [], hp kp nh rh tl rl I L) (some (.int r), hp kp nh rh tl rl I L) := by
  unfold c_254_2 at hf
  refine bs_st 2 (x' := (59, [some (.ref 89), some (.int x2), some (.int x2)], [], hp kp nh rh tl rl I L)) rfl ?_
  exact tc_254_1 Ls xs d kp tl rl nh rh n I L _ hK0 x2 x2 r hf
def b_254_0 (n : Nat) (I : FI) (L : FL) (K0 : Int32 → Int32 → Option (Int32)) (x1 : Int32) (x2 : Int32) : Option (Int32) :=
  (f_237 I L).bind fun q0 =>
  if q0 ≤ x2 then
    some (x1)
  else
    if pin x2 4 = true then (if I 105 x2.toNatClampNeg = (99 : Int32) then
        c_254_1 n I L K0 x1 x2
      else
        if x1 = (-1 : Int32) then
          c_254_2 n I L K0 x2
        else
          if pin x2 4 = true then (if pin x2 4 = true then (if pin x1 4 = true then (if pin x1 4 = true then (if ((I 104 x1.toNatClampNeg) - (I 105 x1.toNatClampNeg)) ≤ ((I 104 x2.toNatClampNeg) - (I 105 x2.toNatClampNeg)) then
                    c_254_1 n I L K0 x1 x2
                  else
                    c_254_2 n I L K0 x2) else none) else none) else none) else none) else none
def c_254_0 (n : Nat) (I : FI) (L : FL) : Nat → Int32 → Int32 → Option (Int32)
  | 0, _, _ => none
  | m + 1, x1, x2 => b_254_0 n I L (c_254_0 n I L m) x1 x2
set_option maxHeartbeats 1000000 in
set_option maxRecDepth 20000 in
theorem tc_254_0 (Ls : Nat) (xs : Nat → Int32) (d : Nat) (kp : Option Nat) (tl : List (Nat × Nat)) (rl : List (List (Option Nat))) (nh : Option Nat) (rh : Option Nat) (n : Nat) (I : FI) (L : FL) : ∀ (m : Nat) (x1 : Int32) (x2 : Int32) (r : Int32), c_254_0 n I L m x1 x2 = some r → Bs cd_254 (sf 12 rs_12 false 3 (some (.int)) Ls xs (d + 1)) (4, [some (.ref 89), some (.int x1), some (.int x2)], [], hp kp nh rh tl rl I L) (some (.int r), hp kp nh rh tl rl I L)
  | 0, x1, x2, r, hf => by cases hf
  | m + 1, x1, x2, r, hf => by
    unfold c_254_0 b_254_0 at hf
    have hK0 := tc_254_0 Ls xs d kp tl rl nh rh n I L m
    refine bs_st 2 (x' := (6, [some (.ref 89), some (.int x1), some (.int x2)], [.ref 89, .int x2], hp kp nh rh tl rl I L)) rfl ?_
    obtain ⟨q0, hq0, hf⟩ := Option.bind_eq_some_iff.mp hf
    refine bs_call (o := pEN Ls xs (d + 1) 237 [.ref 89] (hp kp nh rh tl rl I L)) (w := some (.int q0)) (h' := hp kp nh rh tl rl I L) (pc := 9) (lo := [some (.ref 89), some (.int x1), some (.int x2)]) (rest := [.int x2]) rfl (t_237 Ls xs (d + 0) kp tl rl nh rh I L q0 hq0) ?_
    refine bs_br (t := 65) (e := 12) (lo := [some (.ref 89), some (.int x1), some (.int x2)]) (st := []) (h := hp kp nh rh tl rl I L) rfl hf (fun hc hf => ?_) (fun hc hf => ?_)
    · refine bs_st 1 (x' := (66, [some (.ref 89), some (.int x1), some (.int x2)], [.int x1], hp kp nh rh tl rl I L)) rfl ?_
      cases hf
      exact bs_ret rfl
    · refine bs_st 3 (x' := (17, [some (.ref 89), some (.int x1), some (.int x2)], [.int x2, .ref 105], hp kp nh rh tl rl I L)) rfl ?_
      refine bs_gd (x' := (18, [some (.ref 89), some (.int x1), some (.int x2)], [.int (I 105 x2.toNatClampNeg)], hp kp nh rh tl rl I L)) rfl hf (fun hc hf => ?_)
      refine bs_st 1 (x' := (20, [some (.ref 89), some (.int x1), some (.int x2)], [.int (99 : Int32), .int (I 105 x2.toNatClampNeg)], hp kp nh rh tl rl I L)) rfl ?_
      refine bs_br (t := 59) (e := 23) (lo := [some (.ref 89), some (.int x1), some (.int x2)]) (st := []) (h := hp kp nh rh tl rl I L) rfl hf (fun hc hf => ?_) (fun hc hf => ?_)
      · exact tc_254_1 Ls xs d kp tl rl nh rh n I L _ hK0 x1 x2 r hf
      · refine bs_st 2 (x' := (25, [some (.ref 89), some (.int x1), some (.int x2)], [.int (-1 : Int32), .int x1], hp kp nh rh tl rl I L)) rfl ?_
        refine bs_br (t := 57) (e := 28) (lo := [some (.ref 89), some (.int x1), some (.int x2)]) (st := []) (h := hp kp nh rh tl rl I L) rfl hf (fun hc hf => ?_) (fun hc hf => ?_)
        · exact tc_254_2 Ls xs d kp tl rl nh rh n I L _ hK0 (some (.int x1)) x2 r hf
        · refine bs_st 3 (x' := (33, [some (.ref 89), some (.int x1), some (.int x2)], [.int x2, .ref 104], hp kp nh rh tl rl I L)) rfl ?_
          refine bs_gd (x' := (34, [some (.ref 89), some (.int x1), some (.int x2)], [.int (I 104 x2.toNatClampNeg)], hp kp nh rh tl rl I L)) rfl hf (fun hc hf => ?_)
          refine bs_st 3 (x' := (39, [some (.ref 89), some (.int x1), some (.int x2)], [.int x2, .ref 105, .int (I 104 x2.toNatClampNeg)], hp kp nh rh tl rl I L)) rfl ?_
          refine bs_gd (x' := (40, [some (.ref 89), some (.int x1), some (.int x2)], [.int (I 105 x2.toNatClampNeg), .int (I 104 x2.toNatClampNeg)], hp kp nh rh tl rl I L)) rfl hf (fun hc hf => ?_)
          refine bs_st 4 (x' := (46, [some (.ref 89), some (.int x1), some (.int x2)], [.int x1, .ref 104, .int ((I 104 x2.toNatClampNeg) - (I 105 x2.toNatClampNeg))], hp kp nh rh tl rl I L)) rfl ?_
          refine bs_gd (x' := (47, [some (.ref 89), some (.int x1), some (.int x2)], [.int (I 104 x1.toNatClampNeg), .int ((I 104 x2.toNatClampNeg) - (I 105 x2.toNatClampNeg))], hp kp nh rh tl rl I L)) rfl hf (fun hc hf => ?_)
          refine bs_st 3 (x' := (52, [some (.ref 89), some (.int x1), some (.int x2)], [.int x1, .ref 105, .int (I 104 x1.toNatClampNeg), .int ((I 104 x2.toNatClampNeg) - (I 105 x2.toNatClampNeg))], hp kp nh rh tl rl I L)) rfl ?_
          refine bs_gd (x' := (53, [some (.ref 89), some (.int x1), some (.int x2)], [.int (I 105 x1.toNatClampNeg), .int (I 104 x1.toNatClampNeg), .int ((I 104 x2.toNatClampNeg) - (I 105 x2.toNatClampNeg))], hp kp nh rh tl rl I L)) rfl hf (fun hc hf => ?_)
          refine bs_st 1 (x' := (54, [some (.ref 89), some (.int x1), some (.int x2)], [.int ((I 104 x1.toNatClampNeg) - (I 105 x1.toNatClampNeg)), .int ((I 104 x2.toNatClampNeg) - (I 105 x2.toNatClampNeg))], hp kp nh rh tl rl I L)) rfl ?_
          refine bs_br (t := 59) (e := 57) (lo := [some (.ref 89), some (.int x1), some (.int x2)]) (st := []) (h := hp kp nh rh tl rl I L) rfl hf (fun hc hf => ?_) (fun hc hf => ?_)
          · exact tc_254_1 Ls xs d kp tl rl nh rh n I L _ hK0 x1 x2 r hf
          · exact tc_254_2 Ls xs d kp tl rl nh rh n I L _ hK0 (some (.int x1)) x2 r hf
def f_254 (n : Nat) (I : FI) (L : FL) : Option (Int32) :=
  c_254_0 n I L n (-1 : Int32) (0 : Int32)
set_option maxHeartbeats 1000000 in
set_option maxRecDepth 20000 in
theorem t_254 (Ls : Nat) (xs : Nat → Int32) (d : Nat) (kp : Option Nat) (tl : List (Nat × Nat)) (rl : List (List (Option Nat))) (nh : Option Nat) (rh : Option Nat) (n : Nat) (I : FI) (L : FL) (r : Int32) (hf : f_254 n I L = some r) : pEN Ls xs (d + 2) 254 [.ref 89] (hp kp nh rh tl rl I L) = some (some (.int r), hp kp nh rh tl rl I L) := by
  refine en_run (d := d + 1) (cd := cd_254) (f := (sf 12 rs_12 false 3 (some (.int)) Ls xs (d + 1))) rfl rfl (x := (0, [some (.ref 89), none, none], [], hp kp nh rh tl rl I L)) rfl rfl (Nat.le_of_ble_eq_true rfl) ?_
  unfold f_254 at hf
  refine bs_st 4 (x' := (4, [some (.ref 89), some (.int (-1 : Int32)), some (.int (0 : Int32))], [], hp kp nh rh tl rl I L)) rfl ?_
  exact tc_254_0 Ls xs d kp tl rl nh rh n I L n (-1 : Int32) (0 : Int32) r hf
/-- LampRoundsModel.goesTo(II) on (89,) -/
def c_255_1 (n : Nat) (K0 : Int32 → Int32 → Int32 → Int32 → FI → FL → Option (Int32 × FI × FL)) (x1 : Int32) (x2 : Int32) (x3 : Int32) (x4 : Int32) (I : FI) (L : FL) : Option (Int32 × FI × FL) :=
  K0 x1 x2 x3 (x4 + (1 : Int32)) I L
set_option maxHeartbeats 1000000 in
set_option maxRecDepth 20000 in
theorem tc_255_1 (Ls : Nat) (xs : Nat → Int32) (d : Nat) (kp : Option Nat) (tl : List (Nat × Nat)) (rl : List (List (Option Nat))) (nh : Option Nat) (rh : Option Nat) (n : Nat) (K0 : Int32 → Int32 → Int32 → Int32 → FI → FL → Option (Int32 × FI × FL)) (hK0 : ∀ (x1 : Int32) (x2 : Int32) (x3 : Int32) (x4 : Int32) (I : FI) (L : FL) (r : Int32 × FI × FL), K0 x1 x2 x3 x4 I L = some r → Bs cd_255 (sf 12 rs_12 false 5 (some (.int)) Ls xs (d + 2)) (33, [some (.ref 89), some (.int x1), some (.int x2), some (.int x3), some (.int x4)], [], hp kp nh rh tl rl I L) (some (.int r.1), hp kp nh rh tl rl r.2.1 r.2.2)) (x1 : Int32) (x2 : Int32) (x3 : Int32) (x4 : Int32) (I : FI) (L : FL) (r : Int32 × FI × FL) (hf : c_255_1 n K0 x1 x2 x3 x4 I L = some r) : Bs cd_255 (sf 12 rs_12 false 5 (some (.int)) Ls xs (d + 2)) (68, [some (.ref 89), some (.int x1), some (.int x2), some (.int x3), some (.int x4)], [], hp kp nh rh tl rl I L) (some (.int r.1), hp kp nh rh tl rl r.2.1 r.2.2) := by
  unfold c_255_1 at hf
  refine bs_st 2 (x' := (33, [some (.ref 89), some (.int x1), some (.int x2), some (.int x3), some (.int (x4 + (1 : Int32)))], [], hp kp nh rh tl rl I L)) rfl ?_
  exact hK0 x1 x2 x3 (x4 + (1 : Int32)) I L r hf
def b_255_0 (n : Nat) (K0 : Int32 → Int32 → Int32 → Int32 → FI → FL → Option (Int32 × FI × FL)) (x1 : Int32) (x2 : Int32) (x3 : Int32) (x4 : Int32) (I : FI) (L : FL) : Option (Int32 × FI × FL) :=
  (f_237 I L).bind fun q2 =>
  if q2 ≤ x4 then
    some (x1, I, L)
  else
    (f_249 n x1 x4 I L).bind fun q3 =>
    if q3 = 0 then
      c_255_1 n K0 x1 x2 x3 x4 I L
    else
      (f_251 n x2 x4 I L).bind fun q4 =>
      if ¬ q4.1 = (x3 - (1 : Int32)) then
        c_255_1 n K0 x1 x2 x3 x4 q4.2.1 q4.2.2
      else
        some (x4, q4.2.1, q4.2.2)
def c_255_0 (n : Nat) : Nat → Int32 → Int32 → Int32 → Int32 → FI → FL → Option (Int32 × FI × FL)
  | 0, _, _, _, _, _, _ => none
  | m + 1, x1, x2, x3, x4, I, L => b_255_0 n (c_255_0 n m) x1 x2 x3 x4 I L
set_option maxHeartbeats 1000000 in
set_option maxRecDepth 20000 in
theorem tc_255_0 (Ls : Nat) (xs : Nat → Int32) (d : Nat) (kp : Option Nat) (tl : List (Nat × Nat)) (rl : List (List (Option Nat))) (nh : Option Nat) (rh : Option Nat) (n : Nat) : ∀ (m : Nat) (x1 : Int32) (x2 : Int32) (x3 : Int32) (x4 : Int32) (I : FI) (L : FL) (r : Int32 × FI × FL), c_255_0 n m x1 x2 x3 x4 I L = some r → Bs cd_255 (sf 12 rs_12 false 5 (some (.int)) Ls xs (d + 2)) (33, [some (.ref 89), some (.int x1), some (.int x2), some (.int x3), some (.int x4)], [], hp kp nh rh tl rl I L) (some (.int r.1), hp kp nh rh tl rl r.2.1 r.2.2)
  | 0, x1, x2, x3, x4, I, L, r, hf => by cases hf
  | m + 1, x1, x2, x3, x4, I, L, r, hf => by
    unfold c_255_0 b_255_0 at hf
    have hK0 := tc_255_0 Ls xs d kp tl rl nh rh n m
    refine bs_st 2 (x' := (36, [some (.ref 89), some (.int x1), some (.int x2), some (.int x3), some (.int x4)], [.ref 89, .int x4], hp kp nh rh tl rl I L)) rfl ?_
    obtain ⟨q2, hq2, hf⟩ := Option.bind_eq_some_iff.mp hf
    refine bs_call (o := pEN Ls xs (d + 2) 237 [.ref 89] (hp kp nh rh tl rl I L)) (w := some (.int q2)) (h' := hp kp nh rh tl rl I L) (pc := 39) (lo := [some (.ref 89), some (.int x1), some (.int x2), some (.int x3), some (.int x4)]) (rest := [.int x4]) rfl (t_237 Ls xs (d + 1) kp tl rl nh rh I L q2 hq2) ?_
    refine bs_br (t := 74) (e := 42) (lo := [some (.ref 89), some (.int x1), some (.int x2), some (.int x3), some (.int x4)]) (st := []) (h := hp kp nh rh tl rl I L) rfl hf (fun hc hf => ?_) (fun hc hf => ?_)
    · refine bs_st 1 (x' := (75, [some (.ref 89), some (.int x1), some (.int x2), some (.int x3), some (.int x4)], [.int x1], hp kp nh rh tl rl I L)) rfl ?_
      cases hf
      exact bs_ret rfl
    · refine bs_st 3 (x' := (46, [some (.ref 89), some (.int x1), some (.int x2), some (.int x3), some (.int x4)], [.int x4, .int x1, .ref 89], hp kp nh rh tl rl I L)) rfl ?_
      obtain ⟨q3, hq3, hf⟩ := Option.bind_eq_some_iff.mp hf
      refine bs_call (o := pEN Ls xs (d + 2) 249 [.ref 89, .int x1, .int x4] (hp kp nh rh tl rl I L)) (w := some (.int q3)) (h' := hp kp nh rh tl rl I L) (pc := 49) (lo := [some (.ref 89), some (.int x1), some (.int x2), some (.int x3), some (.int x4)]) (rest := []) rfl (t_249 Ls xs (d + 1) kp tl rl nh rh n x1 x4 I L q3 hq3) ?_
      refine bs_br (t := 68) (e := 52) (lo := [some (.ref 89), some (.int x1), some (.int x2), some (.int x3), some (.int x4)]) (st := []) (h := hp kp nh rh tl rl I L) rfl hf (fun hc hf => ?_) (fun hc hf => ?_)
      · exact tc_255_1 Ls xs d kp tl rl nh rh n _ hK0 x1 x2 x3 x4 I L r hf
      · refine bs_st 3 (x' := (56, [some (.ref 89), some (.int x1), some (.int x2), some (.int x3), some (.int x4)], [.int x4, .int x2, .ref 89], hp kp nh rh tl rl I L)) rfl ?_
        obtain ⟨q4, hq4, hf⟩ := Option.bind_eq_some_iff.mp hf
        refine bs_call (o := pEN Ls xs (d + 2) 251 [.ref 89, .int x2, .int x4] (hp kp nh rh tl rl I L)) (w := some (.int q4.1)) (h' := hp kp nh rh tl rl q4.2.1 q4.2.2) (pc := 59) (lo := [some (.ref 89), some (.int x1), some (.int x2), some (.int x3), some (.int x4)]) (rest := []) rfl (t_251 Ls xs (d + 0) kp tl rl nh rh n x2 x4 I L q4 hq4) ?_
        refine bs_st 3 (x' := (62, [some (.ref 89), some (.int x1), some (.int x2), some (.int x3), some (.int x4)], [.int (x3 - (1 : Int32)), .int q4.1], hp kp nh rh tl rl q4.2.1 q4.2.2)) rfl ?_
        refine bs_br (t := 68) (e := 65) (lo := [some (.ref 89), some (.int x1), some (.int x2), some (.int x3), some (.int x4)]) (st := []) (h := hp kp nh rh tl rl q4.2.1 q4.2.2) rfl hf (fun hc hf => ?_) (fun hc hf => ?_)
        · exact tc_255_1 Ls xs d kp tl rl nh rh n _ hK0 x1 x2 x3 x4 q4.2.1 q4.2.2 r hf
        · refine bs_st 1 (x' := (67, [some (.ref 89), some (.int x1), some (.int x2), some (.int x3), some (.int x4)], [.int x4], hp kp nh rh tl rl q4.2.1 q4.2.2)) rfl ?_
          cases hf
          exact bs_ret rfl
def f_255 (n : Nat) (x1 : Int32) (x2 : Int32) (I : FI) (L : FL) : Option (Int32 × FI × FL) :=
  if x2 = (-1 : Int32) then
    some (x1, I, L)
  else
    if x2 = x1 then
      some (x1, I, L)
    else
      (f_251 n x2 x1 I L).bind fun q0 =>
      if q0.1 < (100000 : Int32) then
        (f_251 n x2 x1 q0.2.1 q0.2.2).bind fun q1 =>
        c_255_0 n n x1 x2 q1.1 (0 : Int32) q1.2.1 q1.2.2
      else
        some (x1, q0.2.1, q0.2.2)
set_option maxHeartbeats 1000000 in
set_option maxRecDepth 20000 in
theorem t_255 (Ls : Nat) (xs : Nat → Int32) (d : Nat) (kp : Option Nat) (tl : List (Nat × Nat)) (rl : List (List (Option Nat))) (nh : Option Nat) (rh : Option Nat) (n : Nat) (x1 : Int32) (x2 : Int32) (I : FI) (L : FL) (r : Int32 × FI × FL) (hf : f_255 n x1 x2 I L = some r) : pEN Ls xs (d + 3) 255 [.ref 89, .int x1, .int x2] (hp kp nh rh tl rl I L) = some (some (.int r.1), hp kp nh rh tl rl r.2.1 r.2.2) := by
  refine en_run (d := d + 2) (cd := cd_255) (f := (sf 12 rs_12 false 5 (some (.int)) Ls xs (d + 2))) rfl rfl (x := (0, [some (.ref 89), some (.int x1), some (.int x2), none, none], [], hp kp nh rh tl rl I L)) rfl rfl (Nat.le_of_ble_eq_true rfl) ?_
  unfold f_255 at hf
  refine bs_st 2 (x' := (2, [some (.ref 89), some (.int x1), some (.int x2), none, none], [.int (-1 : Int32), .int x2], hp kp nh rh tl rl I L)) rfl ?_
  refine bs_br (t := 21) (e := 5) (lo := [some (.ref 89), some (.int x1), some (.int x2), none, none]) (st := []) (h := hp kp nh rh tl rl I L) rfl hf (fun hc hf => ?_) (fun hc hf => ?_)
  · refine bs_st 1 (x' := (22, [some (.ref 89), some (.int x1), some (.int x2), none, none], [.int x1], hp kp nh rh tl rl I L)) rfl ?_
    cases hf
    exact bs_ret rfl
  · refine bs_st 2 (x' := (7, [some (.ref 89), some (.int x1), some (.int x2), none, none], [.int x1, .int x2], hp kp nh rh tl rl I L)) rfl ?_
    refine bs_br (t := 21) (e := 10) (lo := [some (.ref 89), some (.int x1), some (.int x2), none, none]) (st := []) (h := hp kp nh rh tl rl I L) rfl hf (fun hc hf => ?_) (fun hc hf => ?_)
    · refine bs_st 1 (x' := (22, [some (.ref 89), some (.int x1), some (.int x2), none, none], [.int x1], hp kp nh rh tl rl I L)) rfl ?_
      cases hf
      exact bs_ret rfl
    · refine bs_st 3 (x' := (13, [some (.ref 89), some (.int x1), some (.int x2), none, none], [.int x1, .int x2, .ref 89], hp kp nh rh tl rl I L)) rfl ?_
      obtain ⟨q0, hq0, hf⟩ := Option.bind_eq_some_iff.mp hf
      refine bs_call (o := pEN Ls xs (d + 2) 251 [.ref 89, .int x2, .int x1] (hp kp nh rh tl rl I L)) (w := some (.int q0.1)) (h' := hp kp nh rh tl rl q0.2.1 q0.2.2) (pc := 16) (lo := [some (.ref 89), some (.int x1), some (.int x2), none, none]) (rest := []) rfl (t_251 Ls xs (d + 0) kp tl rl nh rh n x2 x1 I L q0 hq0) ?_
      refine bs_st 1 (x' := (18, [some (.ref 89), some (.int x1), some (.int x2), none, none], [.int (100000 : Int32), .int q0.1], hp kp nh rh tl rl q0.2.1 q0.2.2)) rfl ?_
      refine bs_br (t := 23) (e := 21) (lo := [some (.ref 89), some (.int x1), some (.int x2), none, none]) (st := []) (h := hp kp nh rh tl rl q0.2.1 q0.2.2) rfl hf (fun hc hf => ?_) (fun hc hf => ?_)
      · refine bs_st 3 (x' := (26, [some (.ref 89), some (.int x1), some (.int x2), none, none], [.int x1, .int x2, .ref 89], hp kp nh rh tl rl q0.2.1 q0.2.2)) rfl ?_
        obtain ⟨q1, hq1, hf⟩ := Option.bind_eq_some_iff.mp hf
        refine bs_call (o := pEN Ls xs (d + 2) 251 [.ref 89, .int x2, .int x1] (hp kp nh rh tl rl q0.2.1 q0.2.2)) (w := some (.int q1.1)) (h' := hp kp nh rh tl rl q1.2.1 q1.2.2) (pc := 29) (lo := [some (.ref 89), some (.int x1), some (.int x2), none, none]) (rest := []) rfl (t_251 Ls xs (d + 0) kp tl rl nh rh n x2 x1 q0.2.1 q0.2.2 q1 hq1) ?_
        refine bs_st 3 (x' := (33, [some (.ref 89), some (.int x1), some (.int x2), some (.int q1.1), some (.int (0 : Int32))], [], hp kp nh rh tl rl q1.2.1 q1.2.2)) rfl ?_
        exact tc_255_0 Ls xs d kp tl rl nh rh n n x1 x2 q1.1 (0 : Int32) q1.2.1 q1.2.2 r hf
      · refine bs_st 1 (x' := (22, [some (.ref 89), some (.int x1), some (.int x2), none, none], [.int x1], hp kp nh rh tl rl q0.2.1 q0.2.2)) rfl ?_
        cases hf
        exact bs_ret rfl
/-- LampRoundsModel.begin() on (89,) -/
def f_256 (I : FI) (L : FL) : Option (Int32) :=
  (f_237 I L).bind fun q0 =>
  if ¬ q0 = 0 then
    if ¬ I 96 6 = 0 then
      if pin (I 89 27) 60 = true then some (I 100 ((I 89 27).toNatClampNeg)) else none
    else
      some ((0 : Int32))
  else
    some ((-1 : Int32))
set_option maxHeartbeats 1000000 in
set_option maxRecDepth 20000 in
theorem t_256 (Ls : Nat) (xs : Nat → Int32) (d : Nat) (kp : Option Nat) (tl : List (Nat × Nat)) (rl : List (List (Option Nat))) (nh : Option Nat) (rh : Option Nat) (I : FI) (L : FL) (r : Int32) (hf : f_256 I L = some r) : pEN Ls xs (d + 2) 256 [.ref 89] (hp kp nh rh tl rl I L) = some (some (.int r), hp kp nh rh tl rl I L) := by
  refine en_run (d := d + 1) (cd := cd_256) (f := (sf 12 rs_12 false 1 (some (.int)) Ls xs (d + 1))) rfl rfl (x := (0, [some (.ref 89)], [], hp kp nh rh tl rl I L)) rfl rfl (Nat.le_of_ble_eq_true rfl) ?_
  unfold f_256 at hf
  refine bs_st 1 (x' := (1, [some (.ref 89)], [.ref 89], hp kp nh rh tl rl I L)) rfl ?_
  obtain ⟨q0, hq0, hf⟩ := Option.bind_eq_some_iff.mp hf
  refine bs_call (o := pEN Ls xs (d + 1) 237 [.ref 89] (hp kp nh rh tl rl I L)) (w := some (.int q0)) (h' := hp kp nh rh tl rl I L) (pc := 4) (lo := [some (.ref 89)]) (rest := []) rfl (t_237 Ls xs (d + 0) kp tl rl nh rh I L q0 hq0) ?_
  refine bs_br (t := 11) (e := 7) (lo := [some (.ref 89)]) (st := []) (h := hp kp nh rh tl rl I L) rfl hf (fun hc hf => ?_) (fun hc hf => ?_)
  · refine bs_st 4 (x' := (18, [some (.ref 89)], [.int (I 96 6)], hp kp nh rh tl rl I L)) rfl ?_
    refine bs_br (t := 25) (e := 21) (lo := [some (.ref 89)]) (st := []) (h := hp kp nh rh tl rl I L) rfl hf (fun hc hf => ?_) (fun hc hf => ?_)
    · refine bs_st 4 (x' := (33, [some (.ref 89)], [.int (I 89 27), .ref 100], hp kp nh rh tl rl I L)) rfl ?_
      refine bs_gd (x' := (34, [some (.ref 89)], [.int (I 100 ((I 89 27).toNatClampNeg))], hp kp nh rh tl rl I L)) rfl hf (fun hc hf => ?_)
      cases hf
      exact bs_ret rfl
    · refine bs_st 2 (x' := (34, [some (.ref 89)], [.int (0 : Int32)], hp kp nh rh tl rl I L)) rfl ?_
      cases hf
      exact bs_ret rfl
  · refine bs_st 2 (x' := (34, [some (.ref 89)], [.int (-1 : Int32)], hp kp nh rh tl rl I L)) rfl ?_
    cases hf
    exact bs_ret rfl
/-- LampRoundsModel.nextOf(III) on (89,) -/
def f_257 (n : Nat) (x1 : Int32) (x2 : Int32) (x3 : Int32) (I : FI) (L : FL) : Option (Int32 × FI × FL) :=
  (f_237 I L).bind fun q0 =>
  if ¬ q0 = 0 then
    if ¬ x1 = (1 : Int32) then
      if ¬ I 96 6 = 0 then
        if I 96 6 = 0 then none else (if pin (((I 89 27) + x3) - ((I 89 27) + x3) / (I 96 6) * (I 96 6)) 60 = true then ((f_250 n x2 (I 100 ((((I 89 27) + x3) - ((I 89 27) + x3) / (I 96 6) * (I 96 6)).toNatClampNeg)) I L).bind fun q1 =>
            if q1 = 0 then
              some (x2, I, L)
            else
              some (I 100 ((((I 89 27) + x3) - ((I 89 27) + x3) / (I 96 6) * (I 96 6)).toNatClampNeg), I, L)) else none)
      else
        some (x2, I, L)
    else
      (f_254 n I L).bind fun q2 =>
      (f_255 n x2 q2 I L).bind fun q3 =>
      some (q3.1, q3.2.1, q3.2.2)
  else
    some ((-1 : Int32), I, L)
set_option maxHeartbeats 1000000 in
set_option maxRecDepth 20000 in
theorem t_257 (Ls : Nat) (xs : Nat → Int32) (d : Nat) (kp : Option Nat) (tl : List (Nat × Nat)) (rl : List (List (Option Nat))) (nh : Option Nat) (rh : Option Nat) (n : Nat) (x1 : Int32) (x2 : Int32) (x3 : Int32) (I : FI) (L : FL) (r : Int32 × FI × FL) (hf : f_257 n x1 x2 x3 I L = some r) : pEN Ls xs (d + 4) 257 [.ref 89, .int x1, .int x2, .int x3] (hp kp nh rh tl rl I L) = some (some (.int r.1), hp kp nh rh tl rl r.2.1 r.2.2) := by
  refine en_run (d := d + 3) (cd := cd_257) (f := (sf 12 rs_12 false 5 (some (.int)) Ls xs (d + 3))) rfl rfl (x := (0, [some (.ref 89), some (.int x1), some (.int x2), some (.int x3), none], [], hp kp nh rh tl rl I L)) rfl rfl (Nat.le_of_ble_eq_true rfl) ?_
  unfold f_257 at hf
  refine bs_st 1 (x' := (1, [some (.ref 89), some (.int x1), some (.int x2), some (.int x3), none], [.ref 89], hp kp nh rh tl rl I L)) rfl ?_
  obtain ⟨q0, hq0, hf⟩ := Option.bind_eq_some_iff.mp hf
  refine bs_call (o := pEN Ls xs (d + 3) 237 [.ref 89] (hp kp nh rh tl rl I L)) (w := some (.int q0)) (h' := hp kp nh rh tl rl I L) (pc := 4) (lo := [some (.ref 89), some (.int x1), some (.int x2), some (.int x3), none]) (rest := []) rfl (t_237 Ls xs (d + 2) kp tl rl nh rh I L q0 hq0) ?_
  refine bs_br (t := 9) (e := 7) (lo := [some (.ref 89), some (.int x1), some (.int x2), some (.int x3), none]) (st := []) (h := hp kp nh rh tl rl I L) rfl hf (fun hc hf => ?_) (fun hc hf => ?_)
  · refine bs_st 2 (x' := (11, [some (.ref 89), some (.int x1), some (.int x2), some (.int x3), none], [.int (1 : Int32), .int x1], hp kp nh rh tl rl I L)) rfl ?_
    refine bs_br (t := 24) (e := 14) (lo := [some (.ref 89), some (.int x1), some (.int x2), some (.int x3), none]) (st := []) (h := hp kp nh rh tl rl I L) rfl hf (fun hc hf => ?_) (fun hc hf => ?_)
    · refine bs_st 4 (x' := (31, [some (.ref 89), some (.int x1), some (.int x2), some (.int x3), none], [.int (I 96 6)], hp kp nh rh tl rl I L)) rfl ?_
      refine bs_br (t := 36) (e := 34) (lo := [some (.ref 89), some (.int x1), some (.int x2), some (.int x3), none]) (st := []) (h := hp kp nh rh tl rl I L) rfl hf (fun hc hf => ?_) (fun hc hf => ?_)
      · refine bs_st 10 (x' := (53, [some (.ref 89), some (.int x1), some (.int x2), some (.int x3), none], [.int (I 96 6), .int ((I 89 27) + x3), .ref 100], hp kp nh rh tl rl I L)) rfl ?_
        refine bs_dv (x' := (54, [some (.ref 89), some (.int x1), some (.int x2), some (.int x3), none], [.int (((I 89 27) + x3) - ((I 89 27) + x3) / (I 96 6) * (I 96 6)), .ref 100], hp kp nh rh tl rl I L)) rfl hf (fun hc hf => ?_)
        refine bs_gd (x' := (55, [some (.ref 89), some (.int x1), some (.int x2), some (.int x3), none], [.int (I 100 ((((I 89 27) + x3) - ((I 89 27) + x3) / (I 96 6) * (I 96 6)).toNatClampNeg))], hp kp nh rh tl rl I L)) rfl hf (fun hc hf => ?_)
        refine bs_st 4 (x' := (61, [some (.ref 89), some (.int x1), some (.int x2), some (.int x3), some (.int (I 100 ((((I 89 27) + x3) - ((I 89 27) + x3) / (I 96 6) * (I 96 6)).toNatClampNeg)))], [.int (I 100 ((((I 89 27) + x3) - ((I 89 27) + x3) / (I 96 6) * (I 96 6)).toNatClampNeg)), .int x2, .ref 89], hp kp nh rh tl rl I L)) rfl ?_
        obtain ⟨q1, hq1, hf⟩ := Option.bind_eq_some_iff.mp hf
        refine bs_call (o := pEN Ls xs (d + 3) 250 [.ref 89, .int x2, .int (I 100 ((((I 89 27) + x3) - ((I 89 27) + x3) / (I 96 6) * (I 96 6)).toNatClampNeg))] (hp kp nh rh tl rl I L)) (w := some (.int q1)) (h' := hp kp nh rh tl rl I L) (pc := 64) (lo := [some (.ref 89), some (.int x1), some (.int x2), some (.int x3), some (.int (I 100 ((((I 89 27) + x3) - ((I 89 27) + x3) / (I 96 6) * (I 96 6)).toNatClampNeg)))]) (rest := []) rfl (t_250 Ls xs (d + 1) kp tl rl nh rh n x2 (I 100 ((((I 89 27) + x3) - ((I 89 27) + x3) / (I 96 6) * (I 96 6)).toNatClampNeg)) I L q1 hq1) ?_
        refine bs_br (t := 72) (e := 67) (lo := [some (.ref 89), some (.int x1), some (.int x2), some (.int x3), some (.int (I 100 ((((I 89 27) + x3) - ((I 89 27) + x3) / (I 96 6) * (I 96 6)).toNatClampNeg)))]) (st := []) (h := hp kp nh rh tl rl I L) rfl hf (fun hc hf => ?_) (fun hc hf => ?_)
        · refine bs_st 1 (x' := (73, [some (.ref 89), some (.int x1), some (.int x2), some (.int x3), some (.int (I 100 ((((I 89 27) + x3) - ((I 89 27) + x3) / (I 96 6) * (I 96 6)).toNatClampNeg)))], [.int x2], hp kp nh rh tl rl I L)) rfl ?_
          cases hf
          exact bs_ret rfl
        · refine bs_st 2 (x' := (73, [some (.ref 89), some (.int x1), some (.int x2), some (.int x3), some (.int (I 100 ((((I 89 27) + x3) - ((I 89 27) + x3) / (I 96 6) * (I 96 6)).toNatClampNeg)))], [.int (I 100 ((((I 89 27) + x3) - ((I 89 27) + x3) / (I 96 6) * (I 96 6)).toNatClampNeg))], hp kp nh rh tl rl I L)) rfl ?_
          cases hf
          exact bs_ret rfl
      · refine bs_st 1 (x' := (35, [some (.ref 89), some (.int x1), some (.int x2), some (.int x3), none], [.int x2], hp kp nh rh tl rl I L)) rfl ?_
        cases hf
        exact bs_ret rfl
    · refine bs_st 3 (x' := (17, [some (.ref 89), some (.int x1), some (.int x2), some (.int x3), none], [.ref 89, .int x2, .ref 89], hp kp nh rh tl rl I L)) rfl ?_
      obtain ⟨q2, hq2, hf⟩ := Option.bind_eq_some_iff.mp hf
      refine bs_call (o := pEN Ls xs (d + 3) 254 [.ref 89] (hp kp nh rh tl rl I L)) (w := some (.int q2)) (h' := hp kp nh rh tl rl I L) (pc := 20) (lo := [some (.ref 89), some (.int x1), some (.int x2), some (.int x3), none]) (rest := [.int x2, .ref 89]) rfl (t_254 Ls xs (d + 1) kp tl rl nh rh n I L q2 hq2) ?_
      obtain ⟨q3, hq3, hf⟩ := Option.bind_eq_some_iff.mp hf
      refine bs_call (o := pEN Ls xs (d + 3) 255 [.ref 89, .int x2, .int q2] (hp kp nh rh tl rl I L)) (w := some (.int q3.1)) (h' := hp kp nh rh tl rl q3.2.1 q3.2.2) (pc := 23) (lo := [some (.ref 89), some (.int x1), some (.int x2), some (.int x3), none]) (rest := []) rfl (t_255 Ls xs (d + 0) kp tl rl nh rh n x2 q2 I L q3 hq3) ?_
      cases hf
      exact bs_ret rfl
  · refine bs_st 1 (x' := (8, [some (.ref 89), some (.int x1), some (.int x2), some (.int x3), none], [.int (-1 : Int32)], hp kp nh rh tl rl I L)) rfl ?_
    cases hf
    exact bs_ret rfl
/-- LampRoundsModel.isNodding(I) on (89,) -/
def c_258_1 (n : Nat) (I : FI) (L : FL) (K0 : Int32 → Int32 → Option (Int32)) (x1 : Int32) (x2 : Int32) : Option (Int32) :=
  K0 x1 (x2 + (1 : Int32))
set_option maxHeartbeats 1000000 in
set_option maxRecDepth 20000 in
theorem tc_258_1 (Ls : Nat) (xs : Nat → Int32) (d : Nat) (kp : Option Nat) (tl : List (Nat × Nat)) (rl : List (List (Option Nat))) (nh : Option Nat) (rh : Option Nat) (n : Nat) (I : FI) (L : FL) (K0 : Int32 → Int32 → Option (Int32)) (hK0 : ∀ (x1 : Int32) (x2 : Int32) (r : Int32), K0 x1 x2 = some r → Bs cd_258 (sf 12 rs_12 false 3 (some (.boolean)) Ls xs (d + 0)) (2, [some (.ref 89), some (.int x1), some (.int x2)], [], hp kp nh rh tl rl I L) (some (.int r), hp kp nh rh tl rl I L)) (x1 : Int32) (x2 : Int32) (r : Int32) (hf : c_258_1 n I L K0 x1 x2 = some r) : Bs cd_258 (sf 12 rs_12 false 3 (some (.boolean)) Ls xs (d + 0)) (41, [some (.ref 89), some (.int x1), some (.int x2)], [], hp kp nh rh tl rl I L) (some (.int r), hp kp nh rh tl rl I L) := by
  unfold c_258_1 at hf
  refine bs_st 2 (x' := (2, [some (.ref 89), some (.int x1), some (.int (x2 + (1 : Int32)))], [], hp kp nh rh tl rl I L)) rfl ?_
  exact hK0 x1 (x2 + (1 : Int32)) r hf
def b_258_0 (n : Nat) (I : FI) (L : FL) (K0 : Int32 → Int32 → Option (Int32)) (x1 : Int32) (x2 : Int32) : Option (Int32) :=
  if I 96 7 ≤ x2 then
    some ((0 : Int32))
  else
    if pin ((2 : Int32) * x2) 300 = true then (if ¬ I 101 (((2 : Int32) * x2).toNatClampNeg) = (-1 : Int32) then
        c_258_1 n I L K0 x1 x2
      else
        if pin (((2 : Int32) * x2) + (1 : Int32)) 300 = true then (if ¬ I 101 ((((2 : Int32) * x2) + (1 : Int32)).toNatClampNeg) = x1 then
            c_258_1 n I L K0 x1 x2
          else
            some ((1 : Int32))) else none) else none
def c_258_0 (n : Nat) (I : FI) (L : FL) : Nat → Int32 → Int32 → Option (Int32)
  | 0, _, _ => none
  | m + 1, x1, x2 => b_258_0 n I L (c_258_0 n I L m) x1 x2
set_option maxHeartbeats 1000000 in
set_option maxRecDepth 20000 in
theorem tc_258_0 (Ls : Nat) (xs : Nat → Int32) (d : Nat) (kp : Option Nat) (tl : List (Nat × Nat)) (rl : List (List (Option Nat))) (nh : Option Nat) (rh : Option Nat) (n : Nat) (I : FI) (L : FL) : ∀ (m : Nat) (x1 : Int32) (x2 : Int32) (r : Int32), c_258_0 n I L m x1 x2 = some r → Bs cd_258 (sf 12 rs_12 false 3 (some (.boolean)) Ls xs (d + 0)) (2, [some (.ref 89), some (.int x1), some (.int x2)], [], hp kp nh rh tl rl I L) (some (.int r), hp kp nh rh tl rl I L)
  | 0, x1, x2, r, hf => by cases hf
  | m + 1, x1, x2, r, hf => by
    unfold c_258_0 b_258_0 at hf
    have hK0 := tc_258_0 Ls xs d kp tl rl nh rh n I L m
    refine bs_st 5 (x' := (10, [some (.ref 89), some (.int x1), some (.int x2)], [.int (I 96 7), .int x2], hp kp nh rh tl rl I L)) rfl ?_
    refine bs_br (t := 47) (e := 13) (lo := [some (.ref 89), some (.int x1), some (.int x2)]) (st := []) (h := hp kp nh rh tl rl I L) rfl hf (fun hc hf => ?_) (fun hc hf => ?_)
    · refine bs_st 1 (x' := (48, [some (.ref 89), some (.int x1), some (.int x2)], [.int (0 : Int32)], hp kp nh rh tl rl I L)) rfl ?_
      cases hf
      exact bs_ret rfl
    · refine bs_st 5 (x' := (20, [some (.ref 89), some (.int x1), some (.int x2)], [.int ((2 : Int32) * x2), .ref 101], hp kp nh rh tl rl I L)) rfl ?_
      refine bs_gd (x' := (21, [some (.ref 89), some (.int x1), some (.int x2)], [.int (I 101 (((2 : Int32) * x2).toNatClampNeg))], hp kp nh rh tl rl I L)) rfl hf (fun hc hf => ?_)
      refine bs_st 1 (x' := (22, [some (.ref 89), some (.int x1), some (.int x2)], [.int (-1 : Int32), .int (I 101 (((2 : Int32) * x2).toNatClampNeg))], hp kp nh rh tl rl I L)) rfl ?_
      refine bs_br (t := 41) (e := 25) (lo := [some (.ref 89), some (.int x1), some (.int x2)]) (st := []) (h := hp kp nh rh tl rl I L) rfl hf (fun hc hf => ?_) (fun hc hf => ?_)
      · exact tc_258_1 Ls xs d kp tl rl nh rh n I L _ hK0 x1 x2 r hf
      · refine bs_st 7 (x' := (34, [some (.ref 89), some (.int x1), some (.int x2)], [.int (((2 : Int32) * x2) + (1 : Int32)), .ref 101], hp kp nh rh tl rl I L)) rfl ?_
        refine bs_gd (x' := (35, [some (.ref 89), some (.int x1), some (.int x2)], [.int (I 101 ((((2 : Int32) * x2) + (1 : Int32)).toNatClampNeg))], hp kp nh rh tl rl I L)) rfl hf (fun hc hf => ?_)
        refine bs_st 1 (x' := (36, [some (.ref 89), some (.int x1), some (.int x2)], [.int x1, .int (I 101 ((((2 : Int32) * x2) + (1 : Int32)).toNatClampNeg))], hp kp nh rh tl rl I L)) rfl ?_
        refine bs_br (t := 41) (e := 39) (lo := [some (.ref 89), some (.int x1), some (.int x2)]) (st := []) (h := hp kp nh rh tl rl I L) rfl hf (fun hc hf => ?_) (fun hc hf => ?_)
        · exact tc_258_1 Ls xs d kp tl rl nh rh n I L _ hK0 x1 x2 r hf
        · refine bs_st 1 (x' := (40, [some (.ref 89), some (.int x1), some (.int x2)], [.int (1 : Int32)], hp kp nh rh tl rl I L)) rfl ?_
          cases hf
          exact bs_ret rfl
def f_258 (n : Nat) (x1 : Int32) (I : FI) (L : FL) : Option (Int32) :=
  c_258_0 n I L n x1 (0 : Int32)
set_option maxHeartbeats 1000000 in
set_option maxRecDepth 20000 in
theorem t_258 (Ls : Nat) (xs : Nat → Int32) (d : Nat) (kp : Option Nat) (tl : List (Nat × Nat)) (rl : List (List (Option Nat))) (nh : Option Nat) (rh : Option Nat) (n : Nat) (x1 : Int32) (I : FI) (L : FL) (r : Int32) (hf : f_258 n x1 I L = some r) : pEN Ls xs (d + 1) 258 [.ref 89, .int x1] (hp kp nh rh tl rl I L) = some (some (.int r), hp kp nh rh tl rl I L) := by
  refine en_run (d := d + 0) (cd := cd_258) (f := (sf 12 rs_12 false 3 (some (.boolean)) Ls xs (d + 0))) rfl rfl (x := (0, [some (.ref 89), some (.int x1), none], [], hp kp nh rh tl rl I L)) rfl rfl (Nat.le_of_ble_eq_true rfl) ?_
  unfold f_258 at hf
  refine bs_st 2 (x' := (2, [some (.ref 89), some (.int x1), some (.int (0 : Int32))], [], hp kp nh rh tl rl I L)) rfl ?_
  exact tc_258_0 Ls xs d kp tl rl nh rh n I L n x1 (0 : Int32) r hf
/-- LampRoundsModel.visitsAt(I) on (89,) -/
def c_259_4 (n : Nat) (I : FI) (L : FL) (K3 : Int32 → Int32 → Int32 → Option (Int32)) (x1 : Int32) (x2 : Int32) (x3 : Int32) : Option (Int32) :=
  K3 x1 x2 (x3 + (1 : Int32))
set_option maxHeartbeats 1000000 in
set_option maxRecDepth 20000 in
theorem tc_259_4 (Ls : Nat) (xs : Nat → Int32) (d : Nat) (kp : Option Nat) (tl : List (Nat × Nat)) (rl : List (List (Option Nat))) (nh : Option Nat) (rh : Option Nat) (n : Nat) (I : FI) (L : FL) (K3 : Int32 → Int32 → Int32 → Option (Int32)) (hK3 : ∀ (x1 : Int32) (x2 : Int32) (x3 : Int32) (r : Int32), K3 x1 x2 x3 = some r → Bs cd_259 (sf 12 rs_12 false 4 (some (.int)) Ls xs (d + 1)) (85, [some (.ref 89), some (.int x1), some (.int x2), some (.int x3)], [], hp kp nh rh tl rl I L) (some (.int r), hp kp nh rh tl rl I L)) (x1 : Int32) (x2 : Int32) (x3 : Int32) (r : Int32) (hf : c_259_4 n I L K3 x1 x2 x3 = some r) : Bs cd_259 (sf 12 rs_12 false 4 (some (.int)) Ls xs (d + 1)) (135, [some (.ref 89), some (.int x1), some (.int x2), some (.int x3)], [], hp kp nh rh tl rl I L) (some (.int r), hp kp nh rh tl rl I L) := by
  unfold c_259_4 at hf
  refine bs_st 2 (x' := (85, [some (.ref 89), some (.int x1), some (.int x2), some (.int (x3 + (1 : Int32)))], [], hp kp nh rh tl rl I L)) rfl ?_
  exact hK3 x1 x2 (x3 + (1 : Int32)) r hf
def b_259_3 (n : Nat) (I : FI) (L : FL) (K3 : Int32 → Int32 → Int32 → Option (Int32)) (x1 : Int32) (x2 : Int32) (x3 : Int32) : Option (Int32) :=
  if I 96 7 ≤ x3 then
    some (x2)
  else
    if pin ((2 : Int32) * x3) 300 = true then (if I 101 (((2 : Int32) * x3).toNatClampNeg) = (-1 : Int32) then
        c_259_4 n I L K3 x1 x2 x3
      else
        if pin (((2 : Int32) * x3) + (1 : Int32)) 300 = true then (if ¬ I 101 ((((2 : Int32) * x3) + (1 : Int32)).toNatClampNeg) = x1 then
            c_259_4 n I L K3 x1 x2 x3
          else
            if pin ((2 : Int32) * x3) 300 = true then c_259_4 n I L K3 x1 (x2 ||| ((1 : Int32) <<< ((I 101 (((2 : Int32) * x3).toNatClampNeg)) &&& 31))) x3 else none) else none) else none
def c_259_3 (n : Nat) (I : FI) (L : FL) : Nat → Int32 → Int32 → Int32 → Option (Int32)
  | 0, _, _, _ => none
  | m + 1, x1, x2, x3 => b_259_3 n I L (c_259_3 n I L m) x1 x2 x3
set_option maxHeartbeats 1000000 in
set_option maxRecDepth 20000 in
theorem tc_259_3 (Ls : Nat) (xs : Nat → Int32) (d : Nat) (kp : Option Nat) (tl : List (Nat × Nat)) (rl : List (List (Option Nat))) (nh : Option Nat) (rh : Option Nat) (n : Nat) (I : FI) (L : FL) : ∀ (m : Nat) (x1 : Int32) (x2 : Int32) (x3 : Int32) (r : Int32), c_259_3 n I L m x1 x2 x3 = some r → Bs cd_259 (sf 12 rs_12 false 4 (some (.int)) Ls xs (d + 1)) (85, [some (.ref 89), some (.int x1), some (.int x2), some (.int x3)], [], hp kp nh rh tl rl I L) (some (.int r), hp kp nh rh tl rl I L)
  | 0, x1, x2, x3, r, hf => by cases hf
  | m + 1, x1, x2, x3, r, hf => by
    unfold c_259_3 b_259_3 at hf
    have hK3 := tc_259_3 Ls xs d kp tl rl nh rh n I L m
    refine bs_st 5 (x' := (93, [some (.ref 89), some (.int x1), some (.int x2), some (.int x3)], [.int (I 96 7), .int x3], hp kp nh rh tl rl I L)) rfl ?_
    refine bs_br (t := 141) (e := 96) (lo := [some (.ref 89), some (.int x1), some (.int x2), some (.int x3)]) (st := []) (h := hp kp nh rh tl rl I L) rfl hf (fun hc hf => ?_) (fun hc hf => ?_)
    · refine bs_st 1 (x' := (142, [some (.ref 89), some (.int x1), some (.int x2), some (.int x3)], [.int x2], hp kp nh rh tl rl I L)) rfl ?_
      cases hf
      exact bs_ret rfl
    · refine bs_st 5 (x' := (103, [some (.ref 89), some (.int x1), some (.int x2), some (.int x3)], [.int ((2 : Int32) * x3), .ref 101], hp kp nh rh tl rl I L)) rfl ?_
      refine bs_gd (x' := (104, [some (.ref 89), some (.int x1), some (.int x2), some (.int x3)], [.int (I 101 (((2 : Int32) * x3).toNatClampNeg))], hp kp nh rh tl rl I L)) rfl hf (fun hc hf => ?_)
      refine bs_st 1 (x' := (105, [some (.ref 89), some (.int x1), some (.int x2), some (.int x3)], [.int (-1 : Int32), .int (I 101 (((2 : Int32) * x3).toNatClampNeg))], hp kp nh rh tl rl I L)) rfl ?_
      refine bs_br (t := 135) (e := 108) (lo := [some (.ref 89), some (.int x1), some (.int x2), some (.int x3)]) (st := []) (h := hp kp nh rh tl rl I L) rfl hf (fun hc hf => ?_) (fun hc hf => ?_)
      · exact tc_259_4 Ls xs d kp tl rl nh rh n I L _ hK3 x1 x2 x3 r hf
      · refine bs_st 7 (x' := (117, [some (.ref 89), some (.int x1), some (.int x2), some (.int x3)], [.int (((2 : Int32) * x3) + (1 : Int32)), .ref 101], hp kp nh rh tl rl I L)) rfl ?_
        refine bs_gd (x' := (118, [some (.ref 89), some (.int x1), some (.int x2), some (.int x3)], [.int (I 101 ((((2 : Int32) * x3) + (1 : Int32)).toNatClampNeg))], hp kp nh rh tl rl I L)) rfl hf (fun hc hf => ?_)
        refine bs_st 1 (x' := (119, [some (.ref 89), some (.int x1), some (.int x2), some (.int x3)], [.int x1, .int (I 101 ((((2 : Int32) * x3) + (1 : Int32)).toNatClampNeg))], hp kp nh rh tl rl I L)) rfl ?_
        refine bs_br (t := 135) (e := 122) (lo := [some (.ref 89), some (.int x1), some (.int x2), some (.int x3)]) (st := []) (h := hp kp nh rh tl rl I L) rfl hf (fun hc hf => ?_) (fun hc hf => ?_)
        · exact tc_259_4 Ls xs d kp tl rl nh rh n I L _ hK3 x1 x2 x3 r hf
        · refine bs_st 7 (x' := (131, [some (.ref 89), some (.int x1), some (.int x2), some (.int x3)], [.int ((2 : Int32) * x3), .ref 101, .int (1 : Int32), .int x2], hp kp nh rh tl rl I L)) rfl ?_
          refine bs_gd (x' := (132, [some (.ref 89), some (.int x1), some (.int x2), some (.int x3)], [.int (I 101 (((2 : Int32) * x3).toNatClampNeg)), .int (1 : Int32), .int x2], hp kp nh rh tl rl I L)) rfl hf (fun hc hf => ?_)
          refine bs_st 3 (x' := (135, [some (.ref 89), some (.int x1), some (.int (x2 ||| ((1 : Int32) <<< ((I 101 (((2 : Int32) * x3).toNatClampNeg)) &&& 31)))), some (.int x3)], [], hp kp nh rh tl rl I L)) rfl ?_
          exact tc_259_4 Ls xs d kp tl rl nh rh n I L _ hK3 x1 (x2 ||| ((1 : Int32) <<< ((I 101 (((2 : Int32) * x3).toNatClampNeg)) &&& 31))) x3 r hf
def c_259_5 (n : Nat) (I : FI) (L : FL) (K2 : Int32 → Int32 → Int32 → Option (Int32)) (x1 : Int32) (x2 : Int32) (x3 : Int32) : Option (Int32) :=
  K2 x1 x2 (x3 + (1 : Int32))
set_option maxHeartbeats 1000000 in
set_option maxRecDepth 20000 in
theorem tc_259_5 (Ls : Nat) (xs : Nat → Int32) (d : Nat) (kp : Option Nat) (tl : List (Nat × Nat)) (rl : List (List (Option Nat))) (nh : Option Nat) (rh : Option Nat) (n : Nat) (I : FI) (L : FL) (K2 : Int32 → Int32 → Int32 → Option (Int32)) (hK2 : ∀ (x1 : Int32) (x2 : Int32) (x3 : Int32) (r : Int32), K2 x1 x2 x3 = some r → Bs cd_259 (sf 12 rs_12 false 4 (some (.int)) Ls xs (d + 1)) (29, [some (.ref 89), some (.int x1), some (.int x2), some (.int x3)], [], hp kp nh rh tl rl I L) (some (.int r), hp kp nh rh tl rl I L)) (x1 : Int32) (x2 : Int32) (x3 : Int32) (r : Int32) (hf : c_259_5 n I L K2 x1 x2 x3 = some r) : Bs cd_259 (sf 12 rs_12 false 4 (some (.int)) Ls xs (d + 1)) (77, [some (.ref 89), some (.int x1), some (.int x2), some (.int x3)], [], hp kp nh rh tl rl I L) (some (.int r), hp kp nh rh tl rl I L) := by
  unfold c_259_5 at hf
  refine bs_st 2 (x' := (29, [some (.ref 89), some (.int x1), some (.int x2), some (.int (x3 + (1 : Int32)))], [], hp kp nh rh tl rl I L)) rfl ?_
  exact hK2 x1 x2 (x3 + (1 : Int32)) r hf
def b_259_2 (n : Nat) (I : FI) (L : FL) (K2 : Int32 → Int32 → Int32 → Option (Int32)) (x1 : Int32) (x2 : Int32) (x3 : Int32) : Option (Int32) :=
  if I 96 5 ≤ x3 then
    c_259_3 n I L n x1 x2 (0 : Int32)
  else
    if pin (((2 : Int32) * x3) + (1 : Int32)) 50 = true then (if ¬ I 99 ((((2 : Int32) * x3) + (1 : Int32)).toNatClampNeg) = x1 then
        c_259_5 n I L K2 x1 x2 x3
      else
        (f_247 (I 89 26) x3 I L).bind fun q0 =>
        if ¬ q0 = 0 then
          c_259_5 n I L K2 x1 x2 x3
        else
          if pin ((2 : Int32) * x3) 50 = true then c_259_5 n I L K2 x1 (x2 ||| ((1 : Int32) <<< ((I 99 (((2 : Int32) * x3).toNatClampNeg)) &&& 31))) x3 else none) else none
def c_259_2 (n : Nat) (I : FI) (L : FL) : Nat → Int32 → Int32 → Int32 → Option (Int32)
  | 0, _, _, _ => none
  | m + 1, x1, x2, x3 => b_259_2 n I L (c_259_2 n I L m) x1 x2 x3
set_option maxHeartbeats 1000000 in
set_option maxRecDepth 20000 in
theorem tc_259_2 (Ls : Nat) (xs : Nat → Int32) (d : Nat) (kp : Option Nat) (tl : List (Nat × Nat)) (rl : List (List (Option Nat))) (nh : Option Nat) (rh : Option Nat) (n : Nat) (I : FI) (L : FL) : ∀ (m : Nat) (x1 : Int32) (x2 : Int32) (x3 : Int32) (r : Int32), c_259_2 n I L m x1 x2 x3 = some r → Bs cd_259 (sf 12 rs_12 false 4 (some (.int)) Ls xs (d + 1)) (29, [some (.ref 89), some (.int x1), some (.int x2), some (.int x3)], [], hp kp nh rh tl rl I L) (some (.int r), hp kp nh rh tl rl I L)
  | 0, x1, x2, x3, r, hf => by cases hf
  | m + 1, x1, x2, x3, r, hf => by
    unfold c_259_2 b_259_2 at hf
    have hK2 := tc_259_2 Ls xs d kp tl rl nh rh n I L m
    refine bs_st 5 (x' := (36, [some (.ref 89), some (.int x1), some (.int x2), some (.int x3)], [.int (I 96 5), .int x3], hp kp nh rh tl rl I L)) rfl ?_
    refine bs_br (t := 83) (e := 39) (lo := [some (.ref 89), some (.int x1), some (.int x2), some (.int x3)]) (st := []) (h := hp kp nh rh tl rl I L) rfl hf (fun hc hf => ?_) (fun hc hf => ?_)
    · refine bs_st 2 (x' := (85, [some (.ref 89), some (.int x1), some (.int x2), some (.int (0 : Int32))], [], hp kp nh rh tl rl I L)) rfl ?_
      exact tc_259_3 Ls xs d kp tl rl nh rh n I L n x1 x2 (0 : Int32) r hf
    · refine bs_st 7 (x' := (48, [some (.ref 89), some (.int x1), some (.int x2), some (.int x3)], [.int (((2 : Int32) * x3) + (1 : Int32)), .ref 99], hp kp nh rh tl rl I L)) rfl ?_
      refine bs_gd (x' := (49, [some (.ref 89), some (.int x1), some (.int x2), some (.int x3)], [.int (I 99 ((((2 : Int32) * x3) + (1 : Int32)).toNatClampNeg))], hp kp nh rh tl rl I L)) rfl hf (fun hc hf => ?_)
      refine bs_st 1 (x' := (50, [some (.ref 89), some (.int x1), some (.int x2), some (.int x3)], [.int x1, .int (I 99 ((((2 : Int32) * x3) + (1 : Int32)).toNatClampNeg))], hp kp nh rh tl rl I L)) rfl ?_
      refine bs_br (t := 77) (e := 53) (lo := [some (.ref 89), some (.int x1), some (.int x2), some (.int x3)]) (st := []) (h := hp kp nh rh tl rl I L) rfl hf (fun hc hf => ?_) (fun hc hf => ?_)
      · exact tc_259_5 Ls xs d kp tl rl nh rh n I L _ hK2 x1 x2 x3 r hf
      · refine bs_st 3 (x' := (58, [some (.ref 89), some (.int x1), some (.int x2), some (.int x3)], [.int x3, .int (I 89 26)], hp kp nh rh tl rl I L)) rfl ?_
        obtain ⟨q0, hq0, hf⟩ := Option.bind_eq_some_iff.mp hf
        refine bs_call (o := pEN Ls xs (d + 1) 247 [.int (I 89 26), .int x3] (hp kp nh rh tl rl I L)) (w := some (.int q0)) (h' := hp kp nh rh tl rl I L) (pc := 61) (lo := [some (.ref 89), some (.int x1), some (.int x2), some (.int x3)]) (rest := []) rfl (t_247 Ls xs (d + 0) kp tl rl nh rh (I 89 26) x3 I L q0 hq0) ?_
        refine bs_br (t := 77) (e := 64) (lo := [some (.ref 89), some (.int x1), some (.int x2), some (.int x3)]) (st := []) (h := hp kp nh rh tl rl I L) rfl hf (fun hc hf => ?_) (fun hc hf => ?_)
        · exact tc_259_5 Ls xs d kp tl rl nh rh n I L _ hK2 x1 x2 x3 r hf
        · refine bs_st 7 (x' := (73, [some (.ref 89), some (.int x1), some (.int x2), some (.int x3)], [.int ((2 : Int32) * x3), .ref 99, .int (1 : Int32), .int x2], hp kp nh rh tl rl I L)) rfl ?_
          refine bs_gd (x' := (74, [some (.ref 89), some (.int x1), some (.int x2), some (.int x3)], [.int (I 99 (((2 : Int32) * x3).toNatClampNeg)), .int (1 : Int32), .int x2], hp kp nh rh tl rl I L)) rfl hf (fun hc hf => ?_)
          refine bs_st 3 (x' := (77, [some (.ref 89), some (.int x1), some (.int (x2 ||| ((1 : Int32) <<< ((I 99 (((2 : Int32) * x3).toNatClampNeg)) &&& 31)))), some (.int x3)], [], hp kp nh rh tl rl I L)) rfl ?_
          exact tc_259_5 Ls xs d kp tl rl nh rh n I L _ hK2 x1 (x2 ||| ((1 : Int32) <<< ((I 99 (((2 : Int32) * x3).toNatClampNeg)) &&& 31))) x3 r hf
def c_259_1 (n : Nat) (I : FI) (L : FL) (x1 : Int32) (s0 : Int32) : Option (Int32) :=
  c_259_2 n I L n x1 s0 (0 : Int32)
set_option maxHeartbeats 1000000 in
set_option maxRecDepth 20000 in
theorem tc_259_1 (Ls : Nat) (xs : Nat → Int32) (d : Nat) (kp : Option Nat) (tl : List (Nat × Nat)) (rl : List (List (Option Nat))) (nh : Option Nat) (rh : Option Nat) (n : Nat) (I : FI) (L : FL) (w2 : Option Value) (w3 : Option Value) (x1 : Int32) (s0 : Int32) (r : Int32) (hf : c_259_1 n I L x1 s0 = some r) : Bs cd_259 (sf 12 rs_12 false 4 (some (.int)) Ls xs (d + 1)) (26, [some (.ref 89), some (.int x1), w2, w3], [.int s0], hp kp nh rh tl rl I L) (some (.int r), hp kp nh rh tl rl I L) := by
  unfold c_259_1 at hf
  refine bs_st 3 (x' := (29, [some (.ref 89), some (.int x1), some (.int s0), some (.int (0 : Int32))], [], hp kp nh rh tl rl I L)) rfl ?_
  exact tc_259_2 Ls xs d kp tl rl nh rh n I L n x1 s0 (0 : Int32) r hf
def c_259_0 (n : Nat) (I : FI) (L : FL) (x1 : Int32) : Option (Int32) :=
  c_259_1 n I L x1 (0 : Int32)
set_option maxHeartbeats 1000000 in
set_option maxRecDepth 20000 in
theorem tc_259_0 (Ls : Nat) (xs : Nat → Int32) (d : Nat) (kp : Option Nat) (tl : List (Nat × Nat)) (rl : List (List (Option Nat))) (nh : Option Nat) (rh : Option Nat) (n : Nat) (I : FI) (L : FL) (w2 : Option Value) (w3 : Option Value) (x1 : Int32) (r : Int32) (hf : c_259_0 n I L x1 = some r) : Bs cd_259 (sf 12 rs_12 false 4 (some (.int)) Ls xs (d + 1)) (25, [some (.ref 89), some (.int x1), w2, w3], [], hp kp nh rh tl rl I L) (some (.int r), hp kp nh rh tl rl I L) := by
  unfold c_259_0 at hf
  refine bs_st 1 (x' := (26, [some (.ref 89), some (.int x1), w2, w3], [.int (0 : Int32)], hp kp nh rh tl rl I L)) rfl ?_
  exact tc_259_1 Ls xs d kp tl rl nh rh n I L w2 w3 x1 (0 : Int32) r hf
def f_259 (n : Nat) (x1 : Int32) (I : FI) (L : FL) : Option (Int32) :=
  if I 89 28 = (-1 : Int32) then
    c_259_0 n I L x1
  else
    if ¬ I 89 29 = x1 then
      c_259_0 n I L x1
    else
      c_259_1 n I L x1 ((1 : Int32) <<< ((I 89 28) &&& 31))
set_option maxHeartbeats 1000000 in
set_option maxRecDepth 20000 in
theorem t_259 (Ls : Nat) (xs : Nat → Int32) (d : Nat) (kp : Option Nat) (tl : List (Nat × Nat)) (rl : List (List (Option Nat))) (nh : Option Nat) (rh : Option Nat) (n : Nat) (x1 : Int32) (I : FI) (L : FL) (r : Int32) (hf : f_259 n x1 I L = some r) : pEN Ls xs (d + 2) 259 [.ref 89, .int x1] (hp kp nh rh tl rl I L) = some (some (.int r), hp kp nh rh tl rl I L) := by
  refine en_run (d := d + 1) (cd := cd_259) (f := (sf 12 rs_12 false 4 (some (.int)) Ls xs (d + 1))) rfl rfl (x := (0, [some (.ref 89), some (.int x1), none, none], [], hp kp nh rh tl rl I L)) rfl rfl (Nat.le_of_ble_eq_true rfl) ?_
  unfold f_259 at hf
  refine bs_st 3 (x' := (5, [some (.ref 89), some (.int x1), none, none], [.int (-1 : Int32), .int (I 89 28)], hp kp nh rh tl rl I L)) rfl ?_
  refine bs_br (t := 25) (e := 8) (lo := [some (.ref 89), some (.int x1), none, none]) (st := []) (h := hp kp nh rh tl rl I L) rfl hf (fun hc hf => ?_) (fun hc hf => ?_)
  · exact tc_259_0 Ls xs d kp tl rl nh rh n I L none none x1 r hf
  · refine bs_st 3 (x' := (13, [some (.ref 89), some (.int x1), none, none], [.int x1, .int (I 89 29)], hp kp nh rh tl rl I L)) rfl ?_
    refine bs_br (t := 25) (e := 16) (lo := [some (.ref 89), some (.int x1), none, none]) (st := []) (h := hp kp nh rh tl rl I L) rfl hf (fun hc hf => ?_) (fun hc hf => ?_)
    · exact tc_259_0 Ls xs d kp tl rl nh rh n I L none none x1 r hf
    · refine bs_st 5 (x' := (26, [some (.ref 89), some (.int x1), none, none], [.int ((1 : Int32) <<< ((I 89 28) &&& 31))], hp kp nh rh tl rl I L)) rfl ?_
      exact tc_259_1 Ls xs d kp tl rl nh rh n I L none none x1 ((1 : Int32) <<< ((I 89 28) &&& 31)) r hf
