/-- Tape.add(I) on (1,) -/
def b_111_0 (n : Nat) (K0 : Int32 → Int32 → FI → FL → Option (FI × FL)) (x1 : Int32) (x2 : Int32) (I : FI) (L : FL) : Option (FI × FL) :=
  if x2 < 0 then
    some (I, L)
  else
    if (500 : Int32) ≤ I 1 1 then
      some (I, L)
    else
      if pin (I 1 1) 500 = true then K0 x1 (x2 + (-8 : Int32)) (u2 (u2 I 2 ((I 1 1).toNatClampNeg) (vp_nar .byte ((x1 >>> (x2 &&& 31)).toInt8.toInt32))) 1 1 ((I 1 1) + (1 : Int32))) L else none
def c_111_0 (n : Nat) : Nat → Int32 → Int32 → FI → FL → Option (FI × FL)
  | 0, _, _, _, _ => none
  | m + 1, x1, x2, I, L => b_111_0 n (c_111_0 n m) x1 x2 I L
set_option maxHeartbeats 1000000 in
theorem tc_111_0 (Ls : Nat) (xs : Nat → Int32) (d : Nat) (kp : Option Nat) (tl : List (Nat × Nat)) (rl : List (List (Option Nat))) (nh : Option Nat) (rh : Option Nat) (n : Nat) : ∀ (m : Nat) (x1 : Int32) (x2 : Int32) (I : FI) (L : FL) (r : FI × FL), c_111_0 n m x1 x2 I L = some r → Bs cd_111 (sf 10 rs_10 false 3 none Ls xs (d + 0)) (3, [some (.ref 1), some (.int x1), some (.int x2)], [], hp kp nh rh tl rl I L) (none, hp kp nh rh tl rl r.1 r.2)
  | 0, x1, x2, I, L, r, hf => by cases hf
  | m + 1, x1, x2, I, L, r, hf => by
    unfold c_111_0 b_111_0 at hf
    have hK0 := tc_111_0 Ls xs d kp tl rl nh rh n m
    refine bs_st 1 (x' := (4, [some (.ref 1), some (.int x1), some (.int x2)], [.int x2], hp kp nh rh tl rl I L)) rfl ?_
    refine bs_br (t := 46) (e := 7) (lo := [some (.ref 1), some (.int x1), some (.int x2)]) (st := []) (h := hp kp nh rh tl rl I L) rfl hf (fun hc hf => ?_) (fun hc hf => ?_)
    · cases hf
      exact bs_ret rfl
    · refine bs_st 3 (x' := (14, [some (.ref 1), some (.int x1), some (.int x2)], [.int (500 : Int32), .int (I 1 1)], hp kp nh rh tl rl I L)) rfl ?_
      refine bs_br (t := 46) (e := 17) (lo := [some (.ref 1), some (.int x1), some (.int x2)]) (st := []) (h := hp kp nh rh tl rl I L) rfl hf (fun hc hf => ?_) (fun hc hf => ?_)
      · cases hf
        exact bs_ret rfl
      · refine bs_st 8 (x' := (29, [some (.ref 1), some (.int x1), some (.int x2)], [.int ((x1 >>> (x2 &&& 31)).toInt8.toInt32), .int (I 1 1), .ref 2], hp kp nh rh tl rl I L)) rfl ?_
        refine bs_gd (x' := (30, [some (.ref 1), some (.int x1), some (.int x2)], [], hp kp nh rh tl rl (u2 I 2 ((I 1 1).toNatClampNeg) (vp_nar .byte ((x1 >>> (x2 &&& 31)).toInt8.toInt32))) L)) rfl hf (fun hc hf => ?_)
        refine bs_st 8 (x' := (3, [some (.ref 1), some (.int x1), some (.int (x2 + (-8 : Int32)))], [], hp kp nh rh tl rl (u2 (u2 I 2 ((I 1 1).toNatClampNeg) (vp_nar .byte ((x1 >>> (x2 &&& 31)).toInt8.toInt32))) 1 1 ((I 1 1) + (1 : Int32))) L)) rfl ?_
        exact hK0 x1 (x2 + (-8 : Int32)) (u2 (u2 I 2 ((I 1 1).toNatClampNeg) (vp_nar .byte ((x1 >>> (x2 &&& 31)).toInt8.toInt32))) 1 1 ((I 1 1) + (1 : Int32))) L r hf
def f_111 (n : Nat) (x1 : Int32) (I : FI) (L : FL) : Option (FI × FL) :=
  c_111_0 n n x1 (24 : Int32) I L
set_option maxHeartbeats 1000000 in
theorem t_111 (Ls : Nat) (xs : Nat → Int32) (d : Nat) (kp : Option Nat) (tl : List (Nat × Nat)) (rl : List (List (Option Nat))) (nh : Option Nat) (rh : Option Nat) (n : Nat) (x1 : Int32) (I : FI) (L : FL) (r : FI × FL) (hf : f_111 n x1 I L = some r) : pEN Ls xs (d + 1) 111 [.ref 1, .int x1] (hp kp nh rh tl rl I L) = some (none, hp kp nh rh tl rl r.1 r.2) := by
  refine en_run (d := d + 0) (cd := cd_111) (f := (sf 10 rs_10 false 3 none Ls xs (d + 0))) rfl rfl (x := (0, [some (.ref 1), some (.int x1), none], [], hp kp nh rh tl rl I L)) rfl rfl (Nat.le_of_ble_eq_true rfl) ?_
  unfold f_111 at hf
  refine bs_st 2 (x' := (3, [some (.ref 1), some (.int x1), some (.int (24 : Int32))], [], hp kp nh rh tl rl I L)) rfl ?_
  exact tc_111_0 Ls xs d kp tl rl nh rh n n x1 (24 : Int32) I L r hf
/-- LampRounds.feed(IIIII) on (0,) -/
def f_113 (n : Nat) (x1 : Int32) (x2 : Int32) (x3 : Int32) (x4 : Int32) (x5 : Int32) (I : FI) (L : FL) : Option (Int32 × FI × FL) :=
  if ((I 1 1) + (20 : Int32)) ≤ (500 : Int32) then
    (f_111 n x1 I L).bind fun q0 =>
    (f_111 n x2 q0.1 q0.2).bind fun q1 =>
    (f_111 n x3 q1.1 q1.2).bind fun q2 =>
    (f_111 n x4 q2.1 q2.2).bind fun q3 =>
    (f_111 n x5 q3.1 q3.2).bind fun q4 =>
    some (q4.1 1 1, q4.1, q4.2)
  else
    some ((-1 : Int32), I, L)
set_option maxHeartbeats 1000000 in
theorem t_113 (Ls : Nat) (xs : Nat → Int32) (d : Nat) (kp : Option Nat) (tl : List (Nat × Nat)) (rl : List (List (Option Nat))) (nh : Option Nat) (rh : Option Nat) (n : Nat) (x1 : Int32) (x2 : Int32) (x3 : Int32) (x4 : Int32) (x5 : Int32) (I : FI) (L : FL) (r : Int32 × FI × FL) (hf : f_113 n x1 x2 x3 x4 x5 I L = some r) : pEN Ls xs (d + 2) 113 [.ref 0, .int x1, .int x2, .int x3, .int x4, .int x5] (hp kp nh rh tl rl I L) = some (some (.int r.1), hp kp nh rh tl rl r.2.1 r.2.2) := by
  refine en_run (d := d + 1) (cd := cd_113) (f := (sf 11 rs_11 false 6 (some (.int)) Ls xs (d + 1))) rfl rfl (x := (0, [some (.ref 0), some (.int x1), some (.int x2), some (.int x3), some (.int x4), some (.int x5)], [], hp kp nh rh tl rl I L)) rfl rfl (Nat.le_of_ble_eq_true rfl) ?_
  unfold f_113 at hf
  refine bs_st 6 (x' := (13, [some (.ref 0), some (.int x1), some (.int x2), some (.int x3), some (.int x4), some (.int x5)], [.int (500 : Int32), .int ((I 1 1) + (20 : Int32))], hp kp nh rh tl rl I L)) rfl ?_
  refine bs_br (t := 18) (e := 16) (lo := [some (.ref 0), some (.int x1), some (.int x2), some (.int x3), some (.int x4), some (.int x5)]) (st := []) (h := hp kp nh rh tl rl I L) rfl hf (fun hc hf => ?_) (fun hc hf => ?_)
  · refine bs_st 3 (x' := (23, [some (.ref 0), some (.int x1), some (.int x2), some (.int x3), some (.int x4), some (.int x5)], [.int x1, .ref 1], hp kp nh rh tl rl I L)) rfl ?_
    obtain ⟨q0, hq0, hf⟩ := Option.bind_eq_some_iff.mp hf
    refine bs_call (o := pEN Ls xs (d + 1) 111 [.ref 1, .int x1] (hp kp nh rh tl rl I L)) (w := none) (h' := hp kp nh rh tl rl q0.1 q0.2) (pc := 26) (lo := [some (.ref 0), some (.int x1), some (.int x2), some (.int x3), some (.int x4), some (.int x5)]) (rest := []) rfl (t_111 Ls xs (d + 0) kp tl rl nh rh n x1 I L q0 hq0) ?_
    refine bs_st 3 (x' := (31, [some (.ref 0), some (.int x1), some (.int x2), some (.int x3), some (.int x4), some (.int x5)], [.int x2, .ref 1], hp kp nh rh tl rl q0.1 q0.2)) rfl ?_
    obtain ⟨q1, hq1, hf⟩ := Option.bind_eq_some_iff.mp hf
    refine bs_call (o := pEN Ls xs (d + 1) 111 [.ref 1, .int x2] (hp kp nh rh tl rl q0.1 q0.2)) (w := none) (h' := hp kp nh rh tl rl q1.1 q1.2) (pc := 34) (lo := [some (.ref 0), some (.int x1), some (.int x2), some (.int x3), some (.int x4), some (.int x5)]) (rest := []) rfl (t_111 Ls xs (d + 0) kp tl rl nh rh n x2 q0.1 q0.2 q1 hq1) ?_
    refine bs_st 3 (x' := (39, [some (.ref 0), some (.int x1), some (.int x2), some (.int x3), some (.int x4), some (.int x5)], [.int x3, .ref 1], hp kp nh rh tl rl q1.1 q1.2)) rfl ?_
    obtain ⟨q2, hq2, hf⟩ := Option.bind_eq_some_iff.mp hf
    refine bs_call (o := pEN Ls xs (d + 1) 111 [.ref 1, .int x3] (hp kp nh rh tl rl q1.1 q1.2)) (w := none) (h' := hp kp nh rh tl rl q2.1 q2.2) (pc := 42) (lo := [some (.ref 0), some (.int x1), some (.int x2), some (.int x3), some (.int x4), some (.int x5)]) (rest := []) rfl (t_111 Ls xs (d + 0) kp tl rl nh rh n x3 q1.1 q1.2 q2 hq2) ?_
    refine bs_st 3 (x' := (48, [some (.ref 0), some (.int x1), some (.int x2), some (.int x3), some (.int x4), some (.int x5)], [.int x4, .ref 1], hp kp nh rh tl rl q2.1 q2.2)) rfl ?_
    obtain ⟨q3, hq3, hf⟩ := Option.bind_eq_some_iff.mp hf
    refine bs_call (o := pEN Ls xs (d + 1) 111 [.ref 1, .int x4] (hp kp nh rh tl rl q2.1 q2.2)) (w := none) (h' := hp kp nh rh tl rl q3.1 q3.2) (pc := 51) (lo := [some (.ref 0), some (.int x1), some (.int x2), some (.int x3), some (.int x4), some (.int x5)]) (rest := []) rfl (t_111 Ls xs (d + 0) kp tl rl nh rh n x4 q2.1 q2.2 q3 hq3) ?_
    refine bs_st 3 (x' := (57, [some (.ref 0), some (.int x1), some (.int x2), some (.int x3), some (.int x4), some (.int x5)], [.int x5, .ref 1], hp kp nh rh tl rl q3.1 q3.2)) rfl ?_
    obtain ⟨q4, hq4, hf⟩ := Option.bind_eq_some_iff.mp hf
    refine bs_call (o := pEN Ls xs (d + 1) 111 [.ref 1, .int x5] (hp kp nh rh tl rl q3.1 q3.2)) (w := none) (h' := hp kp nh rh tl rl q4.1 q4.2) (pc := 60) (lo := [some (.ref 0), some (.int x1), some (.int x2), some (.int x3), some (.int x4), some (.int x5)]) (rest := []) rfl (t_111 Ls xs (d + 0) kp tl rl nh rh n x5 q3.1 q3.2 q4 hq4) ?_
    refine bs_st 3 (x' := (67, [some (.ref 0), some (.int x1), some (.int x2), some (.int x3), some (.int x4), some (.int x5)], [.int (q4.1 1 1)], hp kp nh rh tl rl q4.1 q4.2)) rfl ?_
    cases hf
    exact bs_ret rfl
  · refine bs_st 1 (x' := (17, [some (.ref 0), some (.int x1), some (.int x2), some (.int x3), some (.int x4), some (.int x5)], [.int (-1 : Int32)], hp kp nh rh tl rl I L)) rfl ?_
    cases hf
    exact bs_ret rfl
/-- LampRounds.end(I) on (0,) -/
def f_114 (x1 : Int32) (I : FI) (L : FL) : Option (Int32 × FI × FL) :=
  if x1 < 0 then
    some ((-1 : Int32), I, L)
  else
    if x1 ≤ I 1 1 then
      some (x1, (u2 I 1 1 x1), L)
    else
      some ((-1 : Int32), I, L)
set_option maxHeartbeats 1000000 in
theorem t_114 (Ls : Nat) (xs : Nat → Int32) (d : Nat) (kp : Option Nat) (tl : List (Nat × Nat)) (rl : List (List (Option Nat))) (nh : Option Nat) (rh : Option Nat) (x1 : Int32) (I : FI) (L : FL) (r : Int32 × FI × FL) (hf : f_114 x1 I L = some r) : pEN Ls xs (d + 1) 114 [.ref 0, .int x1] (hp kp nh rh tl rl I L) = some (some (.int r.1), hp kp nh rh tl rl r.2.1 r.2.2) := by
  refine en_run (d := d + 0) (cd := cd_114) (f := (sf 11 rs_11 false 2 (some (.int)) Ls xs (d + 0))) rfl rfl (x := (0, [some (.ref 0), some (.int x1)], [], hp kp nh rh tl rl I L)) rfl rfl (Nat.le_of_ble_eq_true rfl) ?_
  unfold f_114 at hf
  refine bs_st 1 (x' := (1, [some (.ref 0), some (.int x1)], [.int x1], hp kp nh rh tl rl I L)) rfl ?_
  refine bs_br (t := 15) (e := 4) (lo := [some (.ref 0), some (.int x1)]) (st := []) (h := hp kp nh rh tl rl I L) rfl hf (fun hc hf => ?_) (fun hc hf => ?_)
  · refine bs_st 1 (x' := (16, [some (.ref 0), some (.int x1)], [.int (-1 : Int32)], hp kp nh rh tl rl I L)) rfl ?_
    cases hf
    exact bs_ret rfl
  · refine bs_st 4 (x' := (12, [some (.ref 0), some (.int x1)], [.int (I 1 1), .int x1], hp kp nh rh tl rl I L)) rfl ?_
    refine bs_br (t := 17) (e := 15) (lo := [some (.ref 0), some (.int x1)]) (st := []) (h := hp kp nh rh tl rl I L) rfl hf (fun hc hf => ?_) (fun hc hf => ?_)
    · refine bs_st 5 (x' := (26, [some (.ref 0), some (.int x1)], [.int x1], hp kp nh rh tl rl (u2 I 1 1 x1) L)) rfl ?_
      cases hf
      exact bs_ret rfl
    · refine bs_st 1 (x' := (16, [some (.ref 0), some (.int x1)], [.int (-1 : Int32)], hp kp nh rh tl rl I L)) rfl ?_
      cases hf
      exact bs_ret rfl
/-- java/lang/Math.min(II) on () -/
def f_359 (x0 : Int32) (x1 : Int32) (I : FI) (L : FL) : Option (Int32) :=
  if x1 < x0 then
    some (x1)
  else
    some (x0)
set_option maxHeartbeats 1000000 in
theorem t_359 (Ls : Nat) (xs : Nat → Int32) (d : Nat) (kp : Option Nat) (tl : List (Nat × Nat)) (rl : List (List (Option Nat))) (nh : Option Nat) (rh : Option Nat) (x0 : Int32) (x1 : Int32) (I : FI) (L : FL) (r : Int32) (hf : f_359 x0 x1 I L = some r) : pEN Ls xs (d + 1) 359 [.int x0, .int x1] (hp kp nh rh tl rl I L) = some (some (.int r), hp kp nh rh tl rl I L) := by
  refine en_run (d := d + 0) (cd := cd_359) (f := (sf 14 rs_14 false 2 (some (.int)) Ls xs (d + 0))) rfl rfl (x := (0, [some (.int x0), some (.int x1)], [], hp kp nh rh tl rl I L)) rfl rfl (Nat.le_of_ble_eq_true rfl) ?_
  unfold f_359 at hf
  refine bs_st 2 (x' := (2, [some (.int x0), some (.int x1)], [.int x1, .int x0], hp kp nh rh tl rl I L)) rfl ?_
  refine bs_br (t := 9) (e := 5) (lo := [some (.int x0), some (.int x1)]) (st := []) (h := hp kp nh rh tl rl I L) rfl hf (fun hc hf => ?_) (fun hc hf => ?_)
  · refine bs_st 1 (x' := (10, [some (.int x0), some (.int x1)], [.int x1], hp kp nh rh tl rl I L)) rfl ?_
    cases hf
    exact bs_ret rfl
  · refine bs_st 2 (x' := (10, [some (.int x0), some (.int x1)], [.int x0], hp kp nh rh tl rl I L)) rfl ?_
    cases hf
    exact bs_ret rfl
/-- Reader.isDigit(I) on () -/
def f_92 (x0 : Int32) (I : FI) (L : FL) : Option (Int32) :=
  if x0 < (48 : Int32) then
    some ((0 : Int32))
  else
    if (57 : Int32) < x0 then
      some ((0 : Int32))
    else
      some ((1 : Int32))
set_option maxHeartbeats 1000000 in
theorem t_92 (Ls : Nat) (xs : Nat → Int32) (d : Nat) (kp : Option Nat) (tl : List (Nat × Nat)) (rl : List (List (Option Nat))) (nh : Option Nat) (rh : Option Nat) (x0 : Int32) (I : FI) (L : FL) (r : Int32) (hf : f_92 x0 I L = some r) : pEN Ls xs (d + 1) 92 [.int x0] (hp kp nh rh tl rl I L) = some (some (.int r), hp kp nh rh tl rl I L) := by
  refine en_run (d := d + 0) (cd := cd_92) (f := (sf 7 rs_7 false 1 (some (.boolean)) Ls xs (d + 0))) rfl rfl (x := (0, [some (.int x0)], [], hp kp nh rh tl rl I L)) rfl rfl (Nat.le_of_ble_eq_true rfl) ?_
  unfold f_92 at hf
  refine bs_st 2 (x' := (3, [some (.int x0)], [.int (48 : Int32), .int x0], hp kp nh rh tl rl I L)) rfl ?_
  refine bs_br (t := 16) (e := 6) (lo := [some (.int x0)]) (st := []) (h := hp kp nh rh tl rl I L) rfl hf (fun hc hf => ?_) (fun hc hf => ?_)
  · refine bs_st 1 (x' := (17, [some (.int x0)], [.int (0 : Int32)], hp kp nh rh tl rl I L)) rfl ?_
    cases hf
    exact bs_ret rfl
  · refine bs_st 2 (x' := (9, [some (.int x0)], [.int (57 : Int32), .int x0], hp kp nh rh tl rl I L)) rfl ?_
    refine bs_br (t := 16) (e := 12) (lo := [some (.int x0)]) (st := []) (h := hp kp nh rh tl rl I L) rfl hf (fun hc hf => ?_) (fun hc hf => ?_)
    · refine bs_st 1 (x' := (17, [some (.int x0)], [.int (0 : Int32)], hp kp nh rh tl rl I L)) rfl ?_
      cases hf
      exact bs_ret rfl
    · refine bs_st 2 (x' := (17, [some (.int x0)], [.int (1 : Int32)], hp kp nh rh tl rl I L)) rfl ?_
      cases hf
      exact bs_ret rfl
/-- Reader.isLetter(I) on () -/
def f_93 (x0 : Int32) (I : FI) (L : FL) : Option (Int32) :=
  if x0 < (97 : Int32) then
    some ((0 : Int32))
  else
    if (122 : Int32) < x0 then
      some ((0 : Int32))
    else
      some ((1 : Int32))
set_option maxHeartbeats 1000000 in
theorem t_93 (Ls : Nat) (xs : Nat → Int32) (d : Nat) (kp : Option Nat) (tl : List (Nat × Nat)) (rl : List (List (Option Nat))) (nh : Option Nat) (rh : Option Nat) (x0 : Int32) (I : FI) (L : FL) (r : Int32) (hf : f_93 x0 I L = some r) : pEN Ls xs (d + 1) 93 [.int x0] (hp kp nh rh tl rl I L) = some (some (.int r), hp kp nh rh tl rl I L) := by
  refine en_run (d := d + 0) (cd := cd_93) (f := (sf 7 rs_7 false 1 (some (.boolean)) Ls xs (d + 0))) rfl rfl (x := (0, [some (.int x0)], [], hp kp nh rh tl rl I L)) rfl rfl (Nat.le_of_ble_eq_true rfl) ?_
  unfold f_93 at hf
  refine bs_st 2 (x' := (3, [some (.int x0)], [.int (97 : Int32), .int x0], hp kp nh rh tl rl I L)) rfl ?_
  refine bs_br (t := 16) (e := 6) (lo := [some (.int x0)]) (st := []) (h := hp kp nh rh tl rl I L) rfl hf (fun hc hf => ?_) (fun hc hf => ?_)
  · refine bs_st 1 (x' := (17, [some (.int x0)], [.int (0 : Int32)], hp kp nh rh tl rl I L)) rfl ?_
    cases hf
    exact bs_ret rfl
  · refine bs_st 2 (x' := (9, [some (.int x0)], [.int (122 : Int32), .int x0], hp kp nh rh tl rl I L)) rfl ?_
    refine bs_br (t := 16) (e := 12) (lo := [some (.int x0)]) (st := []) (h := hp kp nh rh tl rl I L) rfl hf (fun hc hf => ?_) (fun hc hf => ?_)
    · refine bs_st 1 (x' := (17, [some (.int x0)], [.int (0 : Int32)], hp kp nh rh tl rl I L)) rfl ?_
      cases hf
      exact bs_ret rfl
    · refine bs_st 2 (x' := (17, [some (.int x0)], [.int (1 : Int32)], hp kp nh rh tl rl I L)) rfl ?_
      cases hf
      exact bs_ret rfl
/-- Reader.behindToken([BII) on (2,) -/
def c_87_2 (n : Nat) (I : FI) (L : FL) (K0 : Int32 → Int32 → Int32 → Int32 → Option (Int32)) (x2 : Int32) (x3 : Int32) (x4 : Int32) (x5 : Int32) : Option (Int32) :=
  K0 x2 x3 x4 (x5 + (1 : Int32))
set_option maxHeartbeats 1000000 in
theorem tc_87_2 (Ls : Nat) (xs : Nat → Int32) (d : Nat) (kp : Option Nat) (tl : List (Nat × Nat)) (rl : List (List (Option Nat))) (nh : Option Nat) (rh : Option Nat) (n : Nat) (I : FI) (L : FL) (K0 : Int32 → Int32 → Int32 → Int32 → Option (Int32)) (hK0 : ∀ (w1 : Option Value) (x2 : Int32) (x3 : Int32) (x4 : Int32) (x5 : Int32) (r : Int32), K0 x2 x3 x4 x5 = some r → Bs cd_87 (sf 7 rs_7 false 6 (some (.int)) Ls xs (d + 1)) (20, [some (.ref 2), w1, some (.int x2), some (.int x3), some (.int x4), some (.int x5)], [], hp kp nh rh tl rl I L) (some (.int r), hp kp nh rh tl rl I L)) (w1 : Option Value) (x2 : Int32) (x3 : Int32) (x4 : Int32) (x5 : Int32) (r : Int32) (hf : c_87_2 n I L K0 x2 x3 x4 x5 = some r) : Bs cd_87 (sf 7 rs_7 false 6 (some (.int)) Ls xs (d + 1)) (55, [some (.ref 2), w1, some (.int x2), some (.int x3), some (.int x4), some (.int x5)], [], hp kp nh rh tl rl I L) (some (.int r), hp kp nh rh tl rl I L) := by
  unfold c_87_2 at hf
  refine bs_st 2 (x' := (20, [some (.ref 2), w1, some (.int x2), some (.int x3), some (.int x4), some (.int (x5 + (1 : Int32)))], [], hp kp nh rh tl rl I L)) rfl ?_
  exact hK0 w1 x2 x3 x4 (x5 + (1 : Int32)) r hf
def c_87_1 (n : Nat) (I : FI) (L : FL) (K0 : Int32 → Int32 → Int32 → Int32 → Option (Int32)) (x2 : Int32) (x3 : Int32) (x4 : Int32) (x5 : Int32) : Option (Int32) :=
  if x4 = 0 then
    some (x5)
  else
    if pin x5 500 = true then ((f_93 (I 2 x5.toNatClampNeg) I L).bind fun q2 =>
      if q2 = 0 then
        some (x5)
      else
        c_87_2 n I L K0 x2 x3 x4 x5) else none
set_option maxHeartbeats 1000000 in
theorem tc_87_1 (Ls : Nat) (xs : Nat → Int32) (d : Nat) (kp : Option Nat) (tl : List (Nat × Nat)) (rl : List (List (Option Nat))) (nh : Option Nat) (rh : Option Nat) (n : Nat) (I : FI) (L : FL) (K0 : Int32 → Int32 → Int32 → Int32 → Option (Int32)) (hK0 : ∀ (w1 : Option Value) (x2 : Int32) (x3 : Int32) (x4 : Int32) (x5 : Int32) (r : Int32), K0 x2 x3 x4 x5 = some r → Bs cd_87 (sf 7 rs_7 false 6 (some (.int)) Ls xs (d + 1)) (20, [some (.ref 2), w1, some (.int x2), some (.int x3), some (.int x4), some (.int x5)], [], hp kp nh rh tl rl I L) (some (.int r), hp kp nh rh tl rl I L)) (w1 : Option Value) (x2 : Int32) (x3 : Int32) (x4 : Int32) (x5 : Int32) (r : Int32) (hf : c_87_1 n I L K0 x2 x3 x4 x5 = some r) : Bs cd_87 (sf 7 rs_7 false 6 (some (.int)) Ls xs (d + 1)) (40, [some (.ref 2), w1, some (.int x2), some (.int x3), some (.int x4), some (.int x5)], [], hp kp nh rh tl rl I L) (some (.int r), hp kp nh rh tl rl I L) := by
  unfold c_87_1 at hf
  refine bs_st 1 (x' := (42, [some (.ref 2), w1, some (.int x2), some (.int x3), some (.int x4), some (.int x5)], [.int x4], hp kp nh rh tl rl I L)) rfl ?_
  refine bs_br (t := 61) (e := 45) (lo := [some (.ref 2), w1, some (.int x2), some (.int x3), some (.int x4), some (.int x5)]) (st := []) (h := hp kp nh rh tl rl I L) rfl hf (fun hc hf => ?_) (fun hc hf => ?_)
  · refine bs_st 1 (x' := (63, [some (.ref 2), w1, some (.int x2), some (.int x3), some (.int x4), some (.int x5)], [.int x5], hp kp nh rh tl rl I L)) rfl ?_
    cases hf
    exact bs_ret rfl
  · refine bs_st 2 (x' := (48, [some (.ref 2), w1, some (.int x2), some (.int x3), some (.int x4), some (.int x5)], [.int x5, .ref 2], hp kp nh rh tl rl I L)) rfl ?_
    refine bs_gd (x' := (49, [some (.ref 2), w1, some (.int x2), some (.int x3), some (.int x4), some (.int x5)], [.int (I 2 x5.toNatClampNeg)], hp kp nh rh tl rl I L)) rfl hf (fun hc hf => ?_)
    obtain ⟨q2, hq2, hf⟩ := Option.bind_eq_some_iff.mp hf
    refine bs_call (o := pEN Ls xs (d + 1) 93 [.int (I 2 x5.toNatClampNeg)] (hp kp nh rh tl rl I L)) (w := some (.int q2)) (h' := hp kp nh rh tl rl I L) (pc := 52) (lo := [some (.ref 2), w1, some (.int x2), some (.int x3), some (.int x4), some (.int x5)]) (rest := []) rfl (t_93 Ls xs (d + 0) kp tl rl nh rh (I 2 x5.toNatClampNeg) I L q2 hq2) ?_
    refine bs_br (t := 61) (e := 55) (lo := [some (.ref 2), w1, some (.int x2), some (.int x3), some (.int x4), some (.int x5)]) (st := []) (h := hp kp nh rh tl rl I L) rfl hf (fun hc hf => ?_) (fun hc hf => ?_)
    · refine bs_st 1 (x' := (63, [some (.ref 2), w1, some (.int x2), some (.int x3), some (.int x4), some (.int x5)], [.int x5], hp kp nh rh tl rl I L)) rfl ?_
      cases hf
      exact bs_ret rfl
    · exact tc_87_2 Ls xs d kp tl rl nh rh n I L _ hK0 w1 x2 x3 x4 x5 r hf
def b_87_0 (n : Nat) (I : FI) (L : FL) (K0 : Int32 → Int32 → Int32 → Int32 → Option (Int32)) (x2 : Int32) (x3 : Int32) (x4 : Int32) (x5 : Int32) : Option (Int32) :=
  if x2 ≤ x5 then
    some (x5)
  else
    if x3 = 0 then
      c_87_1 n I L K0 x2 x3 x4 x5
    else
      if pin x5 500 = true then ((f_92 (I 2 x5.toNatClampNeg) I L).bind fun q3 =>
        if ¬ q3 = 0 then
          c_87_2 n I L K0 x2 x3 x4 x5
        else
          c_87_1 n I L K0 x2 x3 x4 x5) else none
def c_87_0 (n : Nat) (I : FI) (L : FL) : Nat → Int32 → Int32 → Int32 → Int32 → Option (Int32)
  | 0, _, _, _, _ => none
  | m + 1, x2, x3, x4, x5 => b_87_0 n I L (c_87_0 n I L m) x2 x3 x4 x5
set_option maxHeartbeats 1000000 in
theorem tc_87_0 (Ls : Nat) (xs : Nat → Int32) (d : Nat) (kp : Option Nat) (tl : List (Nat × Nat)) (rl : List (List (Option Nat))) (nh : Option Nat) (rh : Option Nat) (n : Nat) (I : FI) (L : FL) : ∀ (m : Nat) (w1 : Option Value) (x2 : Int32) (x3 : Int32) (x4 : Int32) (x5 : Int32) (r : Int32), c_87_0 n I L m x2 x3 x4 x5 = some r → Bs cd_87 (sf 7 rs_7 false 6 (some (.int)) Ls xs (d + 1)) (20, [some (.ref 2), w1, some (.int x2), some (.int x3), some (.int x4), some (.int x5)], [], hp kp nh rh tl rl I L) (some (.int r), hp kp nh rh tl rl I L)
  | 0, w1, x2, x3, x4, x5, r, hf => by cases hf
  | m + 1, w1, x2, x3, x4, x5, r, hf => by
    unfold c_87_0 b_87_0 at hf
    have hK0 := tc_87_0 Ls xs d kp tl rl nh rh n I L m
    refine bs_st 2 (x' := (23, [some (.ref 2), w1, some (.int x2), some (.int x3), some (.int x4), some (.int x5)], [.int x2, .int x5], hp kp nh rh tl rl I L)) rfl ?_
    refine bs_br (t := 61) (e := 26) (lo := [some (.ref 2), w1, some (.int x2), some (.int x3), some (.int x4), some (.int x5)]) (st := []) (h := hp kp nh rh tl rl I L) rfl hf (fun hc hf => ?_) (fun hc hf => ?_)
    · refine bs_st 1 (x' := (63, [some (.ref 2), w1, some (.int x2), some (.int x3), some (.int x4), some (.int x5)], [.int x5], hp kp nh rh tl rl I L)) rfl ?_
      cases hf
      exact bs_ret rfl
    · refine bs_st 1 (x' := (27, [some (.ref 2), w1, some (.int x2), some (.int x3), some (.int x4), some (.int x5)], [.int x3], hp kp nh rh tl rl I L)) rfl ?_
      refine bs_br (t := 40) (e := 30) (lo := [some (.ref 2), w1, some (.int x2), some (.int x3), some (.int x4), some (.int x5)]) (st := []) (h := hp kp nh rh tl rl I L) rfl hf (fun hc hf => ?_) (fun hc hf => ?_)
      · exact tc_87_1 Ls xs d kp tl rl nh rh n I L _ hK0 w1 x2 x3 x4 x5 r hf
      · refine bs_st 2 (x' := (33, [some (.ref 2), w1, some (.int x2), some (.int x3), some (.int x4), some (.int x5)], [.int x5, .ref 2], hp kp nh rh tl rl I L)) rfl ?_
        refine bs_gd (x' := (34, [some (.ref 2), w1, some (.int x2), some (.int x3), some (.int x4), some (.int x5)], [.int (I 2 x5.toNatClampNeg)], hp kp nh rh tl rl I L)) rfl hf (fun hc hf => ?_)
        obtain ⟨q3, hq3, hf⟩ := Option.bind_eq_some_iff.mp hf
        refine bs_call (o := pEN Ls xs (d + 1) 92 [.int (I 2 x5.toNatClampNeg)] (hp kp nh rh tl rl I L)) (w := some (.int q3)) (h' := hp kp nh rh tl rl I L) (pc := 37) (lo := [some (.ref 2), w1, some (.int x2), some (.int x3), some (.int x4), some (.int x5)]) (rest := []) rfl (t_92 Ls xs (d + 0) kp tl rl nh rh (I 2 x5.toNatClampNeg) I L q3 hq3) ?_
        refine bs_br (t := 55) (e := 40) (lo := [some (.ref 2), w1, some (.int x2), some (.int x3), some (.int x4), some (.int x5)]) (st := []) (h := hp kp nh rh tl rl I L) rfl hf (fun hc hf => ?_) (fun hc hf => ?_)
        · exact tc_87_2 Ls xs d kp tl rl nh rh n I L _ hK0 w1 x2 x3 x4 x5 r hf
        · exact tc_87_1 Ls xs d kp tl rl nh rh n I L _ hK0 w1 x2 x3 x4 x5 r hf
def f_87 (n : Nat) (x1 : Int32) (x2 : Int32) (I : FI) (L : FL) : Option (Int32) :=
  if pin x1 500 = true then ((f_92 (I 2 x1.toNatClampNeg) I L).bind fun q0 =>
    if pin x1 500 = true then ((f_93 (I 2 x1.toNatClampNeg) I L).bind fun q1 =>
      c_87_0 n I L n x2 q0 q1 (x1 + (1 : Int32))) else none) else none
set_option maxHeartbeats 1000000 in
theorem t_87 (Ls : Nat) (xs : Nat → Int32) (d : Nat) (kp : Option Nat) (tl : List (Nat × Nat)) (rl : List (List (Option Nat))) (nh : Option Nat) (rh : Option Nat) (n : Nat) (x1 : Int32) (x2 : Int32) (I : FI) (L : FL) (r : Int32) (hf : f_87 n x1 x2 I L = some r) : pEN Ls xs (d + 2) 87 [.ref 2, .int x1, .int x2] (hp kp nh rh tl rl I L) = some (some (.int r), hp kp nh rh tl rl I L) := by
  refine en_run (d := d + 1) (cd := cd_87) (f := (sf 7 rs_7 false 6 (some (.int)) Ls xs (d + 1))) rfl rfl (x := (0, [some (.ref 2), some (.int x1), some (.int x2), none, none, none], [], hp kp nh rh tl rl I L)) rfl rfl (Nat.le_of_ble_eq_true rfl) ?_
  unfold f_87 at hf
  refine bs_st 2 (x' := (2, [some (.ref 2), some (.int x1), some (.int x2), none, none, none], [.int x1, .ref 2], hp kp nh rh tl rl I L)) rfl ?_
  refine bs_gd (x' := (3, [some (.ref 2), some (.int x1), some (.int x2), none, none, none], [.int (I 2 x1.toNatClampNeg)], hp kp nh rh tl rl I L)) rfl hf (fun hc hf => ?_)
  obtain ⟨q0, hq0, hf⟩ := Option.bind_eq_some_iff.mp hf
  refine bs_call (o := pEN Ls xs (d + 1) 92 [.int (I 2 x1.toNatClampNeg)] (hp kp nh rh tl rl I L)) (w := some (.int q0)) (h' := hp kp nh rh tl rl I L) (pc := 6) (lo := [some (.ref 2), some (.int x1), some (.int x2), none, none, none]) (rest := []) rfl (t_92 Ls xs (d + 0) kp tl rl nh rh (I 2 x1.toNatClampNeg) I L q0 hq0) ?_
  refine bs_st 3 (x' := (9, [some (.ref 2), some (.int x1), some (.int x2), some (.int q0), none, none], [.int x1, .ref 2], hp kp nh rh tl rl I L)) rfl ?_
  refine bs_gd (x' := (10, [some (.ref 2), some (.int x1), some (.int x2), some (.int q0), none, none], [.int (I 2 x1.toNatClampNeg)], hp kp nh rh tl rl I L)) rfl hf (fun hc hf => ?_)
  obtain ⟨q1, hq1, hf⟩ := Option.bind_eq_some_iff.mp hf
  refine bs_call (o := pEN Ls xs (d + 1) 93 [.int (I 2 x1.toNatClampNeg)] (hp kp nh rh tl rl I L)) (w := some (.int q1)) (h' := hp kp nh rh tl rl I L) (pc := 13) (lo := [some (.ref 2), some (.int x1), some (.int x2), some (.int q0), none, none]) (rest := []) rfl (t_93 Ls xs (d + 0) kp tl rl nh rh (I 2 x1.toNatClampNeg) I L q1 hq1) ?_
  refine bs_st 5 (x' := (20, [some (.ref 2), some (.int x1), some (.int x2), some (.int q0), some (.int q1), some (.int (x1 + (1 : Int32)))], [], hp kp nh rh tl rl I L)) rfl ?_
  exact tc_87_0 Ls xs d kp tl rl nh rh n I L n (some (.int x1)) x2 q0 q1 (x1 + (1 : Int32)) r hf
/-- Reader.wordOf(I) on () -/
def f_90 (x0 : Int32) (I : FI) (L : FL) : Option (Nat) :=
  if x0.toInt < 4 ∨ 14 < x0.toInt then some (12) else if x0 = (4 : Int32) then some (1) else if x0 = (5 : Int32) then some (2) else if x0 = (6 : Int32) then some (3) else if x0 = (7 : Int32) then some (4) else if x0 = (8 : Int32) then some (5) else if x0 = (9 : Int32) then some (6) else if x0 = (10 : Int32) then some (7) else if x0 = (11 : Int32) then some (8) else if x0 = (12 : Int32) then some (9) else if x0 = (13 : Int32) then some (10) else if x0 = (14 : Int32) then some (11) else none
set_option maxHeartbeats 1000000 in
theorem t_90 (Ls : Nat) (xs : Nat → Int32) (d : Nat) (kp : Option Nat) (tl : List (Nat × Nat)) (rl : List (List (Option Nat))) (nh : Option Nat) (rh : Option Nat) (x0 : Int32) (I : FI) (L : FL) (r : Nat) (hf : f_90 x0 I L = some r) : pEN Ls xs (d + 1) 90 [.int x0] (hp kp nh rh tl rl I L) = some (some (.retAddr r), hp kp nh rh tl rl I L) := by
  refine en_run (d := d + 0) (cd := cd_90) (f := (sf 7 rs_7 false 1 (some (.object "java/lang/String")) Ls xs (d + 0))) rfl rfl (x := (0, [some (.int x0)], [], hp kp nh rh tl rl I L)) rfl rfl (Nat.le_of_ble_eq_true rfl) ?_
  unfold f_90 at hf
  refine bs_st 1 (x' := (1, [some (.int x0)], [.int x0], hp kp nh rh tl rl I L)) rfl ?_
  refine bs_sw (x' := (93, [some (.int x0)], [], hp kp nh rh tl rl I L)) rfl hf (fun hc hf => ?_) (fun hc hf => ?_)
  · refine bs_st 1 (x' := (95, [some (.int x0)], [.retAddr 12], hp kp nh rh tl rl I L)) rfl ?_
    cases hf
    exact bs_ret rfl
  refine bs_cs hf (fun hc hf => ?_) (fun hc0 hf => ?_)
  · refine bs_val hc (x' := (60, [some (.int x0)], [], hp kp nh rh tl rl I L)) rfl ?_
    refine bs_st 1 (x' := (62, [some (.int x0)], [.retAddr 1], hp kp nh rh tl rl I L)) rfl ?_
    cases hf
    exact bs_ret rfl
  refine bs_cs hf (fun hc hf => ?_) (fun hc1 hf => ?_)
  · refine bs_val hc (x' := (63, [some (.int x0)], [], hp kp nh rh tl rl I L)) rfl ?_
    refine bs_st 1 (x' := (65, [some (.int x0)], [.retAddr 2], hp kp nh rh tl rl I L)) rfl ?_
    cases hf
    exact bs_ret rfl
  refine bs_cs hf (fun hc hf => ?_) (fun hc2 hf => ?_)
  · refine bs_val hc (x' := (66, [some (.int x0)], [], hp kp nh rh tl rl I L)) rfl ?_
    refine bs_st 1 (x' := (68, [some (.int x0)], [.retAddr 3], hp kp nh rh tl rl I L)) rfl ?_
    cases hf
    exact bs_ret rfl
  refine bs_cs hf (fun hc hf => ?_) (fun hc3 hf => ?_)
  · refine bs_val hc (x' := (69, [some (.int x0)], [], hp kp nh rh tl rl I L)) rfl ?_
    refine bs_st 1 (x' := (71, [some (.int x0)], [.retAddr 4], hp kp nh rh tl rl I L)) rfl ?_
    cases hf
    exact bs_ret rfl
  refine bs_cs hf (fun hc hf => ?_) (fun hc4 hf => ?_)
  · refine bs_val hc (x' := (72, [some (.int x0)], [], hp kp nh rh tl rl I L)) rfl ?_
    refine bs_st 1 (x' := (74, [some (.int x0)], [.retAddr 5], hp kp nh rh tl rl I L)) rfl ?_
    cases hf
    exact bs_ret rfl
  refine bs_cs hf (fun hc hf => ?_) (fun hc5 hf => ?_)
  · refine bs_val hc (x' := (75, [some (.int x0)], [], hp kp nh rh tl rl I L)) rfl ?_
    refine bs_st 1 (x' := (77, [some (.int x0)], [.retAddr 6], hp kp nh rh tl rl I L)) rfl ?_
    cases hf
    exact bs_ret rfl
  refine bs_cs hf (fun hc hf => ?_) (fun hc6 hf => ?_)
  · refine bs_val hc (x' := (78, [some (.int x0)], [], hp kp nh rh tl rl I L)) rfl ?_
    refine bs_st 1 (x' := (80, [some (.int x0)], [.retAddr 7], hp kp nh rh tl rl I L)) rfl ?_
    cases hf
    exact bs_ret rfl
  refine bs_cs hf (fun hc hf => ?_) (fun hc7 hf => ?_)
  · refine bs_val hc (x' := (81, [some (.int x0)], [], hp kp nh rh tl rl I L)) rfl ?_
    refine bs_st 1 (x' := (83, [some (.int x0)], [.retAddr 8], hp kp nh rh tl rl I L)) rfl ?_
    cases hf
    exact bs_ret rfl
  refine bs_cs hf (fun hc hf => ?_) (fun hc8 hf => ?_)
  · refine bs_val hc (x' := (84, [some (.int x0)], [], hp kp nh rh tl rl I L)) rfl ?_
    refine bs_st 1 (x' := (86, [some (.int x0)], [.retAddr 9], hp kp nh rh tl rl I L)) rfl ?_
    cases hf
    exact bs_ret rfl
  refine bs_cs hf (fun hc hf => ?_) (fun hc9 hf => ?_)
  · refine bs_val hc (x' := (87, [some (.int x0)], [], hp kp nh rh tl rl I L)) rfl ?_
    refine bs_st 1 (x' := (89, [some (.int x0)], [.retAddr 10], hp kp nh rh tl rl I L)) rfl ?_
    cases hf
    exact bs_ret rfl
  refine bs_cs hf (fun hc hf => ?_) (fun hc10 hf => ?_)
  · refine bs_val hc (x' := (90, [some (.int x0)], [], hp kp nh rh tl rl I L)) rfl ?_
    refine bs_st 1 (x' := (92, [some (.int x0)], [.retAddr 11], hp kp nh rh tl rl I L)) rfl ?_
    cases hf
    exact bs_ret rfl
  cases hf
/-- Reader.spells(Ljava/lang/String;[BII) on (2,) -/
def b_91_0 (n : Nat) (I : FI) (L : FL) (K0 : Nat → Int32 → Int32 → Option (Int32)) (j0 : Nat) (x2 : Int32) (x4 : Int32) : Option (Int32) :=
  (f_slen j0).bind fun q1 =>
  if q1 ≤ x4 then
    some ((1 : Int32))
  else
    if pin (x2 + x4) 500 = true then ((f_schr j0 x4).bind fun q2 =>
      if I 2 ((x2 + x4).toNatClampNeg) = q2 then
        K0 j0 x2 (x4 + (1 : Int32))
      else
        some ((0 : Int32))) else none
def c_91_0 (n : Nat) (I : FI) (L : FL) : Nat → Nat → Int32 → Int32 → Option (Int32)
  | 0, _, _, _ => none
  | m + 1, j0, x2, x4 => b_91_0 n I L (c_91_0 n I L m) j0 x2 x4
set_option maxHeartbeats 1000000 in
theorem tc_91_0 (Ls : Nat) (xs : Nat → Int32) (d : Nat) (kp : Option Nat) (tl : List (Nat × Nat)) (rl : List (List (Option Nat))) (nh : Option Nat) (rh : Option Nat) (n : Nat) (I : FI) (L : FL) : ∀ (m : Nat) (w3 : Option Value) (j0 : Nat) (x2 : Int32) (x4 : Int32) (r : Int32), c_91_0 n I L m j0 x2 x4 = some r → Bs cd_91 (sf 7 rs_7 false 5 (some (.boolean)) Ls xs (d + 4)) (15, [some (.retAddr j0), some (.ref 2), some (.int x2), w3, some (.int x4)], [], hp kp nh rh tl rl I L) (some (.int r), hp kp nh rh tl rl I L)
  | 0, w3, j0, x2, x4, r, hf => by cases hf
  | m + 1, w3, j0, x2, x4, r, hf => by
    unfold c_91_0 b_91_0 at hf
    have hK0 := tc_91_0 Ls xs d kp tl rl nh rh n I L m
    refine bs_st 2 (x' := (18, [some (.retAddr j0), some (.ref 2), some (.int x2), w3, some (.int x4)], [.retAddr j0, .int x4], hp kp nh rh tl rl I L)) rfl ?_
    obtain ⟨q1, hq1, hf⟩ := Option.bind_eq_some_iff.mp hf
    have hsq1 := t_slen Ls xs (d + 0) j0 (hp kp nh rh tl rl I L) q1 hq1
    refine bs_call (o := pEN Ls xs (d + 4) 361 [.retAddr j0] (hp kp nh rh tl rl I L)) (w := some (.int q1)) (h' := hp kp nh rh tl rl I L) (pc := 21) (lo := [some (.retAddr j0), some (.ref 2), some (.int x2), w3, some (.int x4)]) (rest := [.int x4]) (by refine (show _ = (if 1 ≤ j0 ∧ j0 ≤ 12 then _ else none) from rfl).trans ?_; rw [if_pos hsq1.1]; rfl) hsq1.2 ?_
    refine bs_br (t := 47) (e := 24) (lo := [some (.retAddr j0), some (.ref 2), some (.int x2), w3, some (.int x4)]) (st := []) (h := hp kp nh rh tl rl I L) rfl hf (fun hc hf => ?_) (fun hc hf => ?_)
    · refine bs_st 1 (x' := (48, [some (.retAddr j0), some (.ref 2), some (.int x2), w3, some (.int x4)], [.int (1 : Int32)], hp kp nh rh tl rl I L)) rfl ?_
      cases hf
      exact bs_ret rfl
    · refine bs_st 4 (x' := (29, [some (.retAddr j0), some (.ref 2), some (.int x2), w3, some (.int x4)], [.int (x2 + x4), .ref 2], hp kp nh rh tl rl I L)) rfl ?_
      refine bs_gd (x' := (30, [some (.retAddr j0), some (.ref 2), some (.int x2), w3, some (.int x4)], [.int (I 2 ((x2 + x4).toNatClampNeg))], hp kp nh rh tl rl I L)) rfl hf (fun hc hf => ?_)
      refine bs_st 2 (x' := (33, [some (.retAddr j0), some (.ref 2), some (.int x2), w3, some (.int x4)], [.int x4, .retAddr j0, .int (I 2 ((x2 + x4).toNatClampNeg))], hp kp nh rh tl rl I L)) rfl ?_
      obtain ⟨q2, hq2, hf⟩ := Option.bind_eq_some_iff.mp hf
      have hsq2 := t_schr Ls xs (d + 0) j0 x4 (hp kp nh rh tl rl I L) q2 hq2
      refine bs_call (o := pEN Ls xs (d + 4) 362 [.retAddr j0, .int x4] (hp kp nh rh tl rl I L)) (w := some (.int q2)) (h' := hp kp nh rh tl rl I L) (pc := 36) (lo := [some (.retAddr j0), some (.ref 2), some (.int x2), w3, some (.int x4)]) (rest := [.int (I 2 ((x2 + x4).toNatClampNeg))]) (by refine (show _ = (if 1 ≤ j0 ∧ j0 ≤ 12 then _ else none) from rfl).trans ?_; rw [if_pos hsq2.1]; rfl) hsq2.2 ?_
      refine bs_br (t := 41) (e := 39) (lo := [some (.retAddr j0), some (.ref 2), some (.int x2), w3, some (.int x4)]) (st := []) (h := hp kp nh rh tl rl I L) rfl hf (fun hc hf => ?_) (fun hc hf => ?_)
      · refine bs_st 2 (x' := (15, [some (.retAddr j0), some (.ref 2), some (.int x2), (pcl w3), some (.int (x4 + (1 : Int32)))], [], hp kp nh rh tl rl I L)) rfl ?_
        exact hK0 (pcl w3) j0 x2 (x4 + (1 : Int32)) r hf
      · refine bs_st 1 (x' := (40, [some (.retAddr j0), some (.ref 2), some (.int x2), w3, some (.int x4)], [.int (0 : Int32)], hp kp nh rh tl rl I L)) rfl ?_
        cases hf
        exact bs_ret rfl
def f_91 (n : Nat) (j0 : Nat) (x2 : Int32) (x3 : Int32) (I : FI) (L : FL) : Option (Int32) :=
  (f_slen j0).bind fun q0 =>
  if q0 = (x3 - x2) then
    c_91_0 n I L n j0 x2 (0 : Int32)
  else
    some ((0 : Int32))
set_option maxHeartbeats 1000000 in
theorem t_91 (Ls : Nat) (xs : Nat → Int32) (d : Nat) (kp : Option Nat) (tl : List (Nat × Nat)) (rl : List (List (Option Nat))) (nh : Option Nat) (rh : Option Nat) (n : Nat) (j0 : Nat) (x2 : Int32) (x3 : Int32) (I : FI) (L : FL) (r : Int32) (hf : f_91 n j0 x2 x3 I L = some r) : pEN Ls xs (d + 5) 91 [.retAddr j0, .ref 2, .int x2, .int x3] (hp kp nh rh tl rl I L) = some (some (.int r), hp kp nh rh tl rl I L) := by
  refine en_run (d := d + 4) (cd := cd_91) (f := (sf 7 rs_7 false 5 (some (.boolean)) Ls xs (d + 4))) rfl rfl (x := (0, [some (.retAddr j0), some (.ref 2), some (.int x2), some (.int x3), none], [], hp kp nh rh tl rl I L)) rfl rfl (Nat.le_of_ble_eq_true rfl) ?_
  unfold f_91 at hf
  refine bs_st 1 (x' := (1, [some (.retAddr j0), some (.ref 2), some (.int x2), some (.int x3), none], [.retAddr j0], hp kp nh rh tl rl I L)) rfl ?_
  obtain ⟨q0, hq0, hf⟩ := Option.bind_eq_some_iff.mp hf
  have hsq0 := t_slen Ls xs (d + 0) j0 (hp kp nh rh tl rl I L) q0 hq0
  refine bs_call (o := pEN Ls xs (d + 4) 361 [.retAddr j0] (hp kp nh rh tl rl I L)) (w := some (.int q0)) (h' := hp kp nh rh tl rl I L) (pc := 4) (lo := [some (.retAddr j0), some (.ref 2), some (.int x2), some (.int x3), none]) (rest := []) (by refine (show _ = (if 1 ≤ j0 ∧ j0 ≤ 12 then _ else none) from rfl).trans ?_; rw [if_pos hsq0.1]; rfl) hsq0.2 ?_
  refine bs_st 3 (x' := (7, [some (.retAddr j0), some (.ref 2), some (.int x2), some (.int x3), none], [.int (x3 - x2), .int q0], hp kp nh rh tl rl I L)) rfl ?_
  refine bs_br (t := 12) (e := 10) (lo := [some (.retAddr j0), some (.ref 2), some (.int x2), some (.int x3), none]) (st := []) (h := hp kp nh rh tl rl I L) rfl hf (fun hc hf => ?_) (fun hc hf => ?_)
  · refine bs_st 2 (x' := (15, [some (.retAddr j0), some (.ref 2), some (.int x2), some (.int x3), some (.int (0 : Int32))], [], hp kp nh rh tl rl I L)) rfl ?_
    exact tc_91_0 Ls xs d kp tl rl nh rh n I L n (some (.int x3)) j0 x2 (0 : Int32) r hf
  · refine bs_st 1 (x' := (11, [some (.retAddr j0), some (.ref 2), some (.int x2), some (.int x3), none], [.int (0 : Int32)], hp kp nh rh tl rl I L)) rfl ?_
    cases hf
    exact bs_ret rfl
/-- Reader.kindOf([BII) on (2,) -/
def b_89_0 (n : Nat) (I : FI) (L : FL) (K0 : Int32 → Int32 → Int32 → Option (Int32)) (x1 : Int32) (x2 : Int32) (x3 : Int32) : Option (Int32) :=
  if (15 : Int32) < x3 then
    some ((1 : Int32))
  else
    (f_90 x3 I L).bind fun q1 =>
    (f_91 n q1 x1 x2 I L).bind fun q2 =>
    if q2 = 0 then
      K0 x1 x2 (x3 + (1 : Int32))
    else
      some (x3)
def c_89_0 (n : Nat) (I : FI) (L : FL) : Nat → Int32 → Int32 → Int32 → Option (Int32)
  | 0, _, _, _ => none
  | m + 1, x1, x2, x3 => b_89_0 n I L (c_89_0 n I L m) x1 x2 x3
set_option maxHeartbeats 1000000 in
theorem tc_89_0 (Ls : Nat) (xs : Nat → Int32) (d : Nat) (kp : Option Nat) (tl : List (Nat × Nat)) (rl : List (List (Option Nat))) (nh : Option Nat) (rh : Option Nat) (n : Nat) (I : FI) (L : FL) : ∀ (m : Nat) (x1 : Int32) (x2 : Int32) (x3 : Int32) (r : Int32), c_89_0 n I L m x1 x2 x3 = some r → Bs cd_89 (sf 7 rs_7 false 4 (some (.int)) Ls xs (d + 5)) (23, [some (.ref 2), some (.int x1), some (.int x2), some (.int x3)], [], hp kp nh rh tl rl I L) (some (.int r), hp kp nh rh tl rl I L)
  | 0, x1, x2, x3, r, hf => by cases hf
  | m + 1, x1, x2, x3, r, hf => by
    unfold c_89_0 b_89_0 at hf
    have hK0 := tc_89_0 Ls xs d kp tl rl nh rh n I L m
    refine bs_st 2 (x' := (26, [some (.ref 2), some (.int x1), some (.int x2), some (.int x3)], [.int (15 : Int32), .int x3], hp kp nh rh tl rl I L)) rfl ?_
    refine bs_br (t := 50) (e := 29) (lo := [some (.ref 2), some (.int x1), some (.int x2), some (.int x3)]) (st := []) (h := hp kp nh rh tl rl I L) rfl hf (fun hc hf => ?_) (fun hc hf => ?_)
    · refine bs_st 1 (x' := (51, [some (.ref 2), some (.int x1), some (.int x2), some (.int x3)], [.int (1 : Int32)], hp kp nh rh tl rl I L)) rfl ?_
      cases hf
      exact bs_ret rfl
    · refine bs_st 1 (x' := (30, [some (.ref 2), some (.int x1), some (.int x2), some (.int x3)], [.int x3], hp kp nh rh tl rl I L)) rfl ?_
      obtain ⟨q1, hq1, hf⟩ := Option.bind_eq_some_iff.mp hf
      refine bs_call (o := pEN Ls xs (d + 5) 90 [.int x3] (hp kp nh rh tl rl I L)) (w := some (.retAddr q1)) (h' := hp kp nh rh tl rl I L) (pc := 33) (lo := [some (.ref 2), some (.int x1), some (.int x2), some (.int x3)]) (rest := []) rfl (t_90 Ls xs (d + 4) kp tl rl nh rh x3 I L q1 hq1) ?_
      refine bs_st 3 (x' := (36, [some (.ref 2), some (.int x1), some (.int x2), some (.int x3)], [.int x2, .int x1, .ref 2, .retAddr q1], hp kp nh rh tl rl I L)) rfl ?_
      obtain ⟨q2, hq2, hf⟩ := Option.bind_eq_some_iff.mp hf
      refine bs_call (o := pEN Ls xs (d + 5) 91 [.retAddr q1, .ref 2, .int x1, .int x2] (hp kp nh rh tl rl I L)) (w := some (.int q2)) (h' := hp kp nh rh tl rl I L) (pc := 39) (lo := [some (.ref 2), some (.int x1), some (.int x2), some (.int x3)]) (rest := []) rfl (t_91 Ls xs (d + 0) kp tl rl nh rh n q1 x1 x2 I L q2 hq2) ?_
      refine bs_br (t := 44) (e := 42) (lo := [some (.ref 2), some (.int x1), some (.int x2), some (.int x3)]) (st := []) (h := hp kp nh rh tl rl I L) rfl hf (fun hc hf => ?_) (fun hc hf => ?_)
      · refine bs_st 2 (x' := (23, [some (.ref 2), some (.int x1), some (.int x2), some (.int (x3 + (1 : Int32)))], [], hp kp nh rh tl rl I L)) rfl ?_
        exact hK0 x1 x2 (x3 + (1 : Int32)) r hf
      · refine bs_st 1 (x' := (43, [some (.ref 2), some (.int x1), some (.int x2), some (.int x3)], [.int x3], hp kp nh rh tl rl I L)) rfl ?_
        cases hf
        exact bs_ret rfl
def f_89 (n : Nat) (x1 : Int32) (x2 : Int32) (I : FI) (L : FL) : Option (Int32) :=
  if pin x1 500 = true then ((f_92 (I 2 x1.toNatClampNeg) I L).bind fun q0 =>
    if q0 = 0 then
      if pin x1 500 = true then (if ¬ I 2 x1.toNatClampNeg = (59 : Int32) then
          c_89_0 n I L n x1 x2 (4 : Int32)
        else
          some ((3 : Int32))) else none
    else
      some ((2 : Int32))) else none
set_option maxHeartbeats 1000000 in
theorem t_89 (Ls : Nat) (xs : Nat → Int32) (d : Nat) (kp : Option Nat) (tl : List (Nat × Nat)) (rl : List (List (Option Nat))) (nh : Option Nat) (rh : Option Nat) (n : Nat) (x1 : Int32) (x2 : Int32) (I : FI) (L : FL) (r : Int32) (hf : f_89 n x1 x2 I L = some r) : pEN Ls xs (d + 6) 89 [.ref 2, .int x1, .int x2] (hp kp nh rh tl rl I L) = some (some (.int r), hp kp nh rh tl rl I L) := by
  refine en_run (d := d + 5) (cd := cd_89) (f := (sf 7 rs_7 false 4 (some (.int)) Ls xs (d + 5))) rfl rfl (x := (0, [some (.ref 2), some (.int x1), some (.int x2), none], [], hp kp nh rh tl rl I L)) rfl rfl (Nat.le_of_ble_eq_true rfl) ?_
  unfold f_89 at hf
  refine bs_st 2 (x' := (2, [some (.ref 2), some (.int x1), some (.int x2), none], [.int x1, .ref 2], hp kp nh rh tl rl I L)) rfl ?_
  refine bs_gd (x' := (3, [some (.ref 2), some (.int x1), some (.int x2), none], [.int (I 2 x1.toNatClampNeg)], hp kp nh rh tl rl I L)) rfl hf (fun hc hf => ?_)
  obtain ⟨q0, hq0, hf⟩ := Option.bind_eq_some_iff.mp hf
  refine bs_call (o := pEN Ls xs (d + 5) 92 [.int (I 2 x1.toNatClampNeg)] (hp kp nh rh tl rl I L)) (w := some (.int q0)) (h' := hp kp nh rh tl rl I L) (pc := 6) (lo := [some (.ref 2), some (.int x1), some (.int x2), none]) (rest := []) rfl (t_92 Ls xs (d + 4) kp tl rl nh rh (I 2 x1.toNatClampNeg) I L q0 hq0) ?_
  refine bs_br (t := 11) (e := 9) (lo := [some (.ref 2), some (.int x1), some (.int x2), none]) (st := []) (h := hp kp nh rh tl rl I L) rfl hf (fun hc hf => ?_) (fun hc hf => ?_)
  · refine bs_st 2 (x' := (13, [some (.ref 2), some (.int x1), some (.int x2), none], [.int x1, .ref 2], hp kp nh rh tl rl I L)) rfl ?_
    refine bs_gd (x' := (14, [some (.ref 2), some (.int x1), some (.int x2), none], [.int (I 2 x1.toNatClampNeg)], hp kp nh rh tl rl I L)) rfl hf (fun hc hf => ?_)
    refine bs_st 1 (x' := (16, [some (.ref 2), some (.int x1), some (.int x2), none], [.int (59 : Int32), .int (I 2 x1.toNatClampNeg)], hp kp nh rh tl rl I L)) rfl ?_
    refine bs_br (t := 21) (e := 19) (lo := [some (.ref 2), some (.int x1), some (.int x2), none]) (st := []) (h := hp kp nh rh tl rl I L) rfl hf (fun hc hf => ?_) (fun hc hf => ?_)
    · refine bs_st 2 (x' := (23, [some (.ref 2), some (.int x1), some (.int x2), some (.int (4 : Int32))], [], hp kp nh rh tl rl I L)) rfl ?_
      exact tc_89_0 Ls xs d kp tl rl nh rh n I L n x1 x2 (4 : Int32) r hf
    · refine bs_st 1 (x' := (20, [some (.ref 2), some (.int x1), some (.int x2), none], [.int (3 : Int32)], hp kp nh rh tl rl I L)) rfl ?_
      cases hf
      exact bs_ret rfl
  · refine bs_st 1 (x' := (10, [some (.ref 2), some (.int x1), some (.int x2), none], [.int (2 : Int32)], hp kp nh rh tl rl I L)) rfl ?_
    cases hf
    exact bs_ret rfl
/-- Reader.valueOf([BII) on (2,) -/
def b_88_0 (n : Nat) (I : FI) (L : FL) (K0 : Int32 → Int32 → Int32 → Option (Int32)) (x2 : Int32) (x3 : Int32) (x4 : Int32) : Option (Int32) :=
  if x2 ≤ x4 then
    some (x3)
  else
    if pin x4 500 = true then ((f_359 (1000000 : Int32) (((x3 * (10 : Int32)) + (I 2 x4.toNatClampNeg)) - (48 : Int32)) I L).bind fun q0 =>
      K0 x2 q0 (x4 + (1 : Int32))) else none
def c_88_0 (n : Nat) (I : FI) (L : FL) : Nat → Int32 → Int32 → Int32 → Option (Int32)
  | 0, _, _, _ => none
  | m + 1, x2, x3, x4 => b_88_0 n I L (c_88_0 n I L m) x2 x3 x4
set_option maxHeartbeats 1000000 in
theorem tc_88_0 (Ls : Nat) (xs : Nat → Int32) (d : Nat) (kp : Option Nat) (tl : List (Nat × Nat)) (rl : List (List (Option Nat))) (nh : Option Nat) (rh : Option Nat) (n : Nat) (I : FI) (L : FL) : ∀ (m : Nat) (w1 : Option Value) (x2 : Int32) (x3 : Int32) (x4 : Int32) (r : Int32), c_88_0 n I L m x2 x3 x4 = some r → Bs cd_88 (sf 7 rs_7 false 5 (some (.int)) Ls xs (d + 1)) (5, [some (.ref 2), w1, some (.int x2), some (.int x3), some (.int x4)], [], hp kp nh rh tl rl I L) (some (.int r), hp kp nh rh tl rl I L)
  | 0, w1, x2, x3, x4, r, hf => by cases hf
  | m + 1, w1, x2, x3, x4, r, hf => by
    unfold c_88_0 b_88_0 at hf
    have hK0 := tc_88_0 Ls xs d kp tl rl nh rh n I L m
    refine bs_st 2 (x' := (8, [some (.ref 2), w1, some (.int x2), some (.int x3), some (.int x4)], [.int x2, .int x4], hp kp nh rh tl rl I L)) rfl ?_
    refine bs_br (t := 35) (e := 11) (lo := [some (.ref 2), w1, some (.int x2), some (.int x3), some (.int x4)]) (st := []) (h := hp kp nh rh tl rl I L) rfl hf (fun hc hf => ?_) (fun hc hf => ?_)
    · refine bs_st 1 (x' := (36, [some (.ref 2), w1, some (.int x2), some (.int x3), some (.int x4)], [.int x3], hp kp nh rh tl rl I L)) rfl ?_
      cases hf
      exact bs_ret rfl
    · refine bs_st 6 (x' := (20, [some (.ref 2), w1, some (.int x2), some (.int x3), some (.int x4)], [.int x4, .ref 2, .int (x3 * (10 : Int32)), .int (1000000 : Int32)], hp kp nh rh tl rl I L)) rfl ?_
      refine bs_gd (x' := (21, [some (.ref 2), w1, some (.int x2), some (.int x3), some (.int x4)], [.int (I 2 x4.toNatClampNeg), .int (x3 * (10 : Int32)), .int (1000000 : Int32)], hp kp nh rh tl rl I L)) rfl hf (fun hc hf => ?_)
      refine bs_st 3 (x' := (25, [some (.ref 2), w1, some (.int x2), some (.int x3), some (.int x4)], [.int (((x3 * (10 : Int32)) + (I 2 x4.toNatClampNeg)) - (48 : Int32)), .int (1000000 : Int32)], hp kp nh rh tl rl I L)) rfl ?_
      obtain ⟨q0, hq0, hf⟩ := Option.bind_eq_some_iff.mp hf
      refine bs_call (o := pEN Ls xs (d + 1) 359 [.int (1000000 : Int32), .int (((x3 * (10 : Int32)) + (I 2 x4.toNatClampNeg)) - (48 : Int32))] (hp kp nh rh tl rl I L)) (w := some (.int q0)) (h' := hp kp nh rh tl rl I L) (pc := 28) (lo := [some (.ref 2), w1, some (.int x2), some (.int x3), some (.int x4)]) (rest := []) rfl (t_359 Ls xs (d + 0) kp tl rl nh rh (1000000 : Int32) (((x3 * (10 : Int32)) + (I 2 x4.toNatClampNeg)) - (48 : Int32)) I L q0 hq0) ?_
      refine bs_st 3 (x' := (5, [some (.ref 2), w1, some (.int x2), some (.int q0), some (.int (x4 + (1 : Int32)))], [], hp kp nh rh tl rl I L)) rfl ?_
      exact hK0 w1 x2 q0 (x4 + (1 : Int32)) r hf
def f_88 (n : Nat) (x1 : Int32) (x2 : Int32) (I : FI) (L : FL) : Option (Int32) :=
  c_88_0 n I L n x2 (0 : Int32) x1
set_option maxHeartbeats 1000000 in
theorem t_88 (Ls : Nat) (xs : Nat → Int32) (d : Nat) (kp : Option Nat) (tl : List (Nat × Nat)) (rl : List (List (Option Nat))) (nh : Option Nat) (rh : Option Nat) (n : Nat) (x1 : Int32) (x2 : Int32) (I : FI) (L : FL) (r : Int32) (hf : f_88 n x1 x2 I L = some r) : pEN Ls xs (d + 2) 88 [.ref 2, .int x1, .int x2] (hp kp nh rh tl rl I L) = some (some (.int r), hp kp nh rh tl rl I L) := by
  refine en_run (d := d + 1) (cd := cd_88) (f := (sf 7 rs_7 false 5 (some (.int)) Ls xs (d + 1))) rfl rfl (x := (0, [some (.ref 2), some (.int x1), some (.int x2), none, none], [], hp kp nh rh tl rl I L)) rfl rfl (Nat.le_of_ble_eq_true rfl) ?_
  unfold f_88 at hf
  refine bs_st 4 (x' := (5, [some (.ref 2), some (.int x1), some (.int x2), some (.int (0 : Int32)), some (.int x1)], [], hp kp nh rh tl rl I L)) rfl ?_
  exact tc_88_0 Ls xs d kp tl rl nh rh n I L n (some (.int x1)) x2 (0 : Int32) x1 r hf
/-- Reader.takeTokens([BI) on (14, 2) -/
def c_86_1 (n : Nat) (x2 : Int32) (x3 : Int32) (I : FI) (L : FL) : Option (FI × FL) :=
  if pin x3 501 = true then (if pin x3 501 = true then (if pin x3 501 = true then some ((u2 (u2 (u2 I 24 x3.toNatClampNeg x2) 23 x3.toNatClampNeg (vp_nar .byte (0 : Int32))) 25 x3.toNatClampNeg (0 : Int32)), L) else none) else none) else none
set_option maxHeartbeats 1000000 in
theorem tc_86_1 (Ls : Nat) (xs : Nat → Int32) (d : Nat) (kp : Option Nat) (tl : List (Nat × Nat)) (rl : List (List (Option Nat))) (nh : Option Nat) (rh : Option Nat) (n : Nat) (w1 : Option Value) (w4 : Option Value) (w5 : Option Value) (w6 : Option Value) (w7 : Option Value) (x2 : Int32) (x3 : Int32) (I : FI) (L : FL) (r : FI × FL) (hf : c_86_1 n x2 x3 I L = some r) : Bs cd_86 (sf 7 rs_7 false 8 none Ls xs (d + 6)) (115, [some (.ref 14), w1, some (.int x2), some (.int x3), w4, w5, w6, w7], [], hp kp nh rh tl rl I L) (none, hp kp nh rh tl rl r.1 r.2) := by
  unfold c_86_1 at hf
  refine bs_st 4 (x' := (121, [some (.ref 14), w1, some (.int x2), some (.int x3), w4, w5, w6, w7], [.int x2, .int x3, .ref 24], hp kp nh rh tl rl I L)) rfl ?_
  refine bs_gd (x' := (122, [some (.ref 14), w1, some (.int x2), some (.int x3), w4, w5, w6, w7], [], hp kp nh rh tl rl (u2 I 24 x3.toNatClampNeg x2) L)) rfl hf (fun hc hf => ?_)
  refine bs_st 4 (x' := (128, [some (.ref 14), w1, some (.int x2), some (.int x3), w4, w5, w6, w7], [.int (0 : Int32), .int x3, .ref 23], hp kp nh rh tl rl (u2 I 24 x3.toNatClampNeg x2) L)) rfl ?_
  refine bs_gd (x' := (129, [some (.ref 14), w1, some (.int x2), some (.int x3), w4, w5, w6, w7], [], hp kp nh rh tl rl (u2 (u2 I 24 x3.toNatClampNeg x2) 23 x3.toNatClampNeg (vp_nar .byte (0 : Int32))) L)) rfl hf (fun hc hf => ?_)
  refine bs_st 4 (x' := (135, [some (.ref 14), w1, some (.int x2), some (.int x3), w4, w5, w6, w7], [.int (0 : Int32), .int x3, .ref 25], hp kp nh rh tl rl (u2 (u2 I 24 x3.toNatClampNeg x2) 23 x3.toNatClampNeg (vp_nar .byte (0 : Int32))) L)) rfl ?_
  refine bs_gd (x' := (136, [some (.ref 14), w1, some (.int x2), some (.int x3), w4, w5, w6, w7], [], hp kp nh rh tl rl (u2 (u2 (u2 I 24 x3.toNatClampNeg x2) 23 x3.toNatClampNeg (vp_nar .byte (0 : Int32))) 25 x3.toNatClampNeg (0 : Int32)) L)) rfl hf (fun hc hf => ?_)
  cases hf
  exact bs_ret rfl
def c_86_2 (n : Nat) (K0 : Int32 → Int32 → Int32 → Int32 → FI → FL → Option (FI × FL)) (x2 : Int32) (x3 : Int32) (x5 : Int32) (x7 : Int32) (I : FI) (L : FL) : Option (FI × FL) :=
  K0 x2 x3 x7 (x5 + (1 : Int32)) I L
set_option maxHeartbeats 1000000 in
theorem tc_86_2 (Ls : Nat) (xs : Nat → Int32) (d : Nat) (kp : Option Nat) (tl : List (Nat × Nat)) (rl : List (List (Option Nat))) (nh : Option Nat) (rh : Option Nat) (n : Nat) (K0 : Int32 → Int32 → Int32 → Int32 → FI → FL → Option (FI × FL)) (hK0 : ∀ (w6 : Option Value) (w7 : Option Value) (x2 : Int32) (x3 : Int32) (x4 : Int32) (x5 : Int32) (I : FI) (L : FL) (r : FI × FL), K0 x2 x3 x4 x5 I L = some r → Bs cd_86 (sf 7 rs_7 false 8 none Ls xs (d + 6)) (8, [some (.ref 14), some (.ref 2), some (.int x2), some (.int x3), some (.int x4), some (.int x5), w6, w7], [], hp kp nh rh tl rl I L) (none, hp kp nh rh tl rl r.1 r.2)) (w4 : Option Value) (w6 : Option Value) (x2 : Int32) (x3 : Int32) (x5 : Int32) (x7 : Int32) (I : FI) (L : FL) (r : FI × FL) (hf : c_86_2 n K0 x2 x3 x5 x7 I L = some r) : Bs cd_86 (sf 7 rs_7 false 8 none Ls xs (d + 6)) (105, [some (.ref 14), some (.ref 2), some (.int x2), some (.int x3), w4, some (.int x5), w6, some (.int x7)], [], hp kp nh rh tl rl I L) (none, hp kp nh rh tl rl r.1 r.2) := by
  unfold c_86_2 at hf
  refine bs_st 4 (x' := (8, [some (.ref 14), some (.ref 2), some (.int x2), some (.int x3), some (.int x7), some (.int (x5 + (1 : Int32))), w6, some (.int x7)], [], hp kp nh rh tl rl I L)) rfl ?_
  exact hK0 w6 (some (.int x7)) x2 x3 x7 (x5 + (1 : Int32)) I L r hf
def c_86_3 (n : Nat) (K0 : Int32 → Int32 → Int32 → Int32 → FI → FL → Option (FI × FL)) (x2 : Int32) (x3 : Int32) (x5 : Int32) (x7 : Int32) (s0 : Int32) (s1 : Int32) (I : FI) (L : FL) : Option (FI × FL) :=
  if pin s1 501 = true then c_86_2 n K0 x2 (x3 + (1 : Int32)) x5 x7 (u2 I 25 s1.toNatClampNeg s0) L else none
set_option maxHeartbeats 1000000 in
theorem tc_86_3 (Ls : Nat) (xs : Nat → Int32) (d : Nat) (kp : Option Nat) (tl : List (Nat × Nat)) (rl : List (List (Option Nat))) (nh : Option Nat) (rh : Option Nat) (n : Nat) (K0 : Int32 → Int32 → Int32 → Int32 → FI → FL → Option (FI × FL)) (hK0 : ∀ (w6 : Option Value) (w7 : Option Value) (x2 : Int32) (x3 : Int32) (x4 : Int32) (x5 : Int32) (I : FI) (L : FL) (r : FI × FL), K0 x2 x3 x4 x5 I L = some r → Bs cd_86 (sf 7 rs_7 false 8 none Ls xs (d + 6)) (8, [some (.ref 14), some (.ref 2), some (.int x2), some (.int x3), some (.int x4), some (.int x5), w6, w7], [], hp kp nh rh tl rl I L) (none, hp kp nh rh tl rl r.1 r.2)) (w4 : Option Value) (w6 : Option Value) (x2 : Int32) (x3 : Int32) (x5 : Int32) (x7 : Int32) (s0 : Int32) (s1 : Int32) (I : FI) (L : FL) (r : FI × FL) (hf : c_86_3 n K0 x2 x3 x5 x7 s0 s1 I L = some r) : Bs cd_86 (sf 7 rs_7 false 8 none Ls xs (d + 6)) (101, [some (.ref 14), some (.ref 2), some (.int x2), some (.int x3), w4, some (.int x5), w6, some (.int x7)], [.int s0, .int s1, .ref 25], hp kp nh rh tl rl I L) (none, hp kp nh rh tl rl r.1 r.2) := by
  unfold c_86_3 at hf
  refine bs_gd (x' := (102, [some (.ref 14), some (.ref 2), some (.int x2), some (.int x3), w4, some (.int x5), w6, some (.int x7)], [], hp kp nh rh tl rl (u2 I 25 s1.toNatClampNeg s0) L)) rfl hf (fun hc hf => ?_)
  refine bs_st 1 (x' := (105, [some (.ref 14), some (.ref 2), some (.int x2), some (.int (x3 + (1 : Int32))), w4, some (.int x5), w6, some (.int x7)], [], hp kp nh rh tl rl (u2 I 25 s1.toNatClampNeg s0) L)) rfl ?_
  exact tc_86_2 Ls xs d kp tl rl nh rh n _ hK0 w4 w6 x2 (x3 + (1 : Int32)) x5 x7 (u2 I 25 s1.toNatClampNeg s0) L r hf
def b_86_0 (n : Nat) (K0 : Int32 → Int32 → Int32 → Int32 → FI → FL → Option (FI × FL)) (x2 : Int32) (x3 : Int32) (x4 : Int32) (x5 : Int32) (I : FI) (L : FL) : Option (FI × FL) :=
  if (500 : Int32) ≤ x5 then
    c_86_1 n x2 x3 I L
  else
    if x2 ≤ x4 then
      c_86_1 n x2 x3 I L
    else
      if pin x4 500 = true then ((f_87 n x4 x2 I L).bind fun q0 =>
        if I 2 x4.toNatClampNeg = (32 : Int32) then
          c_86_2 n K0 x2 x3 x5 q0 I L
        else
          if I 2 x4.toNatClampNeg = (10 : Int32) then
            c_86_2 n K0 x2 x3 x5 q0 I L
          else
            if pin x3 501 = true then ((f_89 n x4 q0 (u2 I 24 x3.toNatClampNeg x4) L).bind fun q1 =>
              if pin x3 501 = true then (if pin x3 501 = true then (if ¬ (u2 (u2 I 24 x3.toNatClampNeg x4) 23 x3.toNatClampNeg (vp_nar .byte q1.toInt8.toInt32)) 23 x3.toNatClampNeg = (2 : Int32) then
                    c_86_3 n K0 x2 x3 x5 q0 (0 : Int32) x3 (u2 (u2 I 24 x3.toNatClampNeg x4) 23 x3.toNatClampNeg (vp_nar .byte q1.toInt8.toInt32)) L
                  else
                    (f_88 n x4 q0 (u2 (u2 I 24 x3.toNatClampNeg x4) 23 x3.toNatClampNeg (vp_nar .byte q1.toInt8.toInt32)) L).bind fun q2 =>
                    c_86_3 n K0 x2 x3 x5 q0 q2 x3 (u2 (u2 I 24 x3.toNatClampNeg x4) 23 x3.toNatClampNeg (vp_nar .byte q1.toInt8.toInt32)) L) else none) else none) else none) else none
def c_86_0 (n : Nat) : Nat → Int32 → Int32 → Int32 → Int32 → FI → FL → Option (FI × FL)
  | 0, _, _, _, _, _, _ => none
  | m + 1, x2, x3, x4, x5, I, L => b_86_0 n (c_86_0 n m) x2 x3 x4 x5 I L
set_option maxHeartbeats 1000000 in
theorem tc_86_0 (Ls : Nat) (xs : Nat → Int32) (d : Nat) (kp : Option Nat) (tl : List (Nat × Nat)) (rl : List (List (Option Nat))) (nh : Option Nat) (rh : Option Nat) (n : Nat) : ∀ (m : Nat) (w6 : Option Value) (w7 : Option Value) (x2 : Int32) (x3 : Int32) (x4 : Int32) (x5 : Int32) (I : FI) (L : FL) (r : FI × FL), c_86_0 n m x2 x3 x4 x5 I L = some r → Bs cd_86 (sf 7 rs_7 false 8 none Ls xs (d + 6)) (8, [some (.ref 14), some (.ref 2), some (.int x2), some (.int x3), some (.int x4), some (.int x5), w6, w7], [], hp kp nh rh tl rl I L) (none, hp kp nh rh tl rl r.1 r.2)
  | 0, w6, w7, x2, x3, x4, x5, I, L, r, hf => by cases hf
  | m + 1, w6, w7, x2, x3, x4, x5, I, L, r, hf => by
    unfold c_86_0 b_86_0 at hf
    have hK0 := tc_86_0 Ls xs d kp tl rl nh rh n m
    refine bs_st 2 (x' := (13, [some (.ref 14), some (.ref 2), some (.int x2), some (.int x3), some (.int x4), some (.int x5), w6, w7], [.int (500 : Int32), .int x5], hp kp nh rh tl rl I L)) rfl ?_
    refine bs_br (t := 115) (e := 16) (lo := [some (.ref 14), some (.ref 2), some (.int x2), some (.int x3), some (.int x4), some (.int x5), w6, w7]) (st := []) (h := hp kp nh rh tl rl I L) rfl hf (fun hc hf => ?_) (fun hc hf => ?_)
    · exact tc_86_1 Ls xs d kp tl rl nh rh n (some (.ref 2)) (some (.int x4)) (some (.int x5)) w6 w7 x2 x3 I L r hf
    · refine bs_st 2 (x' := (19, [some (.ref 14), some (.ref 2), some (.int x2), some (.int x3), some (.int x4), some (.int x5), w6, w7], [.int x2, .int x4], hp kp nh rh tl rl I L)) rfl ?_
      refine bs_br (t := 115) (e := 22) (lo := [some (.ref 14), some (.ref 2), some (.int x2), some (.int x3), some (.int x4), some (.int x5), w6, w7]) (st := []) (h := hp kp nh rh tl rl I L) rfl hf (fun hc hf => ?_) (fun hc hf => ?_)
      · exact tc_86_1 Ls xs d kp tl rl nh rh n (some (.ref 2)) (some (.int x4)) (some (.int x5)) w6 w7 x2 x3 I L r hf
      · refine bs_st 2 (x' := (25, [some (.ref 14), some (.ref 2), some (.int x2), some (.int x3), some (.int x4), some (.int x5), w6, w7], [.int x4, .ref 2], hp kp nh rh tl rl I L)) rfl ?_
        refine bs_gd (x' := (26, [some (.ref 14), some (.ref 2), some (.int x2), some (.int x3), some (.int x4), some (.int x5), w6, w7], [.int (I 2 x4.toNatClampNeg)], hp kp nh rh tl rl I L)) rfl hf (fun hc hf => ?_)
        refine bs_st 4 (x' := (32, [some (.ref 14), some (.ref 2), some (.int x2), some (.int x3), some (.int x4), some (.int x5), some (.int (I 2 x4.toNatClampNeg)), w7], [.int x2, .int x4, .ref 2], hp kp nh rh tl rl I L)) rfl ?_
        obtain ⟨q0, hq0, hf⟩ := Option.bind_eq_some_iff.mp hf
        refine bs_call (o := pEN Ls xs (d + 6) 87 [.ref 2, .int x4, .int x2] (hp kp nh rh tl rl I L)) (w := some (.int q0)) (h' := hp kp nh rh tl rl I L) (pc := 35) (lo := [some (.ref 14), some (.ref 2), some (.int x2), some (.int x3), some (.int x4), some (.int x5), some (.int (I 2 x4.toNatClampNeg)), w7]) (rest := []) rfl (t_87 Ls xs (d + 4) kp tl rl nh rh n x4 x2 I L q0 hq0) ?_
        refine bs_st 3 (x' := (41, [some (.ref 14), some (.ref 2), some (.int x2), some (.int x3), some (.int x4), some (.int x5), some (.int (I 2 x4.toNatClampNeg)), some (.int q0)], [.int (32 : Int32), .int (I 2 x4.toNatClampNeg)], hp kp nh rh tl rl I L)) rfl ?_
        refine bs_br (t := 105) (e := 44) (lo := [some (.ref 14), some (.ref 2), some (.int x2), some (.int x3), some (.int x4), some (.int x5), some (.int (I 2 x4.toNatClampNeg)), some (.int q0)]) (st := []) (h := hp kp nh rh tl rl I L) rfl hf (fun hc hf => ?_) (fun hc hf => ?_)
        · exact tc_86_2 Ls xs d kp tl rl nh rh n _ hK0 (some (.int x4)) (some (.int (I 2 x4.toNatClampNeg))) x2 x3 x5 q0 I L r hf
        · refine bs_st 2 (x' := (48, [some (.ref 14), some (.ref 2), some (.int x2), some (.int x3), some (.int x4), some (.int x5), some (.int (I 2 x4.toNatClampNeg)), some (.int q0)], [.int (10 : Int32), .int (I 2 x4.toNatClampNeg)], hp kp nh rh tl rl I L)) rfl ?_
          refine bs_br (t := 105) (e := 51) (lo := [some (.ref 14), some (.ref 2), some (.int x2), some (.int x3), some (.int x4), some (.int x5), some (.int (I 2 x4.toNatClampNeg)), some (.int q0)]) (st := []) (h := hp kp nh rh tl rl I L) rfl hf (fun hc hf => ?_) (fun hc hf => ?_)
          · exact tc_86_2 Ls xs d kp tl rl nh rh n _ hK0 (some (.int x4)) (some (.int (I 2 x4.toNatClampNeg))) x2 x3 x5 q0 I L r hf
          · refine bs_st 4 (x' := (58, [some (.ref 14), some (.ref 2), some (.int x2), some (.int x3), some (.int x4), some (.int x5), some (.int (I 2 x4.toNatClampNeg)), some (.int q0)], [.int x4, .int x3, .ref 24], hp kp nh rh tl rl I L)) rfl ?_
            refine bs_gd (x' := (59, [some (.ref 14), some (.ref 2), some (.int x2), some (.int x3), some (.int x4), some (.int x5), some (.int (I 2 x4.toNatClampNeg)), some (.int q0)], [], hp kp nh rh tl rl (u2 I 24 x3.toNatClampNeg x4) L)) rfl hf (fun hc hf => ?_)
            refine bs_st 6 (x' := (69, [some (.ref 14), some (.ref 2), some (.int x2), some (.int x3), some (.int x4), some (.int x5), some (.int (I 2 x4.toNatClampNeg)), some (.int q0)], [.int q0, .int x4, .ref 2, .int x3, .ref 23], hp kp nh rh tl rl (u2 I 24 x3.toNatClampNeg x4) L)) rfl ?_
            obtain ⟨q1, hq1, hf⟩ := Option.bind_eq_some_iff.mp hf
            refine bs_call (o := pEN Ls xs (d + 6) 89 [.ref 2, .int x4, .int q0] (hp kp nh rh tl rl (u2 I 24 x3.toNatClampNeg x4) L)) (w := some (.int q1)) (h' := hp kp nh rh tl rl (u2 I 24 x3.toNatClampNeg x4) L) (pc := 72) (lo := [some (.ref 14), some (.ref 2), some (.int x2), some (.int x3), some (.int x4), some (.int x5), some (.int (I 2 x4.toNatClampNeg)), some (.int q0)]) (rest := [.int x3, .ref 23]) rfl (t_89 Ls xs (d + 0) kp tl rl nh rh n x4 q0 (u2 I 24 x3.toNatClampNeg x4) L q1 hq1) ?_
            refine bs_st 1 (x' := (73, [some (.ref 14), some (.ref 2), some (.int x2), some (.int x3), some (.int x4), some (.int x5), some (.int (I 2 x4.toNatClampNeg)), some (.int q0)], [.int q1.toInt8.toInt32, .int x3, .ref 23], hp kp nh rh tl rl (u2 I 24 x3.toNatClampNeg x4) L)) rfl ?_
            refine bs_gd (x' := (74, [some (.ref 14), some (.ref 2), some (.int x2), some (.int x3), some (.int x4), some (.int x5), some (.int (I 2 x4.toNatClampNeg)), some (.int q0)], [], hp kp nh rh tl rl (u2 (u2 I 24 x3.toNatClampNeg x4) 23 x3.toNatClampNeg (vp_nar .byte q1.toInt8.toInt32)) L)) rfl hf (fun hc hf => ?_)
            refine bs_st 6 (x' := (84, [some (.ref 14), some (.ref 2), some (.int x2), some (.int x3), some (.int x4), some (.int x5), some (.int (I 2 x4.toNatClampNeg)), some (.int q0)], [.int x3, .ref 23, .int x3, .ref 25], hp kp nh rh tl rl (u2 (u2 I 24 x3.toNatClampNeg x4) 23 x3.toNatClampNeg (vp_nar .byte q1.toInt8.toInt32)) L)) rfl ?_
            refine bs_gd (x' := (85, [some (.ref 14), some (.ref 2), some (.int x2), some (.int x3), some (.int x4), some (.int x5), some (.int (I 2 x4.toNatClampNeg)), some (.int q0)], [.int ((u2 (u2 I 24 x3.toNatClampNeg x4) 23 x3.toNatClampNeg (vp_nar .byte q1.toInt8.toInt32)) 23 x3.toNatClampNeg), .int x3, .ref 25], hp kp nh rh tl rl (u2 (u2 I 24 x3.toNatClampNeg x4) 23 x3.toNatClampNeg (vp_nar .byte q1.toInt8.toInt32)) L)) rfl hf (fun hc hf => ?_)
            refine bs_st 1 (x' := (86, [some (.ref 14), some (.ref 2), some (.int x2), some (.int x3), some (.int x4), some (.int x5), some (.int (I 2 x4.toNatClampNeg)), some (.int q0)], [.int (2 : Int32), .int ((u2 (u2 I 24 x3.toNatClampNeg x4) 23 x3.toNatClampNeg (vp_nar .byte q1.toInt8.toInt32)) 23 x3.toNatClampNeg), .int x3, .ref 25], hp kp nh rh tl rl (u2 (u2 I 24 x3.toNatClampNeg x4) 23 x3.toNatClampNeg (vp_nar .byte q1.toInt8.toInt32)) L)) rfl ?_
            refine bs_br (t := 100) (e := 89) (lo := [some (.ref 14), some (.ref 2), some (.int x2), some (.int x3), some (.int x4), some (.int x5), some (.int (I 2 x4.toNatClampNeg)), some (.int q0)]) (st := [.int x3, .ref 25]) (h := hp kp nh rh tl rl (u2 (u2 I 24 x3.toNatClampNeg x4) 23 x3.toNatClampNeg (vp_nar .byte q1.toInt8.toInt32)) L) rfl hf (fun hc hf => ?_) (fun hc hf => ?_)
            · refine bs_st 1 (x' := (101, [some (.ref 14), some (.ref 2), some (.int x2), some (.int x3), some (.int x4), some (.int x5), some (.int (I 2 x4.toNatClampNeg)), some (.int q0)], [.int (0 : Int32), .int x3, .ref 25], hp kp nh rh tl rl (u2 (u2 I 24 x3.toNatClampNeg x4) 23 x3.toNatClampNeg (vp_nar .byte q1.toInt8.toInt32)) L)) rfl ?_
              exact tc_86_3 Ls xs d kp tl rl nh rh n _ hK0 (some (.int x4)) (some (.int (I 2 x4.toNatClampNeg))) x2 x3 x5 q0 (0 : Int32) x3 (u2 (u2 I 24 x3.toNatClampNeg x4) 23 x3.toNatClampNeg (vp_nar .byte q1.toInt8.toInt32)) L r hf
            · refine bs_st 3 (x' := (94, [some (.ref 14), some (.ref 2), some (.int x2), some (.int x3), some (.int x4), some (.int x5), some (.int (I 2 x4.toNatClampNeg)), some (.int q0)], [.int q0, .int x4, .ref 2, .int x3, .ref 25], hp kp nh rh tl rl (u2 (u2 I 24 x3.toNatClampNeg x4) 23 x3.toNatClampNeg (vp_nar .byte q1.toInt8.toInt32)) L)) rfl ?_
              obtain ⟨q2, hq2, hf⟩ := Option.bind_eq_some_iff.mp hf
              refine bs_call (o := pEN Ls xs (d + 6) 88 [.ref 2, .int x4, .int q0] (hp kp nh rh tl rl (u2 (u2 I 24 x3.toNatClampNeg x4) 23 x3.toNatClampNeg (vp_nar .byte q1.toInt8.toInt32)) L)) (w := some (.int q2)) (h' := hp kp nh rh tl rl (u2 (u2 I 24 x3.toNatClampNeg x4) 23 x3.toNatClampNeg (vp_nar .byte q1.toInt8.toInt32)) L) (pc := 97) (lo := [some (.ref 14), some (.ref 2), some (.int x2), some (.int x3), some (.int x4), some (.int x5), some (.int (I 2 x4.toNatClampNeg)), some (.int q0)]) (rest := [.int x3, .ref 25]) rfl (t_88 Ls xs (d + 4) kp tl rl nh rh n x4 q0 (u2 (u2 I 24 x3.toNatClampNeg x4) 23 x3.toNatClampNeg (vp_nar .byte q1.toInt8.toInt32)) L q2 hq2) ?_
              refine bs_st 1 (x' := (101, [some (.ref 14), some (.ref 2), some (.int x2), some (.int x3), some (.int x4), some (.int x5), some (.int (I 2 x4.toNatClampNeg)), some (.int q0)], [.int q2, .int x3, .ref 25], hp kp nh rh tl rl (u2 (u2 I 24 x3.toNatClampNeg x4) 23 x3.toNatClampNeg (vp_nar .byte q1.toInt8.toInt32)) L)) rfl ?_
              exact tc_86_3 Ls xs d kp tl rl nh rh n _ hK0 (some (.int x4)) (some (.int (I 2 x4.toNatClampNeg))) x2 x3 x5 q0 q2 x3 (u2 (u2 I 24 x3.toNatClampNeg x4) 23 x3.toNatClampNeg (vp_nar .byte q1.toInt8.toInt32)) L r hf
def f_86 (n : Nat) (x2 : Int32) (I : FI) (L : FL) : Option (FI × FL) :=
  c_86_0 n n x2 (0 : Int32) (0 : Int32) (0 : Int32) I L
set_option maxHeartbeats 1000000 in
theorem t_86 (Ls : Nat) (xs : Nat → Int32) (d : Nat) (kp : Option Nat) (tl : List (Nat × Nat)) (rl : List (List (Option Nat))) (nh : Option Nat) (rh : Option Nat) (n : Nat) (x2 : Int32) (I : FI) (L : FL) (r : FI × FL) (hf : f_86 n x2 I L = some r) : pEN Ls xs (d + 7) 86 [.ref 14, .ref 2, .int x2] (hp kp nh rh tl rl I L) = some (none, hp kp nh rh tl rl r.1 r.2) := by
  refine en_run (d := d + 6) (cd := cd_86) (f := (sf 7 rs_7 false 8 none Ls xs (d + 6))) rfl rfl (x := (0, [some (.ref 14), some (.ref 2), some (.int x2), none, none, none, none, none], [], hp kp nh rh tl rl I L)) rfl rfl (Nat.le_of_ble_eq_true rfl) ?_
  unfold f_86 at hf
  refine bs_st 6 (x' := (8, [some (.ref 14), some (.ref 2), some (.int x2), some (.int (0 : Int32)), some (.int (0 : Int32)), some (.int (0 : Int32)), none, none], [], hp kp nh rh tl rl I L)) rfl ?_
  exact tc_86_0 Ls xs d kp tl rl nh rh n n none none x2 (0 : Int32) (0 : Int32) (0 : Int32) I L r hf
/-- House.clear() on (15,) -/
def b_16_0 (n : Nat) (K0 : Int32 → FI → FL → Option (FI × FL)) (x1 : Int32) (I : FI) (L : FL) : Option (FI × FL) :=
  if (4 : Int32) ≤ x1 then
    some (I, L)
  else
    if pin x1 4 = true then K0 (x1 + (1 : Int32)) (u2 I 18 x1.toNatClampNeg (0 : Int32)) L else none
def c_16_0 (n : Nat) : Nat → Int32 → FI → FL → Option (FI × FL)
  | 0, _, _, _ => none
  | m + 1, x1, I, L => b_16_0 n (c_16_0 n m) x1 I L
set_option maxHeartbeats 1000000 in
theorem tc_16_0 (Ls : Nat) (xs : Nat → Int32) (d : Nat) (kp : Option Nat) (tl : List (Nat × Nat)) (rl : List (List (Option Nat))) (nh : Option Nat) (rh : Option Nat) (n : Nat) : ∀ (m : Nat) (x1 : Int32) (I : FI) (L : FL) (r : FI × FL), c_16_0 n m x1 I L = some r → Bs cd_16 (sf 3 rs_3 false 2 none Ls xs (d + 0)) (42, [some (.ref 15), some (.int x1)], [], hp kp nh rh tl rl I L) (none, hp kp nh rh tl rl r.1 r.2)
  | 0, x1, I, L, r, hf => by cases hf
  | m + 1, x1, I, L, r, hf => by
    unfold c_16_0 b_16_0 at hf
    have hK0 := tc_16_0 Ls xs d kp tl rl nh rh n m
    refine bs_st 2 (x' := (44, [some (.ref 15), some (.int x1)], [.int (4 : Int32), .int x1], hp kp nh rh tl rl I L)) rfl ?_
    refine bs_br (t := 60) (e := 47) (lo := [some (.ref 15), some (.int x1)]) (st := []) (h := hp kp nh rh tl rl I L) rfl hf (fun hc hf => ?_) (fun hc hf => ?_)
    · cases hf
      exact bs_ret rfl
    · refine bs_st 4 (x' := (53, [some (.ref 15), some (.int x1)], [.int (0 : Int32), .int x1, .ref 18], hp kp nh rh tl rl I L)) rfl ?_
      refine bs_gd (x' := (54, [some (.ref 15), some (.int x1)], [], hp kp nh rh tl rl (u2 I 18 x1.toNatClampNeg (0 : Int32)) L)) rfl hf (fun hc hf => ?_)
      refine bs_st 2 (x' := (42, [some (.ref 15), some (.int (x1 + (1 : Int32)))], [], hp kp nh rh tl rl (u2 I 18 x1.toNatClampNeg (0 : Int32)) L)) rfl ?_
      exact hK0 (x1 + (1 : Int32)) (u2 I 18 x1.toNatClampNeg (0 : Int32)) L r hf
def f_16 (n : Nat) (I : FI) (L : FL) : Option (FI × FL) :=
  c_16_0 n n (0 : Int32) (u2 (u2 (u2 (u2 (u2 (u2 (u2 (u2 I 15 0 (0 : Int32)) 15 1 (0 : Int32)) 15 2 (0 : Int32)) 15 3 (0 : Int32)) 15 4 (0 : Int32)) 15 5 (0 : Int32)) 15 6 (0 : Int32)) 15 7 (0 : Int32)) L
set_option maxHeartbeats 1000000 in
theorem t_16 (Ls : Nat) (xs : Nat → Int32) (d : Nat) (kp : Option Nat) (tl : List (Nat × Nat)) (rl : List (List (Option Nat))) (nh : Option Nat) (rh : Option Nat) (n : Nat) (I : FI) (L : FL) (r : FI × FL) (hf : f_16 n I L = some r) : pEN Ls xs (d + 1) 16 [.ref 15] (hp kp nh rh tl rl I L) = some (none, hp kp nh rh tl rl r.1 r.2) := by
  refine en_run (d := d + 0) (cd := cd_16) (f := (sf 3 rs_3 false 2 none Ls xs (d + 0))) rfl rfl (x := (0, [some (.ref 15), none], [], hp kp nh rh tl rl I L)) rfl rfl (Nat.le_of_ble_eq_true rfl) ?_
  unfold f_16 at hf
  refine bs_st 24 (x' := (40, [some (.ref 15), none], [], hp kp nh rh tl rl (u2 (u2 (u2 (u2 (u2 (u2 (u2 (u2 I 15 0 (0 : Int32)) 15 1 (0 : Int32)) 15 2 (0 : Int32)) 15 3 (0 : Int32)) 15 4 (0 : Int32)) 15 5 (0 : Int32)) 15 6 (0 : Int32)) 15 7 (0 : Int32)) L)) rfl ?_
  refine bs_st 2 (x' := (42, [some (.ref 15), some (.int (0 : Int32))], [], hp kp nh rh tl rl (u2 (u2 (u2 (u2 (u2 (u2 (u2 (u2 I 15 0 (0 : Int32)) 15 1 (0 : Int32)) 15 2 (0 : Int32)) 15 3 (0 : Int32)) 15 4 (0 : Int32)) 15 5 (0 : Int32)) 15 6 (0 : Int32)) 15 7 (0 : Int32)) L)) rfl ?_
  exact tc_16_0 Ls xs d kp tl rl nh rh n n (0 : Int32) (u2 (u2 (u2 (u2 (u2 (u2 (u2 (u2 I 15 0 (0 : Int32)) 15 1 (0 : Int32)) 15 2 (0 : Int32)) 15 3 (0 : Int32)) 15 4 (0 : Int32)) 15 5 (0 : Int32)) 15 6 (0 : Int32)) 15 7 (0 : Int32)) L r hf
/-- Reader.fail(I) on (14,) -/
def f_85 (x1 : Int32) (I : FI) (L : FL) : Option (FI × FL) :=
  if ¬ I 14 1 = 0 then
    some (I, L)
  else
    if pin (I 14 6) 501 = true then some ((u2 (u2 I 14 1 x1) 14 2 (I 24 ((I 14 6).toNatClampNeg))), L) else none
set_option maxHeartbeats 1000000 in
theorem t_85 (Ls : Nat) (xs : Nat → Int32) (d : Nat) (kp : Option Nat) (tl : List (Nat × Nat)) (rl : List (List (Option Nat))) (nh : Option Nat) (rh : Option Nat) (x1 : Int32) (I : FI) (L : FL) (r : FI × FL) (hf : f_85 x1 I L = some r) : pEN Ls xs (d + 1) 85 [.ref 14, .int x1] (hp kp nh rh tl rl I L) = some (none, hp kp nh rh tl rl r.1 r.2) := by
  refine en_run (d := d + 0) (cd := cd_85) (f := (sf 7 rs_7 false 2 none Ls xs (d + 0))) rfl rfl (x := (0, [some (.ref 14), some (.int x1)], [], hp kp nh rh tl rl I L)) rfl rfl (Nat.le_of_ble_eq_true rfl) ?_
  unfold f_85 at hf
  refine bs_st 2 (x' := (4, [some (.ref 14), some (.int x1)], [.int (I 14 1)], hp kp nh rh tl rl I L)) rfl ?_
  refine bs_br (t := 25) (e := 7) (lo := [some (.ref 14), some (.int x1)]) (st := []) (h := hp kp nh rh tl rl I L) rfl hf (fun hc hf => ?_) (fun hc hf => ?_)
  · cases hf
    exact bs_ret rfl
  · refine bs_st 8 (x' := (21, [some (.ref 14), some (.int x1)], [.int (I 14 6), .ref 24, .ref 14], hp kp nh rh tl rl (u2 I 14 1 x1) L)) rfl ?_
    refine bs_gd (x' := (22, [some (.ref 14), some (.int x1)], [.int (I 24 ((I 14 6).toNatClampNeg)), .ref 14], hp kp nh rh tl rl (u2 I 14 1 x1) L)) rfl hf (fun hc hf => ?_)
    refine bs_st 1 (x' := (25, [some (.ref 14), some (.int x1)], [], hp kp nh rh tl rl (u2 (u2 I 14 1 x1) 14 2 (I 24 ((I 14 6).toNatClampNeg))) L)) rfl ?_
    cases hf
    exact bs_ret rfl
/-- Reader.goOn() on (14,) -/
def f_84 (I : FI) (L : FL) : Option (FI × FL) :=
  if (500 : Int32) ≤ I 14 6 then
    some (I, L)
  else
    if pin (I 14 6) 501 = true then (if I 23 ((I 14 6).toNatClampNeg) = 0 then
        some (I, L)
      else
        some ((u2 I 14 6 ((I 14 6) + (1 : Int32))), L)) else none
set_option maxHeartbeats 1000000 in
theorem t_84 (Ls : Nat) (xs : Nat → Int32) (d : Nat) (kp : Option Nat) (tl : List (Nat × Nat)) (rl : List (List (Option Nat))) (nh : Option Nat) (rh : Option Nat) (I : FI) (L : FL) (r : FI × FL) (hf : f_84 I L = some r) : pEN Ls xs (d + 1) 84 [.ref 14] (hp kp nh rh tl rl I L) = some (none, hp kp nh rh tl rl r.1 r.2) := by
  refine en_run (d := d + 0) (cd := cd_84) (f := (sf 7 rs_7 false 1 none Ls xs (d + 0))) rfl rfl (x := (0, [some (.ref 14)], [], hp kp nh rh tl rl I L)) rfl rfl (Nat.le_of_ble_eq_true rfl) ?_
  unfold f_84 at hf
  refine bs_st 3 (x' := (7, [some (.ref 14)], [.int (500 : Int32), .int (I 14 6)], hp kp nh rh tl rl I L)) rfl ?_
  refine bs_br (t := 32) (e := 10) (lo := [some (.ref 14)]) (st := []) (h := hp kp nh rh tl rl I L) rfl hf (fun hc hf => ?_) (fun hc hf => ?_)
  · cases hf
    exact bs_ret rfl
  · refine bs_st 4 (x' := (18, [some (.ref 14)], [.int (I 14 6), .ref 23], hp kp nh rh tl rl I L)) rfl ?_
    refine bs_gd (x' := (19, [some (.ref 14)], [.int (I 23 ((I 14 6).toNatClampNeg))], hp kp nh rh tl rl I L)) rfl hf (fun hc hf => ?_)
    refine bs_br (t := 32) (e := 22) (lo := [some (.ref 14)]) (st := []) (h := hp kp nh rh tl rl I L) rfl hf (fun hc hf => ?_) (fun hc hf => ?_)
    · cases hf
      exact bs_ret rfl
    · refine bs_st 6 (x' := (32, [some (.ref 14)], [], hp kp nh rh tl rl (u2 I 14 6 ((I 14 6) + (1 : Int32))) L)) rfl ?_
      cases hf
      exact bs_ret rfl
/-- Reader.expect(I) on (14,) -/
def c_83_0 (I : FI) (L : FL) : Option (FI × FL) :=
  if ¬ I 14 1 = 0 then
    some (I, L)
  else
    (f_84 I L).bind fun q0 =>
    some (q0.1, q0.2)
set_option maxHeartbeats 1000000 in
theorem tc_83_0 (Ls : Nat) (xs : Nat → Int32) (d : Nat) (kp : Option Nat) (tl : List (Nat × Nat)) (rl : List (List (Option Nat))) (nh : Option Nat) (rh : Option Nat) (w1 : Option Value) (I : FI) (L : FL) (r : FI × FL) (hf : c_83_0 I L = some r) : Bs cd_83 (sf 7 rs_7 false 2 none Ls xs (d + 1)) (18, [some (.ref 14), w1], [], hp kp nh rh tl rl I L) (none, hp kp nh rh tl rl r.1 r.2) := by
  unfold c_83_0 at hf
  refine bs_st 2 (x' := (22, [some (.ref 14), w1], [.int (I 14 1)], hp kp nh rh tl rl I L)) rfl ?_
  refine bs_br (t := 29) (e := 25) (lo := [some (.ref 14), w1]) (st := []) (h := hp kp nh rh tl rl I L) rfl hf (fun hc hf => ?_) (fun hc hf => ?_)
  · cases hf
    exact bs_ret rfl
  · refine bs_st 1 (x' := (26, [some (.ref 14), w1], [.ref 14], hp kp nh rh tl rl I L)) rfl ?_
    obtain ⟨q0, hq0, hf⟩ := Option.bind_eq_some_iff.mp hf
    refine bs_call (o := pEN Ls xs (d + 1) 84 [.ref 14] (hp kp nh rh tl rl I L)) (w := none) (h' := hp kp nh rh tl rl q0.1 q0.2) (pc := 29) (lo := [some (.ref 14), w1]) (rest := []) rfl (t_84 Ls xs (d + 0) kp tl rl nh rh I L q0 hq0) ?_
    cases hf
    exact bs_ret rfl
def f_83 (x1 : Int32) (I : FI) (L : FL) : Option (FI × FL) :=
  if pin (I 14 6) 501 = true then (if I 23 ((I 14 6).toNatClampNeg) = x1 then
      c_83_0 I L
    else
      (f_85 (1 : Int32) I L).bind fun q1 =>
      c_83_0 q1.1 q1.2) else none
set_option maxHeartbeats 1000000 in
theorem t_83 (Ls : Nat) (xs : Nat → Int32) (d : Nat) (kp : Option Nat) (tl : List (Nat × Nat)) (rl : List (List (Option Nat))) (nh : Option Nat) (rh : Option Nat) (x1 : Int32) (I : FI) (L : FL) (r : FI × FL) (hf : f_83 x1 I L = some r) : pEN Ls xs (d + 2) 83 [.ref 14, .int x1] (hp kp nh rh tl rl I L) = some (none, hp kp nh rh tl rl r.1 r.2) := by
  refine en_run (d := d + 1) (cd := cd_83) (f := (sf 7 rs_7 false 2 none Ls xs (d + 1))) rfl rfl (x := (0, [some (.ref 14), some (.int x1)], [], hp kp nh rh tl rl I L)) rfl rfl (Nat.le_of_ble_eq_true rfl) ?_
  unfold f_83 at hf
  refine bs_st 4 (x' := (8, [some (.ref 14), some (.int x1)], [.int (I 14 6), .ref 23], hp kp nh rh tl rl I L)) rfl ?_
  refine bs_gd (x' := (9, [some (.ref 14), some (.int x1)], [.int (I 23 ((I 14 6).toNatClampNeg))], hp kp nh rh tl rl I L)) rfl hf (fun hc hf => ?_)
  refine bs_st 1 (x' := (10, [some (.ref 14), some (.int x1)], [.int x1, .int (I 23 ((I 14 6).toNatClampNeg))], hp kp nh rh tl rl I L)) rfl ?_
  refine bs_br (t := 18) (e := 13) (lo := [some (.ref 14), some (.int x1)]) (st := []) (h := hp kp nh rh tl rl I L) rfl hf (fun hc hf => ?_) (fun hc hf => ?_)
  · exact tc_83_0 Ls xs d kp tl rl nh rh (some (.int x1)) I L r hf
  · refine bs_st 2 (x' := (15, [some (.ref 14), some (.int x1)], [.int (1 : Int32), .ref 14], hp kp nh rh tl rl I L)) rfl ?_
    obtain ⟨q1, hq1, hf⟩ := Option.bind_eq_some_iff.mp hf
    refine bs_call (o := pEN Ls xs (d + 1) 85 [.ref 14, .int (1 : Int32)] (hp kp nh rh tl rl I L)) (w := none) (h' := hp kp nh rh tl rl q1.1 q1.2) (pc := 18) (lo := [some (.ref 14), some (.int x1)]) (rest := []) rfl (t_85 Ls xs (d + 0) kp tl rl nh rh (1 : Int32) I L q1 hq1) ?_
    exact tc_83_0 Ls xs d kp tl rl nh rh (some (.int x1)) q1.1 q1.2 r hf
/-- Reader.number(II) on (14,) -/
def c_82_1 (x1 : Int32) (x3 : Int32) (I : FI) (L : FL) : Option (Int32 × FI × FL) :=
  if I 14 1 = 0 then
    (f_84 I L).bind fun q1 =>
    some (x3, q1.1, q1.2)
  else
    some (x1, I, L)
set_option maxHeartbeats 1000000 in
theorem tc_82_1 (Ls : Nat) (xs : Nat → Int32) (d : Nat) (kp : Option Nat) (tl : List (Nat × Nat)) (rl : List (List (Option Nat))) (nh : Option Nat) (rh : Option Nat) (w2 : Option Value) (x1 : Int32) (x3 : Int32) (I : FI) (L : FL) (r : Int32 × FI × FL) (hf : c_82_1 x1 x3 I L = some r) : Bs cd_82 (sf 7 rs_7 false 4 (some (.int)) Ls xs (d + 1)) (46, [some (.ref 14), some (.int x1), w2, some (.int x3)], [], hp kp nh rh tl rl I L) (some (.int r.1), hp kp nh rh tl rl r.2.1 r.2.2) := by
  unfold c_82_1 at hf
  refine bs_st 2 (x' := (50, [some (.ref 14), some (.int x1), w2, some (.int x3)], [.int (I 14 1)], hp kp nh rh tl rl I L)) rfl ?_
  refine bs_br (t := 55) (e := 53) (lo := [some (.ref 14), some (.int x1), w2, some (.int x3)]) (st := []) (h := hp kp nh rh tl rl I L) rfl hf (fun hc hf => ?_) (fun hc hf => ?_)
  · refine bs_st 1 (x' := (56, [some (.ref 14), some (.int x1), w2, some (.int x3)], [.ref 14], hp kp nh rh tl rl I L)) rfl ?_
    obtain ⟨q1, hq1, hf⟩ := Option.bind_eq_some_iff.mp hf
    refine bs_call (o := pEN Ls xs (d + 1) 84 [.ref 14] (hp kp nh rh tl rl I L)) (w := none) (h' := hp kp nh rh tl rl q1.1 q1.2) (pc := 59) (lo := [some (.ref 14), some (.int x1), w2, some (.int x3)]) (rest := []) rfl (t_84 Ls xs (d + 0) kp tl rl nh rh I L q1 hq1) ?_
    refine bs_st 1 (x' := (60, [some (.ref 14), some (.int x1), w2, some (.int x3)], [.int x3], hp kp nh rh tl rl q1.1 q1.2)) rfl ?_
    cases hf
    exact bs_ret rfl
  · refine bs_st 1 (x' := (54, [some (.ref 14), some (.int x1), w2, some (.int x3)], [.int x1], hp kp nh rh tl rl I L)) rfl ?_
    cases hf
    exact bs_ret rfl
def c_82_0 (x1 : Int32) (x3 : Int32) (I : FI) (L : FL) : Option (Int32 × FI × FL) :=
  (f_85 (2 : Int32) I L).bind fun q0 =>
  c_82_1 x1 x3 q0.1 q0.2
set_option maxHeartbeats 1000000 in
theorem tc_82_0 (Ls : Nat) (xs : Nat → Int32) (d : Nat) (kp : Option Nat) (tl : List (Nat × Nat)) (rl : List (List (Option Nat))) (nh : Option Nat) (rh : Option Nat) (w2 : Option Value) (x1 : Int32) (x3 : Int32) (I : FI) (L : FL) (r : Int32 × FI × FL) (hf : c_82_0 x1 x3 I L = some r) : Bs cd_82 (sf 7 rs_7 false 4 (some (.int)) Ls xs (d + 1)) (41, [some (.ref 14), some (.int x1), w2, some (.int x3)], [], hp kp nh rh tl rl I L) (some (.int r.1), hp kp nh rh tl rl r.2.1 r.2.2) := by
  unfold c_82_0 at hf
  refine bs_st 2 (x' := (43, [some (.ref 14), some (.int x1), w2, some (.int x3)], [.int (2 : Int32), .ref 14], hp kp nh rh tl rl I L)) rfl ?_
  obtain ⟨q0, hq0, hf⟩ := Option.bind_eq_some_iff.mp hf
  refine bs_call (o := pEN Ls xs (d + 1) 85 [.ref 14, .int (2 : Int32)] (hp kp nh rh tl rl I L)) (w := none) (h' := hp kp nh rh tl rl q0.1 q0.2) (pc := 46) (lo := [some (.ref 14), some (.int x1), w2, some (.int x3)]) (rest := []) rfl (t_85 Ls xs (d + 0) kp tl rl nh rh (2 : Int32) I L q0 hq0) ?_
  exact tc_82_1 Ls xs d kp tl rl nh rh w2 x1 x3 q0.1 q0.2 r hf
def f_82 (x1 : Int32) (x2 : Int32) (I : FI) (L : FL) : Option (Int32 × FI × FL) :=
  if pin (I 14 6) 501 = true then (if pin (I 14 6) 501 = true then (if I 23 ((I 14 6).toNatClampNeg) = (2 : Int32) then
        if I 25 ((I 14 6).toNatClampNeg) < x1 then
          c_82_0 x1 (I 25 ((I 14 6).toNatClampNeg)) I L
        else
          if I 25 ((I 14 6).toNatClampNeg) ≤ x2 then
            c_82_1 x1 (I 25 ((I 14 6).toNatClampNeg)) I L
          else
            c_82_0 x1 (I 25 ((I 14 6).toNatClampNeg)) I L
      else
        (f_85 (1 : Int32) I L).bind fun q2 =>
        c_82_1 x1 (I 25 ((I 14 6).toNatClampNeg)) q2.1 q2.2) else none) else none
set_option maxHeartbeats 1000000 in
theorem t_82 (Ls : Nat) (xs : Nat → Int32) (d : Nat) (kp : Option Nat) (tl : List (Nat × Nat)) (rl : List (List (Option Nat))) (nh : Option Nat) (rh : Option Nat) (x1 : Int32) (x2 : Int32) (I : FI) (L : FL) (r : Int32 × FI × FL) (hf : f_82 x1 x2 I L = some r) : pEN Ls xs (d + 2) 82 [.ref 14, .int x1, .int x2] (hp kp nh rh tl rl I L) = some (some (.int r.1), hp kp nh rh tl rl r.2.1 r.2.2) := by
  refine en_run (d := d + 1) (cd := cd_82) (f := (sf 7 rs_7 false 4 (some (.int)) Ls xs (d + 1))) rfl rfl (x := (0, [some (.ref 14), some (.int x1), some (.int x2), none], [], hp kp nh rh tl rl I L)) rfl rfl (Nat.le_of_ble_eq_true rfl) ?_
  unfold f_82 at hf
  refine bs_st 4 (x' := (8, [some (.ref 14), some (.int x1), some (.int x2), none], [.int (I 14 6), .ref 25], hp kp nh rh tl rl I L)) rfl ?_
  refine bs_gd (x' := (9, [some (.ref 14), some (.int x1), some (.int x2), none], [.int (I 25 ((I 14 6).toNatClampNeg))], hp kp nh rh tl rl I L)) rfl hf (fun hc hf => ?_)
  refine bs_st 5 (x' := (18, [some (.ref 14), some (.int x1), some (.int x2), some (.int (I 25 ((I 14 6).toNatClampNeg)))], [.int (I 14 6), .ref 23], hp kp nh rh tl rl I L)) rfl ?_
  refine bs_gd (x' := (19, [some (.ref 14), some (.int x1), some (.int x2), some (.int (I 25 ((I 14 6).toNatClampNeg)))], [.int (I 23 ((I 14 6).toNatClampNeg))], hp kp nh rh tl rl I L)) rfl hf (fun hc hf => ?_)
  refine bs_st 1 (x' := (20, [some (.ref 14), some (.int x1), some (.int x2), some (.int (I 25 ((I 14 6).toNatClampNeg)))], [.int (2 : Int32), .int (I 23 ((I 14 6).toNatClampNeg))], hp kp nh rh tl rl I L)) rfl ?_
  refine bs_br (t := 31) (e := 23) (lo := [some (.ref 14), some (.int x1), some (.int x2), some (.int (I 25 ((I 14 6).toNatClampNeg)))]) (st := []) (h := hp kp nh rh tl rl I L) rfl hf (fun hc hf => ?_) (fun hc hf => ?_)
  · refine bs_st 2 (x' := (33, [some (.ref 14), some (.int x1), some (.int x2), some (.int (I 25 ((I 14 6).toNatClampNeg)))], [.int x1, .int (I 25 ((I 14 6).toNatClampNeg))], hp kp nh rh tl rl I L)) rfl ?_
    refine bs_br (t := 41) (e := 36) (lo := [some (.ref 14), some (.int x1), some (.int x2), some (.int (I 25 ((I 14 6).toNatClampNeg)))]) (st := []) (h := hp kp nh rh tl rl I L) rfl hf (fun hc hf => ?_) (fun hc hf => ?_)
    · exact tc_82_0 Ls xs d kp tl rl nh rh (some (.int x2)) x1 (I 25 ((I 14 6).toNatClampNeg)) I L r hf
    · refine bs_st 2 (x' := (38, [some (.ref 14), some (.int x1), some (.int x2), some (.int (I 25 ((I 14 6).toNatClampNeg)))], [.int x2, .int (I 25 ((I 14 6).toNatClampNeg))], hp kp nh rh tl rl I L)) rfl ?_
      refine bs_br (t := 46) (e := 41) (lo := [some (.ref 14), some (.int x1), some (.int x2), some (.int (I 25 ((I 14 6).toNatClampNeg)))]) (st := []) (h := hp kp nh rh tl rl I L) rfl hf (fun hc hf => ?_) (fun hc hf => ?_)
      · exact tc_82_1 Ls xs d kp tl rl nh rh (some (.int x2)) x1 (I 25 ((I 14 6).toNatClampNeg)) I L r hf
      · exact tc_82_0 Ls xs d kp tl rl nh rh (some (.int x2)) x1 (I 25 ((I 14 6).toNatClampNeg)) I L r hf
  · refine bs_st 2 (x' := (25, [some (.ref 14), some (.int x1), some (.int x2), some (.int (I 25 ((I 14 6).toNatClampNeg)))], [.int (1 : Int32), .ref 14], hp kp nh rh tl rl I L)) rfl ?_
    obtain ⟨q2, hq2, hf⟩ := Option.bind_eq_some_iff.mp hf
    refine bs_call (o := pEN Ls xs (d + 1) 85 [.ref 14, .int (1 : Int32)] (hp kp nh rh tl rl I L)) (w := none) (h' := hp kp nh rh tl rl q2.1 q2.2) (pc := 28) (lo := [some (.ref 14), some (.int x1), some (.int x2), some (.int (I 25 ((I 14 6).toNatClampNeg)))]) (rest := []) rfl (t_85 Ls xs (d + 0) kp tl rl nh rh (1 : Int32) I L q2 hq2) ?_
    refine bs_st 1 (x' := (46, [some (.ref 14), some (.int x1), some (.int x2), some (.int (I 25 ((I 14 6).toNatClampNeg)))], [], hp kp nh rh tl rl q2.1 q2.2)) rfl ?_
    exact tc_82_1 Ls xs d kp tl rl nh rh (some (.int x2)) x1 (I 25 ((I 14 6).toNatClampNeg)) q2.1 q2.2 r hf
/-- Reader.readHead() on (14,) -/
def f_76 (I : FI) (L : FL) : Option (FI × FL) :=
  (f_83 (4 : Int32) I L).bind fun q0 =>
  (f_83 (5 : Int32) q0.1 q0.2).bind fun q1 =>
  (f_82 (0 : Int32) (3 : Int32) q1.1 q1.2).bind fun q2 =>
  (f_83 (6 : Int32) (u2 q2.2.1 15 1 q2.1) q2.2.2).bind fun q3 =>
  (f_82 (0 : Int32) (10 : Int32) q3.1 q3.2).bind fun q4 =>
  (f_83 (7 : Int32) (u2 q4.2.1 15 2 q4.1) q4.2.2).bind fun q5 =>
  (f_82 (1 : Int32) (30 : Int32) q5.1 q5.2).bind fun q6 =>
  some ((u2 q6.2.1 15 3 q6.1), q6.2.2)
set_option maxHeartbeats 1000000 in
theorem t_76 (Ls : Nat) (xs : Nat → Int32) (d : Nat) (kp : Option Nat) (tl : List (Nat × Nat)) (rl : List (List (Option Nat))) (nh : Option Nat) (rh : Option Nat) (I : FI) (L : FL) (r : FI × FL) (hf : f_76 I L = some r) : pEN Ls xs (d + 3) 76 [.ref 14] (hp kp nh rh tl rl I L) = some (none, hp kp nh rh tl rl r.1 r.2) := by
  refine en_run (d := d + 2) (cd := cd_76) (f := (sf 7 rs_7 false 1 none Ls xs (d + 2))) rfl rfl (x := (0, [some (.ref 14)], [], hp kp nh rh tl rl I L)) rfl rfl (Nat.le_of_ble_eq_true rfl) ?_
  unfold f_76 at hf
  refine bs_st 2 (x' := (2, [some (.ref 14)], [.int (4 : Int32), .ref 14], hp kp nh rh tl rl I L)) rfl ?_
  obtain ⟨q0, hq0, hf⟩ := Option.bind_eq_some_iff.mp hf
  refine bs_call (o := pEN Ls xs (d + 2) 83 [.ref 14, .int (4 : Int32)] (hp kp nh rh tl rl I L)) (w := none) (h' := hp kp nh rh tl rl q0.1 q0.2) (pc := 5) (lo := [some (.ref 14)]) (rest := []) rfl (t_83 Ls xs (d + 0) kp tl rl nh rh (4 : Int32) I L q0 hq0) ?_
  refine bs_st 2 (x' := (7, [some (.ref 14)], [.int (5 : Int32), .ref 14], hp kp nh rh tl rl q0.1 q0.2)) rfl ?_
  obtain ⟨q1, hq1, hf⟩ := Option.bind_eq_some_iff.mp hf
  refine bs_call (o := pEN Ls xs (d + 2) 83 [.ref 14, .int (5 : Int32)] (hp kp nh rh tl rl q0.1 q0.2)) (w := none) (h' := hp kp nh rh tl rl q1.1 q1.2) (pc := 10) (lo := [some (.ref 14)]) (rest := []) rfl (t_83 Ls xs (d + 0) kp tl rl nh rh (5 : Int32) q0.1 q0.2 q1 hq1) ?_
  refine bs_st 5 (x' := (17, [some (.ref 14)], [.int (3 : Int32), .int (0 : Int32), .ref 14, .ref 15], hp kp nh rh tl rl q1.1 q1.2)) rfl ?_
  obtain ⟨q2, hq2, hf⟩ := Option.bind_eq_some_iff.mp hf
  refine bs_call (o := pEN Ls xs (d + 2) 82 [.ref 14, .int (0 : Int32), .int (3 : Int32)] (hp kp nh rh tl rl q1.1 q1.2)) (w := some (.int q2.1)) (h' := hp kp nh rh tl rl q2.2.1 q2.2.2) (pc := 20) (lo := [some (.ref 14)]) (rest := [.ref 15]) rfl (t_82 Ls xs (d + 0) kp tl rl nh rh (0 : Int32) (3 : Int32) q1.1 q1.2 q2 hq2) ?_
  refine bs_st 3 (x' := (26, [some (.ref 14)], [.int (6 : Int32), .ref 14], hp kp nh rh tl rl (u2 q2.2.1 15 1 q2.1) q2.2.2)) rfl ?_
  obtain ⟨q3, hq3, hf⟩ := Option.bind_eq_some_iff.mp hf
  refine bs_call (o := pEN Ls xs (d + 2) 83 [.ref 14, .int (6 : Int32)] (hp kp nh rh tl rl (u2 q2.2.1 15 1 q2.1) q2.2.2)) (w := none) (h' := hp kp nh rh tl rl q3.1 q3.2) (pc := 29) (lo := [some (.ref 14)]) (rest := []) rfl (t_83 Ls xs (d + 0) kp tl rl nh rh (6 : Int32) (u2 q2.2.1 15 1 q2.1) q2.2.2 q3 hq3) ?_
  refine bs_st 5 (x' := (37, [some (.ref 14)], [.int (10 : Int32), .int (0 : Int32), .ref 14, .ref 15], hp kp nh rh tl rl q3.1 q3.2)) rfl ?_
  obtain ⟨q4, hq4, hf⟩ := Option.bind_eq_some_iff.mp hf
  refine bs_call (o := pEN Ls xs (d + 2) 82 [.ref 14, .int (0 : Int32), .int (10 : Int32)] (hp kp nh rh tl rl q3.1 q3.2)) (w := some (.int q4.1)) (h' := hp kp nh rh tl rl q4.2.1 q4.2.2) (pc := 40) (lo := [some (.ref 14)]) (rest := [.ref 15]) rfl (t_82 Ls xs (d + 0) kp tl rl nh rh (0 : Int32) (10 : Int32) q3.1 q3.2 q4 hq4) ?_
  refine bs_st 3 (x' := (46, [some (.ref 14)], [.int (7 : Int32), .ref 14], hp kp nh rh tl rl (u2 q4.2.1 15 2 q4.1) q4.2.2)) rfl ?_
  obtain ⟨q5, hq5, hf⟩ := Option.bind_eq_some_iff.mp hf
  refine bs_call (o := pEN Ls xs (d + 2) 83 [.ref 14, .int (7 : Int32)] (hp kp nh rh tl rl (u2 q4.2.1 15 2 q4.1) q4.2.2)) (w := none) (h' := hp kp nh rh tl rl q5.1 q5.2) (pc := 49) (lo := [some (.ref 14)]) (rest := []) rfl (t_83 Ls xs (d + 0) kp tl rl nh rh (7 : Int32) (u2 q4.2.1 15 2 q4.1) q4.2.2 q5 hq5) ?_
  refine bs_st 5 (x' := (57, [some (.ref 14)], [.int (30 : Int32), .int (1 : Int32), .ref 14, .ref 15], hp kp nh rh tl rl q5.1 q5.2)) rfl ?_
  obtain ⟨q6, hq6, hf⟩ := Option.bind_eq_some_iff.mp hf
  refine bs_call (o := pEN Ls xs (d + 2) 82 [.ref 14, .int (1 : Int32), .int (30 : Int32)] (hp kp nh rh tl rl q5.1 q5.2)) (w := some (.int q6.1)) (h' := hp kp nh rh tl rl q6.2.1 q6.2.2) (pc := 60) (lo := [some (.ref 14)]) (rest := [.ref 15]) rfl (t_82 Ls xs (d + 0) kp tl rl nh rh (1 : Int32) (30 : Int32) q5.1 q5.2 q6 hq6) ?_
  refine bs_st 1 (x' := (63, [some (.ref 14)], [], hp kp nh rh tl rl (u2 q6.2.1 15 3 q6.1) q6.2.2)) rfl ?_
  cases hf
  exact bs_ret rfl
/-- Reader.readRoom() on (14,) -/
def f_77 (I : FI) (L : FL) : Option (FI × FL) :=
  if I 15 4 < (4 : Int32) then
    (f_83 (8 : Int32) I L).bind fun q0 =>
    (f_83 (9 : Int32) q0.1 q0.2).bind fun q1 =>
    (f_82 (1 : Int32) (7 : Int32) q1.1 q1.2).bind fun q2 =>
    if pin (q1.1 15 4) 4 = true then ((f_83 (10 : Int32) (u2 q2.2.1 16 ((q1.1 15 4).toNatClampNeg) q2.1) q2.2.2).bind fun q3 =>
      (f_82 (0 : Int32) (99 : Int32) q3.1 q3.2).bind fun q4 =>
      if pin (q3.1 15 4) 4 = true then some ((u2 (u2 q4.2.1 17 ((q3.1 15 4).toNatClampNeg) q4.1) 15 4 ((q4.2.1 15 4) + (1 : Int32))), q4.2.2) else none) else none
  else
    (f_85 (3 : Int32) I L).bind fun q5 =>
    some (q5.1, q5.2)
set_option maxHeartbeats 1000000 in
theorem t_77 (Ls : Nat) (xs : Nat → Int32) (d : Nat) (kp : Option Nat) (tl : List (Nat × Nat)) (rl : List (List (Option Nat))) (nh : Option Nat) (rh : Option Nat) (I : FI) (L : FL) (r : FI × FL) (hf : f_77 I L = some r) : pEN Ls xs (d + 3) 77 [.ref 14] (hp kp nh rh tl rl I L) = some (none, hp kp nh rh tl rl r.1 r.2) := by
  refine en_run (d := d + 2) (cd := cd_77) (f := (sf 7 rs_7 false 1 none Ls xs (d + 2))) rfl rfl (x := (0, [some (.ref 14)], [], hp kp nh rh tl rl I L)) rfl rfl (Nat.le_of_ble_eq_true rfl) ?_
  unfold f_77 at hf
  refine bs_st 4 (x' := (8, [some (.ref 14)], [.int (4 : Int32), .int (I 15 4)], hp kp nh rh tl rl I L)) rfl ?_
  refine bs_br (t := 17) (e := 11) (lo := [some (.ref 14)]) (st := []) (h := hp kp nh rh tl rl I L) rfl hf (fun hc hf => ?_) (fun hc hf => ?_)
  · refine bs_st 2 (x' := (20, [some (.ref 14)], [.int (8 : Int32), .ref 14], hp kp nh rh tl rl I L)) rfl ?_
    obtain ⟨q0, hq0, hf⟩ := Option.bind_eq_some_iff.mp hf
    refine bs_call (o := pEN Ls xs (d + 2) 83 [.ref 14, .int (8 : Int32)] (hp kp nh rh tl rl I L)) (w := none) (h' := hp kp nh rh tl rl q0.1 q0.2) (pc := 23) (lo := [some (.ref 14)]) (rest := []) rfl (t_83 Ls xs (d + 0) kp tl rl nh rh (8 : Int32) I L q0 hq0) ?_
    refine bs_st 2 (x' := (26, [some (.ref 14)], [.int (9 : Int32), .ref 14], hp kp nh rh tl rl q0.1 q0.2)) rfl ?_
    obtain ⟨q1, hq1, hf⟩ := Option.bind_eq_some_iff.mp hf
    refine bs_call (o := pEN Ls xs (d + 2) 83 [.ref 14, .int (9 : Int32)] (hp kp nh rh tl rl q0.1 q0.2)) (w := none) (h' := hp kp nh rh tl rl q1.1 q1.2) (pc := 29) (lo := [some (.ref 14)]) (rest := []) rfl (t_83 Ls xs (d + 0) kp tl rl nh rh (9 : Int32) q0.1 q0.2 q1 hq1) ?_
    refine bs_st 9 (x' := (47, [some (.ref 14)], [.int (7 : Int32), .int (1 : Int32), .ref 14, .int (q1.1 15 4), .ref 16], hp kp nh rh tl rl q1.1 q1.2)) rfl ?_
    obtain ⟨q2, hq2, hf⟩ := Option.bind_eq_some_iff.mp hf
    refine bs_call (o := pEN Ls xs (d + 2) 82 [.ref 14, .int (1 : Int32), .int (7 : Int32)] (hp kp nh rh tl rl q1.1 q1.2)) (w := some (.int q2.1)) (h' := hp kp nh rh tl rl q2.2.1 q2.2.2) (pc := 50) (lo := [some (.ref 14)]) (rest := [.int (q1.1 15 4), .ref 16]) rfl (t_82 Ls xs (d + 0) kp tl rl nh rh (1 : Int32) (7 : Int32) q1.1 q1.2 q2 hq2) ?_
    refine bs_gd (x' := (51, [some (.ref 14)], [], hp kp nh rh tl rl (u2 q2.2.1 16 ((q1.1 15 4).toNatClampNeg) q2.1) q2.2.2)) rfl hf (fun hc hf => ?_)
    refine bs_st 2 (x' := (54, [some (.ref 14)], [.int (10 : Int32), .ref 14], hp kp nh rh tl rl (u2 q2.2.1 16 ((q1.1 15 4).toNatClampNeg) q2.1) q2.2.2)) rfl ?_
    obtain ⟨q3, hq3, hf⟩ := Option.bind_eq_some_iff.mp hf
    refine bs_call (o := pEN Ls xs (d + 2) 83 [.ref 14, .int (10 : Int32)] (hp kp nh rh tl rl (u2 q2.2.1 16 ((q1.1 15 4).toNatClampNeg) q2.1) q2.2.2)) (w := none) (h' := hp kp nh rh tl rl q3.1 q3.2) (pc := 57) (lo := [some (.ref 14)]) (rest := []) rfl (t_83 Ls xs (d + 0) kp tl rl nh rh (10 : Int32) (u2 q2.2.1 16 ((q1.1 15 4).toNatClampNeg) q2.1) q2.2.2 q3 hq3) ?_
    refine bs_st 9 (x' := (75, [some (.ref 14)], [.int (99 : Int32), .int (0 : Int32), .ref 14, .int (q3.1 15 4), .ref 17], hp kp nh rh tl rl q3.1 q3.2)) rfl ?_
    obtain ⟨q4, hq4, hf⟩ := Option.bind_eq_some_iff.mp hf
    refine bs_call (o := pEN Ls xs (d + 2) 82 [.ref 14, .int (0 : Int32), .int (99 : Int32)] (hp kp nh rh tl rl q3.1 q3.2)) (w := some (.int q4.1)) (h' := hp kp nh rh tl rl q4.2.1 q4.2.2) (pc := 78) (lo := [some (.ref 14)]) (rest := [.int (q3.1 15 4), .ref 17]) rfl (t_82 Ls xs (d + 0) kp tl rl nh rh (0 : Int32) (99 : Int32) q3.1 q3.2 q4 hq4) ?_
    refine bs_gd (x' := (79, [some (.ref 14)], [], hp kp nh rh tl rl (u2 q4.2.1 17 ((q3.1 15 4).toNatClampNeg) q4.1) q4.2.2)) rfl hf (fun hc hf => ?_)
    refine bs_st 7 (x' := (92, [some (.ref 14)], [], hp kp nh rh tl rl (u2 (u2 q4.2.1 17 ((q3.1 15 4).toNatClampNeg) q4.1) 15 4 ((q4.2.1 15 4) + (1 : Int32))) q4.2.2)) rfl ?_
    cases hf
    exact bs_ret rfl
  · refine bs_st 2 (x' := (13, [some (.ref 14)], [.int (3 : Int32), .ref 14], hp kp nh rh tl rl I L)) rfl ?_
    obtain ⟨q5, hq5, hf⟩ := Option.bind_eq_some_iff.mp hf
    refine bs_call (o := pEN Ls xs (d + 2) 85 [.ref 14, .int (3 : Int32)] (hp kp nh rh tl rl I L)) (w := none) (h' := hp kp nh rh tl rl q5.1 q5.2) (pc := 16) (lo := [some (.ref 14)]) (rest := []) rfl (t_85 Ls xs (d + 1) kp tl rl nh rh (3 : Int32) I L q5 hq5) ?_
    cases hf
    exact bs_ret rfl
/-- Reader.readWay() on (14,) -/
def c_78_0 (x1 : Int32) (I : FI) (L : FL) : Option (FI × FL) :=
  (f_82 (0 : Int32) ((I 15 4) - (1 : Int32)) I L).bind fun q2 =>
  if ¬ q2.2.1 14 1 = 0 then
    some (q2.2.1, q2.2.2)
  else
    if pin x1 4 = true then (if pin x1 4 = true then (if pin q2.1 4 = true then (if pin q2.1 4 = true then some ((u2 (u2 (u2 q2.2.1 18 x1.toNatClampNeg ((q2.2.1 18 x1.toNatClampNeg) ||| ((1 : Int32) <<< (q2.1 &&& 31)))) 18 q2.1.toNatClampNeg (((u2 q2.2.1 18 x1.toNatClampNeg ((q2.2.1 18 x1.toNatClampNeg) ||| ((1 : Int32) <<< (q2.1 &&& 31)))) 18 q2.1.toNatClampNeg) ||| ((1 : Int32) <<< (x1 &&& 31)))) 15 5 ((q2.2.1 15 5) + (1 : Int32))), q2.2.2) else none) else none) else none) else none
set_option maxHeartbeats 1000000 in
theorem tc_78_0 (Ls : Nat) (xs : Nat → Int32) (d : Nat) (kp : Option Nat) (tl : List (Nat × Nat)) (rl : List (List (Option Nat))) (nh : Option Nat) (rh : Option Nat) (w2 : Option Value) (x1 : Int32) (I : FI) (L : FL) (r : FI × FL) (hf : c_78_0 x1 I L = some r) : Bs cd_78 (sf 7 rs_7 false 3 none Ls xs (d + 2)) (70, [some (.ref 14), some (.int x1), w2], [], hp kp nh rh tl rl I L) (none, hp kp nh rh tl rl r.1 r.2) := by
  unfold c_78_0 at hf
  refine bs_st 7 (x' := (81, [some (.ref 14), some (.int x1), w2], [.int ((I 15 4) - (1 : Int32)), .int (0 : Int32), .ref 14], hp kp nh rh tl rl I L)) rfl ?_
  obtain ⟨q2, hq2, hf⟩ := Option.bind_eq_some_iff.mp hf
  refine bs_call (o := pEN Ls xs (d + 2) 82 [.ref 14, .int (0 : Int32), .int ((I 15 4) - (1 : Int32))] (hp kp nh rh tl rl I L)) (w := some (.int q2.1)) (h' := hp kp nh rh tl rl q2.2.1 q2.2.2) (pc := 84) (lo := [some (.ref 14), some (.int x1), w2]) (rest := []) rfl (t_82 Ls xs (d + 0) kp tl rl nh rh (0 : Int32) ((I 15 4) - (1 : Int32)) I L q2 hq2) ?_
  refine bs_st 3 (x' := (89, [some (.ref 14), some (.int x1), some (.int q2.1)], [.int (q2.2.1 14 1)], hp kp nh rh tl rl q2.2.1 q2.2.2)) rfl ?_
  refine bs_br (t := 135) (e := 92) (lo := [some (.ref 14), some (.int x1), some (.int q2.1)]) (st := []) (h := hp kp nh rh tl rl q2.2.1 q2.2.2) rfl hf (fun hc hf => ?_) (fun hc hf => ?_)
  · cases hf
    exact bs_ret rfl
  · refine bs_st 5 (x' := (101, [some (.ref 14), some (.int x1), some (.int q2.1)], [.int x1, .ref 18, .int x1, .ref 18], hp kp nh rh tl rl q2.2.1 q2.2.2)) rfl ?_
    refine bs_gd (x' := (102, [some (.ref 14), some (.int x1), some (.int q2.1)], [.int (q2.2.1 18 x1.toNatClampNeg), .int x1, .ref 18], hp kp nh rh tl rl q2.2.1 q2.2.2)) rfl hf (fun hc hf => ?_)
    refine bs_st 4 (x' := (106, [some (.ref 14), some (.int x1), some (.int q2.1)], [.int ((q2.2.1 18 x1.toNatClampNeg) ||| ((1 : Int32) <<< (q2.1 &&& 31))), .int x1, .ref 18], hp kp nh rh tl rl q2.2.1 q2.2.2)) rfl ?_
    refine bs_gd (x' := (107, [some (.ref 14), some (.int x1), some (.int q2.1)], [], hp kp nh rh tl rl (u2 q2.2.1 18 x1.toNatClampNeg ((q2.2.1 18 x1.toNatClampNeg) ||| ((1 : Int32) <<< (q2.1 &&& 31)))) q2.2.2)) rfl hf (fun hc hf => ?_)
    refine bs_st 5 (x' := (116, [some (.ref 14), some (.int x1), some (.int q2.1)], [.int q2.1, .ref 18, .int q2.1, .ref 18], hp kp nh rh tl rl (u2 q2.2.1 18 x1.toNatClampNeg ((q2.2.1 18 x1.toNatClampNeg) ||| ((1 : Int32) <<< (q2.1 &&& 31)))) q2.2.2)) rfl ?_
    refine bs_gd (x' := (117, [some (.ref 14), some (.int x1), some (.int q2.1)], [.int ((u2 q2.2.1 18 x1.toNatClampNeg ((q2.2.1 18 x1.toNatClampNeg) ||| ((1 : Int32) <<< (q2.1 &&& 31)))) 18 q2.1.toNatClampNeg), .int q2.1, .ref 18], hp kp nh rh tl rl (u2 q2.2.1 18 x1.toNatClampNeg ((q2.2.1 18 x1.toNatClampNeg) ||| ((1 : Int32) <<< (q2.1 &&& 31)))) q2.2.2)) rfl hf (fun hc hf => ?_)
    refine bs_st 4 (x' := (121, [some (.ref 14), some (.int x1), some (.int q2.1)], [.int (((u2 q2.2.1 18 x1.toNatClampNeg ((q2.2.1 18 x1.toNatClampNeg) ||| ((1 : Int32) <<< (q2.1 &&& 31)))) 18 q2.1.toNatClampNeg) ||| ((1 : Int32) <<< (x1 &&& 31))), .int q2.1, .ref 18], hp kp nh rh tl rl (u2 q2.2.1 18 x1.toNatClampNeg ((q2.2.1 18 x1.toNatClampNeg) ||| ((1 : Int32) <<< (q2.1 &&& 31)))) q2.2.2)) rfl ?_
    refine bs_gd (x' := (122, [some (.ref 14), some (.int x1), some (.int q2.1)], [], hp kp nh rh tl rl (u2 (u2 q2.2.1 18 x1.toNatClampNeg ((q2.2.1 18 x1.toNatClampNeg) ||| ((1 : Int32) <<< (q2.1 &&& 31)))) 18 q2.1.toNatClampNeg (((u2 q2.2.1 18 x1.toNatClampNeg ((q2.2.1 18 x1.toNatClampNeg) ||| ((1 : Int32) <<< (q2.1 &&& 31)))) 18 q2.1.toNatClampNeg) ||| ((1 : Int32) <<< (x1 &&& 31)))) q2.2.2)) rfl hf (fun hc hf => ?_)
    refine bs_st 7 (x' := (135, [some (.ref 14), some (.int x1), some (.int q2.1)], [], hp kp nh rh tl rl (u2 (u2 (u2 q2.2.1 18 x1.toNatClampNeg ((q2.2.1 18 x1.toNatClampNeg) ||| ((1 : Int32) <<< (q2.1 &&& 31)))) 18 q2.1.toNatClampNeg (((u2 q2.2.1 18 x1.toNatClampNeg ((q2.2.1 18 x1.toNatClampNeg) ||| ((1 : Int32) <<< (q2.1 &&& 31)))) 18 q2.1.toNatClampNeg) ||| ((1 : Int32) <<< (x1 &&& 31)))) 15 5 ((q2.2.1 15 5) + (1 : Int32))) q2.2.2)) rfl ?_
    cases hf
    exact bs_ret rfl
def f_78 (I : FI) (L : FL) : Option (FI × FL) :=
  if I 15 5 < (6 : Int32) then
    (f_83 (11 : Int32) I L).bind fun q0 =>
    (f_82 (0 : Int32) ((q0.1 15 4) - (1 : Int32)) q0.1 q0.2).bind fun q1 =>
    if pin (q1.2.1 14 6) 501 = true then (if ¬ q1.2.1 23 ((q1.2.1 14 6).toNatClampNeg) = (2 : Int32) then
        c_78_0 q1.1 q1.2.1 q1.2.2
      else
        if pin (q1.2.1 14 6) 501 = true then (if ¬ q1.2.1 25 ((q1.2.1 14 6).toNatClampNeg) = q1.1 then
            c_78_0 q1.1 q1.2.1 q1.2.2
          else
            (f_85 (2 : Int32) q1.2.1 q1.2.2).bind fun q3 =>
            c_78_0 q1.1 q3.1 q3.2) else none) else none
  else
    (f_85 (3 : Int32) I L).bind fun q4 =>
    some (q4.1, q4.2)
set_option maxHeartbeats 1000000 in
theorem t_78 (Ls : Nat) (xs : Nat → Int32) (d : Nat) (kp : Option Nat) (tl : List (Nat × Nat)) (rl : List (List (Option Nat))) (nh : Option Nat) (rh : Option Nat) (I : FI) (L : FL) (r : FI × FL) (hf : f_78 I L = some r) : pEN Ls xs (d + 3) 78 [.ref 14] (hp kp nh rh tl rl I L) = some (none, hp kp nh rh tl rl r.1 r.2) := by
  refine en_run (d := d + 2) (cd := cd_78) (f := (sf 7 rs_7 false 3 none Ls xs (d + 2))) rfl rfl (x := (0, [some (.ref 14), none, none], [], hp kp nh rh tl rl I L)) rfl rfl (Nat.le_of_ble_eq_true rfl) ?_
  unfold f_78 at hf
  refine bs_st 4 (x' := (9, [some (.ref 14), none, none], [.int (6 : Int32), .int (I 15 5)], hp kp nh rh tl rl I L)) rfl ?_
  refine bs_br (t := 18) (e := 12) (lo := [some (.ref 14), none, none]) (st := []) (h := hp kp nh rh tl rl I L) rfl hf (fun hc hf => ?_) (fun hc hf => ?_)
  · refine bs_st 2 (x' := (21, [some (.ref 14), none, none], [.int (11 : Int32), .ref 14], hp kp nh rh tl rl I L)) rfl ?_
    obtain ⟨q0, hq0, hf⟩ := Option.bind_eq_some_iff.mp hf
    refine bs_call (o := pEN Ls xs (d + 2) 83 [.ref 14, .int (11 : Int32)] (hp kp nh rh tl rl I L)) (w := none) (h' := hp kp nh rh tl rl q0.1 q0.2) (pc := 24) (lo := [some (.ref 14), none, none]) (rest := []) rfl (t_83 Ls xs (d + 0) kp tl rl nh rh (11 : Int32) I L q0 hq0) ?_
    refine bs_st 7 (x' := (35, [some (.ref 14), none, none], [.int ((q0.1 15 4) - (1 : Int32)), .int (0 : Int32), .ref 14], hp kp nh rh tl rl q0.1 q0.2)) rfl ?_
    obtain ⟨q1, hq1, hf⟩ := Option.bind_eq_some_iff.mp hf
    refine bs_call (o := pEN Ls xs (d + 2) 82 [.ref 14, .int (0 : Int32), .int ((q0.1 15 4) - (1 : Int32))] (hp kp nh rh tl rl q0.1 q0.2)) (w := some (.int q1.1)) (h' := hp kp nh rh tl rl q1.2.1 q1.2.2) (pc := 38) (lo := [some (.ref 14), none, none]) (rest := []) rfl (t_82 Ls xs (d + 0) kp tl rl nh rh (0 : Int32) ((q0.1 15 4) - (1 : Int32)) q0.1 q0.2 q1 hq1) ?_
    refine bs_st 5 (x' := (47, [some (.ref 14), some (.int q1.1), none], [.int (q1.2.1 14 6), .ref 23], hp kp nh rh tl rl q1.2.1 q1.2.2)) rfl ?_
    refine bs_gd (x' := (48, [some (.ref 14), some (.int q1.1), none], [.int (q1.2.1 23 ((q1.2.1 14 6).toNatClampNeg))], hp kp nh rh tl rl q1.2.1 q1.2.2)) rfl hf (fun hc hf => ?_)
    refine bs_st 1 (x' := (49, [some (.ref 14), some (.int q1.1), none], [.int (2 : Int32), .int (q1.2.1 23 ((q1.2.1 14 6).toNatClampNeg))], hp kp nh rh tl rl q1.2.1 q1.2.2)) rfl ?_
    refine bs_br (t := 70) (e := 52) (lo := [some (.ref 14), some (.int q1.1), none]) (st := []) (h := hp kp nh rh tl rl q1.2.1 q1.2.2) rfl hf (fun hc hf => ?_) (fun hc hf => ?_)
    · exact tc_78_0 Ls xs d kp tl rl nh rh none q1.1 q1.2.1 q1.2.2 r hf
    · refine bs_st 4 (x' := (60, [some (.ref 14), some (.int q1.1), none], [.int (q1.2.1 14 6), .ref 25], hp kp nh rh tl rl q1.2.1 q1.2.2)) rfl ?_
      refine bs_gd (x' := (61, [some (.ref 14), some (.int q1.1), none], [.int (q1.2.1 25 ((q1.2.1 14 6).toNatClampNeg))], hp kp nh rh tl rl q1.2.1 q1.2.2)) rfl hf (fun hc hf => ?_)
      refine bs_st 1 (x' := (62, [some (.ref 14), some (.int q1.1), none], [.int q1.1, .int (q1.2.1 25 ((q1.2.1 14 6).toNatClampNeg))], hp kp nh rh tl rl q1.2.1 q1.2.2)) rfl ?_
      refine bs_br (t := 70) (e := 65) (lo := [some (.ref 14), some (.int q1.1), none]) (st := []) (h := hp kp nh rh tl rl q1.2.1 q1.2.2) rfl hf (fun hc hf => ?_) (fun hc hf => ?_)
      · exact tc_78_0 Ls xs d kp tl rl nh rh none q1.1 q1.2.1 q1.2.2 r hf
      · refine bs_st 2 (x' := (67, [some (.ref 14), some (.int q1.1), none], [.int (2 : Int32), .ref 14], hp kp nh rh tl rl q1.2.1 q1.2.2)) rfl ?_
        obtain ⟨q3, hq3, hf⟩ := Option.bind_eq_some_iff.mp hf
        refine bs_call (o := pEN Ls xs (d + 2) 85 [.ref 14, .int (2 : Int32)] (hp kp nh rh tl rl q1.2.1 q1.2.2)) (w := none) (h' := hp kp nh rh tl rl q3.1 q3.2) (pc := 70) (lo := [some (.ref 14), some (.int q1.1), none]) (rest := []) rfl (t_85 Ls xs (d + 1) kp tl rl nh rh (2 : Int32) q1.2.1 q1.2.2 q3 hq3) ?_
        exact tc_78_0 Ls xs d kp tl rl nh rh none q1.1 q3.1 q3.2 r hf
  · refine bs_st 2 (x' := (14, [some (.ref 14), none, none], [.int (3 : Int32), .ref 14], hp kp nh rh tl rl I L)) rfl ?_
    obtain ⟨q4, hq4, hf⟩ := Option.bind_eq_some_iff.mp hf
    refine bs_call (o := pEN Ls xs (d + 2) 85 [.ref 14, .int (3 : Int32)] (hp kp nh rh tl rl I L)) (w := none) (h' := hp kp nh rh tl rl q4.1 q4.2) (pc := 17) (lo := [some (.ref 14), none, none]) (rest := []) rfl (t_85 Ls xs (d + 1) kp tl rl nh rh (3 : Int32) I L q4 hq4) ?_
    cases hf
    exact bs_ret rfl
/-- Reader.readVisitor() on (14,) -/
def f_79 (I : FI) (L : FL) : Option (FI × FL) :=
  if I 15 6 < (5 : Int32) then
    (f_83 (12 : Int32) I L).bind fun q0 =>
    (f_83 (13 : Int32) q0.1 q0.2).bind fun q1 =>
    (f_82 (0 : Int32) ((q1.1 15 4) - (1 : Int32)) q1.1 q1.2).bind fun q2 =>
    if pin (q1.1 15 6) 5 = true then ((f_83 (14 : Int32) (u2 q2.2.1 20 ((q1.1 15 6).toNatClampNeg) q2.1) q2.2.2).bind fun q3 =>
      (f_82 (0 : Int32) (29 : Int32) q3.1 q3.2).bind fun q4 =>
      if pin (q3.1 15 6) 5 = true then some ((u2 (u2 q4.2.1 21 ((q3.1 15 6).toNatClampNeg) q4.1) 15 6 ((q4.2.1 15 6) + (1 : Int32))), q4.2.2) else none) else none
  else
    (f_85 (3 : Int32) I L).bind fun q5 =>
    some (q5.1, q5.2)
set_option maxHeartbeats 1000000 in
theorem t_79 (Ls : Nat) (xs : Nat → Int32) (d : Nat) (kp : Option Nat) (tl : List (Nat × Nat)) (rl : List (List (Option Nat))) (nh : Option Nat) (rh : Option Nat) (I : FI) (L : FL) (r : FI × FL) (hf : f_79 I L = some r) : pEN Ls xs (d + 3) 79 [.ref 14] (hp kp nh rh tl rl I L) = some (none, hp kp nh rh tl rl r.1 r.2) := by
  refine en_run (d := d + 2) (cd := cd_79) (f := (sf 7 rs_7 false 1 none Ls xs (d + 2))) rfl rfl (x := (0, [some (.ref 14)], [], hp kp nh rh tl rl I L)) rfl rfl (Nat.le_of_ble_eq_true rfl) ?_
  unfold f_79 at hf
  refine bs_st 4 (x' := (8, [some (.ref 14)], [.int (5 : Int32), .int (I 15 6)], hp kp nh rh tl rl I L)) rfl ?_
  refine bs_br (t := 17) (e := 11) (lo := [some (.ref 14)]) (st := []) (h := hp kp nh rh tl rl I L) rfl hf (fun hc hf => ?_) (fun hc hf => ?_)
  · refine bs_st 2 (x' := (20, [some (.ref 14)], [.int (12 : Int32), .ref 14], hp kp nh rh tl rl I L)) rfl ?_
    obtain ⟨q0, hq0, hf⟩ := Option.bind_eq_some_iff.mp hf
    refine bs_call (o := pEN Ls xs (d + 2) 83 [.ref 14, .int (12 : Int32)] (hp kp nh rh tl rl I L)) (w := none) (h' := hp kp nh rh tl rl q0.1 q0.2) (pc := 23) (lo := [some (.ref 14)]) (rest := []) rfl (t_83 Ls xs (d + 0) kp tl rl nh rh (12 : Int32) I L q0 hq0) ?_
    refine bs_st 2 (x' := (26, [some (.ref 14)], [.int (13 : Int32), .ref 14], hp kp nh rh tl rl q0.1 q0.2)) rfl ?_
    obtain ⟨q1, hq1, hf⟩ := Option.bind_eq_some_iff.mp hf
    refine bs_call (o := pEN Ls xs (d + 2) 83 [.ref 14, .int (13 : Int32)] (hp kp nh rh tl rl q0.1 q0.2)) (w := none) (h' := hp kp nh rh tl rl q1.1 q1.2) (pc := 29) (lo := [some (.ref 14)]) (rest := []) rfl (t_83 Ls xs (d + 0) kp tl rl nh rh (13 : Int32) q0.1 q0.2 q1 hq1) ?_
    refine bs_st 13 (x' := (54, [some (.ref 14)], [.int ((q1.1 15 4) - (1 : Int32)), .int (0 : Int32), .ref 14, .int (q1.1 15 6), .ref 20], hp kp nh rh tl rl q1.1 q1.2)) rfl ?_
    obtain ⟨q2, hq2, hf⟩ := Option.bind_eq_some_iff.mp hf
    refine bs_call (o := pEN Ls xs (d + 2) 82 [.ref 14, .int (0 : Int32), .int ((q1.1 15 4) - (1 : Int32))] (hp kp nh rh tl rl q1.1 q1.2)) (w := some (.int q2.1)) (h' := hp kp nh rh tl rl q2.2.1 q2.2.2) (pc := 57) (lo := [some (.ref 14)]) (rest := [.int (q1.1 15 6), .ref 20]) rfl (t_82 Ls xs (d + 0) kp tl rl nh rh (0 : Int32) ((q1.1 15 4) - (1 : Int32)) q1.1 q1.2 q2 hq2) ?_
    refine bs_gd (x' := (58, [some (.ref 14)], [], hp kp nh rh tl rl (u2 q2.2.1 20 ((q1.1 15 6).toNatClampNeg) q2.1) q2.2.2)) rfl hf (fun hc hf => ?_)
    refine bs_st 2 (x' := (61, [some (.ref 14)], [.int (14 : Int32), .ref 14], hp kp nh rh tl rl (u2 q2.2.1 20 ((q1.1 15 6).toNatClampNeg) q2.1) q2.2.2)) rfl ?_
    obtain ⟨q3, hq3, hf⟩ := Option.bind_eq_some_iff.mp hf
    refine bs_call (o := pEN Ls xs (d + 2) 83 [.ref 14, .int (14 : Int32)] (hp kp nh rh tl rl (u2 q2.2.1 20 ((q1.1 15 6).toNatClampNeg) q2.1) q2.2.2)) (w := none) (h' := hp kp nh rh tl rl q3.1 q3.2) (pc := 64) (lo := [some (.ref 14)]) (rest := []) rfl (t_83 Ls xs (d + 0) kp tl rl nh rh (14 : Int32) (u2 q2.2.1 20 ((q1.1 15 6).toNatClampNeg) q2.1) q2.2.2 q3 hq3) ?_
    refine bs_st 9 (x' := (82, [some (.ref 14)], [.int (29 : Int32), .int (0 : Int32), .ref 14, .int (q3.1 15 6), .ref 21], hp kp nh rh tl rl q3.1 q3.2)) rfl ?_
    obtain ⟨q4, hq4, hf⟩ := Option.bind_eq_some_iff.mp hf
    refine bs_call (o := pEN Ls xs (d + 2) 82 [.ref 14, .int (0 : Int32), .int (29 : Int32)] (hp kp nh rh tl rl q3.1 q3.2)) (w := some (.int q4.1)) (h' := hp kp nh rh tl rl q4.2.1 q4.2.2) (pc := 85) (lo := [some (.ref 14)]) (rest := [.int (q3.1 15 6), .ref 21]) rfl (t_82 Ls xs (d + 0) kp tl rl nh rh (0 : Int32) (29 : Int32) q3.1 q3.2 q4 hq4) ?_
    refine bs_gd (x' := (86, [some (.ref 14)], [], hp kp nh rh tl rl (u2 q4.2.1 21 ((q3.1 15 6).toNatClampNeg) q4.1) q4.2.2)) rfl hf (fun hc hf => ?_)
    refine bs_st 7 (x' := (99, [some (.ref 14)], [], hp kp nh rh tl rl (u2 (u2 q4.2.1 21 ((q3.1 15 6).toNatClampNeg) q4.1) 15 6 ((q4.2.1 15 6) + (1 : Int32))) q4.2.2)) rfl ?_
    cases hf
    exact bs_ret rfl
  · refine bs_st 2 (x' := (13, [some (.ref 14)], [.int (3 : Int32), .ref 14], hp kp nh rh tl rl I L)) rfl ?_
    obtain ⟨q5, hq5, hf⟩ := Option.bind_eq_some_iff.mp hf
    refine bs_call (o := pEN Ls xs (d + 2) 85 [.ref 14, .int (3 : Int32)] (hp kp nh rh tl rl I L)) (w := none) (h' := hp kp nh rh tl rl q5.1 q5.2) (pc := 16) (lo := [some (.ref 14)]) (rest := []) rfl (t_85 Ls xs (d + 1) kp tl rl nh rh (3 : Int32) I L q5 hq5) ?_
    cases hf
    exact bs_ret rfl
/-- Reader.readPlace() on (14,) -/
def c_81_0 (s0 : Int32) (I : FI) (L : FL) : Option (FI × FL) :=
  (f_85 s0 I L).bind fun q1 =>
  some (q1.1, q1.2)
set_option maxHeartbeats 1000000 in
theorem tc_81_0 (Ls : Nat) (xs : Nat → Int32) (d : Nat) (kp : Option Nat) (tl : List (Nat × Nat)) (rl : List (List (Option Nat))) (nh : Option Nat) (rh : Option Nat) (w0 : Option Value) (s0 : Int32) (I : FI) (L : FL) (r : FI × FL) (hf : c_81_0 s0 I L = some r) : Bs cd_81 (sf 7 rs_7 false 1 none Ls xs (d + 2)) (37, [w0], [.int s0, .ref 14], hp kp nh rh tl rl I L) (none, hp kp nh rh tl rl r.1 r.2) := by
  unfold c_81_0 at hf
  obtain ⟨q1, hq1, hf⟩ := Option.bind_eq_some_iff.mp hf
  refine bs_call (o := pEN Ls xs (d + 2) 85 [.ref 14, .int s0] (hp kp nh rh tl rl I L)) (w := none) (h' := hp kp nh rh tl rl q1.1 q1.2) (pc := 40) (lo := [w0]) (rest := []) rfl (t_85 Ls xs (d + 1) kp tl rl nh rh s0 I L q1 hq1) ?_
  cases hf
  exact bs_ret rfl
def f_81 (I : FI) (L : FL) : Option (FI × FL) :=
  if I 15 7 < (12 : Int32) then
    (f_82 (0 : Int32) ((I 15 4) - (1 : Int32)) I L).bind fun q0 =>
    if pin (I 15 7) 12 = true then some ((u2 (u2 q0.2.1 22 ((I 15 7).toNatClampNeg) q0.1) 15 7 ((q0.2.1 15 7) + (1 : Int32))), q0.2.2) else none
  else
    if pin (I 14 6) 501 = true then (if I 15 4 ≤ I 25 ((I 14 6).toNatClampNeg) then
        c_81_0 (2 : Int32) I L
      else
        c_81_0 (3 : Int32) I L) else none
set_option maxHeartbeats 1000000 in
theorem t_81 (Ls : Nat) (xs : Nat → Int32) (d : Nat) (kp : Option Nat) (tl : List (Nat × Nat)) (rl : List (List (Option Nat))) (nh : Option Nat) (rh : Option Nat) (I : FI) (L : FL) (r : FI × FL) (hf : f_81 I L = some r) : pEN Ls xs (d + 3) 81 [.ref 14] (hp kp nh rh tl rl I L) = some (none, hp kp nh rh tl rl r.1 r.2) := by
  refine en_run (d := d + 2) (cd := cd_81) (f := (sf 7 rs_7 false 1 none Ls xs (d + 2))) rfl rfl (x := (0, [some (.ref 14)], [], hp kp nh rh tl rl I L)) rfl rfl (Nat.le_of_ble_eq_true rfl) ?_
  unfold f_81 at hf
  refine bs_st 4 (x' := (9, [some (.ref 14)], [.int (12 : Int32), .int (I 15 7)], hp kp nh rh tl rl I L)) rfl ?_
  refine bs_br (t := 41) (e := 12) (lo := [some (.ref 14)]) (st := []) (h := hp kp nh rh tl rl I L) rfl hf (fun hc hf => ?_) (fun hc hf => ?_)
  · refine bs_st 13 (x' := (66, [some (.ref 14)], [.int ((I 15 4) - (1 : Int32)), .int (0 : Int32), .ref 14, .int (I 15 7), .ref 22], hp kp nh rh tl rl I L)) rfl ?_
    obtain ⟨q0, hq0, hf⟩ := Option.bind_eq_some_iff.mp hf
    refine bs_call (o := pEN Ls xs (d + 2) 82 [.ref 14, .int (0 : Int32), .int ((I 15 4) - (1 : Int32))] (hp kp nh rh tl rl I L)) (w := some (.int q0.1)) (h' := hp kp nh rh tl rl q0.2.1 q0.2.2) (pc := 69) (lo := [some (.ref 14)]) (rest := [.int (I 15 7), .ref 22]) rfl (t_82 Ls xs (d + 0) kp tl rl nh rh (0 : Int32) ((I 15 4) - (1 : Int32)) I L q0 hq0) ?_
    refine bs_gd (x' := (70, [some (.ref 14)], [], hp kp nh rh tl rl (u2 q0.2.1 22 ((I 15 7).toNatClampNeg) q0.1) q0.2.2)) rfl hf (fun hc hf => ?_)
    refine bs_st 7 (x' := (83, [some (.ref 14)], [], hp kp nh rh tl rl (u2 (u2 q0.2.1 22 ((I 15 7).toNatClampNeg) q0.1) 15 7 ((q0.2.1 15 7) + (1 : Int32))) q0.2.2)) rfl ?_
    cases hf
    exact bs_ret rfl
  · refine bs_st 5 (x' := (21, [some (.ref 14)], [.int (I 14 6), .ref 25, .ref 14], hp kp nh rh tl rl I L)) rfl ?_
    refine bs_gd (x' := (22, [some (.ref 14)], [.int (I 25 ((I 14 6).toNatClampNeg)), .ref 14], hp kp nh rh tl rl I L)) rfl hf (fun hc hf => ?_)
    refine bs_st 3 (x' := (29, [some (.ref 14)], [.int (I 15 4), .int (I 25 ((I 14 6).toNatClampNeg)), .ref 14], hp kp nh rh tl rl I L)) rfl ?_
    refine bs_br (t := 36) (e := 32) (lo := [some (.ref 14)]) (st := [.ref 14]) (h := hp kp nh rh tl rl I L) rfl hf (fun hc hf => ?_) (fun hc hf => ?_)
    · refine bs_st 1 (x' := (37, [some (.ref 14)], [.int (2 : Int32), .ref 14], hp kp nh rh tl rl I L)) rfl ?_
      exact tc_81_0 Ls xs d kp tl rl nh rh (some (.ref 14)) (2 : Int32) I L r hf
    · refine bs_st 2 (x' := (37, [some (.ref 14)], [.int (3 : Int32), .ref 14], hp kp nh rh tl rl I L)) rfl ?_
      exact tc_81_0 Ls xs d kp tl rl nh rh (some (.ref 14)) (3 : Int32) I L r hf
/-- Reader.readRound() on (14,) -/
def b_80_0 (n : Nat) (K0 : Int32 → FI → FL → Option (FI × FL)) (x1 : Int32) (I : FI) (L : FL) : Option (FI × FL) :=
  if (12 : Int32) < x1 then
    some (I, L)
  else
    if ¬ I 14 1 = 0 then
      some (I, L)
    else
      if pin (I 14 6) 501 = true then (if ¬ I 23 ((I 14 6).toNatClampNeg) = (2 : Int32) then
          some (I, L)
        else
          (f_81 I L).bind fun q2 =>
          K0 (x1 + (1 : Int32)) q2.1 q2.2) else none
def c_80_0 (n : Nat) : Nat → Int32 → FI → FL → Option (FI × FL)
  | 0, _, _, _ => none
  | m + 1, x1, I, L => b_80_0 n (c_80_0 n m) x1 I L
set_option maxHeartbeats 1000000 in
theorem tc_80_0 (Ls : Nat) (xs : Nat → Int32) (d : Nat) (kp : Option Nat) (tl : List (Nat × Nat)) (rl : List (List (Option Nat))) (nh : Option Nat) (rh : Option Nat) (n : Nat) : ∀ (m : Nat) (x1 : Int32) (I : FI) (L : FL) (r : FI × FL), c_80_0 n m x1 I L = some r → Bs cd_80 (sf 7 rs_7 false 2 none Ls xs (d + 3)) (28, [some (.ref 14), some (.int x1)], [], hp kp nh rh tl rl I L) (none, hp kp nh rh tl rl r.1 r.2)
  | 0, x1, I, L, r, hf => by cases hf
  | m + 1, x1, I, L, r, hf => by
    unfold c_80_0 b_80_0 at hf
    have hK0 := tc_80_0 Ls xs d kp tl rl nh rh n m
    refine bs_st 2 (x' := (31, [some (.ref 14), some (.int x1)], [.int (12 : Int32), .int x1], hp kp nh rh tl rl I L)) rfl ?_
    refine bs_br (t := 64) (e := 34) (lo := [some (.ref 14), some (.int x1)]) (st := []) (h := hp kp nh rh tl rl I L) rfl hf (fun hc hf => ?_) (fun hc hf => ?_)
    · cases hf
      exact bs_ret rfl
    · refine bs_st 2 (x' := (38, [some (.ref 14), some (.int x1)], [.int (I 14 1)], hp kp nh rh tl rl I L)) rfl ?_
      refine bs_br (t := 64) (e := 41) (lo := [some (.ref 14), some (.int x1)]) (st := []) (h := hp kp nh rh tl rl I L) rfl hf (fun hc hf => ?_) (fun hc hf => ?_)
      · cases hf
        exact bs_ret rfl
      · refine bs_st 4 (x' := (49, [some (.ref 14), some (.int x1)], [.int (I 14 6), .ref 23], hp kp nh rh tl rl I L)) rfl ?_
        refine bs_gd (x' := (50, [some (.ref 14), some (.int x1)], [.int (I 23 ((I 14 6).toNatClampNeg))], hp kp nh rh tl rl I L)) rfl hf (fun hc hf => ?_)
        refine bs_st 1 (x' := (51, [some (.ref 14), some (.int x1)], [.int (2 : Int32), .int (I 23 ((I 14 6).toNatClampNeg))], hp kp nh rh tl rl I L)) rfl ?_
        refine bs_br (t := 64) (e := 54) (lo := [some (.ref 14), some (.int x1)]) (st := []) (h := hp kp nh rh tl rl I L) rfl hf (fun hc hf => ?_) (fun hc hf => ?_)
        · cases hf
          exact bs_ret rfl
        · refine bs_st 1 (x' := (55, [some (.ref 14), some (.int x1)], [.ref 14], hp kp nh rh tl rl I L)) rfl ?_
          obtain ⟨q2, hq2, hf⟩ := Option.bind_eq_some_iff.mp hf
          refine bs_call (o := pEN Ls xs (d + 3) 81 [.ref 14] (hp kp nh rh tl rl I L)) (w := none) (h' := hp kp nh rh tl rl q2.1 q2.2) (pc := 58) (lo := [some (.ref 14), some (.int x1)]) (rest := []) rfl (t_81 Ls xs (d + 0) kp tl rl nh rh I L q2 hq2) ?_
          refine bs_st 2 (x' := (28, [some (.ref 14), some (.int (x1 + (1 : Int32)))], [], hp kp nh rh tl rl q2.1 q2.2)) rfl ?_
          exact hK0 (x1 + (1 : Int32)) q2.1 q2.2 r hf
def f_80 (n : Nat) (I : FI) (L : FL) : Option (FI × FL) :=
  if I 15 7 ≤ 0 then
    (f_83 (15 : Int32) I L).bind fun q0 =>
    (f_81 q0.1 q0.2).bind fun q1 =>
    c_80_0 n n (0 : Int32) q1.1 q1.2
  else
    (f_85 (3 : Int32) I L).bind fun q3 =>
    some (q3.1, q3.2)
set_option maxHeartbeats 1000000 in
theorem t_80 (Ls : Nat) (xs : Nat → Int32) (d : Nat) (kp : Option Nat) (tl : List (Nat × Nat)) (rl : List (List (Option Nat))) (nh : Option Nat) (rh : Option Nat) (n : Nat) (I : FI) (L : FL) (r : FI × FL) (hf : f_80 n I L = some r) : pEN Ls xs (d + 4) 80 [.ref 14] (hp kp nh rh tl rl I L) = some (none, hp kp nh rh tl rl r.1 r.2) := by
  refine en_run (d := d + 3) (cd := cd_80) (f := (sf 7 rs_7 false 2 none Ls xs (d + 3))) rfl rfl (x := (0, [some (.ref 14), none], [], hp kp nh rh tl rl I L)) rfl rfl (Nat.le_of_ble_eq_true rfl) ?_
  unfold f_80 at hf
  refine bs_st 3 (x' := (7, [some (.ref 14), none], [.int (I 15 7)], hp kp nh rh tl rl I L)) rfl ?_
  refine bs_br (t := 16) (e := 10) (lo := [some (.ref 14), none]) (st := []) (h := hp kp nh rh tl rl I L) rfl hf (fun hc hf => ?_) (fun hc hf => ?_)
  · refine bs_st 2 (x' := (19, [some (.ref 14), none], [.int (15 : Int32), .ref 14], hp kp nh rh tl rl I L)) rfl ?_
    obtain ⟨q0, hq0, hf⟩ := Option.bind_eq_some_iff.mp hf
    refine bs_call (o := pEN Ls xs (d + 3) 83 [.ref 14, .int (15 : Int32)] (hp kp nh rh tl rl I L)) (w := none) (h' := hp kp nh rh tl rl q0.1 q0.2) (pc := 22) (lo := [some (.ref 14), none]) (rest := []) rfl (t_83 Ls xs (d + 1) kp tl rl nh rh (15 : Int32) I L q0 hq0) ?_
    refine bs_st 1 (x' := (23, [some (.ref 14), none], [.ref 14], hp kp nh rh tl rl q0.1 q0.2)) rfl ?_
    obtain ⟨q1, hq1, hf⟩ := Option.bind_eq_some_iff.mp hf
    refine bs_call (o := pEN Ls xs (d + 3) 81 [.ref 14] (hp kp nh rh tl rl q0.1 q0.2)) (w := none) (h' := hp kp nh rh tl rl q1.1 q1.2) (pc := 26) (lo := [some (.ref 14), none]) (rest := []) rfl (t_81 Ls xs (d + 0) kp tl rl nh rh q0.1 q0.2 q1 hq1) ?_
    refine bs_st 2 (x' := (28, [some (.ref 14), some (.int (0 : Int32))], [], hp kp nh rh tl rl q1.1 q1.2)) rfl ?_
    exact tc_80_0 Ls xs d kp tl rl nh rh n n (0 : Int32) q1.1 q1.2 r hf
  · refine bs_st 2 (x' := (12, [some (.ref 14), none], [.int (3 : Int32), .ref 14], hp kp nh rh tl rl I L)) rfl ?_
    obtain ⟨q3, hq3, hf⟩ := Option.bind_eq_some_iff.mp hf
    refine bs_call (o := pEN Ls xs (d + 3) 85 [.ref 14, .int (3 : Int32)] (hp kp nh rh tl rl I L)) (w := none) (h' := hp kp nh rh tl rl q3.1 q3.2) (pc := 15) (lo := [some (.ref 14), none]) (rest := []) rfl (t_85 Ls xs (d + 2) kp tl rl nh rh (3 : Int32) I L q3 hq3) ?_
    cases hf
    exact bs_ret rfl
/-- Reader.readLine() on (14,) -/
def c_75_2 (n : Nat) (I : FI) (L : FL) : Option (FI × FL) :=
  (f_83 (3 : Int32) I L).bind fun q1 =>
  some ((u2 q1.1 15 0 ((q1.1 15 0) + (1 : Int32))), q1.2)
set_option maxHeartbeats 1000000 in
theorem tc_75_2 (Ls : Nat) (xs : Nat → Int32) (d : Nat) (kp : Option Nat) (tl : List (Nat × Nat)) (rl : List (List (Option Nat))) (nh : Option Nat) (rh : Option Nat) (n : Nat) (w1 : Option Value) (I : FI) (L : FL) (r : FI × FL) (hf : c_75_2 n I L = some r) : Bs cd_75 (sf 7 rs_7 false 2 none Ls xs (d + 4)) (156, [some (.ref 14), w1], [], hp kp nh rh tl rl I L) (none, hp kp nh rh tl rl r.1 r.2) := by
  unfold c_75_2 at hf
  refine bs_st 2 (x' := (158, [some (.ref 14), w1], [.int (3 : Int32), .ref 14], hp kp nh rh tl rl I L)) rfl ?_
  obtain ⟨q1, hq1, hf⟩ := Option.bind_eq_some_iff.mp hf
  refine bs_call (o := pEN Ls xs (d + 4) 83 [.ref 14, .int (3 : Int32)] (hp kp nh rh tl rl I L)) (w := none) (h' := hp kp nh rh tl rl q1.1 q1.2) (pc := 161) (lo := [some (.ref 14), w1]) (rest := []) rfl (t_83 Ls xs (d + 2) kp tl rl nh rh (3 : Int32) I L q1 hq1) ?_
  refine bs_st 7 (x' := (174, [some (.ref 14), w1], [], hp kp nh rh tl rl (u2 q1.1 15 0 ((q1.1 15 0) + (1 : Int32))) q1.2)) rfl ?_
  cases hf
  exact bs_ret rfl
def c_75_1 (n : Nat) (s0 : Int32) (s1 : Int32) (I : FI) (L : FL) : Option (FI × FL) :=
  if s1 = s0 then
    if pin (I 14 6) 501 = true then (if (I 23 ((I 14 6).toNatClampNeg)).toInt < 4 ∨ 15 < (I 23 ((I 14 6).toNatClampNeg)).toInt then ((f_85 (1 : Int32) I L).bind fun q0 =>
        c_75_2 n q0.1 q0.2) else if I 23 ((I 14 6).toNatClampNeg) = (4 : Int32) then ((f_76 I L).bind fun q2 =>
        c_75_2 n q2.1 q2.2) else if I 23 ((I 14 6).toNatClampNeg) = (5 : Int32) then ((f_85 (1 : Int32) I L).bind fun q3 =>
        c_75_2 n q3.1 q3.2) else if I 23 ((I 14 6).toNatClampNeg) = (6 : Int32) then ((f_85 (1 : Int32) I L).bind fun q4 =>
        c_75_2 n q4.1 q4.2) else if I 23 ((I 14 6).toNatClampNeg) = (7 : Int32) then ((f_85 (1 : Int32) I L).bind fun q5 =>
        c_75_2 n q5.1 q5.2) else if I 23 ((I 14 6).toNatClampNeg) = (8 : Int32) then ((f_77 I L).bind fun q6 =>
        c_75_2 n q6.1 q6.2) else if I 23 ((I 14 6).toNatClampNeg) = (9 : Int32) then ((f_85 (1 : Int32) I L).bind fun q7 =>
        c_75_2 n q7.1 q7.2) else if I 23 ((I 14 6).toNatClampNeg) = (10 : Int32) then ((f_85 (1 : Int32) I L).bind fun q8 =>
        c_75_2 n q8.1 q8.2) else if I 23 ((I 14 6).toNatClampNeg) = (11 : Int32) then ((f_78 I L).bind fun q9 =>
        c_75_2 n q9.1 q9.2) else if I 23 ((I 14 6).toNatClampNeg) = (12 : Int32) then ((f_79 I L).bind fun q10 =>
        c_75_2 n q10.1 q10.2) else if I 23 ((I 14 6).toNatClampNeg) = (13 : Int32) then ((f_85 (1 : Int32) I L).bind fun q11 =>
        c_75_2 n q11.1 q11.2) else if I 23 ((I 14 6).toNatClampNeg) = (14 : Int32) then ((f_85 (1 : Int32) I L).bind fun q12 =>
        c_75_2 n q12.1 q12.2) else if I 23 ((I 14 6).toNatClampNeg) = (15 : Int32) then ((f_80 n I L).bind fun q13 =>
        c_75_2 n q13.1 q13.2) else none) else none
  else
    (f_85 (1 : Int32) I L).bind fun q14 =>
    some (q14.1, q14.2)
set_option maxHeartbeats 1000000 in
theorem tc_75_1 (Ls : Nat) (xs : Nat → Int32) (d : Nat) (kp : Option Nat) (tl : List (Nat × Nat)) (rl : List (List (Option Nat))) (nh : Option Nat) (rh : Option Nat) (n : Nat) (w1 : Option Value) (s0 : Int32) (s1 : Int32) (I : FI) (L : FL) (r : FI × FL) (hf : c_75_1 n s0 s1 I L = some r) : Bs cd_75 (sf 7 rs_7 false 2 none Ls xs (d + 4)) (35, [some (.ref 14), w1], [.int s0, .int s1], hp kp nh rh tl rl I L) (none, hp kp nh rh tl rl r.1 r.2) := by
  unfold c_75_1 at hf
  refine bs_br (t := 44) (e := 38) (lo := [some (.ref 14), w1]) (st := []) (h := hp kp nh rh tl rl I L) rfl hf (fun hc hf => ?_) (fun hc hf => ?_)
  · refine bs_st 4 (x' := (52, [some (.ref 14), w1], [.int (I 14 6), .ref 23], hp kp nh rh tl rl I L)) rfl ?_
    refine bs_gd (x' := (53, [some (.ref 14), w1], [.int (I 23 ((I 14 6).toNatClampNeg))], hp kp nh rh tl rl I L)) rfl hf (fun hc hf => ?_)
    refine bs_sw (x' := (151, [some (.ref 14), w1], [], hp kp nh rh tl rl I L)) rfl hf (fun hc hf => ?_) (fun hc hf => ?_)
    · refine bs_st 2 (x' := (153, [some (.ref 14), w1], [.int (1 : Int32), .ref 14], hp kp nh rh tl rl I L)) rfl ?_
      obtain ⟨q0, hq0, hf⟩ := Option.bind_eq_some_iff.mp hf
      refine bs_call (o := pEN Ls xs (d + 4) 85 [.ref 14, .int (1 : Int32)] (hp kp nh rh tl rl I L)) (w := none) (h' := hp kp nh rh tl rl q0.1 q0.2) (pc := 156) (lo := [some (.ref 14), w1]) (rest := []) rfl (t_85 Ls xs (d + 3) kp tl rl nh rh (1 : Int32) I L q0 hq0) ?_
      exact tc_75_2 Ls xs d kp tl rl nh rh n w1 q0.1 q0.2 r hf
    refine bs_cs hf (fun hc hf => ?_) (fun hc0 hf => ?_)
    · refine bs_val hc (x' := (116, [some (.ref 14), w1], [], hp kp nh rh tl rl I L)) rfl ?_
      refine bs_st 1 (x' := (117, [some (.ref 14), w1], [.ref 14], hp kp nh rh tl rl I L)) rfl ?_
      obtain ⟨q2, hq2, hf⟩ := Option.bind_eq_some_iff.mp hf
      refine bs_call (o := pEN Ls xs (d + 4) 76 [.ref 14] (hp kp nh rh tl rl I L)) (w := none) (h' := hp kp nh rh tl rl q2.1 q2.2) (pc := 120) (lo := [some (.ref 14), w1]) (rest := []) rfl (t_76 Ls xs (d + 1) kp tl rl nh rh I L q2 hq2) ?_
      refine bs_st 1 (x' := (156, [some (.ref 14), w1], [], hp kp nh rh tl rl q2.1 q2.2)) rfl ?_
      exact tc_75_2 Ls xs d kp tl rl nh rh n w1 q2.1 q2.2 r hf
    refine bs_cs hf (fun hc hf => ?_) (fun hc1 hf => ?_)
    · refine bs_val hc (x' := (151, [some (.ref 14), w1], [], hp kp nh rh tl rl I L)) rfl ?_
      refine bs_st 2 (x' := (153, [some (.ref 14), w1], [.int (1 : Int32), .ref 14], hp kp nh rh tl rl I L)) rfl ?_
      obtain ⟨q3, hq3, hf⟩ := Option.bind_eq_some_iff.mp hf
      refine bs_call (o := pEN Ls xs (d + 4) 85 [.ref 14, .int (1 : Int32)] (hp kp nh rh tl rl I L)) (w := none) (h' := hp kp nh rh tl rl q3.1 q3.2) (pc := 156) (lo := [some (.ref 14), w1]) (rest := []) rfl (t_85 Ls xs (d + 3) kp tl rl nh rh (1 : Int32) I L q3 hq3) ?_
      exact tc_75_2 Ls xs d kp tl rl nh rh n w1 q3.1 q3.2 r hf
    refine bs_cs hf (fun hc hf => ?_) (fun hc2 hf => ?_)
    · refine bs_val hc (x' := (151, [some (.ref 14), w1], [], hp kp nh rh tl rl I L)) rfl ?_
      refine bs_st 2 (x' := (153, [some (.ref 14), w1], [.int (1 : Int32), .ref 14], hp kp nh rh tl rl I L)) rfl ?_
      obtain ⟨q4, hq4, hf⟩ := Option.bind_eq_some_iff.mp hf
      refine bs_call (o := pEN Ls xs (d + 4) 85 [.ref 14, .int (1 : Int32)] (hp kp nh rh tl rl I L)) (w := none) (h' := hp kp nh rh tl rl q4.1 q4.2) (pc := 156) (lo := [some (.ref 14), w1]) (rest := []) rfl (t_85 Ls xs (d + 3) kp tl rl nh rh (1 : Int32) I L q4 hq4) ?_
      exact tc_75_2 Ls xs d kp tl rl nh rh n w1 q4.1 q4.2 r hf
    refine bs_cs hf (fun hc hf => ?_) (fun hc3 hf => ?_)
    · refine bs_val hc (x' := (151, [some (.ref 14), w1], [], hp kp nh rh tl rl I L)) rfl ?_
      refine bs_st 2 (x' := (153, [some (.ref 14), w1], [.int (1 : Int32), .ref 14], hp kp nh rh tl rl I L)) rfl ?_
      obtain ⟨q5, hq5, hf⟩ := Option.bind_eq_some_iff.mp hf
      refine bs_call (o := pEN Ls xs (d + 4) 85 [.ref 14, .int (1 : Int32)] (hp kp nh rh tl rl I L)) (w := none) (h' := hp kp nh rh tl rl q5.1 q5.2) (pc := 156) (lo := [some (.ref 14), w1]) (rest := []) rfl (t_85 Ls xs (d + 3) kp tl rl nh rh (1 : Int32) I L q5 hq5) ?_
      exact tc_75_2 Ls xs d kp tl rl nh rh n w1 q5.1 q5.2 r hf
    refine bs_cs hf (fun hc hf => ?_) (fun hc4 hf => ?_)
    · refine bs_val hc (x' := (123, [some (.ref 14), w1], [], hp kp nh rh tl rl I L)) rfl ?_
      refine bs_st 1 (x' := (124, [some (.ref 14), w1], [.ref 14], hp kp nh rh tl rl I L)) rfl ?_
      obtain ⟨q6, hq6, hf⟩ := Option.bind_eq_some_iff.mp hf
      refine bs_call (o := pEN Ls xs (d + 4) 77 [.ref 14] (hp kp nh rh tl rl I L)) (w := none) (h' := hp kp nh rh tl rl q6.1 q6.2) (pc := 127) (lo := [some (.ref 14), w1]) (rest := []) rfl (t_77 Ls xs (d + 1) kp tl rl nh rh I L q6 hq6) ?_
      refine bs_st 1 (x' := (156, [some (.ref 14), w1], [], hp kp nh rh tl rl q6.1 q6.2)) rfl ?_
      exact tc_75_2 Ls xs d kp tl rl nh rh n w1 q6.1 q6.2 r hf
    refine bs_cs hf (fun hc hf => ?_) (fun hc5 hf => ?_)
    · refine bs_val hc (x' := (151, [some (.ref 14), w1], [], hp kp nh rh tl rl I L)) rfl ?_
      refine bs_st 2 (x' := (153, [some (.ref 14), w1], [.int (1 : Int32), .ref 14], hp kp nh rh tl rl I L)) rfl ?_
      obtain ⟨q7, hq7, hf⟩ := Option.bind_eq_some_iff.mp hf
      refine bs_call (o := pEN Ls xs (d + 4) 85 [.ref 14, .int (1 : Int32)] (hp kp nh rh tl rl I L)) (w := none) (h' := hp kp nh rh tl rl q7.1 q7.2) (pc := 156) (lo := [some (.ref 14), w1]) (rest := []) rfl (t_85 Ls xs (d + 3) kp tl rl nh rh (1 : Int32) I L q7 hq7) ?_
      exact tc_75_2 Ls xs d kp tl rl nh rh n w1 q7.1 q7.2 r hf
    refine bs_cs hf (fun hc hf => ?_) (fun hc6 hf => ?_)
    · refine bs_val hc (x' := (151, [some (.ref 14), w1], [], hp kp nh rh tl rl I L)) rfl ?_
      refine bs_st 2 (x' := (153, [some (.ref 14), w1], [.int (1 : Int32), .ref 14], hp kp nh rh tl rl I L)) rfl ?_
      obtain ⟨q8, hq8, hf⟩ := Option.bind_eq_some_iff.mp hf
      refine bs_call (o := pEN Ls xs (d + 4) 85 [.ref 14, .int (1 : Int32)] (hp kp nh rh tl rl I L)) (w := none) (h' := hp kp nh rh tl rl q8.1 q8.2) (pc := 156) (lo := [some (.ref 14), w1]) (rest := []) rfl (t_85 Ls xs (d + 3) kp tl rl nh rh (1 : Int32) I L q8 hq8) ?_
      exact tc_75_2 Ls xs d kp tl rl nh rh n w1 q8.1 q8.2 r hf
    refine bs_cs hf (fun hc hf => ?_) (fun hc7 hf => ?_)
    · refine bs_val hc (x' := (130, [some (.ref 14), w1], [], hp kp nh rh tl rl I L)) rfl ?_
      refine bs_st 1 (x' := (131, [some (.ref 14), w1], [.ref 14], hp kp nh rh tl rl I L)) rfl ?_
      obtain ⟨q9, hq9, hf⟩ := Option.bind_eq_some_iff.mp hf
      refine bs_call (o := pEN Ls xs (d + 4) 78 [.ref 14] (hp kp nh rh tl rl I L)) (w := none) (h' := hp kp nh rh tl rl q9.1 q9.2) (pc := 134) (lo := [some (.ref 14), w1]) (rest := []) rfl (t_78 Ls xs (d + 1) kp tl rl nh rh I L q9 hq9) ?_
      refine bs_st 1 (x' := (156, [some (.ref 14), w1], [], hp kp nh rh tl rl q9.1 q9.2)) rfl ?_
      exact tc_75_2 Ls xs d kp tl rl nh rh n w1 q9.1 q9.2 r hf
    refine bs_cs hf (fun hc hf => ?_) (fun hc8 hf => ?_)
    · refine bs_val hc (x' := (137, [some (.ref 14), w1], [], hp kp nh rh tl rl I L)) rfl ?_
      refine bs_st 1 (x' := (138, [some (.ref 14), w1], [.ref 14], hp kp nh rh tl rl I L)) rfl ?_
      obtain ⟨q10, hq10, hf⟩ := Option.bind_eq_some_iff.mp hf
      refine bs_call (o := pEN Ls xs (d + 4) 79 [.ref 14] (hp kp nh rh tl rl I L)) (w := none) (h' := hp kp nh rh tl rl q10.1 q10.2) (pc := 141) (lo := [some (.ref 14), w1]) (rest := []) rfl (t_79 Ls xs (d + 1) kp tl rl nh rh I L q10 hq10) ?_
      refine bs_st 1 (x' := (156, [some (.ref 14), w1], [], hp kp nh rh tl rl q10.1 q10.2)) rfl ?_
      exact tc_75_2 Ls xs d kp tl rl nh rh n w1 q10.1 q10.2 r hf
    refine bs_cs hf (fun hc hf => ?_) (fun hc9 hf => ?_)
    · refine bs_val hc (x' := (151, [some (.ref 14), w1], [], hp kp nh rh tl rl I L)) rfl ?_
      refine bs_st 2 (x' := (153, [some (.ref 14), w1], [.int (1 : Int32), .ref 14], hp kp nh rh tl rl I L)) rfl ?_
      obtain ⟨q11, hq11, hf⟩ := Option.bind_eq_some_iff.mp hf
      refine bs_call (o := pEN Ls xs (d + 4) 85 [.ref 14, .int (1 : Int32)] (hp kp nh rh tl rl I L)) (w := none) (h' := hp kp nh rh tl rl q11.1 q11.2) (pc := 156) (lo := [some (.ref 14), w1]) (rest := []) rfl (t_85 Ls xs (d + 3) kp tl rl nh rh (1 : Int32) I L q11 hq11) ?_
      exact tc_75_2 Ls xs d kp tl rl nh rh n w1 q11.1 q11.2 r hf
    refine bs_cs hf (fun hc hf => ?_) (fun hc10 hf => ?_)
    · refine bs_val hc (x' := (151, [some (.ref 14), w1], [], hp kp nh rh tl rl I L)) rfl ?_
      refine bs_st 2 (x' := (153, [some (.ref 14), w1], [.int (1 : Int32), .ref 14], hp kp nh rh tl rl I L)) rfl ?_
      obtain ⟨q12, hq12, hf⟩ := Option.bind_eq_some_iff.mp hf
      refine bs_call (o := pEN Ls xs (d + 4) 85 [.ref 14, .int (1 : Int32)] (hp kp nh rh tl rl I L)) (w := none) (h' := hp kp nh rh tl rl q12.1 q12.2) (pc := 156) (lo := [some (.ref 14), w1]) (rest := []) rfl (t_85 Ls xs (d + 3) kp tl rl nh rh (1 : Int32) I L q12 hq12) ?_
      exact tc_75_2 Ls xs d kp tl rl nh rh n w1 q12.1 q12.2 r hf
    refine bs_cs hf (fun hc hf => ?_) (fun hc11 hf => ?_)
    · refine bs_val hc (x' := (144, [some (.ref 14), w1], [], hp kp nh rh tl rl I L)) rfl ?_
      refine bs_st 1 (x' := (145, [some (.ref 14), w1], [.ref 14], hp kp nh rh tl rl I L)) rfl ?_
      obtain ⟨q13, hq13, hf⟩ := Option.bind_eq_some_iff.mp hf
      refine bs_call (o := pEN Ls xs (d + 4) 80 [.ref 14] (hp kp nh rh tl rl I L)) (w := none) (h' := hp kp nh rh tl rl q13.1 q13.2) (pc := 148) (lo := [some (.ref 14), w1]) (rest := []) rfl (t_80 Ls xs (d + 0) kp tl rl nh rh n I L q13 hq13) ?_
      refine bs_st 1 (x' := (156, [some (.ref 14), w1], [], hp kp nh rh tl rl q13.1 q13.2)) rfl ?_
      exact tc_75_2 Ls xs d kp tl rl nh rh n w1 q13.1 q13.2 r hf
    cases hf
  · refine bs_st 2 (x' := (40, [some (.ref 14), w1], [.int (1 : Int32), .ref 14], hp kp nh rh tl rl I L)) rfl ?_
    obtain ⟨q14, hq14, hf⟩ := Option.bind_eq_some_iff.mp hf
    refine bs_call (o := pEN Ls xs (d + 4) 85 [.ref 14, .int (1 : Int32)] (hp kp nh rh tl rl I L)) (w := none) (h' := hp kp nh rh tl rl q14.1 q14.2) (pc := 43) (lo := [some (.ref 14), w1]) (rest := []) rfl (t_85 Ls xs (d + 3) kp tl rl nh rh (1 : Int32) I L q14 hq14) ?_
    cases hf
    exact bs_ret rfl
def c_75_0 (n : Nat) (s0 : Int32) (I : FI) (L : FL) : Option (FI × FL) :=
  if pin (I 14 6) 501 = true then (if ¬ I 23 ((I 14 6).toNatClampNeg) = (4 : Int32) then
      c_75_1 n (0 : Int32) s0 I L
    else
      c_75_1 n (1 : Int32) s0 I L) else none
set_option maxHeartbeats 1000000 in
theorem tc_75_0 (Ls : Nat) (xs : Nat → Int32) (d : Nat) (kp : Option Nat) (tl : List (Nat × Nat)) (rl : List (List (Option Nat))) (nh : Option Nat) (rh : Option Nat) (n : Nat) (w1 : Option Value) (s0 : Int32) (I : FI) (L : FL) (r : FI × FL) (hf : c_75_0 n s0 I L = some r) : Bs cd_75 (sf 7 rs_7 false 2 none Ls xs (d + 4)) (15, [some (.ref 14), w1], [.int s0], hp kp nh rh tl rl I L) (none, hp kp nh rh tl rl r.1 r.2) := by
  unfold c_75_0 at hf
  refine bs_st 6 (x' := (25, [some (.ref 14), some (.int s0)], [.int (I 14 6), .ref 23, .int s0], hp kp nh rh tl rl I L)) rfl ?_
  refine bs_gd (x' := (26, [some (.ref 14), some (.int s0)], [.int (I 23 ((I 14 6).toNatClampNeg)), .int s0], hp kp nh rh tl rl I L)) rfl hf (fun hc hf => ?_)
  refine bs_st 1 (x' := (27, [some (.ref 14), some (.int s0)], [.int (4 : Int32), .int (I 23 ((I 14 6).toNatClampNeg)), .int s0], hp kp nh rh tl rl I L)) rfl ?_
  refine bs_br (t := 34) (e := 30) (lo := [some (.ref 14), some (.int s0)]) (st := [.int s0]) (h := hp kp nh rh tl rl I L) rfl hf (fun hc hf => ?_) (fun hc hf => ?_)
  · refine bs_st 1 (x' := (35, [some (.ref 14), some (.int s0)], [.int (0 : Int32), .int s0], hp kp nh rh tl rl I L)) rfl ?_
    exact tc_75_1 Ls xs d kp tl rl nh rh n (some (.int s0)) (0 : Int32) s0 I L r hf
  · refine bs_st 2 (x' := (35, [some (.ref 14), some (.int s0)], [.int (1 : Int32), .int s0], hp kp nh rh tl rl I L)) rfl ?_
    exact tc_75_1 Ls xs d kp tl rl nh rh n (some (.int s0)) (1 : Int32) s0 I L r hf
def f_75 (n : Nat) (I : FI) (L : FL) : Option (FI × FL) :=
  if ¬ I 15 0 = 0 then
    c_75_0 n (0 : Int32) I L
  else
    c_75_0 n (1 : Int32) I L
set_option maxHeartbeats 1000000 in
theorem t_75 (Ls : Nat) (xs : Nat → Int32) (d : Nat) (kp : Option Nat) (tl : List (Nat × Nat)) (rl : List (List (Option Nat))) (nh : Option Nat) (rh : Option Nat) (n : Nat) (I : FI) (L : FL) (r : FI × FL) (hf : f_75 n I L = some r) : pEN Ls xs (d + 5) 75 [.ref 14] (hp kp nh rh tl rl I L) = some (none, hp kp nh rh tl rl r.1 r.2) := by
  refine en_run (d := d + 4) (cd := cd_75) (f := (sf 7 rs_7 false 2 none Ls xs (d + 4))) rfl rfl (x := (0, [some (.ref 14), none], [], hp kp nh rh tl rl I L)) rfl rfl (Nat.le_of_ble_eq_true rfl) ?_
  unfold f_75 at hf
  refine bs_st 3 (x' := (7, [some (.ref 14), none], [.int (I 15 0)], hp kp nh rh tl rl I L)) rfl ?_
  refine bs_br (t := 14) (e := 10) (lo := [some (.ref 14), none]) (st := []) (h := hp kp nh rh tl rl I L) rfl hf (fun hc hf => ?_) (fun hc hf => ?_)
  · refine bs_st 1 (x' := (15, [some (.ref 14), none], [.int (0 : Int32)], hp kp nh rh tl rl I L)) rfl ?_
    exact tc_75_0 Ls xs d kp tl rl nh rh n none (0 : Int32) I L r hf
  · refine bs_st 2 (x' := (15, [some (.ref 14), none], [.int (1 : Int32)], hp kp nh rh tl rl I L)) rfl ?_
    exact tc_75_0 Ls xs d kp tl rl nh rh n none (1 : Int32) I L r hf
/-- Reader.read(LLampRounds$Tape;) on (14, 1) -/
def b_74_0 (n : Nat) (K0 : Int32 → FI → FL → Option (FI × FL)) (x2 : Int32) (I : FI) (L : FL) : Option (FI × FL) :=
  if (500 : Int32) < x2 then
    some (I, L)
  else
    if ¬ I 14 1 = 0 then
      some (I, L)
    else
      if pin (I 14 6) 501 = true then (if I 23 ((I 14 6).toNatClampNeg) = 0 then
          some (I, L)
        else
          (f_75 n I L).bind fun q3 =>
          K0 (x2 + (1 : Int32)) q3.1 q3.2) else none
def c_74_0 (n : Nat) : Nat → Int32 → FI → FL → Option (FI × FL)
  | 0, _, _, _ => none
  | m + 1, x2, I, L => b_74_0 n (c_74_0 n m) x2 I L
set_option maxHeartbeats 1000000 in
theorem tc_74_0 (Ls : Nat) (xs : Nat → Int32) (d : Nat) (kp : Option Nat) (tl : List (Nat × Nat)) (rl : List (List (Option Nat))) (nh : Option Nat) (rh : Option Nat) (n : Nat) : ∀ (m : Nat) (w1 : Option Value) (x2 : Int32) (I : FI) (L : FL) (r : FI × FL), c_74_0 n m x2 I L = some r → Bs cd_74 (sf 7 rs_7 false 3 none Ls xs (d + 7)) (42, [some (.ref 14), w1, some (.int x2)], [], hp kp nh rh tl rl I L) (none, hp kp nh rh tl rl r.1 r.2)
  | 0, w1, x2, I, L, r, hf => by cases hf
  | m + 1, w1, x2, I, L, r, hf => by
    unfold c_74_0 b_74_0 at hf
    have hK0 := tc_74_0 Ls xs d kp tl rl nh rh n m
    refine bs_st 2 (x' := (46, [some (.ref 14), w1, some (.int x2)], [.int (500 : Int32), .int x2], hp kp nh rh tl rl I L)) rfl ?_
    refine bs_br (t := 78) (e := 49) (lo := [some (.ref 14), w1, some (.int x2)]) (st := []) (h := hp kp nh rh tl rl I L) rfl hf (fun hc hf => ?_) (fun hc hf => ?_)
    · cases hf
      exact bs_ret rfl
    · refine bs_st 2 (x' := (53, [some (.ref 14), w1, some (.int x2)], [.int (I 14 1)], hp kp nh rh tl rl I L)) rfl ?_
      refine bs_br (t := 78) (e := 56) (lo := [some (.ref 14), w1, some (.int x2)]) (st := []) (h := hp kp nh rh tl rl I L) rfl hf (fun hc hf => ?_) (fun hc hf => ?_)
      · cases hf
        exact bs_ret rfl
      · refine bs_st 4 (x' := (64, [some (.ref 14), w1, some (.int x2)], [.int (I 14 6), .ref 23], hp kp nh rh tl rl I L)) rfl ?_
        refine bs_gd (x' := (65, [some (.ref 14), w1, some (.int x2)], [.int (I 23 ((I 14 6).toNatClampNeg))], hp kp nh rh tl rl I L)) rfl hf (fun hc hf => ?_)
        refine bs_br (t := 78) (e := 68) (lo := [some (.ref 14), w1, some (.int x2)]) (st := []) (h := hp kp nh rh tl rl I L) rfl hf (fun hc hf => ?_) (fun hc hf => ?_)
        · cases hf
          exact bs_ret rfl
        · refine bs_st 1 (x' := (69, [some (.ref 14), w1, some (.int x2)], [.ref 14], hp kp nh rh tl rl I L)) rfl ?_
          obtain ⟨q3, hq3, hf⟩ := Option.bind_eq_some_iff.mp hf
          refine bs_call (o := pEN Ls xs (d + 7) 75 [.ref 14] (hp kp nh rh tl rl I L)) (w := none) (h' := hp kp nh rh tl rl q3.1 q3.2) (pc := 72) (lo := [some (.ref 14), w1, some (.int x2)]) (rest := []) rfl (t_75 Ls xs (d + 2) kp tl rl nh rh n I L q3 hq3) ?_
          refine bs_st 2 (x' := (42, [some (.ref 14), (pcl w1), some (.int (x2 + (1 : Int32)))], [], hp kp nh rh tl rl q3.1 q3.2)) rfl ?_
          exact hK0 (pcl w1) (x2 + (1 : Int32)) q3.1 q3.2 r hf
def f_74 (n : Nat) (I : FI) (L : FL) : Option (FI × FL) :=
  (f_359 (I 1 1) (500 : Int32) I L).bind fun q0 =>
  (f_86 n q0 I L).bind fun q1 =>
  (f_16 n (u2 (u2 (u2 q1.1 14 6 (0 : Int32)) 14 1 (0 : Int32)) 14 2 (-1 : Int32)) q1.2).bind fun q2 =>
  c_74_0 n n (0 : Int32) q2.1 q2.2
set_option maxHeartbeats 1000000 in
theorem t_74 (Ls : Nat) (xs : Nat → Int32) (d : Nat) (kp : Option Nat) (tl : List (Nat × Nat)) (rl : List (List (Option Nat))) (nh : Option Nat) (rh : Option Nat) (n : Nat) (I : FI) (L : FL) (r : FI × FL) (hf : f_74 n I L = some r) : pEN Ls xs (d + 8) 74 [.ref 14, .ref 1] (hp kp nh rh tl rl I L) = some (none, hp kp nh rh tl rl r.1 r.2) := by
  refine en_run (d := d + 7) (cd := cd_74) (f := (sf 7 rs_7 false 3 none Ls xs (d + 7))) rfl rfl (x := (0, [some (.ref 14), some (.ref 1), none], [], hp kp nh rh tl rl I L)) rfl rfl (Nat.le_of_ble_eq_true rfl) ?_
  unfold f_74 at hf
  refine bs_st 6 (x' := (12, [some (.ref 14), some (.ref 1), none], [.int (500 : Int32), .int (I 1 1), .ref 2, .ref 14], hp kp nh rh tl rl I L)) rfl ?_
  obtain ⟨q0, hq0, hf⟩ := Option.bind_eq_some_iff.mp hf
  refine bs_call (o := pEN Ls xs (d + 7) 359 [.int (I 1 1), .int (500 : Int32)] (hp kp nh rh tl rl I L)) (w := some (.int q0)) (h' := hp kp nh rh tl rl I L) (pc := 15) (lo := [some (.ref 14), some (.ref 1), none]) (rest := [.ref 2, .ref 14]) rfl (t_359 Ls xs (d + 6) kp tl rl nh rh (I 1 1) (500 : Int32) I L q0 hq0) ?_
  obtain ⟨q1, hq1, hf⟩ := Option.bind_eq_some_iff.mp hf
  refine bs_call (o := pEN Ls xs (d + 7) 86 [.ref 14, .ref 2, .int q0] (hp kp nh rh tl rl I L)) (w := none) (h' := hp kp nh rh tl rl q1.1 q1.2) (pc := 18) (lo := [some (.ref 14), some (.ref 1), none]) (rest := []) rfl (t_86 Ls xs (d + 0) kp tl rl nh rh n q0 I L q1 hq1) ?_
  refine bs_st 11 (x' := (37, [some (.ref 14), some (.ref 1), none], [.ref 15], hp kp nh rh tl rl (u2 (u2 (u2 q1.1 14 6 (0 : Int32)) 14 1 (0 : Int32)) 14 2 (-1 : Int32)) q1.2)) rfl ?_
  obtain ⟨q2, hq2, hf⟩ := Option.bind_eq_some_iff.mp hf
  refine bs_call (o := pEN Ls xs (d + 7) 16 [.ref 15] (hp kp nh rh tl rl (u2 (u2 (u2 q1.1 14 6 (0 : Int32)) 14 1 (0 : Int32)) 14 2 (-1 : Int32)) q1.2)) (w := none) (h' := hp kp nh rh tl rl q2.1 q2.2) (pc := 40) (lo := [some (.ref 14), some (.ref 1), none]) (rest := []) rfl (t_16 Ls xs (d + 6) kp tl rl nh rh n (u2 (u2 (u2 q1.1 14 6 (0 : Int32)) 14 1 (0 : Int32)) 14 2 (-1 : Int32)) q1.2 q2 hq2) ?_
  refine bs_st 2 (x' := (42, [some (.ref 14), some (.ref 1), some (.int (0 : Int32))], [], hp kp nh rh tl rl q2.1 q2.2)) rfl ?_
  exact tc_74_0 Ls xs d kp tl rl nh rh n n (some (.ref 1)) (0 : Int32) q2.1 q2.2 r hf
/-- House.copyFrom(LLampRounds$House;) on (3, 15) -/
def f_17 (I : FI) (L : FL) : Option (FI × FL) :=
  some ((c2 (c2 (c2 (c2 (c2 (c2 (c2 (u2 (u2 (u2 (u2 (u2 (u2 (u2 (u2 I 3 0 (I 15 0)) 3 1 (I 15 1)) 3 2 (I 15 2)) 3 3 (I 15 3)) 3 4 (I 15 4)) 3 5 (I 15 5)) 3 6 (I 15 6)) 3 7 (I 15 7)) 16 4 0 0 4) 17 5 0 0 4) 18 6 0 0 4) 19 7 0 0 16) 20 8 0 0 5) 21 9 0 0 5) 22 10 0 0 12), L)
set_option maxHeartbeats 1000000 in
theorem t_17 (Ls : Nat) (xs : Nat → Int32) (d : Nat) (kp : Option Nat) (tl : List (Nat × Nat)) (rl : List (List (Option Nat))) (nh : Option Nat) (rh : Option Nat) (I : FI) (L : FL) (r : FI × FL) (hf : f_17 I L = some r) : pEN Ls xs (d + 1) 17 [.ref 3, .ref 15] (hp kp nh rh tl rl I L) = some (none, hp kp nh rh tl rl r.1 r.2) := by
  refine en_run (d := d + 0) (cd := cd_17) (f := (sf 3 rs_3 false 2 none Ls xs (d + 0))) rfl rfl (x := (0, [some (.ref 3), some (.ref 15)], [], hp kp nh rh tl rl I L)) rfl rfl (Nat.le_of_ble_eq_true rfl) ?_
  unfold f_17 at hf
  refine bs_st 24 (x' := (48, [some (.ref 3), some (.ref 15)], [], hp kp nh rh tl rl (u2 (u2 (u2 (u2 (u2 (u2 I 3 0 (I 15 0)) 3 1 (I 15 1)) 3 2 (I 15 2)) 3 3 (I 15 3)) 3 4 (I 15 4)) 3 5 (I 15 5)) L)) rfl ?_
  refine bs_st 24 (x' := (92, [some (.ref 3), some (.ref 15)], [], hp kp nh rh tl rl (c2 (c2 (u2 (u2 (u2 (u2 (u2 (u2 (u2 (u2 I 3 0 (I 15 0)) 3 1 (I 15 1)) 3 2 (I 15 2)) 3 3 (I 15 3)) 3 4 (I 15 4)) 3 5 (I 15 5)) 3 6 (I 15 6)) 3 7 (I 15 7)) 16 4 0 0 4) 17 5 0 0 4) L)) rfl ?_
  refine bs_st 24 (x' := (135, [some (.ref 3), some (.ref 15)], [], hp kp nh rh tl rl (c2 (c2 (c2 (c2 (c2 (u2 (u2 (u2 (u2 (u2 (u2 (u2 (u2 I 3 0 (I 15 0)) 3 1 (I 15 1)) 3 2 (I 15 2)) 3 3 (I 15 3)) 3 4 (I 15 4)) 3 5 (I 15 5)) 3 6 (I 15 6)) 3 7 (I 15 7)) 16 4 0 0 4) 17 5 0 0 4) 18 6 0 0 4) 19 7 0 0 16) 20 8 0 0 5) L)) rfl ?_
  refine bs_st 16 (x' := (164, [some (.ref 3), some (.ref 15)], [], hp kp nh rh tl rl (c2 (c2 (c2 (c2 (c2 (c2 (c2 (u2 (u2 (u2 (u2 (u2 (u2 (u2 (u2 I 3 0 (I 15 0)) 3 1 (I 15 1)) 3 2 (I 15 2)) 3 3 (I 15 3)) 3 4 (I 15 4)) 3 5 (I 15 5)) 3 6 (I 15 6)) 3 7 (I 15 7)) 16 4 0 0 4) 17 5 0 0 4) 18 6 0 0 4) 19 7 0 0 16) 20 8 0 0 5) 21 9 0 0 5) 22 10 0 0 12) L)) rfl ?_
  cases hf
  exact bs_ret rfl
/-- House.spread(I) on (3,) -/
def c_19_2 (n : Nat) (K0 : Int32 → Int32 → Int32 → Int32 → FI → FL → Option (FI × FL)) (K1 : Int32 → Int32 → Int32 → Int32 → Int32 → Int32 → FI → FL → Option (FI × FL)) (x1 : Int32) (x2 : Int32) (x3 : Int32) (x4 : Int32) (x5 : Int32) (x6 : Int32) (I : FI) (L : FL) : Option (FI × FL) :=
  K1 x1 x2 x3 x4 x5 (x6 + (1 : Int32)) I L
set_option maxHeartbeats 1000000 in
theorem tc_19_2 (Ls : Nat) (xs : Nat → Int32) (d : Nat) (kp : Option Nat) (tl : List (Nat × Nat)) (rl : List (List (Option Nat))) (nh : Option Nat) (rh : Option Nat) (n : Nat) (K0 : Int32 → Int32 → Int32 → Int32 → FI → FL → Option (FI × FL)) (K1 : Int32 → Int32 → Int32 → Int32 → Int32 → Int32 → FI → FL → Option (FI × FL)) (hK0 : ∀ (w5 : Option Value) (w6 : Option Value) (x1 : Int32) (x2 : Int32) (x3 : Int32) (x4 : Int32) (I : FI) (L : FL) (r : FI × FL), K0 x1 x2 x3 x4 I L = some r → Bs cd_19 (sf 3 rs_3 false 7 none Ls xs (d + 0)) (9, [some (.ref 3), some (.int x1), some (.int x2), some (.int x3), some (.int x4), w5, w6], [], hp kp nh rh tl rl I L) (none, hp kp nh rh tl rl r.1 r.2)) (hK1 : ∀ (x1 : Int32) (x2 : Int32) (x3 : Int32) (x4 : Int32) (x5 : Int32) (x6 : Int32) (I : FI) (L : FL) (r : FI × FL), K1 x1 x2 x3 x4 x5 x6 I L = some r → Bs cd_19 (sf 3 rs_3 false 7 none Ls xs (d + 0)) (21, [some (.ref 3), some (.int x1), some (.int x2), some (.int x3), some (.int x4), some (.int x5), some (.int x6)], [], hp kp nh rh tl rl I L) (none, hp kp nh rh tl rl r.1 r.2)) (x1 : Int32) (x2 : Int32) (x3 : Int32) (x4 : Int32) (x5 : Int32) (x6 : Int32) (I : FI) (L : FL) (r : FI × FL) (hf : c_19_2 n K0 K1 x1 x2 x3 x4 x5 x6 I L = some r) : Bs cd_19 (sf 3 rs_3 false 7 none Ls xs (d + 0)) (61, [some (.ref 3), some (.int x1), some (.int x2), some (.int x3), some (.int x4), some (.int x5), some (.int x6)], [], hp kp nh rh tl rl I L) (none, hp kp nh rh tl rl r.1 r.2) := by
  unfold c_19_2 at hf
  refine bs_st 2 (x' := (21, [some (.ref 3), some (.int x1), some (.int x2), some (.int x3), some (.int x4), some (.int x5), some (.int (x6 + (1 : Int32)))], [], hp kp nh rh tl rl I L)) rfl ?_
  exact hK1 x1 x2 x3 x4 x5 (x6 + (1 : Int32)) I L r hf
def b_19_1 (n : Nat) (K0 : Int32 → Int32 → Int32 → Int32 → FI → FL → Option (FI × FL)) (K1 : Int32 → Int32 → Int32 → Int32 → Int32 → Int32 → FI → FL → Option (FI × FL)) (x1 : Int32) (x2 : Int32) (x3 : Int32) (x4 : Int32) (x5 : Int32) (x6 : Int32) (I : FI) (L : FL) : Option (FI × FL) :=
  if (4 : Int32) ≤ x6 then
    K0 x1 (x2 ||| x3) (x5 &&& ((x2 ||| x3) ^^^ (-1 : Int32))) (x4 + (1 : Int32)) I L
  else
    if ((x3 >>> (x6 &&& 31)) &&& (1 : Int32)) = 0 then
      c_19_2 n K0 K1 x1 x2 x3 x4 x5 x6 I L
    else
      if pin ((x1 * (4 : Int32)) + x6) 16 = true then (if pin x6 4 = true then c_19_2 n K0 K1 x1 x2 x3 x4 (x5 ||| (I 6 x6.toNatClampNeg)) x6 (u2 I 7 (((x1 * (4 : Int32)) + x6).toNatClampNeg) x4) L else none) else none
def c_19_1 (n : Nat) (K0 : Int32 → Int32 → Int32 → Int32 → FI → FL → Option (FI × FL)) : Nat → Int32 → Int32 → Int32 → Int32 → Int32 → Int32 → FI → FL → Option (FI × FL)
  | 0, _, _, _, _, _, _, _, _ => none
  | m + 1, x1, x2, x3, x4, x5, x6, I, L => b_19_1 n K0 (c_19_1 n K0 m) x1 x2 x3 x4 x5 x6 I L
set_option maxHeartbeats 1000000 in
theorem tc_19_1 (Ls : Nat) (xs : Nat → Int32) (d : Nat) (kp : Option Nat) (tl : List (Nat × Nat)) (rl : List (List (Option Nat))) (nh : Option Nat) (rh : Option Nat) (n : Nat) (K0 : Int32 → Int32 → Int32 → Int32 → FI → FL → Option (FI × FL)) (hK0 : ∀ (w5 : Option Value) (w6 : Option Value) (x1 : Int32) (x2 : Int32) (x3 : Int32) (x4 : Int32) (I : FI) (L : FL) (r : FI × FL), K0 x1 x2 x3 x4 I L = some r → Bs cd_19 (sf 3 rs_3 false 7 none Ls xs (d + 0)) (9, [some (.ref 3), some (.int x1), some (.int x2), some (.int x3), some (.int x4), w5, w6], [], hp kp nh rh tl rl I L) (none, hp kp nh rh tl rl r.1 r.2)) : ∀ (m : Nat) (x1 : Int32) (x2 : Int32) (x3 : Int32) (x4 : Int32) (x5 : Int32) (x6 : Int32) (I : FI) (L : FL) (r : FI × FL), c_19_1 n K0 m x1 x2 x3 x4 x5 x6 I L = some r → Bs cd_19 (sf 3 rs_3 false 7 none Ls xs (d + 0)) (21, [some (.ref 3), some (.int x1), some (.int x2), some (.int x3), some (.int x4), some (.int x5), some (.int x6)], [], hp kp nh rh tl rl I L) (none, hp kp nh rh tl rl r.1 r.2)
  | 0, x1, x2, x3, x4, x5, x6, I, L, r, hf => by cases hf
  | m + 1, x1, x2, x3, x4, x5, x6, I, L, r, hf => by
    unfold c_19_1 b_19_1 at hf
    have hK1 := tc_19_1 Ls xs d kp tl rl nh rh n K0 hK0 m
    refine bs_st 2 (x' := (24, [some (.ref 3), some (.int x1), some (.int x2), some (.int x3), some (.int x4), some (.int x5), some (.int x6)], [.int (4 : Int32), .int x6], hp kp nh rh tl rl I L)) rfl ?_
    refine bs_br (t := 67) (e := 27) (lo := [some (.ref 3), some (.int x1), some (.int x2), some (.int x3), some (.int x4), some (.int x5), some (.int x6)]) (st := []) (h := hp kp nh rh tl rl I L) rfl hf (fun hc hf => ?_) (fun hc hf => ?_)
    · refine bs_st 12 (x' := (9, [some (.ref 3), some (.int x1), some (.int (x2 ||| x3)), some (.int (x5 &&& ((x2 ||| x3) ^^^ (-1 : Int32)))), some (.int (x4 + (1 : Int32))), some (.int x5), some (.int x6)], [], hp kp nh rh tl rl I L)) rfl ?_
      exact hK0 (some (.int x5)) (some (.int x6)) x1 (x2 ||| x3) (x5 &&& ((x2 ||| x3) ^^^ (-1 : Int32))) (x4 + (1 : Int32)) I L r hf
    · refine bs_st 5 (x' := (33, [some (.ref 3), some (.int x1), some (.int x2), some (.int x3), some (.int x4), some (.int x5), some (.int x6)], [.int ((x3 >>> (x6 &&& 31)) &&& (1 : Int32))], hp kp nh rh tl rl I L)) rfl ?_
      refine bs_br (t := 61) (e := 36) (lo := [some (.ref 3), some (.int x1), some (.int x2), some (.int x3), some (.int x4), some (.int x5), some (.int x6)]) (st := []) (h := hp kp nh rh tl rl I L) rfl hf (fun hc hf => ?_) (fun hc hf => ?_)
      · exact tc_19_2 Ls xs d kp tl rl nh rh n _ _ hK0 hK1 x1 x2 x3 x4 x5 x6 I L r hf
      · refine bs_st 8 (x' := (48, [some (.ref 3), some (.int x1), some (.int x2), some (.int x3), some (.int x4), some (.int x5), some (.int x6)], [.int x4, .int ((x1 * (4 : Int32)) + x6), .ref 7], hp kp nh rh tl rl I L)) rfl ?_
        refine bs_gd (x' := (49, [some (.ref 3), some (.int x1), some (.int x2), some (.int x3), some (.int x4), some (.int x5), some (.int x6)], [], hp kp nh rh tl rl (u2 I 7 (((x1 * (4 : Int32)) + x6).toNatClampNeg) x4) L)) rfl hf (fun hc hf => ?_)
        refine bs_st 4 (x' := (57, [some (.ref 3), some (.int x1), some (.int x2), some (.int x3), some (.int x4), some (.int x5), some (.int x6)], [.int x6, .ref 6, .int x5], hp kp nh rh tl rl (u2 I 7 (((x1 * (4 : Int32)) + x6).toNatClampNeg) x4) L)) rfl ?_
        refine bs_gd (x' := (58, [some (.ref 3), some (.int x1), some (.int x2), some (.int x3), some (.int x4), some (.int x5), some (.int x6)], [.int (I 6 x6.toNatClampNeg), .int x5], hp kp nh rh tl rl (u2 I 7 (((x1 * (4 : Int32)) + x6).toNatClampNeg) x4) L)) rfl hf (fun hc hf => ?_)
        refine bs_st 2 (x' := (61, [some (.ref 3), some (.int x1), some (.int x2), some (.int x3), some (.int x4), some (.int (x5 ||| (I 6 x6.toNatClampNeg))), some (.int x6)], [], hp kp nh rh tl rl (u2 I 7 (((x1 * (4 : Int32)) + x6).toNatClampNeg) x4) L)) rfl ?_
        exact tc_19_2 Ls xs d kp tl rl nh rh n _ _ hK0 hK1 x1 x2 x3 x4 (x5 ||| (I 6 x6.toNatClampNeg)) x6 (u2 I 7 (((x1 * (4 : Int32)) + x6).toNatClampNeg) x4) L r hf
def b_19_0 (n : Nat) (K0 : Int32 → Int32 → Int32 → Int32 → FI → FL → Option (FI × FL)) (x1 : Int32) (x2 : Int32) (x3 : Int32) (x4 : Int32) (I : FI) (L : FL) : Option (FI × FL) :=
  if (4 : Int32) ≤ x4 then
    some (I, L)
  else
    c_19_1 n K0 n x1 x2 x3 x4 (0 : Int32) (0 : Int32) I L
def c_19_0 (n : Nat) : Nat → Int32 → Int32 → Int32 → Int32 → FI → FL → Option (FI × FL)
  | 0, _, _, _, _, _, _ => none
  | m + 1, x1, x2, x3, x4, I, L => b_19_0 n (c_19_0 n m) x1 x2 x3 x4 I L
set_option maxHeartbeats 1000000 in
theorem tc_19_0 (Ls : Nat) (xs : Nat → Int32) (d : Nat) (kp : Option Nat) (tl : List (Nat × Nat)) (rl : List (List (Option Nat))) (nh : Option Nat) (rh : Option Nat) (n : Nat) : ∀ (m : Nat) (w5 : Option Value) (w6 : Option Value) (x1 : Int32) (x2 : Int32) (x3 : Int32) (x4 : Int32) (I : FI) (L : FL) (r : FI × FL), c_19_0 n m x1 x2 x3 x4 I L = some r → Bs cd_19 (sf 3 rs_3 false 7 none Ls xs (d + 0)) (9, [some (.ref 3), some (.int x1), some (.int x2), some (.int x3), some (.int x4), w5, w6], [], hp kp nh rh tl rl I L) (none, hp kp nh rh tl rl r.1 r.2)
  | 0, w5, w6, x1, x2, x3, x4, I, L, r, hf => by cases hf
  | m + 1, w5, w6, x1, x2, x3, x4, I, L, r, hf => by
    unfold c_19_0 b_19_0 at hf
    have hK0 := tc_19_0 Ls xs d kp tl rl nh rh n m
    refine bs_st 2 (x' := (12, [some (.ref 3), some (.int x1), some (.int x2), some (.int x3), some (.int x4), w5, w6], [.int (4 : Int32), .int x4], hp kp nh rh tl rl I L)) rfl ?_
    refine bs_br (t := 84) (e := 15) (lo := [some (.ref 3), some (.int x1), some (.int x2), some (.int x3), some (.int x4), w5, w6]) (st := []) (h := hp kp nh rh tl rl I L) rfl hf (fun hc hf => ?_) (fun hc hf => ?_)
    · cases hf
      exact bs_ret rfl
    · refine bs_st 4 (x' := (21, [some (.ref 3), some (.int x1), some (.int x2), some (.int x3), some (.int x4), some (.int (0 : Int32)), some (.int (0 : Int32))], [], hp kp nh rh tl rl I L)) rfl ?_
      exact tc_19_1 Ls xs d kp tl rl nh rh n _ hK0 n x1 x2 x3 x4 (0 : Int32) (0 : Int32) I L r hf
def f_19 (n : Nat) (x1 : Int32) (I : FI) (L : FL) : Option (FI × FL) :=
  c_19_0 n n x1 (0 : Int32) ((1 : Int32) <<< (x1 &&& 31)) (0 : Int32) I L
set_option maxHeartbeats 1000000 in
theorem t_19 (Ls : Nat) (xs : Nat → Int32) (d : Nat) (kp : Option Nat) (tl : List (Nat × Nat)) (rl : List (List (Option Nat))) (nh : Option Nat) (rh : Option Nat) (n : Nat) (x1 : Int32) (I : FI) (L : FL) (r : FI × FL) (hf : f_19 n x1 I L = some r) : pEN Ls xs (d + 1) 19 [.ref 3, .int x1] (hp kp nh rh tl rl I L) = some (none, hp kp nh rh tl rl r.1 r.2) := by
  refine en_run (d := d + 0) (cd := cd_19) (f := (sf 3 rs_3 false 7 none Ls xs (d + 0))) rfl rfl (x := (0, [some (.ref 3), some (.int x1), none, none, none, none, none], [], hp kp nh rh tl rl I L)) rfl rfl (Nat.le_of_ble_eq_true rfl) ?_
  unfold f_19 at hf
  refine bs_st 8 (x' := (9, [some (.ref 3), some (.int x1), some (.int (0 : Int32)), some (.int ((1 : Int32) <<< (x1 &&& 31))), some (.int (0 : Int32)), none, none], [], hp kp nh rh tl rl I L)) rfl ?_
  exact tc_19_0 Ls xs d kp tl rl nh rh n n none none x1 (0 : Int32) ((1 : Int32) <<< (x1 &&& 31)) (0 : Int32) I L r hf
/-- House.measure() on (3,) -/
def b_18_1 (n : Nat) (K0 : Int32 → FI → FL → Option (FI × FL)) (K1 : Int32 → Int32 → FI → FL → Option (FI × FL)) (x1 : Int32) (x2 : Int32) (I : FI) (L : FL) : Option (FI × FL) :=
  if (4 : Int32) ≤ x2 then
    (f_19 n x1 I L).bind fun q0 =>
    K0 (x1 + (1 : Int32)) q0.1 q0.2
  else
    if pin ((x1 * (4 : Int32)) + x2) 16 = true then K1 x1 (x2 + (1 : Int32)) (u2 I 7 (((x1 * (4 : Int32)) + x2).toNatClampNeg) (-1 : Int32)) L else none
def c_18_1 (n : Nat) (K0 : Int32 → FI → FL → Option (FI × FL)) : Nat → Int32 → Int32 → FI → FL → Option (FI × FL)
  | 0, _, _, _, _ => none
  | m + 1, x1, x2, I, L => b_18_1 n K0 (c_18_1 n K0 m) x1 x2 I L
set_option maxHeartbeats 1000000 in
theorem tc_18_1 (Ls : Nat) (xs : Nat → Int32) (d : Nat) (kp : Option Nat) (tl : List (Nat × Nat)) (rl : List (List (Option Nat))) (nh : Option Nat) (rh : Option Nat) (n : Nat) (K0 : Int32 → FI → FL → Option (FI × FL)) (hK0 : ∀ (w2 : Option Value) (x1 : Int32) (I : FI) (L : FL) (r : FI × FL), K0 x1 I L = some r → Bs cd_18 (sf 3 rs_3 false 3 none Ls xs (d + 1)) (2, [some (.ref 3), some (.int x1), w2], [], hp kp nh rh tl rl I L) (none, hp kp nh rh tl rl r.1 r.2)) : ∀ (m : Nat) (x1 : Int32) (x2 : Int32) (I : FI) (L : FL) (r : FI × FL), c_18_1 n K0 m x1 x2 I L = some r → Bs cd_18 (sf 3 rs_3 false 3 none Ls xs (d + 1)) (9, [some (.ref 3), some (.int x1), some (.int x2)], [], hp kp nh rh tl rl I L) (none, hp kp nh rh tl rl r.1 r.2)
  | 0, x1, x2, I, L, r, hf => by cases hf
  | m + 1, x1, x2, I, L, r, hf => by
    unfold c_18_1 b_18_1 at hf
    have hK1 := tc_18_1 Ls xs d kp tl rl nh rh n K0 hK0 m
    refine bs_st 2 (x' := (11, [some (.ref 3), some (.int x1), some (.int x2)], [.int (4 : Int32), .int x2], hp kp nh rh tl rl I L)) rfl ?_
    refine bs_br (t := 31) (e := 14) (lo := [some (.ref 3), some (.int x1), some (.int x2)]) (st := []) (h := hp kp nh rh tl rl I L) rfl hf (fun hc hf => ?_) (fun hc hf => ?_)
    · refine bs_st 2 (x' := (33, [some (.ref 3), some (.int x1), some (.int x2)], [.int x1, .ref 3], hp kp nh rh tl rl I L)) rfl ?_
      obtain ⟨q0, hq0, hf⟩ := Option.bind_eq_some_iff.mp hf
      refine bs_call (o := pEN Ls xs (d + 1) 19 [.ref 3, .int x1] (hp kp nh rh tl rl I L)) (w := none) (h' := hp kp nh rh tl rl q0.1 q0.2) (pc := 36) (lo := [some (.ref 3), some (.int x1), some (.int x2)]) (rest := []) rfl (t_19 Ls xs (d + 0) kp tl rl nh rh n x1 I L q0 hq0) ?_
      refine bs_st 2 (x' := (2, [some (.ref 3), some (.int (x1 + (1 : Int32))), some (.int x2)], [], hp kp nh rh tl rl q0.1 q0.2)) rfl ?_
      exact hK0 (some (.int x2)) (x1 + (1 : Int32)) q0.1 q0.2 r hf
    · refine bs_st 8 (x' := (24, [some (.ref 3), some (.int x1), some (.int x2)], [.int (-1 : Int32), .int ((x1 * (4 : Int32)) + x2), .ref 7], hp kp nh rh tl rl I L)) rfl ?_
      refine bs_gd (x' := (25, [some (.ref 3), some (.int x1), some (.int x2)], [], hp kp nh rh tl rl (u2 I 7 (((x1 * (4 : Int32)) + x2).toNatClampNeg) (-1 : Int32)) L)) rfl hf (fun hc hf => ?_)
      refine bs_st 2 (x' := (9, [some (.ref 3), some (.int x1), some (.int (x2 + (1 : Int32)))], [], hp kp nh rh tl rl (u2 I 7 (((x1 * (4 : Int32)) + x2).toNatClampNeg) (-1 : Int32)) L)) rfl ?_
      exact hK1 x1 (x2 + (1 : Int32)) (u2 I 7 (((x1 * (4 : Int32)) + x2).toNatClampNeg) (-1 : Int32)) L r hf
def b_18_0 (n : Nat) (K0 : Int32 → FI → FL → Option (FI × FL)) (x1 : Int32) (I : FI) (L : FL) : Option (FI × FL) :=
  if (4 : Int32) ≤ x1 then
    some (I, L)
  else
    c_18_1 n K0 n x1 (0 : Int32) I L
def c_18_0 (n : Nat) : Nat → Int32 → FI → FL → Option (FI × FL)
  | 0, _, _, _ => none
  | m + 1, x1, I, L => b_18_0 n (c_18_0 n m) x1 I L
set_option maxHeartbeats 1000000 in
theorem tc_18_0 (Ls : Nat) (xs : Nat → Int32) (d : Nat) (kp : Option Nat) (tl : List (Nat × Nat)) (rl : List (List (Option Nat))) (nh : Option Nat) (rh : Option Nat) (n : Nat) : ∀ (m : Nat) (w2 : Option Value) (x1 : Int32) (I : FI) (L : FL) (r : FI × FL), c_18_0 n m x1 I L = some r → Bs cd_18 (sf 3 rs_3 false 3 none Ls xs (d + 1)) (2, [some (.ref 3), some (.int x1), w2], [], hp kp nh rh tl rl I L) (none, hp kp nh rh tl rl r.1 r.2)
  | 0, w2, x1, I, L, r, hf => by cases hf
  | m + 1, w2, x1, I, L, r, hf => by
    unfold c_18_0 b_18_0 at hf
    have hK0 := tc_18_0 Ls xs d kp tl rl nh rh n m
    refine bs_st 2 (x' := (4, [some (.ref 3), some (.int x1), w2], [.int (4 : Int32), .int x1], hp kp nh rh tl rl I L)) rfl ?_
    refine bs_br (t := 42) (e := 7) (lo := [some (.ref 3), some (.int x1), w2]) (st := []) (h := hp kp nh rh tl rl I L) rfl hf (fun hc hf => ?_) (fun hc hf => ?_)
    · cases hf
      exact bs_ret rfl
    · refine bs_st 2 (x' := (9, [some (.ref 3), some (.int x1), some (.int (0 : Int32))], [], hp kp nh rh tl rl I L)) rfl ?_
      exact tc_18_1 Ls xs d kp tl rl nh rh n _ hK0 n x1 (0 : Int32) I L r hf
def f_18 (n : Nat) (I : FI) (L : FL) : Option (FI × FL) :=
  c_18_0 n n (0 : Int32) I L
set_option maxHeartbeats 1000000 in
theorem t_18 (Ls : Nat) (xs : Nat → Int32) (d : Nat) (kp : Option Nat) (tl : List (Nat × Nat)) (rl : List (List (Option Nat))) (nh : Option Nat) (rh : Option Nat) (n : Nat) (I : FI) (L : FL) (r : FI × FL) (hf : f_18 n I L = some r) : pEN Ls xs (d + 2) 18 [.ref 3] (hp kp nh rh tl rl I L) = some (none, hp kp nh rh tl rl r.1 r.2) := by
  refine en_run (d := d + 1) (cd := cd_18) (f := (sf 3 rs_3 false 3 none Ls xs (d + 1))) rfl rfl (x := (0, [some (.ref 3), none, none], [], hp kp nh rh tl rl I L)) rfl rfl (Nat.le_of_ble_eq_true rfl) ?_
  unfold f_18 at hf
  refine bs_st 2 (x' := (2, [some (.ref 3), some (.int (0 : Int32)), none], [], hp kp nh rh tl rl I L)) rfl ?_
  exact tc_18_0 Ls xs d kp tl rl nh rh n n none (0 : Int32) I L r hf
/-- RingSearch.forget(LLampRounds$House;) on (35, 3) -/
def b_95_0 (n : Nat) (K0 : Int32 → FI → FL → Option (FI × FL)) (x2 : Int32) (I : FI) (L : FL) : Option (FI × FL) :=
  if (10 : Int32) < x2 then
    some (I, L)
  else
    if pin x2 11 = true then K0 (x2 + (1 : Int32)) (u2 I 39 x2.toNatClampNeg (-3 : Int32)) L else none
def c_95_0 (n : Nat) : Nat → Int32 → FI → FL → Option (FI × FL)
  | 0, _, _, _ => none
  | m + 1, x2, I, L => b_95_0 n (c_95_0 n m) x2 I L
set_option maxHeartbeats 1000000 in
theorem tc_95_0 (Ls : Nat) (xs : Nat → Int32) (d : Nat) (kp : Option Nat) (tl : List (Nat × Nat)) (rl : List (List (Option Nat))) (nh : Option Nat) (rh : Option Nat) (n : Nat) : ∀ (m : Nat) (w1 : Option Value) (x2 : Int32) (I : FI) (L : FL) (r : FI × FL), c_95_0 n m x2 I L = some r → Bs cd_95 (sf 8 rs_8 false 3 none Ls xs (d + 0)) (13, [some (.ref 35), w1, some (.int x2)], [], hp kp nh (some 3) tl rl I L) (none, hp kp nh (some 3) tl rl r.1 r.2)
  | 0, w1, x2, I, L, r, hf => by cases hf
  | m + 1, w1, x2, I, L, r, hf => by
    unfold c_95_0 b_95_0 at hf
    have hK0 := tc_95_0 Ls xs d kp tl rl nh rh n m
    refine bs_st 2 (x' := (16, [some (.ref 35), w1, some (.int x2)], [.int (10 : Int32), .int x2], hp kp nh (some 3) tl rl I L)) rfl ?_
    refine bs_br (t := 33) (e := 19) (lo := [some (.ref 35), w1, some (.int x2)]) (st := []) (h := hp kp nh (some 3) tl rl I L) rfl hf (fun hc hf => ?_) (fun hc hf => ?_)
    · cases hf
      exact bs_ret rfl
    · refine bs_st 4 (x' := (26, [some (.ref 35), w1, some (.int x2)], [.int (-3 : Int32), .int x2, .ref 39], hp kp nh (some 3) tl rl I L)) rfl ?_
      refine bs_gd (x' := (27, [some (.ref 35), w1, some (.int x2)], [], hp kp nh (some 3) tl rl (u2 I 39 x2.toNatClampNeg (-3 : Int32)) L)) rfl hf (fun hc hf => ?_)
      refine bs_st 2 (x' := (13, [some (.ref 35), (pcl w1), some (.int (x2 + (1 : Int32)))], [], hp kp nh (some 3) tl rl (u2 I 39 x2.toNatClampNeg (-3 : Int32)) L)) rfl ?_
      exact hK0 (pcl w1) (x2 + (1 : Int32)) (u2 I 39 x2.toNatClampNeg (-3 : Int32)) L r hf
def f_95 (n : Nat) (I : FI) (L : FL) : Option (FI × FL) :=
  c_95_0 n n (0 : Int32) (u2 I 35 7 (-3 : Int32)) L
set_option maxHeartbeats 1000000 in
theorem t_95 (Ls : Nat) (xs : Nat → Int32) (d : Nat) (kp : Option Nat) (tl : List (Nat × Nat)) (rl : List (List (Option Nat))) (nh : Option Nat) (rh : Option Nat) (n : Nat) (I : FI) (L : FL) (r : FI × FL) (hf : f_95 n I L = some r) : pEN Ls xs (d + 1) 95 [.ref 35, .ref 3] (hp kp nh rh tl rl I L) = some (none, hp kp nh (some 3) tl rl r.1 r.2) := by
  refine en_run (d := d + 0) (cd := cd_95) (f := (sf 8 rs_8 false 3 none Ls xs (d + 0))) rfl rfl (x := (0, [some (.ref 35), some (.ref 3), none], [], hp kp nh rh tl rl I L)) rfl rfl (Nat.le_of_ble_eq_true rfl) ?_
  unfold f_95 at hf
  refine bs_st 2 (x' := (2, [some (.ref 35), some (.ref 3), none], [.ref 3, .ref 35], hp kp nh rh tl rl I L)) rfl ?_
  refine bs_pr_rh rfl ?_
  refine bs_st 5 (x' := (13, [some (.ref 35), some (.ref 3), some (.int (0 : Int32))], [], hp kp nh (some 3) tl rl (u2 I 35 7 (-3 : Int32)) L)) rfl ?_
  exact tc_95_0 Ls xs d kp tl rl nh rh n n (some (.ref 3)) (0 : Int32) (u2 I 35 7 (-3 : Int32)) L r hf
/-- Keeper.forget(LLampRounds$House;) on (114, 3) -/
def b_31_1 (n : Nat) (K1 : Int32 → FI → FL → Option (FI × FL)) (x2 : Int32) (I : FI) (L : FL) : Option (FI × FL) :=
  if (4 : Int32) ≤ x2 then
    some (I, L)
  else
    if pin x2 4 = true then K1 (x2 + (1 : Int32)) (u2 I 121 x2.toNatClampNeg (-3 : Int32)) L else none
def c_31_1 (n : Nat) : Nat → Int32 → FI → FL → Option (FI × FL)
  | 0, _, _, _ => none
  | m + 1, x2, I, L => b_31_1 n (c_31_1 n m) x2 I L
set_option maxHeartbeats 1000000 in
theorem tc_31_1 (Ls : Nat) (xs : Nat → Int32) (d : Nat) (nh : Option Nat) (n : Nat) : ∀ (m : Nat) (w1 : Option Value) (x2 : Int32) (I : FI) (L : FL) (r : FI × FL), c_31_1 n m x2 I L = some r → Bs cd_31 (sf 5 rs_5 false 3 none Ls xs (d + 0)) (40, [some (.ref 114), w1, some (.int x2)], [], hp (some 114) nh (some 3) TK (RK (some 3)) I L) (none, hp (some 114) nh (some 3) TK (RK (some 3)) r.1 r.2)
  | 0, w1, x2, I, L, r, hf => by cases hf
  | m + 1, w1, x2, I, L, r, hf => by
    unfold c_31_1 b_31_1 at hf
    have hK1 := tc_31_1 Ls xs d nh n m
    refine bs_st 2 (x' := (42, [some (.ref 114), w1, some (.int x2)], [.int (4 : Int32), .int x2], hp (some 114) nh (some 3) TK (RK (some 3)) I L)) rfl ?_
    refine bs_br (t := 59) (e := 45) (lo := [some (.ref 114), w1, some (.int x2)]) (st := []) (h := hp (some 114) nh (some 3) TK (RK (some 3)) I L) rfl hf (fun hc hf => ?_) (fun hc hf => ?_)
    · cases hf
      exact bs_ret rfl
    · refine bs_st 4 (x' := (52, [some (.ref 114), w1, some (.int x2)], [.int (-3 : Int32), .int x2, .ref 121], hp (some 114) nh (some 3) TK (RK (some 3)) I L)) rfl ?_
      refine bs_gd (x' := (53, [some (.ref 114), w1, some (.int x2)], [], hp (some 114) nh (some 3) TK (RK (some 3)) (u2 I 121 x2.toNatClampNeg (-3 : Int32)) L)) rfl hf (fun hc hf => ?_)
      refine bs_st 2 (x' := (40, [some (.ref 114), (pcl w1), some (.int (x2 + (1 : Int32)))], [], hp (some 114) nh (some 3) TK (RK (some 3)) (u2 I 121 x2.toNatClampNeg (-3 : Int32)) L)) rfl ?_
      exact hK1 (pcl w1) (x2 + (1 : Int32)) (u2 I 121 x2.toNatClampNeg (-3 : Int32)) L r hf
def b_31_0 (n : Nat) (K0 : Int32 → FI → FL → Option (FI × FL)) (x2 : Int32) (I : FI) (L : FL) : Option (FI × FL) :=
  if (16 : Int32) ≤ x2 then
    c_31_1 n n (0 : Int32) I L
  else
    if pin x2 16 = true then K0 (x2 + (1 : Int32)) (u2 I 120 x2.toNatClampNeg (-3 : Int32)) L else none
def c_31_0 (n : Nat) : Nat → Int32 → FI → FL → Option (FI × FL)
  | 0, _, _, _ => none
  | m + 1, x2, I, L => b_31_0 n (c_31_0 n m) x2 I L
set_option maxHeartbeats 1000000 in
theorem tc_31_0 (Ls : Nat) (xs : Nat → Int32) (d : Nat) (nh : Option Nat) (n : Nat) : ∀ (m : Nat) (w1 : Option Value) (x2 : Int32) (I : FI) (L : FL) (r : FI × FL), c_31_0 n m x2 I L = some r → Bs cd_31 (sf 5 rs_5 false 3 none Ls xs (d + 0)) (18, [some (.ref 114), w1, some (.int x2)], [], hp (some 114) nh (some 3) TK (RK (some 3)) I L) (none, hp (some 114) nh (some 3) TK (RK (some 3)) r.1 r.2)
  | 0, w1, x2, I, L, r, hf => by cases hf
  | m + 1, w1, x2, I, L, r, hf => by
    unfold c_31_0 b_31_0 at hf
    have hK0 := tc_31_0 Ls xs d nh n m
    refine bs_st 2 (x' := (21, [some (.ref 114), w1, some (.int x2)], [.int (16 : Int32), .int x2], hp (some 114) nh (some 3) TK (RK (some 3)) I L)) rfl ?_
    refine bs_br (t := 38) (e := 24) (lo := [some (.ref 114), w1, some (.int x2)]) (st := []) (h := hp (some 114) nh (some 3) TK (RK (some 3)) I L) rfl hf (fun hc hf => ?_) (fun hc hf => ?_)
    · refine bs_st 2 (x' := (40, [some (.ref 114), (pcl w1), some (.int (0 : Int32))], [], hp (some 114) nh (some 3) TK (RK (some 3)) I L)) rfl ?_
      exact tc_31_1 Ls xs d nh n n (pcl w1) (0 : Int32) I L r hf
    · refine bs_st 4 (x' := (31, [some (.ref 114), w1, some (.int x2)], [.int (-3 : Int32), .int x2, .ref 120], hp (some 114) nh (some 3) TK (RK (some 3)) I L)) rfl ?_
      refine bs_gd (x' := (32, [some (.ref 114), w1, some (.int x2)], [], hp (some 114) nh (some 3) TK (RK (some 3)) (u2 I 120 x2.toNatClampNeg (-3 : Int32)) L)) rfl hf (fun hc hf => ?_)
      refine bs_st 2 (x' := (18, [some (.ref 114), (pcl w1), some (.int (x2 + (1 : Int32)))], [], hp (some 114) nh (some 3) TK (RK (some 3)) (u2 I 120 x2.toNatClampNeg (-3 : Int32)) L)) rfl ?_
      exact hK0 (pcl w1) (x2 + (1 : Int32)) (u2 I 120 x2.toNatClampNeg (-3 : Int32)) L r hf
def f_31 (n : Nat) (I : FI) (L : FL) : Option (FI × FL) :=
  c_31_0 n n (0 : Int32) (u2 (u2 I 114 7 (-1 : Int32)) 114 8 (-3 : Int32)) L
set_option maxHeartbeats 1000000 in
theorem t_31 (Ls : Nat) (xs : Nat → Int32) (d : Nat) (nh : Option Nat) (n : Nat) (I : FI) (L : FL) (r : FI × FL) (hf : f_31 n I L = some r) : pEN Ls xs (d + 1) 31 [.ref 114, .ref 3] (hp (some 114) nh (some 3) TK (RK (some 3)) I L) = some (none, hp (some 114) nh (some 3) TK (RK (some 3)) r.1 r.2) := by
  refine en_run (d := d + 0) (cd := cd_31) (f := (sf 5 rs_5 false 3 none Ls xs (d + 0))) rfl rfl (x := (0, [some (.ref 114), some (.ref 3), none], [], hp (some 114) nh (some 3) TK (RK (some 3)) I L)) rfl rfl (Nat.le_of_ble_eq_true rfl) ?_
  unfold f_31 at hf
  refine bs_st 2 (x' := (2, [some (.ref 114), some (.ref 3), none], [.ref 3, .ref 114], hp (some 114) nh (some 3) TK (RK (some 3)) I L)) rfl ?_
  refine bs_pr_kh rfl ?_
  refine bs_st 8 (x' := (18, [some (.ref 114), some (.ref 3), some (.int (0 : Int32))], [], hp (some 114) nh (some 3) TK (RK (some 3)) (u2 (u2 I 114 7 (-1 : Int32)) 114 8 (-3 : Int32)) L)) rfl ?_
  exact tc_31_0 Ls xs d nh n n (some (.ref 3)) (0 : Int32) (u2 (u2 I 114 7 (-1 : Int32)) 114 8 (-3 : Int32)) L r hf
/-- LampRounds.forgetFindings() on (0,) -/
def f_186_1 (n : Nat) (I : FI) (L : FL) : Option (FI × FL) :=
  (f_95 n I L).bind fun q0 =>
  (f_31 n q0.1 q0.2).bind fun q1 =>
  some (q1.1, q1.2)
set_option maxHeartbeats 1000000 in
theorem t_186_1 (Ls : Nat) (xs : Nat → Int32) (d : Nat) (nh : Option Nat) (rh : Option Nat) (n : Nat) (I : FI) (L : FL) (r : FI × FL) (hf : f_186_1 n I L = some r) : pEN Ls xs (d + 2) 186 [.ref 0] (hp (some 114) nh rh TK (RK (some 3)) I L) = some (none, hp (some 114) nh (some 3) TK (RK (some 3)) r.1 r.2) := by
  refine en_run (d := d + 1) (cd := cd_186) (f := (sf 11 rs_11 false 1 none Ls xs (d + 1))) rfl rfl (x := (0, [some (.ref 0)], [], hp (some 114) nh rh TK (RK (some 3)) I L)) rfl rfl (Nat.le_of_ble_eq_true rfl) ?_
  unfold f_186_1 at hf
  refine bs_st 4 (x' := (8, [some (.ref 0)], [.ref 3, .ref 35], hp (some 114) nh rh TK (RK (some 3)) I L)) rfl ?_
  obtain ⟨q0, hq0, hf⟩ := Option.bind_eq_some_iff.mp hf
  refine bs_call (o := pEN Ls xs (d + 1) 95 [.ref 35, .ref 3] (hp (some 114) nh rh TK (RK (some 3)) I L)) (w := none) (h' := hp (some 114) nh (some 3) TK (RK (some 3)) q0.1 q0.2) (pc := 11) (lo := [some (.ref 0)]) (rest := []) rfl (t_95 Ls xs (d + 0) (some 114) TK (RK (some 3)) nh rh n I L q0 hq0) ?_
  refine bs_st 7 (x' := (26, [some (.ref 0)], [.ref 3, .ref 114], hp (some 114) nh (some 3) TK (RK (some 3)) q0.1 q0.2)) rfl ?_
  obtain ⟨q1, hq1, hf⟩ := Option.bind_eq_some_iff.mp hf
  refine bs_call (o := pEN Ls xs (d + 1) 31 [.ref 114, .ref 3] (hp (some 114) nh (some 3) TK (RK (some 3)) q0.1 q0.2)) (w := none) (h' := hp (some 114) nh (some 3) TK (RK (some 3)) q1.1 q1.2) (pc := 29) (lo := [some (.ref 0)]) (rest := []) rfl (t_31 Ls xs (d + 0) nh n q0.1 q0.2 q1 hq1) ?_
  cases hf
  exact bs_ret rfl
