/-- LampRounds.mean(II) on (0,) -/
def b_162_1 (n : Nat) (nh : Option Nat) (K1 : Int32 → Int32 → Int32 → Int32 → FI → FL → Option (Int32 × Option Nat × FI × FL)) (x1 : Int32) (x2 : Int32) (x3 : Int32) (x4 : Int32) (I : FI) (L : FL) : Option (Int32 × Option Nat × FI × FL) :=
  if ((1 : Int32) <<< ((I 3 6) &&& 31)) ≤ x4 then
    (f_27_1 n I L).bind fun q8 =>
    (f_197_1 n x3 q8 x2 I L).bind fun q9 =>
    some (q9, (some 3), I, L)
  else
    (f_193_1 n x4 I L).bind fun q10 =>
    (f_63 n x1 q10.1 q10.2).bind fun q11 =>
    (f_360_1 q11 q10.1 q10.2).bind fun q12 =>
    (f_26 n x4 q10.1 q10.2).bind fun q13 =>
    K1 x1 x2 (x3 + (q12 * q13)) (x4 + (1 : Int32)) q10.1 q10.2
def c_162_1 (n : Nat) (nh : Option Nat) : Nat → Int32 → Int32 → Int32 → Int32 → FI → FL → Option (Int32 × Option Nat × FI × FL)
  | 0, _, _, _, _, _, _ => none
  | m + 1, x1, x2, x3, x4, I, L => b_162_1 n nh (c_162_1 n nh m) x1 x2 x3 x4 I L
set_option maxHeartbeats 1000000 in
set_option maxRecDepth 20000 in
theorem tc_162_1 (Ls : Nat) (xs : Nat → Int32) (d : Nat) (kp : Option Nat) (tl : List (Nat × Nat)) (rl : List (List (Option Nat))) (nh : Option Nat) (rh : Option Nat) (n : Nat) : ∀ (m : Nat) (x1 : Int32) (x2 : Int32) (x3 : Int32) (x4 : Int32) (I : FI) (L : FL) (r : Int32 × Option Nat × FI × FL), c_162_1 n nh m x1 x2 x3 x4 I L = some r → Bs cd_162 (sf 11 rs_11 false 5 (some (.int)) Ls xs (d + 6)) (23, [some (.ref 0), some (.int x1), some (.int x2), some (.int x3), some (.int x4)], [], hp kp (some 3) rh tl rl I L) (some (.int r.1), hp kp r.2.1 rh tl rl r.2.2.1 r.2.2.2)
  | 0, x1, x2, x3, x4, I, L, r, hf => by cases hf
  | m + 1, x1, x2, x3, x4, I, L, r, hf => by
    unfold c_162_1 b_162_1 at hf
    have hK1 := tc_162_1 Ls xs d kp tl rl nh rh n m
    refine bs_st 6 (x' := (34, [some (.ref 0), some (.int x1), some (.int x2), some (.int x3), some (.int x4)], [.int ((1 : Int32) <<< ((I 3 6) &&& 31)), .int x4], hp kp (some 3) rh tl rl I L)) rfl ?_
    refine bs_br (t := 69) (e := 37) (lo := [some (.ref 0), some (.int x1), some (.int x2), some (.int x3), some (.int x4)]) (st := []) (h := hp kp (some 3) rh tl rl I L) rfl hf (fun hc hf => ?_) (fun hc hf => ?_)
    · refine bs_st 3 (x' := (74, [some (.ref 0), some (.int x1), some (.int x2), some (.int x3), some (.int x4)], [.ref 3, .int x3], hp kp (some 3) rh tl rl I L)) rfl ?_
      obtain ⟨q8, hq8, hf⟩ := Option.bind_eq_some_iff.mp hf
      refine bs_call (o := pEN Ls xs (d + 6) 27 [.ref 3] (hp kp (some 3) rh tl rl I L)) (w := some (.int q8)) (h' := hp kp (some 3) rh tl rl I L) (pc := 77) (lo := [some (.ref 0), some (.int x1), some (.int x2), some (.int x3), some (.int x4)]) (rest := [.int x3]) rfl (t_27_1 Ls xs (d + 5) kp tl rl rh n I L q8 hq8) ?_
      refine bs_st 1 (x' := (78, [some (.ref 0), some (.int x1), some (.int x2), some (.int x3), some (.int x4)], [.int x2, .int q8, .int x3], hp kp (some 3) rh tl rl I L)) rfl ?_
      obtain ⟨q9, hq9, hf⟩ := Option.bind_eq_some_iff.mp hf
      refine bs_call (o := pEN Ls xs (d + 6) 197 [.int x3, .int q8, .int x2] (hp kp (some 3) rh tl rl I L)) (w := some (.int q9)) (h' := hp kp (some 3) rh tl rl I L) (pc := 81) (lo := [some (.ref 0), some (.int x1), some (.int x2), some (.int x3), some (.int x4)]) (rest := []) rfl (t_197_1 Ls xs (d + 5) kp tl rl rh n x3 q8 x2 I L q9 hq9) ?_
      cases hf
      exact bs_ret rfl
    · refine bs_st 3 (x' := (41, [some (.ref 0), some (.int x1), some (.int x2), some (.int x3), some (.int x4)], [.int x4, .ref 0, .int x3], hp kp (some 3) rh tl rl I L)) rfl ?_
      obtain ⟨q10, hq10, hf⟩ := Option.bind_eq_some_iff.mp hf
      refine bs_call (o := pEN Ls xs (d + 6) 193 [.ref 0, .int x4] (hp kp (some 3) rh tl rl I L)) (w := some (.ref 26)) (h' := hp kp (some 3) rh tl rl q10.1 q10.2) (pc := 44) (lo := [some (.ref 0), some (.int x1), some (.int x2), some (.int x3), some (.int x4)]) (rest := [.int x3]) rfl (t_193_1 Ls xs (d + 0) kp tl rl rh n x4 I L q10 hq10) ?_
      refine bs_st 1 (x' := (45, [some (.ref 0), some (.int x1), some (.int x2), some (.int x3), some (.int x4)], [.int x1, .ref 26, .int x3], hp kp (some 3) rh tl rl q10.1 q10.2)) rfl ?_
      obtain ⟨q11, hq11, hf⟩ := Option.bind_eq_some_iff.mp hf
      refine bs_call (o := pEN Ls xs (d + 6) 63 [.ref 26, .int x1] (hp kp (some 3) rh tl rl q10.1 q10.2)) (w := some (.int q11)) (h' := hp kp (some 3) rh tl rl q10.1 q10.2) (pc := 48) (lo := [some (.ref 0), some (.int x1), some (.int x2), some (.int x3), some (.int x4)]) (rest := [.int x3]) rfl (t_63 Ls xs (d + 4) kp tl rl rh n x1 q10.1 q10.2 q11 hq11) ?_
      obtain ⟨q12, hq12, hf⟩ := Option.bind_eq_some_iff.mp hf
      refine bs_call (o := pEN Ls xs (d + 6) 360 [.int q11] (hp kp (some 3) rh tl rl q10.1 q10.2)) (w := some (.int q12)) (h' := hp kp (some 3) rh tl rl q10.1 q10.2) (pc := 51) (lo := [some (.ref 0), some (.int x1), some (.int x2), some (.int x3), some (.int x4)]) (rest := [.int x3]) rfl (t_360_1 Ls xs (d + 5) kp tl rl rh q11 q10.1 q10.2 q12 hq12) ?_
      refine bs_st 3 (x' := (57, [some (.ref 0), some (.int x1), some (.int x2), some (.int x3), some (.int x4)], [.int x4, .ref 3, .int q12, .int x3], hp kp (some 3) rh tl rl q10.1 q10.2)) rfl ?_
      obtain ⟨q13, hq13, hf⟩ := Option.bind_eq_some_iff.mp hf
      refine bs_call (o := pEN Ls xs (d + 6) 26 [.ref 3, .int x4] (hp kp (some 3) rh tl rl q10.1 q10.2)) (w := some (.int q13)) (h' := hp kp (some 3) rh tl rl q10.1 q10.2) (pc := 60) (lo := [some (.ref 0), some (.int x1), some (.int x2), some (.int x3), some (.int x4)]) (rest := [.int q12, .int x3]) rfl (t_26 Ls xs (d + 5) kp tl rl rh n x4 q10.1 q10.2 q13 hq13) ?_
      refine bs_st 5 (x' := (23, [some (.ref 0), some (.int x1), some (.int x2), some (.int (x3 + (q12 * q13))), some (.int (x4 + (1 : Int32)))], [], hp kp (some 3) rh tl rl q10.1 q10.2)) rfl ?_
      exact hK1 x1 x2 (x3 + (q12 * q13)) (x4 + (1 : Int32)) q10.1 q10.2 r hf
def c_162_0 (n : Nat) (nh : Option Nat) (x1 : Int32) (x2 : Int32) (x3 : Int32) (x4 : Int32) (I : FI) (L : FL) : Option (Int32 × Option Nat × FI × FL) :=
  if ((1 : Int32) <<< ((I 3 6) &&& 31)) ≤ x4 then
    (f_27 n I L).bind fun q2 =>
    (f_197 n x3 q2 x2 I L).bind fun q3 =>
    some (q3, nh, I, L)
  else
    (f_193 n x4 I L).bind fun q4 =>
    (f_63 n x1 q4.1 q4.2).bind fun q5 =>
    (f_360_1 q5 q4.1 q4.2).bind fun q6 =>
    (f_26 n x4 q4.1 q4.2).bind fun q7 =>
    c_162_1 n nh n x1 x2 (x3 + (q6 * q7)) (x4 + (1 : Int32)) q4.1 q4.2
set_option maxHeartbeats 1000000 in
set_option maxRecDepth 20000 in
theorem tc_162_0 (Ls : Nat) (xs : Nat → Int32) (d : Nat) (kp : Option Nat) (tl : List (Nat × Nat)) (rl : List (List (Option Nat))) (nh : Option Nat) (rh : Option Nat) (n : Nat) (x1 : Int32) (x2 : Int32) (x3 : Int32) (x4 : Int32) (I : FI) (L : FL) (r : Int32 × Option Nat × FI × FL) (hf : c_162_0 n nh x1 x2 x3 x4 I L = some r) : Bs cd_162 (sf 11 rs_11 false 5 (some (.int)) Ls xs (d + 6)) (23, [some (.ref 0), some (.int x1), some (.int x2), some (.int x3), some (.int x4)], [], hp kp nh rh tl rl I L) (some (.int r.1), hp kp r.2.1 rh tl rl r.2.2.1 r.2.2.2) := by
  unfold c_162_0 at hf
  refine bs_st 6 (x' := (34, [some (.ref 0), some (.int x1), some (.int x2), some (.int x3), some (.int x4)], [.int ((1 : Int32) <<< ((I 3 6) &&& 31)), .int x4], hp kp nh rh tl rl I L)) rfl ?_
  refine bs_br (t := 69) (e := 37) (lo := [some (.ref 0), some (.int x1), some (.int x2), some (.int x3), some (.int x4)]) (st := []) (h := hp kp nh rh tl rl I L) rfl hf (fun hc hf => ?_) (fun hc hf => ?_)
  · refine bs_st 3 (x' := (74, [some (.ref 0), some (.int x1), some (.int x2), some (.int x3), some (.int x4)], [.ref 3, .int x3], hp kp nh rh tl rl I L)) rfl ?_
    obtain ⟨q2, hq2, hf⟩ := Option.bind_eq_some_iff.mp hf
    refine bs_call (o := pEN Ls xs (d + 6) 27 [.ref 3] (hp kp nh rh tl rl I L)) (w := some (.int q2)) (h' := hp kp nh rh tl rl I L) (pc := 77) (lo := [some (.ref 0), some (.int x1), some (.int x2), some (.int x3), some (.int x4)]) (rest := [.int x3]) rfl (t_27 Ls xs (d + 5) kp tl rl nh rh n I L q2 hq2) ?_
    refine bs_st 1 (x' := (78, [some (.ref 0), some (.int x1), some (.int x2), some (.int x3), some (.int x4)], [.int x2, .int q2, .int x3], hp kp nh rh tl rl I L)) rfl ?_
    obtain ⟨q3, hq3, hf⟩ := Option.bind_eq_some_iff.mp hf
    refine bs_call (o := pEN Ls xs (d + 6) 197 [.int x3, .int q2, .int x2] (hp kp nh rh tl rl I L)) (w := some (.int q3)) (h' := hp kp nh rh tl rl I L) (pc := 81) (lo := [some (.ref 0), some (.int x1), some (.int x2), some (.int x3), some (.int x4)]) (rest := []) rfl (t_197 Ls xs (d + 5) kp tl rl nh rh n x3 q2 x2 I L q3 hq3) ?_
    cases hf
    exact bs_ret rfl
  · refine bs_st 3 (x' := (41, [some (.ref 0), some (.int x1), some (.int x2), some (.int x3), some (.int x4)], [.int x4, .ref 0, .int x3], hp kp nh rh tl rl I L)) rfl ?_
    obtain ⟨q4, hq4, hf⟩ := Option.bind_eq_some_iff.mp hf
    refine bs_call (o := pEN Ls xs (d + 6) 193 [.ref 0, .int x4] (hp kp nh rh tl rl I L)) (w := some (.ref 26)) (h' := hp kp (some 3) rh tl rl q4.1 q4.2) (pc := 44) (lo := [some (.ref 0), some (.int x1), some (.int x2), some (.int x3), some (.int x4)]) (rest := [.int x3]) rfl (t_193 Ls xs (d + 0) kp tl rl nh rh n x4 I L q4 hq4) ?_
    refine bs_st 1 (x' := (45, [some (.ref 0), some (.int x1), some (.int x2), some (.int x3), some (.int x4)], [.int x1, .ref 26, .int x3], hp kp (some 3) rh tl rl q4.1 q4.2)) rfl ?_
    obtain ⟨q5, hq5, hf⟩ := Option.bind_eq_some_iff.mp hf
    refine bs_call (o := pEN Ls xs (d + 6) 63 [.ref 26, .int x1] (hp kp (some 3) rh tl rl q4.1 q4.2)) (w := some (.int q5)) (h' := hp kp (some 3) rh tl rl q4.1 q4.2) (pc := 48) (lo := [some (.ref 0), some (.int x1), some (.int x2), some (.int x3), some (.int x4)]) (rest := [.int x3]) rfl (t_63 Ls xs (d + 4) kp tl rl rh n x1 q4.1 q4.2 q5 hq5) ?_
    obtain ⟨q6, hq6, hf⟩ := Option.bind_eq_some_iff.mp hf
    refine bs_call (o := pEN Ls xs (d + 6) 360 [.int q5] (hp kp (some 3) rh tl rl q4.1 q4.2)) (w := some (.int q6)) (h' := hp kp (some 3) rh tl rl q4.1 q4.2) (pc := 51) (lo := [some (.ref 0), some (.int x1), some (.int x2), some (.int x3), some (.int x4)]) (rest := [.int x3]) rfl (t_360_1 Ls xs (d + 5) kp tl rl rh q5 q4.1 q4.2 q6 hq6) ?_
    refine bs_st 3 (x' := (57, [some (.ref 0), some (.int x1), some (.int x2), some (.int x3), some (.int x4)], [.int x4, .ref 3, .int q6, .int x3], hp kp (some 3) rh tl rl q4.1 q4.2)) rfl ?_
    obtain ⟨q7, hq7, hf⟩ := Option.bind_eq_some_iff.mp hf
    refine bs_call (o := pEN Ls xs (d + 6) 26 [.ref 3, .int x4] (hp kp (some 3) rh tl rl q4.1 q4.2)) (w := some (.int q7)) (h' := hp kp (some 3) rh tl rl q4.1 q4.2) (pc := 60) (lo := [some (.ref 0), some (.int x1), some (.int x2), some (.int x3), some (.int x4)]) (rest := [.int q6, .int x3]) rfl (t_26 Ls xs (d + 5) kp tl rl rh n x4 q4.1 q4.2 q7 hq7) ?_
    refine bs_st 5 (x' := (23, [some (.ref 0), some (.int x1), some (.int x2), some (.int (x3 + (q6 * q7))), some (.int (x4 + (1 : Int32)))], [], hp kp (some 3) rh tl rl q4.1 q4.2)) rfl ?_
    exact tc_162_1 Ls xs d kp tl rl nh rh n n x1 x2 (x3 + (q6 * q7)) (x4 + (1 : Int32)) q4.1 q4.2 r hf
def f_162 (n : Nat) (nh : Option Nat) (x1 : Int32) (x2 : Int32) (I : FI) (L : FL) : Option (Int32 × Option Nat × FI × FL) :=
  (f_180 x1 I L).bind fun q0 =>
  if q0 = 0 then
    some ((-2 : Int32), nh, I, L)
  else
    (f_182 x2 I L).bind fun q1 =>
    if ¬ q1 = 0 then
      c_162_0 n nh x1 x2 (0 : Int32) (0 : Int32) I L
    else
      some ((-2 : Int32), nh, I, L)
set_option maxHeartbeats 1000000 in
set_option maxRecDepth 20000 in
theorem t_162 (Ls : Nat) (xs : Nat → Int32) (d : Nat) (kp : Option Nat) (tl : List (Nat × Nat)) (rl : List (List (Option Nat))) (nh : Option Nat) (rh : Option Nat) (n : Nat) (x1 : Int32) (x2 : Int32) (I : FI) (L : FL) (r : Int32 × Option Nat × FI × FL) (hf : f_162 n nh x1 x2 I L = some r) : pEN Ls xs (d + 7) 162 [.ref 0, .int x1, .int x2] (hp kp nh rh tl rl I L) = some (some (.int r.1), hp kp r.2.1 rh tl rl r.2.2.1 r.2.2.2) := by
  refine en_run (d := d + 6) (cd := cd_162) (f := (sf 11 rs_11 false 5 (some (.int)) Ls xs (d + 6))) rfl rfl (x := (0, [some (.ref 0), some (.int x1), some (.int x2), none, none], [], hp kp nh rh tl rl I L)) rfl rfl (Nat.le_of_ble_eq_true rfl) ?_
  unfold f_162 at hf
  refine bs_st 2 (x' := (2, [some (.ref 0), some (.int x1), some (.int x2), none, none], [.int x1, .ref 0], hp kp nh rh tl rl I L)) rfl ?_
  obtain ⟨q0, hq0, hf⟩ := Option.bind_eq_some_iff.mp hf
  refine bs_call (o := pEN Ls xs (d + 6) 180 [.ref 0, .int x1] (hp kp nh rh tl rl I L)) (w := some (.int q0)) (h' := hp kp nh rh tl rl I L) (pc := 5) (lo := [some (.ref 0), some (.int x1), some (.int x2), none, none]) (rest := []) rfl (t_180 Ls xs (d + 5) kp tl rl nh rh x1 I L q0 hq0) ?_
  refine bs_br (t := 15) (e := 8) (lo := [some (.ref 0), some (.int x1), some (.int x2), none, none]) (st := []) (h := hp kp nh rh tl rl I L) rfl hf (fun hc hf => ?_) (fun hc hf => ?_)
  · refine bs_st 1 (x' := (17, [some (.ref 0), some (.int x1), some (.int x2), none, none], [.int (-2 : Int32)], hp kp nh rh tl rl I L)) rfl ?_
    cases hf
    exact bs_ret rfl
  · refine bs_st 1 (x' := (9, [some (.ref 0), some (.int x1), some (.int x2), none, none], [.int x2], hp kp nh rh tl rl I L)) rfl ?_
    obtain ⟨q1, hq1, hf⟩ := Option.bind_eq_some_iff.mp hf
    refine bs_call (o := pEN Ls xs (d + 6) 182 [.int x2] (hp kp nh rh tl rl I L)) (w := some (.int q1)) (h' := hp kp nh rh tl rl I L) (pc := 12) (lo := [some (.ref 0), some (.int x1), some (.int x2), none, none]) (rest := []) rfl (t_182 Ls xs (d + 5) kp tl rl nh rh x2 I L q1 hq1) ?_
    refine bs_br (t := 18) (e := 15) (lo := [some (.ref 0), some (.int x1), some (.int x2), none, none]) (st := []) (h := hp kp nh rh tl rl I L) rfl hf (fun hc hf => ?_) (fun hc hf => ?_)
    · refine bs_st 4 (x' := (23, [some (.ref 0), some (.int x1), some (.int x2), some (.int (0 : Int32)), some (.int (0 : Int32))], [], hp kp nh rh tl rl I L)) rfl ?_
      exact tc_162_0 Ls xs d kp tl rl nh rh n x1 x2 (0 : Int32) (0 : Int32) I L r hf
    · refine bs_st 1 (x' := (17, [some (.ref 0), some (.int x1), some (.int x2), none, none], [.int (-2 : Int32)], hp kp nh rh tl rl I L)) rfl ?_
      cases hf
      exact bs_ret rfl
/-- LampRounds.nightWithGuest(II) on (0,) -/
def f_194 (n : Nat) (x1 : Int32) (x2 : Int32) (I : FI) (L : FL) : Option (FI × FL) :=
  (f_53_1 n (31 : Int32) I L).bind fun q0 =>
  if pin x2 30 = true then (if pin x2 30 = true then ((f_55 n (u2 q0.1 28 x2.toNatClampNeg ((q0.1 28 x2.toNatClampNeg) ||| ((1 : Int32) <<< (x1 &&& 31)))) q0.2).bind fun q1 =>
      some (q1.1, q1.2)) else none) else none
set_option maxHeartbeats 1000000 in
set_option maxRecDepth 20000 in
theorem t_194 (Ls : Nat) (xs : Nat → Int32) (d : Nat) (kp : Option Nat) (tl : List (Nat × Nat)) (rl : List (List (Option Nat))) (rh : Option Nat) (n : Nat) (x1 : Int32) (x2 : Int32) (I : FI) (L : FL) (r : FI × FL) (hf : f_194 n x1 x2 I L = some r) : pEN Ls xs (d + 6) 194 [.ref 0, .int x1, .int x2] (hp kp (some 3) rh tl rl I L) = some (some (.ref 26), hp kp (some 3) rh tl rl r.1 r.2) := by
  refine en_run (d := d + 5) (cd := cd_194) (f := (sf 11 rs_11 false 3 (some (.object "LampRounds$Night")) Ls xs (d + 5))) rfl rfl (x := (0, [some (.ref 0), some (.int x1), some (.int x2)], [], hp kp (some 3) rh tl rl I L)) rfl rfl (Nat.le_of_ble_eq_true rfl) ?_
  unfold f_194 at hf
  refine bs_st 7 (x' := (14, [some (.ref 0), some (.int x1), some (.int x2)], [.int (31 : Int32), .ref 11, .ref 3, .ref 26], hp kp (some 3) rh tl rl I L)) rfl ?_
  obtain ⟨q0, hq0, hf⟩ := Option.bind_eq_some_iff.mp hf
  refine bs_call (o := pEN Ls xs (d + 5) 53 [.ref 26, .ref 3, .ref 11, .int (31 : Int32)] (hp kp (some 3) rh tl rl I L)) (w := none) (h' := hp kp (some 3) rh tl rl q0.1 q0.2) (pc := 17) (lo := [some (.ref 0), some (.int x1), some (.int x2)]) (rest := []) rfl (t_53_1 Ls xs (d + 4) kp tl rl rh n (31 : Int32) I L q0 hq0) ?_
  refine bs_st 5 (x' := (26, [some (.ref 0), some (.int x1), some (.int x2)], [.int x2, .ref 28, .int x2, .ref 28], hp kp (some 3) rh tl rl q0.1 q0.2)) rfl ?_
  refine bs_gd (x' := (27, [some (.ref 0), some (.int x1), some (.int x2)], [.int (q0.1 28 x2.toNatClampNeg), .int x2, .ref 28], hp kp (some 3) rh tl rl q0.1 q0.2)) rfl hf (fun hc hf => ?_)
  refine bs_st 4 (x' := (31, [some (.ref 0), some (.int x1), some (.int x2)], [.int ((q0.1 28 x2.toNatClampNeg) ||| ((1 : Int32) <<< (x1 &&& 31))), .int x2, .ref 28], hp kp (some 3) rh tl rl q0.1 q0.2)) rfl ?_
  refine bs_gd (x' := (32, [some (.ref 0), some (.int x1), some (.int x2)], [], hp kp (some 3) rh tl rl (u2 q0.1 28 x2.toNatClampNeg ((q0.1 28 x2.toNatClampNeg) ||| ((1 : Int32) <<< (x1 &&& 31)))) q0.2)) rfl hf (fun hc hf => ?_)
  refine bs_st 2 (x' := (36, [some (.ref 0), some (.int x1), some (.int x2)], [.ref 26], hp kp (some 3) rh tl rl (u2 q0.1 28 x2.toNatClampNeg ((q0.1 28 x2.toNatClampNeg) ||| ((1 : Int32) <<< (x1 &&& 31)))) q0.2)) rfl ?_
  obtain ⟨q1, hq1, hf⟩ := Option.bind_eq_some_iff.mp hf
  refine bs_call (o := pEN Ls xs (d + 5) 55 [.ref 26] (hp kp (some 3) rh tl rl (u2 q0.1 28 x2.toNatClampNeg ((q0.1 28 x2.toNatClampNeg) ||| ((1 : Int32) <<< (x1 &&& 31)))) q0.2)) (w := none) (h' := hp kp (some 3) rh tl rl q1.1 q1.2) (pc := 39) (lo := [some (.ref 0), some (.int x1), some (.int x2)]) (rest := []) rfl (t_55 Ls xs (d + 0) kp tl rl rh n (u2 q0.1 28 x2.toNatClampNeg ((q0.1 28 x2.toNatClampNeg) ||| ((1 : Int32) <<< (x1 &&& 31)))) q0.2 q1 hq1) ?_
  refine bs_st 2 (x' := (43, [some (.ref 0), some (.int x1), some (.int x2)], [.ref 26], hp kp (some 3) rh tl rl q1.1 q1.2)) rfl ?_
  cases hf
  exact bs_ret rfl
/-- LampRounds.send() on (0,) -/
def c_163_2 (n : Nat) (nh : Option Nat) (K0 : Int32 → Int32 → Int32 → FI → FL → Option (Int32 × Option Nat × FI × FL)) (K1 : Int32 → Int32 → Int32 → Int32 → FI → FL → Option (Int32 × Option Nat × FI × FL)) (x1 : Int32) (x2 : Int32) (x3 : Int32) (x4 : Int32) (I : FI) (L : FL) : Option (Int32 × Option Nat × FI × FL) :=
  K1 x1 x2 x3 (x4 + (1 : Int32)) I L
set_option maxHeartbeats 1000000 in
set_option maxRecDepth 20000 in
theorem tc_163_2 (Ls : Nat) (xs : Nat → Int32) (d : Nat) (kp : Option Nat) (tl : List (Nat × Nat)) (rl : List (List (Option Nat))) (nh : Option Nat) (rh : Option Nat) (n : Nat) (K0 : Int32 → Int32 → Int32 → FI → FL → Option (Int32 × Option Nat × FI × FL)) (K1 : Int32 → Int32 → Int32 → Int32 → FI → FL → Option (Int32 × Option Nat × FI × FL)) (hK0 : ∀ (w4 : Option Value) (w5 : Option Value) (x1 : Int32) (x2 : Int32) (x3 : Int32) (I : FI) (L : FL) (r : Int32 × Option Nat × FI × FL), K0 x1 x2 x3 I L = some r → Bs cd_163 (sf 11 rs_11 false 6 (some (.int)) Ls xs (d + 6)) (26, [some (.ref 0), some (.int x1), some (.int x2), some (.int x3), w4, w5], [], hp kp (some 3) rh tl rl I L) (some (.int r.1), hp kp r.2.1 rh tl rl r.2.2.1 r.2.2.2)) (hK1 : ∀ (w5 : Option Value) (x1 : Int32) (x2 : Int32) (x3 : Int32) (x4 : Int32) (I : FI) (L : FL) (r : Int32 × Option Nat × FI × FL), K1 x1 x2 x3 x4 I L = some r → Bs cd_163 (sf 11 rs_11 false 6 (some (.int)) Ls xs (d + 6)) (40, [some (.ref 0), some (.int x1), some (.int x2), some (.int x3), some (.int x4), w5], [], hp kp (some 3) rh tl rl I L) (some (.int r.1), hp kp r.2.1 rh tl rl r.2.2.1 r.2.2.2)) (w5 : Option Value) (x1 : Int32) (x2 : Int32) (x3 : Int32) (x4 : Int32) (I : FI) (L : FL) (r : Int32 × Option Nat × FI × FL) (hf : c_163_2 n nh K0 K1 x1 x2 x3 x4 I L = some r) : Bs cd_163 (sf 11 rs_11 false 6 (some (.int)) Ls xs (d + 6)) (84, [some (.ref 0), some (.int x1), some (.int x2), some (.int x3), some (.int x4), w5], [], hp kp (some 3) rh tl rl I L) (some (.int r.1), hp kp r.2.1 rh tl rl r.2.2.1 r.2.2.2) := by
  unfold c_163_2 at hf
  refine bs_st 2 (x' := (40, [some (.ref 0), some (.int x1), some (.int x2), some (.int x3), some (.int (x4 + (1 : Int32))), w5], [], hp kp (some 3) rh tl rl I L)) rfl ?_
  exact hK1 w5 x1 x2 x3 (x4 + (1 : Int32)) I L r hf
def b_163_1 (n : Nat) (nh : Option Nat) (K0 : Int32 → Int32 → Int32 → FI → FL → Option (Int32 × Option Nat × FI × FL)) (K1 : Int32 → Int32 → Int32 → Int32 → FI → FL → Option (Int32 × Option Nat × FI × FL)) (x1 : Int32) (x2 : Int32) (x3 : Int32) (x4 : Int32) (I : FI) (L : FL) : Option (Int32 × Option Nat × FI × FL) :=
  if I 3 3 ≤ x4 then
    K0 x1 x2 (x3 + (1 : Int32)) I L
  else
    (f_194 n x3 x4 I L).bind fun q4 =>
    (f_66 n q4.1 q4.2).bind fun q5 =>
    (f_196 q5 q4.1 q4.2).bind fun q6 =>
    if q6 ≤ x1 then
      c_163_2 n nh K0 K1 x1 x2 x3 x4 q4.1 q4.2
    else
      c_163_2 n nh K0 K1 q6 (((100 : Int32) * x3) + x4) x3 x4 q4.1 q4.2
def c_163_1 (n : Nat) (nh : Option Nat) (K0 : Int32 → Int32 → Int32 → FI → FL → Option (Int32 × Option Nat × FI × FL)) : Nat → Int32 → Int32 → Int32 → Int32 → FI → FL → Option (Int32 × Option Nat × FI × FL)
  | 0, _, _, _, _, _, _ => none
  | m + 1, x1, x2, x3, x4, I, L => b_163_1 n nh K0 (c_163_1 n nh K0 m) x1 x2 x3 x4 I L
set_option maxHeartbeats 1000000 in
set_option maxRecDepth 20000 in
theorem tc_163_1 (Ls : Nat) (xs : Nat → Int32) (d : Nat) (kp : Option Nat) (tl : List (Nat × Nat)) (rl : List (List (Option Nat))) (nh : Option Nat) (rh : Option Nat) (n : Nat) (K0 : Int32 → Int32 → Int32 → FI → FL → Option (Int32 × Option Nat × FI × FL)) (hK0 : ∀ (w4 : Option Value) (w5 : Option Value) (x1 : Int32) (x2 : Int32) (x3 : Int32) (I : FI) (L : FL) (r : Int32 × Option Nat × FI × FL), K0 x1 x2 x3 I L = some r → Bs cd_163 (sf 11 rs_11 false 6 (some (.int)) Ls xs (d + 6)) (26, [some (.ref 0), some (.int x1), some (.int x2), some (.int x3), w4, w5], [], hp kp (some 3) rh tl rl I L) (some (.int r.1), hp kp r.2.1 rh tl rl r.2.2.1 r.2.2.2)) : ∀ (m : Nat) (w5 : Option Value) (x1 : Int32) (x2 : Int32) (x3 : Int32) (x4 : Int32) (I : FI) (L : FL) (r : Int32 × Option Nat × FI × FL), c_163_1 n nh K0 m x1 x2 x3 x4 I L = some r → Bs cd_163 (sf 11 rs_11 false 6 (some (.int)) Ls xs (d + 6)) (40, [some (.ref 0), some (.int x1), some (.int x2), some (.int x3), some (.int x4), w5], [], hp kp (some 3) rh tl rl I L) (some (.int r.1), hp kp r.2.1 rh tl rl r.2.2.1 r.2.2.2)
  | 0, w5, x1, x2, x3, x4, I, L, r, hf => by cases hf
  | m + 1, w5, x1, x2, x3, x4, I, L, r, hf => by
    unfold c_163_1 b_163_1 at hf
    have hK1 := tc_163_1 Ls xs d kp tl rl nh rh n K0 hK0 m
    refine bs_st 4 (x' := (49, [some (.ref 0), some (.int x1), some (.int x2), some (.int x3), some (.int x4), w5], [.int (I 3 3), .int x4], hp kp (some 3) rh tl rl I L)) rfl ?_
    refine bs_br (t := 90) (e := 52) (lo := [some (.ref 0), some (.int x1), some (.int x2), some (.int x3), some (.int x4), w5]) (st := []) (h := hp kp (some 3) rh tl rl I L) rfl hf (fun hc hf => ?_) (fun hc hf => ?_)
    · refine bs_st 2 (x' := (26, [some (.ref 0), some (.int x1), some (.int x2), some (.int (x3 + (1 : Int32))), some (.int x4), w5], [], hp kp (some 3) rh tl rl I L)) rfl ?_
      exact hK0 (some (.int x4)) w5 x1 x2 (x3 + (1 : Int32)) I L r hf
    · refine bs_st 3 (x' := (56, [some (.ref 0), some (.int x1), some (.int x2), some (.int x3), some (.int x4), w5], [.int x4, .int x3, .ref 0], hp kp (some 3) rh tl rl I L)) rfl ?_
      obtain ⟨q4, hq4, hf⟩ := Option.bind_eq_some_iff.mp hf
      refine bs_call (o := pEN Ls xs (d + 6) 194 [.ref 0, .int x3, .int x4] (hp kp (some 3) rh tl rl I L)) (w := some (.ref 26)) (h' := hp kp (some 3) rh tl rl q4.1 q4.2) (pc := 59) (lo := [some (.ref 0), some (.int x1), some (.int x2), some (.int x3), some (.int x4), w5]) (rest := []) rfl (t_194 Ls xs (d + 0) kp tl rl rh n x3 x4 I L q4 hq4) ?_
      obtain ⟨q5, hq5, hf⟩ := Option.bind_eq_some_iff.mp hf
      refine bs_call (o := pEN Ls xs (d + 6) 66 [.ref 26] (hp kp (some 3) rh tl rl q4.1 q4.2)) (w := some (.int q5)) (h' := hp kp (some 3) rh tl rl q4.1 q4.2) (pc := 62) (lo := [some (.ref 0), some (.int x1), some (.int x2), some (.int x3), some (.int x4), w5]) (rest := []) rfl (t_66 Ls xs (d + 4) kp tl rl rh n q4.1 q4.2 q5 hq5) ?_
      obtain ⟨q6, hq6, hf⟩ := Option.bind_eq_some_iff.mp hf
      refine bs_call (o := pEN Ls xs (d + 6) 196 [.int q5] (hp kp (some 3) rh tl rl q4.1 q4.2)) (w := some (.int q6)) (h' := hp kp (some 3) rh tl rl q4.1 q4.2) (pc := 65) (lo := [some (.ref 0), some (.int x1), some (.int x2), some (.int x3), some (.int x4), w5]) (rest := []) rfl (t_196 Ls xs (d + 5) kp tl rl rh q5 q4.1 q4.2 q6 hq6) ?_
      refine bs_st 3 (x' := (70, [some (.ref 0), some (.int x1), some (.int x2), some (.int x3), some (.int x4), some (.int q6)], [.int x1, .int q6], hp kp (some 3) rh tl rl q4.1 q4.2)) rfl ?_
      refine bs_br (t := 84) (e := 73) (lo := [some (.ref 0), some (.int x1), some (.int x2), some (.int x3), some (.int x4), some (.int q6)]) (st := []) (h := hp kp (some 3) rh tl rl q4.1 q4.2) rfl hf (fun hc hf => ?_) (fun hc hf => ?_)
      · exact tc_163_2 Ls xs d kp tl rl nh rh n _ _ hK0 hK1 (some (.int q6)) x1 x2 x3 x4 q4.1 q4.2 r hf
      · refine bs_st 8 (x' := (84, [some (.ref 0), some (.int q6), some (.int (((100 : Int32) * x3) + x4)), some (.int x3), some (.int x4), some (.int q6)], [], hp kp (some 3) rh tl rl q4.1 q4.2)) rfl ?_
        exact tc_163_2 Ls xs d kp tl rl nh rh n _ _ hK0 hK1 (some (.int q6)) q6 (((100 : Int32) * x3) + x4) x3 x4 q4.1 q4.2 r hf
def b_163_0 (n : Nat) (nh : Option Nat) (K0 : Int32 → Int32 → Int32 → FI → FL → Option (Int32 × Option Nat × FI × FL)) (x1 : Int32) (x2 : Int32) (x3 : Int32) (I : FI) (L : FL) : Option (Int32 × Option Nat × FI × FL) :=
  if I 3 4 ≤ x3 then
    some (x2, (some 3), I, L)
  else
    c_163_1 n nh K0 n x1 x2 x3 (0 : Int32) I L
def c_163_0 (n : Nat) (nh : Option Nat) : Nat → Int32 → Int32 → Int32 → FI → FL → Option (Int32 × Option Nat × FI × FL)
  | 0, _, _, _, _, _ => none
  | m + 1, x1, x2, x3, I, L => b_163_0 n nh (c_163_0 n nh m) x1 x2 x3 I L
set_option maxHeartbeats 1000000 in
set_option maxRecDepth 20000 in
theorem tc_163_0 (Ls : Nat) (xs : Nat → Int32) (d : Nat) (kp : Option Nat) (tl : List (Nat × Nat)) (rl : List (List (Option Nat))) (nh : Option Nat) (rh : Option Nat) (n : Nat) : ∀ (m : Nat) (w4 : Option Value) (w5 : Option Value) (x1 : Int32) (x2 : Int32) (x3 : Int32) (I : FI) (L : FL) (r : Int32 × Option Nat × FI × FL), c_163_0 n nh m x1 x2 x3 I L = some r → Bs cd_163 (sf 11 rs_11 false 6 (some (.int)) Ls xs (d + 6)) (26, [some (.ref 0), some (.int x1), some (.int x2), some (.int x3), w4, w5], [], hp kp (some 3) rh tl rl I L) (some (.int r.1), hp kp r.2.1 rh tl rl r.2.2.1 r.2.2.2)
  | 0, w4, w5, x1, x2, x3, I, L, r, hf => by cases hf
  | m + 1, w4, w5, x1, x2, x3, I, L, r, hf => by
    unfold c_163_0 b_163_0 at hf
    have hK0 := tc_163_0 Ls xs d kp tl rl nh rh n m
    refine bs_st 4 (x' := (34, [some (.ref 0), some (.int x1), some (.int x2), some (.int x3), w4, w5], [.int (I 3 4), .int x3], hp kp (some 3) rh tl rl I L)) rfl ?_
    refine bs_br (t := 96) (e := 37) (lo := [some (.ref 0), some (.int x1), some (.int x2), some (.int x3), w4, w5]) (st := []) (h := hp kp (some 3) rh tl rl I L) rfl hf (fun hc hf => ?_) (fun hc hf => ?_)
    · refine bs_st 1 (x' := (97, [some (.ref 0), some (.int x1), some (.int x2), some (.int x3), w4, w5], [.int x2], hp kp (some 3) rh tl rl I L)) rfl ?_
      cases hf
      exact bs_ret rfl
    · refine bs_st 2 (x' := (40, [some (.ref 0), some (.int x1), some (.int x2), some (.int x3), some (.int (0 : Int32)), w5], [], hp kp (some 3) rh tl rl I L)) rfl ?_
      exact tc_163_1 Ls xs d kp tl rl nh rh n _ hK0 n w5 x1 x2 x3 (0 : Int32) I L r hf
def f_163 (n : Nat) (nh : Option Nat) (I : FI) (L : FL) : Option (Int32 × Option Nat × FI × FL) :=
  (f_177 I L).bind fun q0 =>
  if ¬ q0 = 0 then
    (f_191 n (0 : Int32) I L).bind fun q1 =>
    (f_66 n q1.1 q1.2).bind fun q2 =>
    (f_196 q2 q1.1 q1.2).bind fun q3 =>
    c_163_0 n nh n q3 (-1 : Int32) (0 : Int32) q1.1 q1.2
  else
    some ((-2 : Int32), nh, I, L)
set_option maxHeartbeats 1000000 in
set_option maxRecDepth 20000 in
theorem t_163 (Ls : Nat) (xs : Nat → Int32) (d : Nat) (kp : Option Nat) (tl : List (Nat × Nat)) (rl : List (List (Option Nat))) (nh : Option Nat) (rh : Option Nat) (n : Nat) (I : FI) (L : FL) (r : Int32 × Option Nat × FI × FL) (hf : f_163 n nh I L = some r) : pEN Ls xs (d + 7) 163 [.ref 0] (hp kp nh rh tl rl I L) = some (some (.int r.1), hp kp r.2.1 rh tl rl r.2.2.1 r.2.2.2) := by
  refine en_run (d := d + 6) (cd := cd_163) (f := (sf 11 rs_11 false 6 (some (.int)) Ls xs (d + 6))) rfl rfl (x := (0, [some (.ref 0), none, none, none, none, none], [], hp kp nh rh tl rl I L)) rfl rfl (Nat.le_of_ble_eq_true rfl) ?_
  unfold f_163 at hf
  refine bs_st 1 (x' := (1, [some (.ref 0), none, none, none, none, none], [.ref 0], hp kp nh rh tl rl I L)) rfl ?_
  obtain ⟨q0, hq0, hf⟩ := Option.bind_eq_some_iff.mp hf
  refine bs_call (o := pEN Ls xs (d + 6) 177 [.ref 0] (hp kp nh rh tl rl I L)) (w := some (.int q0)) (h' := hp kp nh rh tl rl I L) (pc := 4) (lo := [some (.ref 0), none, none, none, none, none]) (rest := []) rfl (t_177 Ls xs (d + 5) kp tl rl nh rh I L q0 hq0) ?_
  refine bs_br (t := 10) (e := 7) (lo := [some (.ref 0), none, none, none, none, none]) (st := []) (h := hp kp nh rh tl rl I L) rfl hf (fun hc hf => ?_) (fun hc hf => ?_)
  · refine bs_st 2 (x' := (12, [some (.ref 0), none, none, none, none, none], [.int (0 : Int32), .ref 0], hp kp nh rh tl rl I L)) rfl ?_
    obtain ⟨q1, hq1, hf⟩ := Option.bind_eq_some_iff.mp hf
    refine bs_call (o := pEN Ls xs (d + 6) 191 [.ref 0, .int (0 : Int32)] (hp kp nh rh tl rl I L)) (w := some (.ref 26)) (h' := hp kp (some 3) rh tl rl q1.1 q1.2) (pc := 15) (lo := [some (.ref 0), none, none, none, none, none]) (rest := []) rfl (t_191 Ls xs (d + 0) kp tl rl nh rh n (0 : Int32) I L q1 hq1) ?_
    obtain ⟨q2, hq2, hf⟩ := Option.bind_eq_some_iff.mp hf
    refine bs_call (o := pEN Ls xs (d + 6) 66 [.ref 26] (hp kp (some 3) rh tl rl q1.1 q1.2)) (w := some (.int q2)) (h' := hp kp (some 3) rh tl rl q1.1 q1.2) (pc := 18) (lo := [some (.ref 0), none, none, none, none, none]) (rest := []) rfl (t_66 Ls xs (d + 4) kp tl rl rh n q1.1 q1.2 q2 hq2) ?_
    obtain ⟨q3, hq3, hf⟩ := Option.bind_eq_some_iff.mp hf
    refine bs_call (o := pEN Ls xs (d + 6) 196 [.int q2] (hp kp (some 3) rh tl rl q1.1 q1.2)) (w := some (.int q3)) (h' := hp kp (some 3) rh tl rl q1.1 q1.2) (pc := 21) (lo := [some (.ref 0), none, none, none, none, none]) (rest := []) rfl (t_196 Ls xs (d + 5) kp tl rl rh q2 q1.1 q1.2 q3 hq3) ?_
    refine bs_st 5 (x' := (26, [some (.ref 0), some (.int q3), some (.int (-1 : Int32)), some (.int (0 : Int32)), none, none], [], hp kp (some 3) rh tl rl q1.1 q1.2)) rfl ?_
    exact tc_163_0 Ls xs d kp tl rl nh rh n n none none q3 (-1 : Int32) (0 : Int32) q1.1 q1.2 r hf
  · refine bs_st 1 (x' := (9, [some (.ref 0), none, none, none, none, none], [.int (-2 : Int32)], hp kp nh rh tl rl I L)) rfl ?_
    cases hf
    exact bs_ret rfl
/-- Acts.add(II) on (11,) -/
def f_1 (x1 : Int32) (x2 : Int32) (I : FI) (L : FL) : Option (Int32 × FI × FL) :=
  if I 11 2 < (30 : Int32) then
    if pin (I 11 2) 30 = true then (if pin (I 11 2) 30 = true then some ((1 : Int32), (u2 (u2 (u2 I 12 ((I 11 2).toNatClampNeg) x1) 13 ((I 11 2).toNatClampNeg) x2) 11 2 ((I 11 2) + (1 : Int32))), L) else none) else none
  else
    some ((0 : Int32), I, L)
set_option maxHeartbeats 1000000 in
set_option maxRecDepth 20000 in
theorem t_1 (Ls : Nat) (xs : Nat → Int32) (d : Nat) (kp : Option Nat) (tl : List (Nat × Nat)) (rl : List (List (Option Nat))) (nh : Option Nat) (rh : Option Nat) (x1 : Int32) (x2 : Int32) (I : FI) (L : FL) (r : Int32 × FI × FL) (hf : f_1 x1 x2 I L = some r) : pEN Ls xs (d + 1) 1 [.ref 11, .int x1, .int x2] (hp kp nh rh tl rl I L) = some (some (.int r.1), hp kp nh rh tl rl r.2.1 r.2.2) := by
  refine en_run (d := d + 0) (cd := cd_1) (f := (sf 0 rs_0 false 3 (some (.boolean)) Ls xs (d + 0))) rfl rfl (x := (0, [some (.ref 11), some (.int x1), some (.int x2)], [], hp kp nh rh tl rl I L)) rfl rfl (Nat.le_of_ble_eq_true rfl) ?_
  unfold f_1 at hf
  refine bs_st 3 (x' := (6, [some (.ref 11), some (.int x1), some (.int x2)], [.int (30 : Int32), .int (I 11 2)], hp kp nh rh tl rl I L)) rfl ?_
  refine bs_br (t := 11) (e := 9) (lo := [some (.ref 11), some (.int x1), some (.int x2)]) (st := []) (h := hp kp nh rh tl rl I L) rfl hf (fun hc hf => ?_) (fun hc hf => ?_)
  · refine bs_st 5 (x' := (20, [some (.ref 11), some (.int x1), some (.int x2)], [.int x1, .int (I 11 2), .ref 12], hp kp nh rh tl rl I L)) rfl ?_
    refine bs_gd (x' := (21, [some (.ref 11), some (.int x1), some (.int x2)], [], hp kp nh rh tl rl (u2 I 12 ((I 11 2).toNatClampNeg) x1) L)) rfl hf (fun hc hf => ?_)
    refine bs_st 5 (x' := (30, [some (.ref 11), some (.int x1), some (.int x2)], [.int x2, .int (I 11 2), .ref 13], hp kp nh rh tl rl (u2 I 12 ((I 11 2).toNatClampNeg) x1) L)) rfl ?_
    refine bs_gd (x' := (31, [some (.ref 11), some (.int x1), some (.int x2)], [], hp kp nh rh tl rl (u2 (u2 I 12 ((I 11 2).toNatClampNeg) x1) 13 ((I 11 2).toNatClampNeg) x2) L)) rfl hf (fun hc hf => ?_)
    refine bs_st 7 (x' := (42, [some (.ref 11), some (.int x1), some (.int x2)], [.int (1 : Int32)], hp kp nh rh tl rl (u2 (u2 (u2 I 12 ((I 11 2).toNatClampNeg) x1) 13 ((I 11 2).toNatClampNeg) x2) 11 2 ((I 11 2) + (1 : Int32))) L)) rfl ?_
    cases hf
    exact bs_ret rfl
  · refine bs_st 1 (x' := (10, [some (.ref 11), some (.int x1), some (.int x2)], [.int (0 : Int32)], hp kp nh rh tl rl I L)) rfl ?_
    cases hf
    exact bs_ret rfl
/-- LampRounds.visit(II) on (0,) -/
def f_164 (n : Nat) (nh : Option Nat) (x1 : Int32) (x2 : Int32) (I : FI) (L : FL) : Option (Int32 × Option Nat × FI × FL) :=
  (f_178 x1 I L).bind fun q0 =>
  if q0 = 0 then
    some ((-2 : Int32), nh, I, L)
  else
    (f_180 x2 I L).bind fun q1 =>
    if ¬ q1 = 0 then
      (f_1 x1 x2 I L).bind fun q2 =>
      if q2.1 = 0 then
        some ((-5 : Int32), nh, q2.2.1, q2.2.2)
      else
        (f_191 n (0 : Int32) q2.2.1 q2.2.2).bind fun q3 =>
        (f_60 x1 x2 q3.1 q3.2).bind fun q4 =>
        some (q4, (some 3), q3.1, q3.2)
    else
      some ((-2 : Int32), nh, I, L)
set_option maxHeartbeats 1000000 in
set_option maxRecDepth 20000 in
theorem t_164 (Ls : Nat) (xs : Nat → Int32) (d : Nat) (kp : Option Nat) (tl : List (Nat × Nat)) (rl : List (List (Option Nat))) (nh : Option Nat) (rh : Option Nat) (n : Nat) (x1 : Int32) (x2 : Int32) (I : FI) (L : FL) (r : Int32 × Option Nat × FI × FL) (hf : f_164 n nh x1 x2 I L = some r) : pEN Ls xs (d + 7) 164 [.ref 0, .int x1, .int x2] (hp kp nh rh tl rl I L) = some (some (.int r.1), hp kp r.2.1 rh tl rl r.2.2.1 r.2.2.2) := by
  refine en_run (d := d + 6) (cd := cd_164) (f := (sf 11 rs_11 false 3 (some (.int)) Ls xs (d + 6))) rfl rfl (x := (0, [some (.ref 0), some (.int x1), some (.int x2)], [], hp kp nh rh tl rl I L)) rfl rfl (Nat.le_of_ble_eq_true rfl) ?_
  unfold f_164 at hf
  refine bs_st 2 (x' := (2, [some (.ref 0), some (.int x1), some (.int x2)], [.int x1, .ref 0], hp kp nh rh tl rl I L)) rfl ?_
  obtain ⟨q0, hq0, hf⟩ := Option.bind_eq_some_iff.mp hf
  refine bs_call (o := pEN Ls xs (d + 6) 178 [.ref 0, .int x1] (hp kp nh rh tl rl I L)) (w := some (.int q0)) (h' := hp kp nh rh tl rl I L) (pc := 5) (lo := [some (.ref 0), some (.int x1), some (.int x2)]) (rest := []) rfl (t_178 Ls xs (d + 5) kp tl rl nh rh x1 I L q0 hq0) ?_
  refine bs_br (t := 16) (e := 8) (lo := [some (.ref 0), some (.int x1), some (.int x2)]) (st := []) (h := hp kp nh rh tl rl I L) rfl hf (fun hc hf => ?_) (fun hc hf => ?_)
  · refine bs_st 1 (x' := (18, [some (.ref 0), some (.int x1), some (.int x2)], [.int (-2 : Int32)], hp kp nh rh tl rl I L)) rfl ?_
    cases hf
    exact bs_ret rfl
  · refine bs_st 2 (x' := (10, [some (.ref 0), some (.int x1), some (.int x2)], [.int x2, .ref 0], hp kp nh rh tl rl I L)) rfl ?_
    obtain ⟨q1, hq1, hf⟩ := Option.bind_eq_some_iff.mp hf
    refine bs_call (o := pEN Ls xs (d + 6) 180 [.ref 0, .int x2] (hp kp nh rh tl rl I L)) (w := some (.int q1)) (h' := hp kp nh rh tl rl I L) (pc := 13) (lo := [some (.ref 0), some (.int x1), some (.int x2)]) (rest := []) rfl (t_180 Ls xs (d + 5) kp tl rl nh rh x2 I L q1 hq1) ?_
    refine bs_br (t := 19) (e := 16) (lo := [some (.ref 0), some (.int x1), some (.int x2)]) (st := []) (h := hp kp nh rh tl rl I L) rfl hf (fun hc hf => ?_) (fun hc hf => ?_)
    · refine bs_st 4 (x' := (25, [some (.ref 0), some (.int x1), some (.int x2)], [.int x2, .int x1, .ref 11], hp kp nh rh tl rl I L)) rfl ?_
      obtain ⟨q2, hq2, hf⟩ := Option.bind_eq_some_iff.mp hf
      refine bs_call (o := pEN Ls xs (d + 6) 1 [.ref 11, .int x1, .int x2] (hp kp nh rh tl rl I L)) (w := some (.int q2.1)) (h' := hp kp nh rh tl rl q2.2.1 q2.2.2) (pc := 28) (lo := [some (.ref 0), some (.int x1), some (.int x2)]) (rest := []) rfl (t_1 Ls xs (d + 5) kp tl rl nh rh x1 x2 I L q2 hq2) ?_
      refine bs_br (t := 44) (e := 31) (lo := [some (.ref 0), some (.int x1), some (.int x2)]) (st := []) (h := hp kp nh rh tl rl q2.2.1 q2.2.2) rfl hf (fun hc hf => ?_) (fun hc hf => ?_)
      · refine bs_st 1 (x' := (46, [some (.ref 0), some (.int x1), some (.int x2)], [.int (-5 : Int32)], hp kp nh rh tl rl q2.2.1 q2.2.2)) rfl ?_
        cases hf
        exact bs_ret rfl
      · refine bs_st 2 (x' := (33, [some (.ref 0), some (.int x1), some (.int x2)], [.int (0 : Int32), .ref 0], hp kp nh rh tl rl q2.2.1 q2.2.2)) rfl ?_
        obtain ⟨q3, hq3, hf⟩ := Option.bind_eq_some_iff.mp hf
        refine bs_call (o := pEN Ls xs (d + 6) 191 [.ref 0, .int (0 : Int32)] (hp kp nh rh tl rl q2.2.1 q2.2.2)) (w := some (.ref 26)) (h' := hp kp (some 3) rh tl rl q3.1 q3.2) (pc := 36) (lo := [some (.ref 0), some (.int x1), some (.int x2)]) (rest := []) rfl (t_191 Ls xs (d + 0) kp tl rl nh rh n (0 : Int32) q2.2.1 q2.2.2 q3 hq3) ?_
        refine bs_st 2 (x' := (38, [some (.ref 0), some (.int x1), some (.int x2)], [.int x2, .int x1, .ref 26], hp kp (some 3) rh tl rl q3.1 q3.2)) rfl ?_
        obtain ⟨q4, hq4, hf⟩ := Option.bind_eq_some_iff.mp hf
        refine bs_call (o := pEN Ls xs (d + 6) 60 [.ref 26, .int x1, .int x2] (hp kp (some 3) rh tl rl q3.1 q3.2)) (w := some (.int q4)) (h' := hp kp (some 3) rh tl rl q3.1 q3.2) (pc := 41) (lo := [some (.ref 0), some (.int x1), some (.int x2)]) (rest := []) rfl (t_60 Ls xs (d + 5) kp tl rl rh x1 x2 q3.1 q3.2 q4 hq4) ?_
        refine bs_st 1 (x' := (46, [some (.ref 0), some (.int x1), some (.int x2)], [.int q4], hp kp (some 3) rh tl rl q3.1 q3.2)) rfl ?_
        cases hf
        exact bs_ret rfl
    · refine bs_st 1 (x' := (18, [some (.ref 0), some (.int x1), some (.int x2)], [.int (-2 : Int32)], hp kp nh rh tl rl I L)) rfl ?_
      cases hf
      exact bs_ret rfl
/-- LampRounds.nods(I) on (0,) -/
def f_165 (n : Nat) (nh : Option Nat) (x1 : Int32) (I : FI) (L : FL) : Option (Int32 × Option Nat × FI × FL) :=
  (f_180 x1 I L).bind fun q0 =>
  if ¬ q0 = 0 then
    (f_1 (-1 : Int32) x1 I L).bind fun q1 =>
    if q1.1 = 0 then
      some ((-5 : Int32), nh, q1.2.1, q1.2.2)
    else
      (f_191 n (0 : Int32) q1.2.1 q1.2.2).bind fun q2 =>
      (f_63 n x1 q2.1 q2.2).bind fun q3 =>
      some (q3, (some 3), q2.1, q2.2)
  else
    some ((-2 : Int32), nh, I, L)
set_option maxHeartbeats 1000000 in
set_option maxRecDepth 20000 in
theorem t_165 (Ls : Nat) (xs : Nat → Int32) (d : Nat) (kp : Option Nat) (tl : List (Nat × Nat)) (rl : List (List (Option Nat))) (nh : Option Nat) (rh : Option Nat) (n : Nat) (x1 : Int32) (I : FI) (L : FL) (r : Int32 × Option Nat × FI × FL) (hf : f_165 n nh x1 I L = some r) : pEN Ls xs (d + 7) 165 [.ref 0, .int x1] (hp kp nh rh tl rl I L) = some (some (.int r.1), hp kp r.2.1 rh tl rl r.2.2.1 r.2.2.2) := by
  refine en_run (d := d + 6) (cd := cd_165) (f := (sf 11 rs_11 false 2 (some (.int)) Ls xs (d + 6))) rfl rfl (x := (0, [some (.ref 0), some (.int x1)], [], hp kp nh rh tl rl I L)) rfl rfl (Nat.le_of_ble_eq_true rfl) ?_
  unfold f_165 at hf
  refine bs_st 2 (x' := (2, [some (.ref 0), some (.int x1)], [.int x1, .ref 0], hp kp nh rh tl rl I L)) rfl ?_
  obtain ⟨q0, hq0, hf⟩ := Option.bind_eq_some_iff.mp hf
  refine bs_call (o := pEN Ls xs (d + 6) 180 [.ref 0, .int x1] (hp kp nh rh tl rl I L)) (w := some (.int q0)) (h' := hp kp nh rh tl rl I L) (pc := 5) (lo := [some (.ref 0), some (.int x1)]) (rest := []) rfl (t_180 Ls xs (d + 5) kp tl rl nh rh x1 I L q0 hq0) ?_
  refine bs_br (t := 11) (e := 8) (lo := [some (.ref 0), some (.int x1)]) (st := []) (h := hp kp nh rh tl rl I L) rfl hf (fun hc hf => ?_) (fun hc hf => ?_)
  · refine bs_st 4 (x' := (17, [some (.ref 0), some (.int x1)], [.int x1, .int (-1 : Int32), .ref 11], hp kp nh rh tl rl I L)) rfl ?_
    obtain ⟨q1, hq1, hf⟩ := Option.bind_eq_some_iff.mp hf
    refine bs_call (o := pEN Ls xs (d + 6) 1 [.ref 11, .int (-1 : Int32), .int x1] (hp kp nh rh tl rl I L)) (w := some (.int q1.1)) (h' := hp kp nh rh tl rl q1.2.1 q1.2.2) (pc := 20) (lo := [some (.ref 0), some (.int x1)]) (rest := []) rfl (t_1 Ls xs (d + 5) kp tl rl nh rh (-1 : Int32) x1 I L q1 hq1) ?_
    refine bs_br (t := 35) (e := 23) (lo := [some (.ref 0), some (.int x1)]) (st := []) (h := hp kp nh rh tl rl q1.2.1 q1.2.2) rfl hf (fun hc hf => ?_) (fun hc hf => ?_)
    · refine bs_st 1 (x' := (37, [some (.ref 0), some (.int x1)], [.int (-5 : Int32)], hp kp nh rh tl rl q1.2.1 q1.2.2)) rfl ?_
      cases hf
      exact bs_ret rfl
    · refine bs_st 2 (x' := (25, [some (.ref 0), some (.int x1)], [.int (0 : Int32), .ref 0], hp kp nh rh tl rl q1.2.1 q1.2.2)) rfl ?_
      obtain ⟨q2, hq2, hf⟩ := Option.bind_eq_some_iff.mp hf
      refine bs_call (o := pEN Ls xs (d + 6) 191 [.ref 0, .int (0 : Int32)] (hp kp nh rh tl rl q1.2.1 q1.2.2)) (w := some (.ref 26)) (h' := hp kp (some 3) rh tl rl q2.1 q2.2) (pc := 28) (lo := [some (.ref 0), some (.int x1)]) (rest := []) rfl (t_191 Ls xs (d + 0) kp tl rl nh rh n (0 : Int32) q1.2.1 q1.2.2 q2 hq2) ?_
      refine bs_st 1 (x' := (29, [some (.ref 0), some (.int x1)], [.int x1, .ref 26], hp kp (some 3) rh tl rl q2.1 q2.2)) rfl ?_
      obtain ⟨q3, hq3, hf⟩ := Option.bind_eq_some_iff.mp hf
      refine bs_call (o := pEN Ls xs (d + 6) 63 [.ref 26, .int x1] (hp kp (some 3) rh tl rl q2.1 q2.2)) (w := some (.int q3)) (h' := hp kp (some 3) rh tl rl q2.1 q2.2) (pc := 32) (lo := [some (.ref 0), some (.int x1)]) (rest := []) rfl (t_63 Ls xs (d + 4) kp tl rl rh n x1 q2.1 q2.2 q3 hq3) ?_
      refine bs_st 1 (x' := (37, [some (.ref 0), some (.int x1)], [.int q3], hp kp (some 3) rh tl rl q2.1 q2.2)) rfl ?_
      cases hf
      exact bs_ret rfl
  · refine bs_st 1 (x' := (10, [some (.ref 0), some (.int x1)], [.int (-2 : Int32)], hp kp nh rh tl rl I L)) rfl ?_
    cases hf
    exact bs_ret rfl
/-- LampRounds.undo() on (0,) -/
def f_166 (I : FI) (L : FL) : Option (Int32 × FI × FL) :=
  (f_177 I L).bind fun q0 =>
  if ¬ q0 = 0 then
    if ¬ I 11 2 = 0 then
      some (((I 11 2) - (1 : Int32)), (u2 I 11 2 ((I 11 2) - (1 : Int32))), L)
    else
      some ((-5 : Int32), I, L)
  else
    some ((-2 : Int32), I, L)
set_option maxHeartbeats 1000000 in
set_option maxRecDepth 20000 in
theorem t_166 (Ls : Nat) (xs : Nat → Int32) (d : Nat) (kp : Option Nat) (tl : List (Nat × Nat)) (rl : List (List (Option Nat))) (nh : Option Nat) (rh : Option Nat) (I : FI) (L : FL) (r : Int32 × FI × FL) (hf : f_166 I L = some r) : pEN Ls xs (d + 2) 166 [.ref 0] (hp kp nh rh tl rl I L) = some (some (.int r.1), hp kp nh rh tl rl r.2.1 r.2.2) := by
  refine en_run (d := d + 1) (cd := cd_166) (f := (sf 11 rs_11 false 1 (some (.int)) Ls xs (d + 1))) rfl rfl (x := (0, [some (.ref 0)], [], hp kp nh rh tl rl I L)) rfl rfl (Nat.le_of_ble_eq_true rfl) ?_
  unfold f_166 at hf
  refine bs_st 1 (x' := (1, [some (.ref 0)], [.ref 0], hp kp nh rh tl rl I L)) rfl ?_
  obtain ⟨q0, hq0, hf⟩ := Option.bind_eq_some_iff.mp hf
  refine bs_call (o := pEN Ls xs (d + 1) 177 [.ref 0] (hp kp nh rh tl rl I L)) (w := some (.int q0)) (h' := hp kp nh rh tl rl I L) (pc := 4) (lo := [some (.ref 0)]) (rest := []) rfl (t_177 Ls xs (d + 0) kp tl rl nh rh I L q0 hq0) ?_
  refine bs_br (t := 10) (e := 7) (lo := [some (.ref 0)]) (st := []) (h := hp kp nh rh tl rl I L) rfl hf (fun hc hf => ?_) (fun hc hf => ?_)
  · refine bs_st 3 (x' := (17, [some (.ref 0)], [.int (I 11 2)], hp kp nh rh tl rl I L)) rfl ?_
    refine bs_br (t := 23) (e := 20) (lo := [some (.ref 0)]) (st := []) (h := hp kp nh rh tl rl I L) rfl hf (fun hc hf => ?_) (fun hc hf => ?_)
    · refine bs_st 10 (x' := (43, [some (.ref 0)], [.int ((I 11 2) - (1 : Int32))], hp kp nh rh tl rl (u2 I 11 2 ((I 11 2) - (1 : Int32))) L)) rfl ?_
      cases hf
      exact bs_ret rfl
    · refine bs_st 1 (x' := (22, [some (.ref 0)], [.int (-5 : Int32)], hp kp nh rh tl rl I L)) rfl ?_
      cases hf
      exact bs_ret rfl
  · refine bs_st 1 (x' := (9, [some (.ref 0)], [.int (-2 : Int32)], hp kp nh rh tl rl I L)) rfl ?_
    cases hf
    exact bs_ret rfl
/-- LampRounds.anew() on (0,) -/
def f_167 (I : FI) (L : FL) : Option (Int32 × FI × FL) :=
  (f_177 I L).bind fun q0 =>
  if ¬ q0 = 0 then
    some (I 11 2, (u2 I 11 2 (0 : Int32)), L)
  else
    some ((-2 : Int32), I, L)
set_option maxHeartbeats 1000000 in
set_option maxRecDepth 20000 in
theorem t_167 (Ls : Nat) (xs : Nat → Int32) (d : Nat) (kp : Option Nat) (tl : List (Nat × Nat)) (rl : List (List (Option Nat))) (nh : Option Nat) (rh : Option Nat) (I : FI) (L : FL) (r : Int32 × FI × FL) (hf : f_167 I L = some r) : pEN Ls xs (d + 2) 167 [.ref 0] (hp kp nh rh tl rl I L) = some (some (.int r.1), hp kp nh rh tl rl r.2.1 r.2.2) := by
  refine en_run (d := d + 1) (cd := cd_167) (f := (sf 11 rs_11 false 2 (some (.int)) Ls xs (d + 1))) rfl rfl (x := (0, [some (.ref 0), none], [], hp kp nh rh tl rl I L)) rfl rfl (Nat.le_of_ble_eq_true rfl) ?_
  unfold f_167 at hf
  refine bs_st 1 (x' := (1, [some (.ref 0), none], [.ref 0], hp kp nh rh tl rl I L)) rfl ?_
  obtain ⟨q0, hq0, hf⟩ := Option.bind_eq_some_iff.mp hf
  refine bs_call (o := pEN Ls xs (d + 1) 177 [.ref 0] (hp kp nh rh tl rl I L)) (w := some (.int q0)) (h' := hp kp nh rh tl rl I L) (pc := 4) (lo := [some (.ref 0), none]) (rest := []) rfl (t_177 Ls xs (d + 0) kp tl rl nh rh I L q0 hq0) ?_
  refine bs_br (t := 10) (e := 7) (lo := [some (.ref 0), none]) (st := []) (h := hp kp nh rh tl rl I L) rfl hf (fun hc hf => ?_) (fun hc hf => ?_)
  · refine bs_st 9 (x' := (27, [some (.ref 0), some (.int (I 11 2))], [.int (I 11 2)], hp kp nh rh tl rl (u2 I 11 2 (0 : Int32)) L)) rfl ?_
    cases hf
    exact bs_ret rfl
  · refine bs_st 1 (x' := (9, [some (.ref 0), none], [.int (-2 : Int32)], hp kp nh rh tl rl I L)) rfl ?_
    cases hf
    exact bs_ret rfl
/-- LampRounds.isSeed(I) on () -/
def f_183 (x0 : Int32) (I : FI) (L : FL) : Option (Int32) :=
  if x0 < 0 then
    some ((0 : Int32))
  else
    if (2000000000 : Int32) < x0 then
      some ((0 : Int32))
    else
      some ((1 : Int32))
set_option maxHeartbeats 1000000 in
set_option maxRecDepth 20000 in
theorem t_183 (Ls : Nat) (xs : Nat → Int32) (d : Nat) (kp : Option Nat) (tl : List (Nat × Nat)) (rl : List (List (Option Nat))) (nh : Option Nat) (rh : Option Nat) (x0 : Int32) (I : FI) (L : FL) (r : Int32) (hf : f_183 x0 I L = some r) : pEN Ls xs (d + 1) 183 [.int x0] (hp kp nh rh tl rl I L) = some (some (.int r), hp kp nh rh tl rl I L) := by
  refine en_run (d := d + 0) (cd := cd_183) (f := (sf 11 rs_11 false 1 (some (.boolean)) Ls xs (d + 0))) rfl rfl (x := (0, [some (.int x0)], [], hp kp nh rh tl rl I L)) rfl rfl (Nat.le_of_ble_eq_true rfl) ?_
  unfold f_183 at hf
  refine bs_st 1 (x' := (1, [some (.int x0)], [.int x0], hp kp nh rh tl rl I L)) rfl ?_
  refine bs_br (t := 15) (e := 4) (lo := [some (.int x0)]) (st := []) (h := hp kp nh rh tl rl I L) rfl hf (fun hc hf => ?_) (fun hc hf => ?_)
  · refine bs_st 1 (x' := (16, [some (.int x0)], [.int (0 : Int32)], hp kp nh rh tl rl I L)) rfl ?_
    cases hf
    exact bs_ret rfl
  · refine bs_st 2 (x' := (8, [some (.int x0)], [.int (2000000000 : Int32), .int x0], hp kp nh rh tl rl I L)) rfl ?_
    refine bs_br (t := 15) (e := 11) (lo := [some (.int x0)]) (st := []) (h := hp kp nh rh tl rl I L) rfl hf (fun hc hf => ?_) (fun hc hf => ?_)
    · refine bs_st 1 (x' := (16, [some (.int x0)], [.int (0 : Int32)], hp kp nh rh tl rl I L)) rfl ?_
      cases hf
      exact bs_ret rfl
    · refine bs_st 2 (x' := (16, [some (.int x0)], [.int (1 : Int32)], hp kp nh rh tl rl I L)) rfl ?_
      cases hf
      exact bs_ret rfl
/-- House.drawComers(J) on (3,) -/
def c_28_1 (n : Nat) (I : FI) (L : FL) (K0 : Int64 → Int32 → Int32 → Option (Int32)) (y3 : Int64) (x5 : Int32) (x6 : Int32) : Option (Int32) :=
  K0 y3 x5 (x6 + (1 : Int32))
set_option maxHeartbeats 1000000 in
set_option maxRecDepth 20000 in
theorem tc_28_1 (Ls : Nat) (xs : Nat → Int32) (d : Nat) (kp : Option Nat) (tl : List (Nat × Nat)) (rl : List (List (Option Nat))) (nh : Option Nat) (rh : Option Nat) (n : Nat) (I : FI) (L : FL) (K0 : Int64 → Int32 → Int32 → Option (Int32)) (hK0 : ∀ (w1 : Option Value) (w2 : Option Value) (y3 : Int64) (x5 : Int32) (x6 : Int32) (r : Int32), K0 y3 x5 x6 = some r → Bs cd_28 (sf 3 rs_3 false 7 (some (.int)) Ls xs (d + 0)) (8, [some (.ref 3), w1, w2, some (.long y3), none, some (.int x5), some (.int x6)], [], hp kp nh rh tl rl I L) (some (.int r), hp kp nh rh tl rl I L)) (w1 : Option Value) (w2 : Option Value) (y3 : Int64) (x5 : Int32) (x6 : Int32) (r : Int32) (hf : c_28_1 n I L K0 y3 x5 x6 = some r) : Bs cd_28 (sf 3 rs_3 false 7 (some (.int)) Ls xs (d + 0)) (58, [some (.ref 3), w1, w2, some (.long y3), none, some (.int x5), some (.int x6)], [], hp kp nh rh tl rl I L) (some (.int r), hp kp nh rh tl rl I L) := by
  unfold c_28_1 at hf
  refine bs_st 2 (x' := (8, [some (.ref 3), w1, w2, some (.long y3), none, some (.int x5), some (.int (x6 + (1 : Int32)))], [], hp kp nh rh tl rl I L)) rfl ?_
  exact hK0 w1 w2 y3 x5 (x6 + (1 : Int32)) r hf
def b_28_0 (n : Nat) (I : FI) (L : FL) (K0 : Int64 → Int32 → Int32 → Option (Int32)) (y3 : Int64) (x5 : Int32) (x6 : Int32) : Option (Int32) :=
  if I 3 6 ≤ x6 then
    some (x5)
  else
    if 0 ≤ (lg_cmp ((((((1103515245 : Int64) * y3) + (12345 : Int64)) &&& (2147483647 : Int64)) / (65536 : Int64)) - (((((1103515245 : Int64) * y3) + (12345 : Int64)) &&& (2147483647 : Int64)) / (65536 : Int64)) / (10 : Int64) * (10 : Int64)) ((I 3 2).toInt64)) then
      c_28_1 n I L K0 ((((1103515245 : Int64) * y3) + (12345 : Int64)) &&& (2147483647 : Int64)) x5 x6
    else
      c_28_1 n I L K0 ((((1103515245 : Int64) * y3) + (12345 : Int64)) &&& (2147483647 : Int64)) (x5 ||| ((1 : Int32) <<< (x6 &&& 31))) x6
def c_28_0 (n : Nat) (I : FI) (L : FL) : Nat → Int64 → Int32 → Int32 → Option (Int32)
  | 0, _, _, _ => none
  | m + 1, y3, x5, x6 => b_28_0 n I L (c_28_0 n I L m) y3 x5 x6
set_option maxHeartbeats 1000000 in
set_option maxRecDepth 20000 in
theorem tc_28_0 (Ls : Nat) (xs : Nat → Int32) (d : Nat) (kp : Option Nat) (tl : List (Nat × Nat)) (rl : List (List (Option Nat))) (nh : Option Nat) (rh : Option Nat) (n : Nat) (I : FI) (L : FL) : ∀ (m : Nat) (w1 : Option Value) (w2 : Option Value) (y3 : Int64) (x5 : Int32) (x6 : Int32) (r : Int32), c_28_0 n I L m y3 x5 x6 = some r → Bs cd_28 (sf 3 rs_3 false 7 (some (.int)) Ls xs (d + 0)) (8, [some (.ref 3), w1, w2, some (.long y3), none, some (.int x5), some (.int x6)], [], hp kp nh rh tl rl I L) (some (.int r), hp kp nh rh tl rl I L)
  | 0, w1, w2, y3, x5, x6, r, hf => by cases hf
  | m + 1, w1, w2, y3, x5, x6, r, hf => by
    unfold c_28_0 b_28_0 at hf
    have hK0 := tc_28_0 Ls xs d kp tl rl nh rh n I L m
    refine bs_st 3 (x' := (14, [some (.ref 3), w1, w2, some (.long y3), none, some (.int x5), some (.int x6)], [.int (I 3 6), .int x6], hp kp nh rh tl rl I L)) rfl ?_
    refine bs_br (t := 64) (e := 17) (lo := [some (.ref 3), w1, w2, some (.long y3), none, some (.int x5), some (.int x6)]) (st := []) (h := hp kp nh rh tl rl I L) rfl hf (fun hc hf => ?_) (fun hc hf => ?_)
    · refine bs_st 1 (x' := (66, [some (.ref 3), w1, w2, some (.long y3), none, some (.int x5), some (.int x6)], [.int x5], hp kp nh rh tl rl I L)) rfl ?_
      cases hf
      exact bs_ret rfl
    · refine bs_st 17 (x' := (46, [some (.ref 3), w1, (pcl w2), some (.long ((((1103515245 : Int64) * y3) + (12345 : Int64)) &&& (2147483647 : Int64))), none, some (.int x5), some (.int x6)], [.int (lg_cmp ((((((1103515245 : Int64) * y3) + (12345 : Int64)) &&& (2147483647 : Int64)) / (65536 : Int64)) - (((((1103515245 : Int64) * y3) + (12345 : Int64)) &&& (2147483647 : Int64)) / (65536 : Int64)) / (10 : Int64) * (10 : Int64)) ((I 3 2).toInt64))], hp kp nh rh tl rl I L)) rfl ?_
      refine bs_br (t := 58) (e := 49) (lo := [some (.ref 3), w1, (pcl w2), some (.long ((((1103515245 : Int64) * y3) + (12345 : Int64)) &&& (2147483647 : Int64))), none, some (.int x5), some (.int x6)]) (st := []) (h := hp kp nh rh tl rl I L) rfl hf (fun hc hf => ?_) (fun hc hf => ?_)
      · exact tc_28_1 Ls xs d kp tl rl nh rh n I L _ hK0 w1 (pcl w2) ((((1103515245 : Int64) * y3) + (12345 : Int64)) &&& (2147483647 : Int64)) x5 x6 r hf
      · refine bs_st 6 (x' := (58, [some (.ref 3), w1, (pcl w2), some (.long ((((1103515245 : Int64) * y3) + (12345 : Int64)) &&& (2147483647 : Int64))), none, some (.int (x5 ||| ((1 : Int32) <<< (x6 &&& 31)))), some (.int x6)], [], hp kp nh rh tl rl I L)) rfl ?_
        exact tc_28_1 Ls xs d kp tl rl nh rh n I L _ hK0 w1 (pcl w2) ((((1103515245 : Int64) * y3) + (12345 : Int64)) &&& (2147483647 : Int64)) (x5 ||| ((1 : Int32) <<< (x6 &&& 31))) x6 r hf
def f_28 (n : Nat) (y1 : Int64) (I : FI) (L : FL) : Option (Int32) :=
  c_28_0 n I L n y1 (0 : Int32) (0 : Int32)
set_option maxHeartbeats 1000000 in
set_option maxRecDepth 20000 in
theorem t_28 (Ls : Nat) (xs : Nat → Int32) (d : Nat) (kp : Option Nat) (tl : List (Nat × Nat)) (rl : List (List (Option Nat))) (nh : Option Nat) (rh : Option Nat) (n : Nat) (y1 : Int64) (I : FI) (L : FL) (r : Int32) (hf : f_28 n y1 I L = some r) : pEN Ls xs (d + 1) 28 [.ref 3, .long y1] (hp kp nh rh tl rl I L) = some (some (.int r), hp kp nh rh tl rl I L) := by
  refine en_run (d := d + 0) (cd := cd_28) (f := (sf 3 rs_3 false 7 (some (.int)) Ls xs (d + 0))) rfl rfl (x := (0, [some (.ref 3), some (.long y1), none, none, none, none, none], [], hp kp nh rh tl rl I L)) rfl rfl (Nat.le_of_ble_eq_true rfl) ?_
  unfold f_28 at hf
  refine bs_st 6 (x' := (8, [some (.ref 3), some (.long y1), none, some (.long y1), none, some (.int (0 : Int32)), some (.int (0 : Int32))], [], hp kp nh rh tl rl I L)) rfl ?_
  exact tc_28_0 Ls xs d kp tl rl nh rh n I L n (some (.long y1)) none y1 (0 : Int32) (0 : Int32) r hf
/-- LampRounds.drawn(II) on (0,) -/
def f_168 (n : Nat) (nh : Option Nat) (x1 : Int32) (x2 : Int32) (I : FI) (L : FL) : Option (Int32 × Option Nat × FI × FL) :=
  (f_177 I L).bind fun q0 =>
  if q0 = 0 then
    some ((-2 : Int32), nh, I, L)
  else
    (f_183 x1 I L).bind fun q1 =>
    if q1 = 0 then
      some ((-2 : Int32), nh, I, L)
    else
      (f_182 x2 I L).bind fun q2 =>
      if ¬ q2 = 0 then
        (f_28 n x1.toInt64 I L).bind fun q3 =>
        if ¬ x2 = 0 then
          (f_193 n q3 I L).bind fun q4 =>
          (f_66 n q4.1 q4.2).bind fun q5 =>
          some (q5, (some 3), q4.1, q4.2)
        else
          some (q3, nh, I, L)
      else
        some ((-2 : Int32), nh, I, L)
set_option maxHeartbeats 1000000 in
set_option maxRecDepth 20000 in
theorem t_168 (Ls : Nat) (xs : Nat → Int32) (d : Nat) (kp : Option Nat) (tl : List (Nat × Nat)) (rl : List (List (Option Nat))) (nh : Option Nat) (rh : Option Nat) (n : Nat) (x1 : Int32) (x2 : Int32) (I : FI) (L : FL) (r : Int32 × Option Nat × FI × FL) (hf : f_168 n nh x1 x2 I L = some r) : pEN Ls xs (d + 7) 168 [.ref 0, .int x1, .int x2] (hp kp nh rh tl rl I L) = some (some (.int r.1), hp kp r.2.1 rh tl rl r.2.2.1 r.2.2.2) := by
  refine en_run (d := d + 6) (cd := cd_168) (f := (sf 11 rs_11 false 4 (some (.int)) Ls xs (d + 6))) rfl rfl (x := (0, [some (.ref 0), some (.int x1), some (.int x2), none], [], hp kp nh rh tl rl I L)) rfl rfl (Nat.le_of_ble_eq_true rfl) ?_
  unfold f_168 at hf
  refine bs_st 1 (x' := (1, [some (.ref 0), some (.int x1), some (.int x2), none], [.ref 0], hp kp nh rh tl rl I L)) rfl ?_
  obtain ⟨q0, hq0, hf⟩ := Option.bind_eq_some_iff.mp hf
  refine bs_call (o := pEN Ls xs (d + 6) 177 [.ref 0] (hp kp nh rh tl rl I L)) (w := some (.int q0)) (h' := hp kp nh rh tl rl I L) (pc := 4) (lo := [some (.ref 0), some (.int x1), some (.int x2), none]) (rest := []) rfl (t_177 Ls xs (d + 5) kp tl rl nh rh I L q0 hq0) ?_
  refine bs_br (t := 21) (e := 7) (lo := [some (.ref 0), some (.int x1), some (.int x2), none]) (st := []) (h := hp kp nh rh tl rl I L) rfl hf (fun hc hf => ?_) (fun hc hf => ?_)
  · refine bs_st 1 (x' := (23, [some (.ref 0), some (.int x1), some (.int x2), none], [.int (-2 : Int32)], hp kp nh rh tl rl I L)) rfl ?_
    cases hf
    exact bs_ret rfl
  · refine bs_st 1 (x' := (8, [some (.ref 0), some (.int x1), some (.int x2), none], [.int x1], hp kp nh rh tl rl I L)) rfl ?_
    obtain ⟨q1, hq1, hf⟩ := Option.bind_eq_some_iff.mp hf
    refine bs_call (o := pEN Ls xs (d + 6) 183 [.int x1] (hp kp nh rh tl rl I L)) (w := some (.int q1)) (h' := hp kp nh rh tl rl I L) (pc := 11) (lo := [some (.ref 0), some (.int x1), some (.int x2), none]) (rest := []) rfl (t_183 Ls xs (d + 5) kp tl rl nh rh x1 I L q1 hq1) ?_
    refine bs_br (t := 21) (e := 14) (lo := [some (.ref 0), some (.int x1), some (.int x2), none]) (st := []) (h := hp kp nh rh tl rl I L) rfl hf (fun hc hf => ?_) (fun hc hf => ?_)
    · refine bs_st 1 (x' := (23, [some (.ref 0), some (.int x1), some (.int x2), none], [.int (-2 : Int32)], hp kp nh rh tl rl I L)) rfl ?_
      cases hf
      exact bs_ret rfl
    · refine bs_st 1 (x' := (15, [some (.ref 0), some (.int x1), some (.int x2), none], [.int x2], hp kp nh rh tl rl I L)) rfl ?_
      obtain ⟨q2, hq2, hf⟩ := Option.bind_eq_some_iff.mp hf
      refine bs_call (o := pEN Ls xs (d + 6) 182 [.int x2] (hp kp nh rh tl rl I L)) (w := some (.int q2)) (h' := hp kp nh rh tl rl I L) (pc := 18) (lo := [some (.ref 0), some (.int x1), some (.int x2), none]) (rest := []) rfl (t_182 Ls xs (d + 5) kp tl rl nh rh x2 I L q2 hq2) ?_
      refine bs_br (t := 24) (e := 21) (lo := [some (.ref 0), some (.int x1), some (.int x2), none]) (st := []) (h := hp kp nh rh tl rl I L) rfl hf (fun hc hf => ?_) (fun hc hf => ?_)
      · refine bs_st 4 (x' := (30, [some (.ref 0), some (.int x1), some (.int x2), none], [.long x1.toInt64, .ref 3], hp kp nh rh tl rl I L)) rfl ?_
        obtain ⟨q3, hq3, hf⟩ := Option.bind_eq_some_iff.mp hf
        refine bs_call (o := pEN Ls xs (d + 6) 28 [.ref 3, .long x1.toInt64] (hp kp nh rh tl rl I L)) (w := some (.int q3)) (h' := hp kp nh rh tl rl I L) (pc := 33) (lo := [some (.ref 0), some (.int x1), some (.int x2), none]) (rest := []) rfl (t_28 Ls xs (d + 5) kp tl rl nh rh n x1.toInt64 I L q3 hq3) ?_
        refine bs_st 2 (x' := (35, [some (.ref 0), some (.int x1), some (.int x2), some (.int q3)], [.int x2], hp kp nh rh tl rl I L)) rfl ?_
        refine bs_br (t := 42) (e := 38) (lo := [some (.ref 0), some (.int x1), some (.int x2), some (.int q3)]) (st := []) (h := hp kp nh rh tl rl I L) rfl hf (fun hc hf => ?_) (fun hc hf => ?_)
        · refine bs_st 2 (x' := (44, [some (.ref 0), some (.int x1), some (.int x2), some (.int q3)], [.int q3, .ref 0], hp kp nh rh tl rl I L)) rfl ?_
          obtain ⟨q4, hq4, hf⟩ := Option.bind_eq_some_iff.mp hf
          refine bs_call (o := pEN Ls xs (d + 6) 193 [.ref 0, .int q3] (hp kp nh rh tl rl I L)) (w := some (.ref 26)) (h' := hp kp (some 3) rh tl rl q4.1 q4.2) (pc := 47) (lo := [some (.ref 0), some (.int x1), some (.int x2), some (.int q3)]) (rest := []) rfl (t_193 Ls xs (d + 0) kp tl rl nh rh n q3 I L q4 hq4) ?_
          obtain ⟨q5, hq5, hf⟩ := Option.bind_eq_some_iff.mp hf
          refine bs_call (o := pEN Ls xs (d + 6) 66 [.ref 26] (hp kp (some 3) rh tl rl q4.1 q4.2)) (w := some (.int q5)) (h' := hp kp (some 3) rh tl rl q4.1 q4.2) (pc := 50) (lo := [some (.ref 0), some (.int x1), some (.int x2), some (.int q3)]) (rest := []) rfl (t_66 Ls xs (d + 4) kp tl rl rh n q4.1 q4.2 q5 hq5) ?_
          cases hf
          exact bs_ret rfl
        · refine bs_st 2 (x' := (50, [some (.ref 0), some (.int x1), some (.int x2), some (.int q3)], [.int q3], hp kp nh rh tl rl I L)) rfl ?_
          cases hf
          exact bs_ret rfl
      · refine bs_st 1 (x' := (23, [some (.ref 0), some (.int x1), some (.int x2), none], [.int (-2 : Int32)], hp kp nh rh tl rl I L)) rfl ?_
        cases hf
        exact bs_ret rfl
/-- House.drawComers(J) on (3,) -/
def c_28_1_1 (n : Nat) (I : FI) (L : FL) (K0 : Int64 → Int32 → Int32 → Option (Int32)) (y3 : Int64) (x5 : Int32) (x6 : Int32) : Option (Int32) :=
  K0 y3 x5 (x6 + (1 : Int32))
set_option maxHeartbeats 1000000 in
set_option maxRecDepth 20000 in
theorem tc_28_1_1 (Ls : Nat) (xs : Nat → Int32) (d : Nat) (kp : Option Nat) (tl : List (Nat × Nat)) (rl : List (List (Option Nat))) (rh : Option Nat) (n : Nat) (I : FI) (L : FL) (K0 : Int64 → Int32 → Int32 → Option (Int32)) (hK0 : ∀ (w1 : Option Value) (w2 : Option Value) (y3 : Int64) (x5 : Int32) (x6 : Int32) (r : Int32), K0 y3 x5 x6 = some r → Bs cd_28 (sf 3 rs_3 false 7 (some (.int)) Ls xs (d + 0)) (8, [some (.ref 3), w1, w2, some (.long y3), none, some (.int x5), some (.int x6)], [], hp kp (some 3) rh tl rl I L) (some (.int r), hp kp (some 3) rh tl rl I L)) (w1 : Option Value) (w2 : Option Value) (y3 : Int64) (x5 : Int32) (x6 : Int32) (r : Int32) (hf : c_28_1_1 n I L K0 y3 x5 x6 = some r) : Bs cd_28 (sf 3 rs_3 false 7 (some (.int)) Ls xs (d + 0)) (58, [some (.ref 3), w1, w2, some (.long y3), none, some (.int x5), some (.int x6)], [], hp kp (some 3) rh tl rl I L) (some (.int r), hp kp (some 3) rh tl rl I L) := by
  unfold c_28_1_1 at hf
  refine bs_st 2 (x' := (8, [some (.ref 3), w1, w2, some (.long y3), none, some (.int x5), some (.int (x6 + (1 : Int32)))], [], hp kp (some 3) rh tl rl I L)) rfl ?_
  exact hK0 w1 w2 y3 x5 (x6 + (1 : Int32)) r hf
def b_28_1_0 (n : Nat) (I : FI) (L : FL) (K0 : Int64 → Int32 → Int32 → Option (Int32)) (y3 : Int64) (x5 : Int32) (x6 : Int32) : Option (Int32) :=
  if I 3 6 ≤ x6 then
    some (x5)
  else
    if 0 ≤ (lg_cmp ((((((1103515245 : Int64) * y3) + (12345 : Int64)) &&& (2147483647 : Int64)) / (65536 : Int64)) - (((((1103515245 : Int64) * y3) + (12345 : Int64)) &&& (2147483647 : Int64)) / (65536 : Int64)) / (10 : Int64) * (10 : Int64)) ((I 3 2).toInt64)) then
      c_28_1_1 n I L K0 ((((1103515245 : Int64) * y3) + (12345 : Int64)) &&& (2147483647 : Int64)) x5 x6
    else
      c_28_1_1 n I L K0 ((((1103515245 : Int64) * y3) + (12345 : Int64)) &&& (2147483647 : Int64)) (x5 ||| ((1 : Int32) <<< (x6 &&& 31))) x6
def c_28_1_0 (n : Nat) (I : FI) (L : FL) : Nat → Int64 → Int32 → Int32 → Option (Int32)
  | 0, _, _, _ => none
  | m + 1, y3, x5, x6 => b_28_1_0 n I L (c_28_1_0 n I L m) y3 x5 x6
set_option maxHeartbeats 1000000 in
set_option maxRecDepth 20000 in
theorem tc_28_1_0 (Ls : Nat) (xs : Nat → Int32) (d : Nat) (kp : Option Nat) (tl : List (Nat × Nat)) (rl : List (List (Option Nat))) (rh : Option Nat) (n : Nat) (I : FI) (L : FL) : ∀ (m : Nat) (w1 : Option Value) (w2 : Option Value) (y3 : Int64) (x5 : Int32) (x6 : Int32) (r : Int32), c_28_1_0 n I L m y3 x5 x6 = some r → Bs cd_28 (sf 3 rs_3 false 7 (some (.int)) Ls xs (d + 0)) (8, [some (.ref 3), w1, w2, some (.long y3), none, some (.int x5), some (.int x6)], [], hp kp (some 3) rh tl rl I L) (some (.int r), hp kp (some 3) rh tl rl I L)
  | 0, w1, w2, y3, x5, x6, r, hf => by cases hf
  | m + 1, w1, w2, y3, x5, x6, r, hf => by
    unfold c_28_1_0 b_28_1_0 at hf
    have hK0 := tc_28_1_0 Ls xs d kp tl rl rh n I L m
    refine bs_st 3 (x' := (14, [some (.ref 3), w1, w2, some (.long y3), none, some (.int x5), some (.int x6)], [.int (I 3 6), .int x6], hp kp (some 3) rh tl rl I L)) rfl ?_
    refine bs_br (t := 64) (e := 17) (lo := [some (.ref 3), w1, w2, some (.long y3), none, some (.int x5), some (.int x6)]) (st := []) (h := hp kp (some 3) rh tl rl I L) rfl hf (fun hc hf => ?_) (fun hc hf => ?_)
    · refine bs_st 1 (x' := (66, [some (.ref 3), w1, w2, some (.long y3), none, some (.int x5), some (.int x6)], [.int x5], hp kp (some 3) rh tl rl I L)) rfl ?_
      cases hf
      exact bs_ret rfl
    · refine bs_st 17 (x' := (46, [some (.ref 3), w1, (pcl w2), some (.long ((((1103515245 : Int64) * y3) + (12345 : Int64)) &&& (2147483647 : Int64))), none, some (.int x5), some (.int x6)], [.int (lg_cmp ((((((1103515245 : Int64) * y3) + (12345 : Int64)) &&& (2147483647 : Int64)) / (65536 : Int64)) - (((((1103515245 : Int64) * y3) + (12345 : Int64)) &&& (2147483647 : Int64)) / (65536 : Int64)) / (10 : Int64) * (10 : Int64)) ((I 3 2).toInt64))], hp kp (some 3) rh tl rl I L)) rfl ?_
      refine bs_br (t := 58) (e := 49) (lo := [some (.ref 3), w1, (pcl w2), some (.long ((((1103515245 : Int64) * y3) + (12345 : Int64)) &&& (2147483647 : Int64))), none, some (.int x5), some (.int x6)]) (st := []) (h := hp kp (some 3) rh tl rl I L) rfl hf (fun hc hf => ?_) (fun hc hf => ?_)
      · exact tc_28_1_1 Ls xs d kp tl rl rh n I L _ hK0 w1 (pcl w2) ((((1103515245 : Int64) * y3) + (12345 : Int64)) &&& (2147483647 : Int64)) x5 x6 r hf
      · refine bs_st 6 (x' := (58, [some (.ref 3), w1, (pcl w2), some (.long ((((1103515245 : Int64) * y3) + (12345 : Int64)) &&& (2147483647 : Int64))), none, some (.int (x5 ||| ((1 : Int32) <<< (x6 &&& 31)))), some (.int x6)], [], hp kp (some 3) rh tl rl I L)) rfl ?_
        exact tc_28_1_1 Ls xs d kp tl rl rh n I L _ hK0 w1 (pcl w2) ((((1103515245 : Int64) * y3) + (12345 : Int64)) &&& (2147483647 : Int64)) (x5 ||| ((1 : Int32) <<< (x6 &&& 31))) x6 r hf
def f_28_1 (n : Nat) (y1 : Int64) (I : FI) (L : FL) : Option (Int32) :=
  c_28_1_0 n I L n y1 (0 : Int32) (0 : Int32)
set_option maxHeartbeats 1000000 in
set_option maxRecDepth 20000 in
theorem t_28_1 (Ls : Nat) (xs : Nat → Int32) (d : Nat) (kp : Option Nat) (tl : List (Nat × Nat)) (rl : List (List (Option Nat))) (rh : Option Nat) (n : Nat) (y1 : Int64) (I : FI) (L : FL) (r : Int32) (hf : f_28_1 n y1 I L = some r) : pEN Ls xs (d + 1) 28 [.ref 3, .long y1] (hp kp (some 3) rh tl rl I L) = some (some (.int r), hp kp (some 3) rh tl rl I L) := by
  refine en_run (d := d + 0) (cd := cd_28) (f := (sf 3 rs_3 false 7 (some (.int)) Ls xs (d + 0))) rfl rfl (x := (0, [some (.ref 3), some (.long y1), none, none, none, none, none], [], hp kp (some 3) rh tl rl I L)) rfl rfl (Nat.le_of_ble_eq_true rfl) ?_
  unfold f_28_1 at hf
  refine bs_st 6 (x' := (8, [some (.ref 3), some (.long y1), none, some (.long y1), none, some (.int (0 : Int32)), some (.int (0 : Int32))], [], hp kp (some 3) rh tl rl I L)) rfl ?_
  exact tc_28_1_0 Ls xs d kp tl rl rh n I L n (some (.long y1)) none y1 (0 : Int32) (0 : Int32) r hf
/-- LampRounds.luck(III) on (0,) -/
def c_169_2 (n : Nat) (nh : Option Nat) (K1 : Int32 → Int32 → Int32 → Int32 → Int32 → FI → FL → Option (Int32 × Option Nat × FI × FL)) (x1 : Int32) (x2 : Int32) (x3 : Int32) (x4 : Int32) (x5 : Int32) (I : FI) (L : FL) : Option (Int32 × Option Nat × FI × FL) :=
  if x2 ≤ x5 then
    some (x4, (some 3), I, L)
  else
    (f_28_1 n (x1.toInt64 + x5.toInt64) I L).bind fun q4 =>
    (f_193_1 n q4 I L).bind fun q5 =>
    if pin x3 4 = true then (if q5.1 32 x3.toNatClampNeg = (-1 : Int32) then
        K1 x1 x2 x3 x4 x5 q5.1 q5.2
      else
        K1 x1 x2 x3 (x4 + (1 : Int32)) x5 q5.1 q5.2) else none
set_option maxHeartbeats 1000000 in
set_option maxRecDepth 20000 in
theorem tc_169_2 (Ls : Nat) (xs : Nat → Int32) (d : Nat) (kp : Option Nat) (tl : List (Nat × Nat)) (rl : List (List (Option Nat))) (nh : Option Nat) (rh : Option Nat) (n : Nat) (K1 : Int32 → Int32 → Int32 → Int32 → Int32 → FI → FL → Option (Int32 × Option Nat × FI × FL)) (hK1 : ∀ (x1 : Int32) (x2 : Int32) (x3 : Int32) (x4 : Int32) (x5 : Int32) (I : FI) (L : FL) (r : Int32 × Option Nat × FI × FL), K1 x1 x2 x3 x4 x5 I L = some r → Bs cd_169 (sf 11 rs_11 false 6 (some (.int)) Ls xs (d + 6)) (70, [some (.ref 0), some (.int x1), some (.int x2), some (.int x3), some (.int x4), some (.int x5)], [], hp kp (some 3) rh tl rl I L) (some (.int r.1), hp kp r.2.1 rh tl rl r.2.2.1 r.2.2.2)) (x1 : Int32) (x2 : Int32) (x3 : Int32) (x4 : Int32) (x5 : Int32) (I : FI) (L : FL) (r : Int32 × Option Nat × FI × FL) (hf : c_169_2 n nh K1 x1 x2 x3 x4 x5 I L = some r) : Bs cd_169 (sf 11 rs_11 false 6 (some (.int)) Ls xs (d + 6)) (35, [some (.ref 0), some (.int x1), some (.int x2), some (.int x3), some (.int x4), some (.int x5)], [], hp kp (some 3) rh tl rl I L) (some (.int r.1), hp kp r.2.1 rh tl rl r.2.2.1 r.2.2.2) := by
  unfold c_169_2 at hf
  refine bs_st 2 (x' := (38, [some (.ref 0), some (.int x1), some (.int x2), some (.int x3), some (.int x4), some (.int x5)], [.int x2, .int x5], hp kp (some 3) rh tl rl I L)) rfl ?_
  refine bs_br (t := 76) (e := 41) (lo := [some (.ref 0), some (.int x1), some (.int x2), some (.int x3), some (.int x4), some (.int x5)]) (st := []) (h := hp kp (some 3) rh tl rl I L) rfl hf (fun hc hf => ?_) (fun hc hf => ?_)
  · refine bs_st 1 (x' := (78, [some (.ref 0), some (.int x1), some (.int x2), some (.int x3), some (.int x4), some (.int x5)], [.int x4], hp kp (some 3) rh tl rl I L)) rfl ?_
    cases hf
    exact bs_ret rfl
  · refine bs_st 8 (x' := (52, [some (.ref 0), some (.int x1), some (.int x2), some (.int x3), some (.int x4), some (.int x5)], [.long (x1.toInt64 + x5.toInt64), .ref 3, .ref 0], hp kp (some 3) rh tl rl I L)) rfl ?_
    obtain ⟨q4, hq4, hf⟩ := Option.bind_eq_some_iff.mp hf
    refine bs_call (o := pEN Ls xs (d + 6) 28 [.ref 3, .long (x1.toInt64 + x5.toInt64)] (hp kp (some 3) rh tl rl I L)) (w := some (.int q4)) (h' := hp kp (some 3) rh tl rl I L) (pc := 55) (lo := [some (.ref 0), some (.int x1), some (.int x2), some (.int x3), some (.int x4), some (.int x5)]) (rest := [.ref 0]) rfl (t_28_1 Ls xs (d + 5) kp tl rl rh n (x1.toInt64 + x5.toInt64) I L q4 hq4) ?_
    obtain ⟨q5, hq5, hf⟩ := Option.bind_eq_some_iff.mp hf
    refine bs_call (o := pEN Ls xs (d + 6) 193 [.ref 0, .int q4] (hp kp (some 3) rh tl rl I L)) (w := some (.ref 26)) (h' := hp kp (some 3) rh tl rl q5.1 q5.2) (pc := 58) (lo := [some (.ref 0), some (.int x1), some (.int x2), some (.int x3), some (.int x4), some (.int x5)]) (rest := []) rfl (t_193_1 Ls xs (d + 0) kp tl rl rh n q4 I L q5 hq5) ?_
    refine bs_st 2 (x' := (62, [some (.ref 0), some (.int x1), some (.int x2), some (.int x3), some (.int x4), some (.int x5)], [.int x3, .ref 32], hp kp (some 3) rh tl rl q5.1 q5.2)) rfl ?_
    refine bs_gd (x' := (63, [some (.ref 0), some (.int x1), some (.int x2), some (.int x3), some (.int x4), some (.int x5)], [.int (q5.1 32 x3.toNatClampNeg)], hp kp (some 3) rh tl rl q5.1 q5.2)) rfl hf (fun hc hf => ?_)
    refine bs_st 1 (x' := (64, [some (.ref 0), some (.int x1), some (.int x2), some (.int x3), some (.int x4), some (.int x5)], [.int (-1 : Int32), .int (q5.1 32 x3.toNatClampNeg)], hp kp (some 3) rh tl rl q5.1 q5.2)) rfl ?_
    refine bs_br (t := 70) (e := 67) (lo := [some (.ref 0), some (.int x1), some (.int x2), some (.int x3), some (.int x4), some (.int x5)]) (st := []) (h := hp kp (some 3) rh tl rl q5.1 q5.2) rfl hf (fun hc hf => ?_) (fun hc hf => ?_)
    · exact hK1 x1 x2 x3 x4 x5 q5.1 q5.2 r hf
    · refine bs_st 1 (x' := (70, [some (.ref 0), some (.int x1), some (.int x2), some (.int x3), some (.int (x4 + (1 : Int32))), some (.int x5)], [], hp kp (some 3) rh tl rl q5.1 q5.2)) rfl ?_
      exact hK1 x1 x2 x3 (x4 + (1 : Int32)) x5 q5.1 q5.2 r hf
def b_169_1 (n : Nat) (nh : Option Nat) (K1 : Int32 → Int32 → Int32 → Int32 → Int32 → FI → FL → Option (Int32 × Option Nat × FI × FL)) (x1 : Int32) (x2 : Int32) (x3 : Int32) (x4 : Int32) (x5 : Int32) (I : FI) (L : FL) : Option (Int32 × Option Nat × FI × FL) :=
  c_169_2 n nh K1 x1 x2 x3 x4 (x5 + (1 : Int32)) I L
def c_169_1 (n : Nat) (nh : Option Nat) : Nat → Int32 → Int32 → Int32 → Int32 → Int32 → FI → FL → Option (Int32 × Option Nat × FI × FL)
  | 0, _, _, _, _, _, _, _ => none
  | m + 1, x1, x2, x3, x4, x5, I, L => b_169_1 n nh (c_169_1 n nh m) x1 x2 x3 x4 x5 I L
set_option maxHeartbeats 1000000 in
set_option maxRecDepth 20000 in
theorem tc_169_1 (Ls : Nat) (xs : Nat → Int32) (d : Nat) (kp : Option Nat) (tl : List (Nat × Nat)) (rl : List (List (Option Nat))) (nh : Option Nat) (rh : Option Nat) (n : Nat) : ∀ (m : Nat) (x1 : Int32) (x2 : Int32) (x3 : Int32) (x4 : Int32) (x5 : Int32) (I : FI) (L : FL) (r : Int32 × Option Nat × FI × FL), c_169_1 n nh m x1 x2 x3 x4 x5 I L = some r → Bs cd_169 (sf 11 rs_11 false 6 (some (.int)) Ls xs (d + 6)) (70, [some (.ref 0), some (.int x1), some (.int x2), some (.int x3), some (.int x4), some (.int x5)], [], hp kp (some 3) rh tl rl I L) (some (.int r.1), hp kp r.2.1 rh tl rl r.2.2.1 r.2.2.2)
  | 0, x1, x2, x3, x4, x5, I, L, r, hf => by cases hf
  | m + 1, x1, x2, x3, x4, x5, I, L, r, hf => by
    unfold c_169_1 b_169_1 at hf
    have hK1 := tc_169_1 Ls xs d kp tl rl nh rh n m
    refine bs_st 2 (x' := (35, [some (.ref 0), some (.int x1), some (.int x2), some (.int x3), some (.int x4), some (.int (x5 + (1 : Int32)))], [], hp kp (some 3) rh tl rl I L)) rfl ?_
    exact tc_169_2 Ls xs d kp tl rl nh rh n _ hK1 x1 x2 x3 x4 (x5 + (1 : Int32)) I L r hf
def c_169_0 (n : Nat) (nh : Option Nat) (x1 : Int32) (x2 : Int32) (x3 : Int32) (x4 : Int32) (x5 : Int32) (I : FI) (L : FL) : Option (Int32 × Option Nat × FI × FL) :=
  if x2 ≤ x5 then
    some (x4, nh, I, L)
  else
    (f_28 n (x1.toInt64 + x5.toInt64) I L).bind fun q2 =>
    (f_193 n q2 I L).bind fun q3 =>
    if pin x3 4 = true then (if q3.1 32 x3.toNatClampNeg = (-1 : Int32) then
        c_169_1 n nh n x1 x2 x3 x4 x5 q3.1 q3.2
      else
        c_169_1 n nh n x1 x2 x3 (x4 + (1 : Int32)) x5 q3.1 q3.2) else none
set_option maxHeartbeats 1000000 in
set_option maxRecDepth 20000 in
theorem tc_169_0 (Ls : Nat) (xs : Nat → Int32) (d : Nat) (kp : Option Nat) (tl : List (Nat × Nat)) (rl : List (List (Option Nat))) (nh : Option Nat) (rh : Option Nat) (n : Nat) (x1 : Int32) (x2 : Int32) (x3 : Int32) (x4 : Int32) (x5 : Int32) (I : FI) (L : FL) (r : Int32 × Option Nat × FI × FL) (hf : c_169_0 n nh x1 x2 x3 x4 x5 I L = some r) : Bs cd_169 (sf 11 rs_11 false 6 (some (.int)) Ls xs (d + 6)) (35, [some (.ref 0), some (.int x1), some (.int x2), some (.int x3), some (.int x4), some (.int x5)], [], hp kp nh rh tl rl I L) (some (.int r.1), hp kp r.2.1 rh tl rl r.2.2.1 r.2.2.2) := by
  unfold c_169_0 at hf
  refine bs_st 2 (x' := (38, [some (.ref 0), some (.int x1), some (.int x2), some (.int x3), some (.int x4), some (.int x5)], [.int x2, .int x5], hp kp nh rh tl rl I L)) rfl ?_
  refine bs_br (t := 76) (e := 41) (lo := [some (.ref 0), some (.int x1), some (.int x2), some (.int x3), some (.int x4), some (.int x5)]) (st := []) (h := hp kp nh rh tl rl I L) rfl hf (fun hc hf => ?_) (fun hc hf => ?_)
  · refine bs_st 1 (x' := (78, [some (.ref 0), some (.int x1), some (.int x2), some (.int x3), some (.int x4), some (.int x5)], [.int x4], hp kp nh rh tl rl I L)) rfl ?_
    cases hf
    exact bs_ret rfl
  · refine bs_st 8 (x' := (52, [some (.ref 0), some (.int x1), some (.int x2), some (.int x3), some (.int x4), some (.int x5)], [.long (x1.toInt64 + x5.toInt64), .ref 3, .ref 0], hp kp nh rh tl rl I L)) rfl ?_
    obtain ⟨q2, hq2, hf⟩ := Option.bind_eq_some_iff.mp hf
    refine bs_call (o := pEN Ls xs (d + 6) 28 [.ref 3, .long (x1.toInt64 + x5.toInt64)] (hp kp nh rh tl rl I L)) (w := some (.int q2)) (h' := hp kp nh rh tl rl I L) (pc := 55) (lo := [some (.ref 0), some (.int x1), some (.int x2), some (.int x3), some (.int x4), some (.int x5)]) (rest := [.ref 0]) rfl (t_28 Ls xs (d + 5) kp tl rl nh rh n (x1.toInt64 + x5.toInt64) I L q2 hq2) ?_
    obtain ⟨q3, hq3, hf⟩ := Option.bind_eq_some_iff.mp hf
    refine bs_call (o := pEN Ls xs (d + 6) 193 [.ref 0, .int q2] (hp kp nh rh tl rl I L)) (w := some (.ref 26)) (h' := hp kp (some 3) rh tl rl q3.1 q3.2) (pc := 58) (lo := [some (.ref 0), some (.int x1), some (.int x2), some (.int x3), some (.int x4), some (.int x5)]) (rest := []) rfl (t_193 Ls xs (d + 0) kp tl rl nh rh n q2 I L q3 hq3) ?_
    refine bs_st 2 (x' := (62, [some (.ref 0), some (.int x1), some (.int x2), some (.int x3), some (.int x4), some (.int x5)], [.int x3, .ref 32], hp kp (some 3) rh tl rl q3.1 q3.2)) rfl ?_
    refine bs_gd (x' := (63, [some (.ref 0), some (.int x1), some (.int x2), some (.int x3), some (.int x4), some (.int x5)], [.int (q3.1 32 x3.toNatClampNeg)], hp kp (some 3) rh tl rl q3.1 q3.2)) rfl hf (fun hc hf => ?_)
    refine bs_st 1 (x' := (64, [some (.ref 0), some (.int x1), some (.int x2), some (.int x3), some (.int x4), some (.int x5)], [.int (-1 : Int32), .int (q3.1 32 x3.toNatClampNeg)], hp kp (some 3) rh tl rl q3.1 q3.2)) rfl ?_
    refine bs_br (t := 70) (e := 67) (lo := [some (.ref 0), some (.int x1), some (.int x2), some (.int x3), some (.int x4), some (.int x5)]) (st := []) (h := hp kp (some 3) rh tl rl q3.1 q3.2) rfl hf (fun hc hf => ?_) (fun hc hf => ?_)
    · exact tc_169_1 Ls xs d kp tl rl nh rh n n x1 x2 x3 x4 x5 q3.1 q3.2 r hf
    · refine bs_st 1 (x' := (70, [some (.ref 0), some (.int x1), some (.int x2), some (.int x3), some (.int (x4 + (1 : Int32))), some (.int x5)], [], hp kp (some 3) rh tl rl q3.1 q3.2)) rfl ?_
      exact tc_169_1 Ls xs d kp tl rl nh rh n n x1 x2 x3 (x4 + (1 : Int32)) x5 q3.1 q3.2 r hf
def f_169 (n : Nat) (nh : Option Nat) (x1 : Int32) (x2 : Int32) (x3 : Int32) (I : FI) (L : FL) : Option (Int32 × Option Nat × FI × FL) :=
  (f_178 x3 I L).bind fun q0 =>
  if q0 = 0 then
    some ((-2 : Int32), nh, I, L)
  else
    (f_183 x1 I L).bind fun q1 =>
    if q1 = 0 then
      some ((-2 : Int32), nh, I, L)
    else
      if x2 < (1 : Int32) then
        some ((-2 : Int32), nh, I, L)
      else
        if x2 ≤ (20 : Int32) then
          c_169_0 n nh x1 x2 x3 (0 : Int32) (0 : Int32) I L
        else
          some ((-2 : Int32), nh, I, L)
set_option maxHeartbeats 1000000 in
set_option maxRecDepth 20000 in
theorem t_169 (Ls : Nat) (xs : Nat → Int32) (d : Nat) (kp : Option Nat) (tl : List (Nat × Nat)) (rl : List (List (Option Nat))) (nh : Option Nat) (rh : Option Nat) (n : Nat) (x1 : Int32) (x2 : Int32) (x3 : Int32) (I : FI) (L : FL) (r : Int32 × Option Nat × FI × FL) (hf : f_169 n nh x1 x2 x3 I L = some r) : pEN Ls xs (d + 7) 169 [.ref 0, .int x1, .int x2, .int x3] (hp kp nh rh tl rl I L) = some (some (.int r.1), hp kp r.2.1 rh tl rl r.2.2.1 r.2.2.2) := by
  refine en_run (d := d + 6) (cd := cd_169) (f := (sf 11 rs_11 false 6 (some (.int)) Ls xs (d + 6))) rfl rfl (x := (0, [some (.ref 0), some (.int x1), some (.int x2), some (.int x3), none, none], [], hp kp nh rh tl rl I L)) rfl rfl (Nat.le_of_ble_eq_true rfl) ?_
  unfold f_169 at hf
  refine bs_st 2 (x' := (2, [some (.ref 0), some (.int x1), some (.int x2), some (.int x3), none, none], [.int x3, .ref 0], hp kp nh rh tl rl I L)) rfl ?_
  obtain ⟨q0, hq0, hf⟩ := Option.bind_eq_some_iff.mp hf
  refine bs_call (o := pEN Ls xs (d + 6) 178 [.ref 0, .int x3] (hp kp nh rh tl rl I L)) (w := some (.int q0)) (h' := hp kp nh rh tl rl I L) (pc := 5) (lo := [some (.ref 0), some (.int x1), some (.int x2), some (.int x3), none, none]) (rest := []) rfl (t_178 Ls xs (d + 5) kp tl rl nh rh x3 I L q0 hq0) ?_
  refine bs_br (t := 26) (e := 8) (lo := [some (.ref 0), some (.int x1), some (.int x2), some (.int x3), none, none]) (st := []) (h := hp kp nh rh tl rl I L) rfl hf (fun hc hf => ?_) (fun hc hf => ?_)
  · refine bs_st 1 (x' := (28, [some (.ref 0), some (.int x1), some (.int x2), some (.int x3), none, none], [.int (-2 : Int32)], hp kp nh rh tl rl I L)) rfl ?_
    cases hf
    exact bs_ret rfl
  · refine bs_st 1 (x' := (9, [some (.ref 0), some (.int x1), some (.int x2), some (.int x3), none, none], [.int x1], hp kp nh rh tl rl I L)) rfl ?_
    obtain ⟨q1, hq1, hf⟩ := Option.bind_eq_some_iff.mp hf
    refine bs_call (o := pEN Ls xs (d + 6) 183 [.int x1] (hp kp nh rh tl rl I L)) (w := some (.int q1)) (h' := hp kp nh rh tl rl I L) (pc := 12) (lo := [some (.ref 0), some (.int x1), some (.int x2), some (.int x3), none, none]) (rest := []) rfl (t_183 Ls xs (d + 5) kp tl rl nh rh x1 I L q1 hq1) ?_
    refine bs_br (t := 26) (e := 15) (lo := [some (.ref 0), some (.int x1), some (.int x2), some (.int x3), none, none]) (st := []) (h := hp kp nh rh tl rl I L) rfl hf (fun hc hf => ?_) (fun hc hf => ?_)
    · refine bs_st 1 (x' := (28, [some (.ref 0), some (.int x1), some (.int x2), some (.int x3), none, none], [.int (-2 : Int32)], hp kp nh rh tl rl I L)) rfl ?_
      cases hf
      exact bs_ret rfl
    · refine bs_st 2 (x' := (17, [some (.ref 0), some (.int x1), some (.int x2), some (.int x3), none, none], [.int (1 : Int32), .int x2], hp kp nh rh tl rl I L)) rfl ?_
      refine bs_br (t := 26) (e := 20) (lo := [some (.ref 0), some (.int x1), some (.int x2), some (.int x3), none, none]) (st := []) (h := hp kp nh rh tl rl I L) rfl hf (fun hc hf => ?_) (fun hc hf => ?_)
      · refine bs_st 1 (x' := (28, [some (.ref 0), some (.int x1), some (.int x2), some (.int x3), none, none], [.int (-2 : Int32)], hp kp nh rh tl rl I L)) rfl ?_
        cases hf
        exact bs_ret rfl
      · refine bs_st 2 (x' := (23, [some (.ref 0), some (.int x1), some (.int x2), some (.int x3), none, none], [.int (20 : Int32), .int x2], hp kp nh rh tl rl I L)) rfl ?_
        refine bs_br (t := 29) (e := 26) (lo := [some (.ref 0), some (.int x1), some (.int x2), some (.int x3), none, none]) (st := []) (h := hp kp nh rh tl rl I L) rfl hf (fun hc hf => ?_) (fun hc hf => ?_)
        · refine bs_st 4 (x' := (35, [some (.ref 0), some (.int x1), some (.int x2), some (.int x3), some (.int (0 : Int32)), some (.int (0 : Int32))], [], hp kp nh rh tl rl I L)) rfl ?_
          exact tc_169_0 Ls xs d kp tl rl nh rh n x1 x2 x3 (0 : Int32) (0 : Int32) I L r hf
        · refine bs_st 1 (x' := (28, [some (.ref 0), some (.int x1), some (.int x2), some (.int x3), none, none], [.int (-2 : Int32)], hp kp nh rh tl rl I L)) rfl ?_
          cases hf
          exact bs_ret rfl
/-- LampRounds.rate(II) on (0,) -/
def f_170 (x1 : Int32) (x2 : Int32) (I : FI) (L : FL) : Option (Int32 × FI × FL) :=
  (f_178 x1 I L).bind fun q0 =>
  if q0 = 0 then
    some ((-2 : Int32), I, L)
  else
    if x2 < 0 then
      some ((-2 : Int32), I, L)
    else
      if x2 ≤ (99 : Int32) then
        if I 11 2 ≤ 0 then
          if pin x1 4 = true then (if pin x1 4 = true then some (I 5 x1.toNatClampNeg, (u2 I 5 x1.toNatClampNeg x2), L) else none) else none
        else
          some ((-5 : Int32), I, L)
      else
        some ((-2 : Int32), I, L)
set_option maxHeartbeats 1000000 in
set_option maxRecDepth 20000 in
theorem t_170 (Ls : Nat) (xs : Nat → Int32) (d : Nat) (kp : Option Nat) (tl : List (Nat × Nat)) (rl : List (List (Option Nat))) (nh : Option Nat) (rh : Option Nat) (x1 : Int32) (x2 : Int32) (I : FI) (L : FL) (r : Int32 × FI × FL) (hf : f_170 x1 x2 I L = some r) : pEN Ls xs (d + 2) 170 [.ref 0, .int x1, .int x2] (hp kp nh rh tl rl I L) = some (some (.int r.1), hp kp nh rh tl rl r.2.1 r.2.2) := by
  refine en_run (d := d + 1) (cd := cd_170) (f := (sf 11 rs_11 false 4 (some (.int)) Ls xs (d + 1))) rfl rfl (x := (0, [some (.ref 0), some (.int x1), some (.int x2), none], [], hp kp nh rh tl rl I L)) rfl rfl (Nat.le_of_ble_eq_true rfl) ?_
  unfold f_170 at hf
  refine bs_st 2 (x' := (2, [some (.ref 0), some (.int x1), some (.int x2), none], [.int x1, .ref 0], hp kp nh rh tl rl I L)) rfl ?_
  obtain ⟨q0, hq0, hf⟩ := Option.bind_eq_some_iff.mp hf
  refine bs_call (o := pEN Ls xs (d + 1) 178 [.ref 0, .int x1] (hp kp nh rh tl rl I L)) (w := some (.int q0)) (h' := hp kp nh rh tl rl I L) (pc := 5) (lo := [some (.ref 0), some (.int x1), some (.int x2), none]) (rest := []) rfl (t_178 Ls xs (d + 0) kp tl rl nh rh x1 I L q0 hq0) ?_
  refine bs_br (t := 18) (e := 8) (lo := [some (.ref 0), some (.int x1), some (.int x2), none]) (st := []) (h := hp kp nh rh tl rl I L) rfl hf (fun hc hf => ?_) (fun hc hf => ?_)
  · refine bs_st 1 (x' := (20, [some (.ref 0), some (.int x1), some (.int x2), none], [.int (-2 : Int32)], hp kp nh rh tl rl I L)) rfl ?_
    cases hf
    exact bs_ret rfl
  · refine bs_st 1 (x' := (9, [some (.ref 0), some (.int x1), some (.int x2), none], [.int x2], hp kp nh rh tl rl I L)) rfl ?_
    refine bs_br (t := 18) (e := 12) (lo := [some (.ref 0), some (.int x1), some (.int x2), none]) (st := []) (h := hp kp nh rh tl rl I L) rfl hf (fun hc hf => ?_) (fun hc hf => ?_)
    · refine bs_st 1 (x' := (20, [some (.ref 0), some (.int x1), some (.int x2), none], [.int (-2 : Int32)], hp kp nh rh tl rl I L)) rfl ?_
      cases hf
      exact bs_ret rfl
    · refine bs_st 2 (x' := (15, [some (.ref 0), some (.int x1), some (.int x2), none], [.int (99 : Int32), .int x2], hp kp nh rh tl rl I L)) rfl ?_
      refine bs_br (t := 21) (e := 18) (lo := [some (.ref 0), some (.int x1), some (.int x2), none]) (st := []) (h := hp kp nh rh tl rl I L) rfl hf (fun hc hf => ?_) (fun hc hf => ?_)
      · refine bs_st 3 (x' := (28, [some (.ref 0), some (.int x1), some (.int x2), none], [.int (I 11 2)], hp kp nh rh tl rl I L)) rfl ?_
        refine bs_br (t := 34) (e := 31) (lo := [some (.ref 0), some (.int x1), some (.int x2), none]) (st := []) (h := hp kp nh rh tl rl I L) rfl hf (fun hc hf => ?_) (fun hc hf => ?_)
        · refine bs_st 4 (x' := (42, [some (.ref 0), some (.int x1), some (.int x2), none], [.int x1, .ref 5], hp kp nh rh tl rl I L)) rfl ?_
          refine bs_gd (x' := (43, [some (.ref 0), some (.int x1), some (.int x2), none], [.int (I 5 x1.toNatClampNeg)], hp kp nh rh tl rl I L)) rfl hf (fun hc hf => ?_)
          refine bs_st 6 (x' := (53, [some (.ref 0), some (.int x1), some (.int x2), some (.int (I 5 x1.toNatClampNeg))], [.int x2, .int x1, .ref 5], hp kp nh rh tl rl I L)) rfl ?_
          refine bs_gd (x' := (54, [some (.ref 0), some (.int x1), some (.int x2), some (.int (I 5 x1.toNatClampNeg))], [], hp kp nh rh tl rl (u2 I 5 x1.toNatClampNeg x2) L)) rfl hf (fun hc hf => ?_)
          refine bs_st 1 (x' := (55, [some (.ref 0), some (.int x1), some (.int x2), some (.int (I 5 x1.toNatClampNeg))], [.int (I 5 x1.toNatClampNeg)], hp kp nh rh tl rl (u2 I 5 x1.toNatClampNeg x2) L)) rfl ?_
          cases hf
          exact bs_ret rfl
        · refine bs_st 1 (x' := (33, [some (.ref 0), some (.int x1), some (.int x2), none], [.int (-5 : Int32)], hp kp nh rh tl rl I L)) rfl ?_
          cases hf
          exact bs_ret rfl
      · refine bs_st 1 (x' := (20, [some (.ref 0), some (.int x1), some (.int x2), none], [.int (-2 : Int32)], hp kp nh rh tl rl I L)) rfl ?_
        cases hf
        exact bs_ret rfl
/-- LampRounds.rowsKept() on (0,) -/
def c_185_1 (n : Nat) (I : FI) (L : FL) (K0 : Int32 → Int32 → Option (Int32)) (x1 : Int32) (x2 : Int32) : Option (Int32) :=
  K0 x1 (x2 + (1 : Int32))
set_option maxHeartbeats 1000000 in
set_option maxRecDepth 20000 in
theorem tc_185_1 (Ls : Nat) (xs : Nat → Int32) (d : Nat) (kp : Option Nat) (tl : List (Nat × Nat)) (rl : List (List (Option Nat))) (nh : Option Nat) (rh : Option Nat) (n : Nat) (I : FI) (L : FL) (K0 : Int32 → Int32 → Option (Int32)) (hK0 : ∀ (x1 : Int32) (x2 : Int32) (r : Int32), K0 x1 x2 = some r → Bs cd_185 (sf 11 rs_11 false 3 (some (.int)) Ls xs (d + 0)) (4, [some (.ref 0), some (.int x1), some (.int x2)], [], hp kp nh rh tl rl I L) (some (.int r), hp kp nh rh tl rl I L)) (x1 : Int32) (x2 : Int32) (r : Int32) (hf : c_185_1 n I L K0 x1 x2 = some r) : Bs cd_185 (sf 11 rs_11 false 3 (some (.int)) Ls xs (d + 0)) (24, [some (.ref 0), some (.int x1), some (.int x2)], [], hp kp nh rh tl rl I L) (some (.int r), hp kp nh rh tl rl I L) := by
  unfold c_185_1 at hf
  refine bs_st 2 (x' := (4, [some (.ref 0), some (.int x1), some (.int (x2 + (1 : Int32)))], [], hp kp nh rh tl rl I L)) rfl ?_
  exact hK0 x1 (x2 + (1 : Int32)) r hf
def b_185_0 (n : Nat) (I : FI) (L : FL) (K0 : Int32 → Int32 → Option (Int32)) (x1 : Int32) (x2 : Int32) : Option (Int32) :=
  if (4 : Int32) ≤ x2 then
    some (x1)
  else
    if x2 = 0 then (if I 81 3 = 0 then
        c_185_1 n I L K0 x1 (0 : Int32)
      else
        c_185_1 n I L K0 (x1 + (1 : Int32)) (0 : Int32)) else if x2 = 1 then (if I 83 3 = 0 then
        c_185_1 n I L K0 x1 (1 : Int32)
      else
        c_185_1 n I L K0 (x1 + (1 : Int32)) (1 : Int32)) else if x2 = 2 then (if I 85 3 = 0 then
        c_185_1 n I L K0 x1 (2 : Int32)
      else
        c_185_1 n I L K0 (x1 + (1 : Int32)) (2 : Int32)) else if x2 = 3 then (if I 87 3 = 0 then
        c_185_1 n I L K0 x1 (3 : Int32)
      else
        c_185_1 n I L K0 (x1 + (1 : Int32)) (3 : Int32)) else none
def c_185_0 (n : Nat) (I : FI) (L : FL) : Nat → Int32 → Int32 → Option (Int32)
  | 0, _, _ => none
  | m + 1, x1, x2 => b_185_0 n I L (c_185_0 n I L m) x1 x2
set_option maxHeartbeats 1000000 in
set_option maxRecDepth 20000 in
theorem tc_185_0 (Ls : Nat) (xs : Nat → Int32) (d : Nat) (kp : Option Nat) (tl : List (Nat × Nat)) (rl : List (List (Option Nat))) (nh : Option Nat) (rh : Option Nat) (n : Nat) (I : FI) (L : FL) : ∀ (m : Nat) (x1 : Int32) (x2 : Int32) (r : Int32), c_185_0 n I L m x1 x2 = some r → Bs cd_185 (sf 11 rs_11 false 3 (some (.int)) Ls xs (d + 0)) (4, [some (.ref 0), some (.int x1), some (.int x2)], [], hp kp nh rh tl rl I L) (some (.int r), hp kp nh rh tl rl I L)
  | 0, x1, x2, r, hf => by cases hf
  | m + 1, x1, x2, r, hf => by
    unfold c_185_0 b_185_0 at hf
    have hK0 := tc_185_0 Ls xs d kp tl rl nh rh n I L m
    refine bs_st 2 (x' := (6, [some (.ref 0), some (.int x1), some (.int x2)], [.int (4 : Int32), .int x2], hp kp nh rh tl rl I L)) rfl ?_
    refine bs_br (t := 30) (e := 9) (lo := [some (.ref 0), some (.int x1), some (.int x2)]) (st := []) (h := hp kp nh rh tl rl I L) rfl hf (fun hc hf => ?_) (fun hc hf => ?_)
    · refine bs_st 1 (x' := (31, [some (.ref 0), some (.int x1), some (.int x2)], [.int x1], hp kp nh rh tl rl I L)) rfl ?_
      cases hf
      exact bs_ret rfl
    · refine bs_st 3 (x' := (14, [some (.ref 0), some (.int x1), some (.int x2)], [.int x2, .ref 44], hp kp nh rh tl rl I L)) rfl ?_
      refine bs_cs hf (fun hc hf1_0 => ?_) (fun hc hf1_0 => ?_)
      · subst hc
        refine bs_st 2 (x' := (18, [some (.ref 0), some (.int x1), some (.int (0 : Int32))], [.int (I 81 3)], hp kp nh rh tl rl I L)) rfl ?_
        refine bs_br (t := 24) (e := 21) (lo := [some (.ref 0), some (.int x1), some (.int (0 : Int32))]) (st := []) (h := hp kp nh rh tl rl I L) rfl hf1_0 (fun hc hf1_0 => ?_) (fun hc hf1_0 => ?_)
        · exact tc_185_1 Ls xs d kp tl rl nh rh n I L _ hK0 x1 (0 : Int32) r hf1_0
        · refine bs_st 1 (x' := (24, [some (.ref 0), some (.int (x1 + (1 : Int32))), some (.int (0 : Int32))], [], hp kp nh rh tl rl I L)) rfl ?_
          exact tc_185_1 Ls xs d kp tl rl nh rh n I L _ hK0 (x1 + (1 : Int32)) (0 : Int32) r hf1_0
      refine bs_cs hf1_0 (fun hc hf1_1 => ?_) (fun hc hf1_1 => ?_)
      · subst hc
        refine bs_st 2 (x' := (18, [some (.ref 0), some (.int x1), some (.int (1 : Int32))], [.int (I 83 3)], hp kp nh rh tl rl I L)) rfl ?_
        refine bs_br (t := 24) (e := 21) (lo := [some (.ref 0), some (.int x1), some (.int (1 : Int32))]) (st := []) (h := hp kp nh rh tl rl I L) rfl hf1_1 (fun hc hf1_1 => ?_) (fun hc hf1_1 => ?_)
        · exact tc_185_1 Ls xs d kp tl rl nh rh n I L _ hK0 x1 (1 : Int32) r hf1_1
        · refine bs_st 1 (x' := (24, [some (.ref 0), some (.int (x1 + (1 : Int32))), some (.int (1 : Int32))], [], hp kp nh rh tl rl I L)) rfl ?_
          exact tc_185_1 Ls xs d kp tl rl nh rh n I L _ hK0 (x1 + (1 : Int32)) (1 : Int32) r hf1_1
      refine bs_cs hf1_1 (fun hc hf1_2 => ?_) (fun hc hf1_2 => ?_)
      · subst hc
        refine bs_st 2 (x' := (18, [some (.ref 0), some (.int x1), some (.int (2 : Int32))], [.int (I 85 3)], hp kp nh rh tl rl I L)) rfl ?_
        refine bs_br (t := 24) (e := 21) (lo := [some (.ref 0), some (.int x1), some (.int (2 : Int32))]) (st := []) (h := hp kp nh rh tl rl I L) rfl hf1_2 (fun hc hf1_2 => ?_) (fun hc hf1_2 => ?_)
        · exact tc_185_1 Ls xs d kp tl rl nh rh n I L _ hK0 x1 (2 : Int32) r hf1_2
        · refine bs_st 1 (x' := (24, [some (.ref 0), some (.int (x1 + (1 : Int32))), some (.int (2 : Int32))], [], hp kp nh rh tl rl I L)) rfl ?_
          exact tc_185_1 Ls xs d kp tl rl nh rh n I L _ hK0 (x1 + (1 : Int32)) (2 : Int32) r hf1_2
      refine bs_cs hf1_2 (fun hc hf1_3 => ?_) (fun hc hf1_3 => ?_)
      · subst hc
        refine bs_st 2 (x' := (18, [some (.ref 0), some (.int x1), some (.int (3 : Int32))], [.int (I 87 3)], hp kp nh rh tl rl I L)) rfl ?_
        refine bs_br (t := 24) (e := 21) (lo := [some (.ref 0), some (.int x1), some (.int (3 : Int32))]) (st := []) (h := hp kp nh rh tl rl I L) rfl hf1_3 (fun hc hf1_3 => ?_) (fun hc hf1_3 => ?_)
        · exact tc_185_1 Ls xs d kp tl rl nh rh n I L _ hK0 x1 (3 : Int32) r hf1_3
        · refine bs_st 1 (x' := (24, [some (.ref 0), some (.int (x1 + (1 : Int32))), some (.int (3 : Int32))], [], hp kp nh rh tl rl I L)) rfl ?_
          exact tc_185_1 Ls xs d kp tl rl nh rh n I L _ hK0 (x1 + (1 : Int32)) (3 : Int32) r hf1_3
      cases hf1_3
def f_185 (n : Nat) (I : FI) (L : FL) : Option (Int32) :=
  c_185_0 n I L n (0 : Int32) (0 : Int32)
set_option maxHeartbeats 1000000 in
set_option maxRecDepth 20000 in
theorem t_185 (Ls : Nat) (xs : Nat → Int32) (d : Nat) (kp : Option Nat) (tl : List (Nat × Nat)) (rl : List (List (Option Nat))) (nh : Option Nat) (rh : Option Nat) (n : Nat) (I : FI) (L : FL) (r : Int32) (hf : f_185 n I L = some r) : pEN Ls xs (d + 1) 185 [.ref 0] (hp kp nh rh tl rl I L) = some (some (.int r), hp kp nh rh tl rl I L) := by
  refine en_run (d := d + 0) (cd := cd_185) (f := (sf 11 rs_11 false 3 (some (.int)) Ls xs (d + 0))) rfl rfl (x := (0, [some (.ref 0), none, none], [], hp kp nh rh tl rl I L)) rfl rfl (Nat.le_of_ble_eq_true rfl) ?_
  unfold f_185 at hf
  refine bs_st 4 (x' := (4, [some (.ref 0), some (.int (0 : Int32)), some (.int (0 : Int32))], [], hp kp nh rh tl rl I L)) rfl ?_
  exact tc_185_0 Ls xs d kp tl rl nh rh n I L n (0 : Int32) (0 : Int32) r hf
/-- LampRounds.count(I) on (0,) -/
def f_171 (n : Nat) (x1 : Int32) (I : FI) (L : FL) : Option (Int32) :=
  if x1.toInt < 0 ∨ 10 < x1.toInt then some ((-1 : Int32)) else if x1 = (0 : Int32) then some (I 3 1) else if x1 = (1 : Int32) then some (I 3 2) else if x1 = (2 : Int32) then some (I 3 3) else if x1 = (3 : Int32) then some (I 3 4) else if x1 = (4 : Int32) then some (I 3 5) else if x1 = (5 : Int32) then some (I 3 6) else if x1 = (6 : Int32) then some (I 3 7) else if x1 = (7 : Int32) then some (I 11 2) else if x1 = (8 : Int32) then some (I 3 0) else if x1 = (9 : Int32) then some (I 1 1) else if x1 = (10 : Int32) then ((f_185 n I L).bind fun q0 =>
    some (q0)) else none
set_option maxHeartbeats 1000000 in
set_option maxRecDepth 20000 in
theorem t_171 (Ls : Nat) (xs : Nat → Int32) (d : Nat) (kp : Option Nat) (tl : List (Nat × Nat)) (rl : List (List (Option Nat))) (nh : Option Nat) (rh : Option Nat) (n : Nat) (x1 : Int32) (I : FI) (L : FL) (r : Int32) (hf : f_171 n x1 I L = some r) : pEN Ls xs (d + 2) 171 [.ref 0, .int x1] (hp kp nh rh tl rl I L) = some (some (.int r), hp kp nh rh tl rl I L) := by
  refine en_run (d := d + 1) (cd := cd_171) (f := (sf 11 rs_11 false 2 (some (.int)) Ls xs (d + 1))) rfl rfl (x := (0, [some (.ref 0), some (.int x1)], [], hp kp nh rh tl rl I L)) rfl rfl (Nat.le_of_ble_eq_true rfl) ?_
  unfold f_171 at hf
  refine bs_st 1 (x' := (1, [some (.ref 0), some (.int x1)], [.int x1], hp kp nh rh tl rl I L)) rfl ?_
  refine bs_sw (x' := (145, [some (.ref 0), some (.int x1)], [], hp kp nh rh tl rl I L)) rfl hf (fun hc hf => ?_) (fun hc hf => ?_)
  · refine bs_st 1 (x' := (146, [some (.ref 0), some (.int x1)], [.int (-1 : Int32)], hp kp nh rh tl rl I L)) rfl ?_
    cases hf
    exact bs_ret rfl
  refine bs_cs hf (fun hc hf => ?_) (fun hc0 hf => ?_)
  · refine bs_val hc (x' := (60, [some (.ref 0), some (.int x1)], [], hp kp nh rh tl rl I L)) rfl ?_
    refine bs_st 3 (x' := (67, [some (.ref 0), some (.int x1)], [.int (I 3 1)], hp kp nh rh tl rl I L)) rfl ?_
    cases hf
    exact bs_ret rfl
  refine bs_cs hf (fun hc hf => ?_) (fun hc1 hf => ?_)
  · refine bs_val hc (x' := (68, [some (.ref 0), some (.int x1)], [], hp kp nh rh tl rl I L)) rfl ?_
    refine bs_st 3 (x' := (75, [some (.ref 0), some (.int x1)], [.int (I 3 2)], hp kp nh rh tl rl I L)) rfl ?_
    cases hf
    exact bs_ret rfl
  refine bs_cs hf (fun hc hf => ?_) (fun hc2 hf => ?_)
  · refine bs_val hc (x' := (76, [some (.ref 0), some (.int x1)], [], hp kp nh rh tl rl I L)) rfl ?_
    refine bs_st 3 (x' := (83, [some (.ref 0), some (.int x1)], [.int (I 3 3)], hp kp nh rh tl rl I L)) rfl ?_
    cases hf
    exact bs_ret rfl
  refine bs_cs hf (fun hc hf => ?_) (fun hc3 hf => ?_)
  · refine bs_val hc (x' := (84, [some (.ref 0), some (.int x1)], [], hp kp nh rh tl rl I L)) rfl ?_
    refine bs_st 3 (x' := (91, [some (.ref 0), some (.int x1)], [.int (I 3 4)], hp kp nh rh tl rl I L)) rfl ?_
    cases hf
    exact bs_ret rfl
  refine bs_cs hf (fun hc hf => ?_) (fun hc4 hf => ?_)
  · refine bs_val hc (x' := (92, [some (.ref 0), some (.int x1)], [], hp kp nh rh tl rl I L)) rfl ?_
    refine bs_st 3 (x' := (99, [some (.ref 0), some (.int x1)], [.int (I 3 5)], hp kp nh rh tl rl I L)) rfl ?_
    cases hf
    exact bs_ret rfl
  refine bs_cs hf (fun hc hf => ?_) (fun hc5 hf => ?_)
  · refine bs_val hc (x' := (100, [some (.ref 0), some (.int x1)], [], hp kp nh rh tl rl I L)) rfl ?_
    refine bs_st 3 (x' := (107, [some (.ref 0), some (.int x1)], [.int (I 3 6)], hp kp nh rh tl rl I L)) rfl ?_
    cases hf
    exact bs_ret rfl
  refine bs_cs hf (fun hc hf => ?_) (fun hc6 hf => ?_)
  · refine bs_val hc (x' := (108, [some (.ref 0), some (.int x1)], [], hp kp nh rh tl rl I L)) rfl ?_
    refine bs_st 3 (x' := (115, [some (.ref 0), some (.int x1)], [.int (I 3 7)], hp kp nh rh tl rl I L)) rfl ?_
    cases hf
    exact bs_ret rfl
  refine bs_cs hf (fun hc hf => ?_) (fun hc7 hf => ?_)
  · refine bs_val hc (x' := (116, [some (.ref 0), some (.int x1)], [], hp kp nh rh tl rl I L)) rfl ?_
    refine bs_st 3 (x' := (123, [some (.ref 0), some (.int x1)], [.int (I 11 2)], hp kp nh rh tl rl I L)) rfl ?_
    cases hf
    exact bs_ret rfl
  refine bs_cs hf (fun hc hf => ?_) (fun hc8 hf => ?_)
  · refine bs_val hc (x' := (124, [some (.ref 0), some (.int x1)], [], hp kp nh rh tl rl I L)) rfl ?_
    refine bs_st 3 (x' := (131, [some (.ref 0), some (.int x1)], [.int (I 3 0)], hp kp nh rh tl rl I L)) rfl ?_
    cases hf
    exact bs_ret rfl
  refine bs_cs hf (fun hc hf => ?_) (fun hc9 hf => ?_)
  · refine bs_val hc (x' := (132, [some (.ref 0), some (.int x1)], [], hp kp nh rh tl rl I L)) rfl ?_
    refine bs_st 3 (x' := (139, [some (.ref 0), some (.int x1)], [.int (I 1 1)], hp kp nh rh tl rl I L)) rfl ?_
    cases hf
    exact bs_ret rfl
  refine bs_cs hf (fun hc hf => ?_) (fun hc10 hf => ?_)
  · refine bs_val hc (x' := (140, [some (.ref 0), some (.int x1)], [], hp kp nh rh tl rl I L)) rfl ?_
    refine bs_st 1 (x' := (141, [some (.ref 0), some (.int x1)], [.ref 0], hp kp nh rh tl rl I L)) rfl ?_
    obtain ⟨q0, hq0, hf⟩ := Option.bind_eq_some_iff.mp hf
    refine bs_call (o := pEN Ls xs (d + 1) 185 [.ref 0] (hp kp nh rh tl rl I L)) (w := some (.int q0)) (h' := hp kp nh rh tl rl I L) (pc := 144) (lo := [some (.ref 0), some (.int x1)]) (rest := []) rfl (t_185 Ls xs (d + 0) kp tl rl nh rh n I L q0 hq0) ?_
    cases hf
    exact bs_ret rfl
  cases hf
/-- House.copyFrom(LLampRounds$House;) on (46, 3) -/
def f_17_1 (I : FI) (L : FL) : Option (FI × FL) :=
  some ((c2 (c2 (c2 (c2 (c2 (c2 (c2 (u2 (u2 (u2 (u2 (u2 (u2 (u2 (u2 I 46 0 (I 3 0)) 46 1 (I 3 1)) 46 2 (I 3 2)) 46 3 (I 3 3)) 46 4 (I 3 4)) 46 5 (I 3 5)) 46 6 (I 3 6)) 46 7 (I 3 7)) 4 47 0 0 4) 5 48 0 0 4) 6 49 0 0 4) 7 50 0 0 16) 8 51 0 0 5) 9 52 0 0 5) 10 53 0 0 12), L)
set_option maxHeartbeats 1000000 in
set_option maxRecDepth 20000 in
theorem t_17_1 (Ls : Nat) (xs : Nat → Int32) (d : Nat) (kp : Option Nat) (tl : List (Nat × Nat)) (rl : List (List (Option Nat))) (nh : Option Nat) (rh : Option Nat) (I : FI) (L : FL) (r : FI × FL) (hf : f_17_1 I L = some r) : pEN Ls xs (d + 1) 17 [.ref 46, .ref 3] (hp kp nh rh tl rl I L) = some (none, hp kp nh rh tl rl r.1 r.2) := by
  refine en_run (d := d + 0) (cd := cd_17) (f := (sf 3 rs_3 false 2 none Ls xs (d + 0))) rfl rfl (x := (0, [some (.ref 46), some (.ref 3)], [], hp kp nh rh tl rl I L)) rfl rfl (Nat.le_of_ble_eq_true rfl) ?_
  unfold f_17_1 at hf
  refine bs_st 24 (x' := (48, [some (.ref 46), some (.ref 3)], [], hp kp nh rh tl rl (u2 (u2 (u2 (u2 (u2 (u2 I 46 0 (I 3 0)) 46 1 (I 3 1)) 46 2 (I 3 2)) 46 3 (I 3 3)) 46 4 (I 3 4)) 46 5 (I 3 5)) L)) rfl ?_
  refine bs_st 24 (x' := (92, [some (.ref 46), some (.ref 3)], [], hp kp nh rh tl rl (c2 (c2 (u2 (u2 (u2 (u2 (u2 (u2 (u2 (u2 I 46 0 (I 3 0)) 46 1 (I 3 1)) 46 2 (I 3 2)) 46 3 (I 3 3)) 46 4 (I 3 4)) 46 5 (I 3 5)) 46 6 (I 3 6)) 46 7 (I 3 7)) 4 47 0 0 4) 5 48 0 0 4) L)) rfl ?_
  refine bs_st 24 (x' := (135, [some (.ref 46), some (.ref 3)], [], hp kp nh rh tl rl (c2 (c2 (c2 (c2 (c2 (u2 (u2 (u2 (u2 (u2 (u2 (u2 (u2 I 46 0 (I 3 0)) 46 1 (I 3 1)) 46 2 (I 3 2)) 46 3 (I 3 3)) 46 4 (I 3 4)) 46 5 (I 3 5)) 46 6 (I 3 6)) 46 7 (I 3 7)) 4 47 0 0 4) 5 48 0 0 4) 6 49 0 0 4) 7 50 0 0 16) 8 51 0 0 5) L)) rfl ?_
  refine bs_st 16 (x' := (164, [some (.ref 46), some (.ref 3)], [], hp kp nh rh tl rl (c2 (c2 (c2 (c2 (c2 (c2 (c2 (u2 (u2 (u2 (u2 (u2 (u2 (u2 (u2 I 46 0 (I 3 0)) 46 1 (I 3 1)) 46 2 (I 3 2)) 46 3 (I 3 3)) 46 4 (I 3 4)) 46 5 (I 3 5)) 46 6 (I 3 6)) 46 7 (I 3 7)) 4 47 0 0 4) 5 48 0 0 4) 6 49 0 0 4) 7 50 0 0 16) 8 51 0 0 5) 9 52 0 0 5) 10 53 0 0 12) L)) rfl ?_
  cases hf
  exact bs_ret rfl
/-- Acts.copyFrom(LLampRounds$Acts;) on (54, 11) -/
def f_2 (I : FI) (L : FL) : Option (FI × FL) :=
  some ((c2 (c2 (u2 I 54 2 (I 11 2)) 12 55 0 0 30) 13 56 0 0 30), L)
set_option maxHeartbeats 1000000 in
set_option maxRecDepth 20000 in
theorem t_2 (Ls : Nat) (xs : Nat → Int32) (d : Nat) (kp : Option Nat) (tl : List (Nat × Nat)) (rl : List (List (Option Nat))) (nh : Option Nat) (rh : Option Nat) (I : FI) (L : FL) (r : FI × FL) (hf : f_2 I L = some r) : pEN Ls xs (d + 1) 2 [.ref 54, .ref 11] (hp kp nh rh tl rl I L) = some (none, hp kp nh rh tl rl r.1 r.2) := by
  refine en_run (d := d + 0) (cd := cd_2) (f := (sf 0 rs_0 false 2 none Ls xs (d + 0))) rfl rfl (x := (0, [some (.ref 54), some (.ref 11)], [], hp kp nh rh tl rl I L)) rfl rfl (Nat.le_of_ble_eq_true rfl) ?_
  unfold f_2 at hf
  refine bs_st 20 (x' := (38, [some (.ref 54), some (.ref 11)], [], hp kp nh rh tl rl (c2 (c2 (u2 I 54 2 (I 11 2)) 12 55 0 0 30) 13 56 0 0 30) L)) rfl ?_
  cases hf
  exact bs_ret rfl
/-- House.copyFrom(LLampRounds$House;) on (58, 3) -/
def f_17_2 (I : FI) (L : FL) : Option (FI × FL) :=
  some ((c2 (c2 (c2 (c2 (c2 (c2 (c2 (u2 (u2 (u2 (u2 (u2 (u2 (u2 (u2 I 58 0 (I 3 0)) 58 1 (I 3 1)) 58 2 (I 3 2)) 58 3 (I 3 3)) 58 4 (I 3 4)) 58 5 (I 3 5)) 58 6 (I 3 6)) 58 7 (I 3 7)) 4 59 0 0 4) 5 60 0 0 4) 6 61 0 0 4) 7 62 0 0 16) 8 63 0 0 5) 9 64 0 0 5) 10 65 0 0 12), L)
set_option maxHeartbeats 1000000 in
set_option maxRecDepth 20000 in
theorem t_17_2 (Ls : Nat) (xs : Nat → Int32) (d : Nat) (kp : Option Nat) (tl : List (Nat × Nat)) (rl : List (List (Option Nat))) (nh : Option Nat) (rh : Option Nat) (I : FI) (L : FL) (r : FI × FL) (hf : f_17_2 I L = some r) : pEN Ls xs (d + 1) 17 [.ref 58, .ref 3] (hp kp nh rh tl rl I L) = some (none, hp kp nh rh tl rl r.1 r.2) := by
  refine en_run (d := d + 0) (cd := cd_17) (f := (sf 3 rs_3 false 2 none Ls xs (d + 0))) rfl rfl (x := (0, [some (.ref 58), some (.ref 3)], [], hp kp nh rh tl rl I L)) rfl rfl (Nat.le_of_ble_eq_true rfl) ?_
  unfold f_17_2 at hf
  refine bs_st 24 (x' := (48, [some (.ref 58), some (.ref 3)], [], hp kp nh rh tl rl (u2 (u2 (u2 (u2 (u2 (u2 I 58 0 (I 3 0)) 58 1 (I 3 1)) 58 2 (I 3 2)) 58 3 (I 3 3)) 58 4 (I 3 4)) 58 5 (I 3 5)) L)) rfl ?_
  refine bs_st 24 (x' := (92, [some (.ref 58), some (.ref 3)], [], hp kp nh rh tl rl (c2 (c2 (u2 (u2 (u2 (u2 (u2 (u2 (u2 (u2 I 58 0 (I 3 0)) 58 1 (I 3 1)) 58 2 (I 3 2)) 58 3 (I 3 3)) 58 4 (I 3 4)) 58 5 (I 3 5)) 58 6 (I 3 6)) 58 7 (I 3 7)) 4 59 0 0 4) 5 60 0 0 4) L)) rfl ?_
  refine bs_st 24 (x' := (135, [some (.ref 58), some (.ref 3)], [], hp kp nh rh tl rl (c2 (c2 (c2 (c2 (c2 (u2 (u2 (u2 (u2 (u2 (u2 (u2 (u2 I 58 0 (I 3 0)) 58 1 (I 3 1)) 58 2 (I 3 2)) 58 3 (I 3 3)) 58 4 (I 3 4)) 58 5 (I 3 5)) 58 6 (I 3 6)) 58 7 (I 3 7)) 4 59 0 0 4) 5 60 0 0 4) 6 61 0 0 4) 7 62 0 0 16) 8 63 0 0 5) L)) rfl ?_
  refine bs_st 16 (x' := (164, [some (.ref 58), some (.ref 3)], [], hp kp nh rh tl rl (c2 (c2 (c2 (c2 (c2 (c2 (c2 (u2 (u2 (u2 (u2 (u2 (u2 (u2 (u2 I 58 0 (I 3 0)) 58 1 (I 3 1)) 58 2 (I 3 2)) 58 3 (I 3 3)) 58 4 (I 3 4)) 58 5 (I 3 5)) 58 6 (I 3 6)) 58 7 (I 3 7)) 4 59 0 0 4) 5 60 0 0 4) 6 61 0 0 4) 7 62 0 0 16) 8 63 0 0 5) 9 64 0 0 5) 10 65 0 0 12) L)) rfl ?_
  cases hf
  exact bs_ret rfl
/-- Acts.copyFrom(LLampRounds$Acts;) on (66, 11) -/
def f_2_1 (I : FI) (L : FL) : Option (FI × FL) :=
  some ((c2 (c2 (u2 I 66 2 (I 11 2)) 12 67 0 0 30) 13 68 0 0 30), L)
set_option maxHeartbeats 1000000 in
set_option maxRecDepth 20000 in
theorem t_2_1 (Ls : Nat) (xs : Nat → Int32) (d : Nat) (kp : Option Nat) (tl : List (Nat × Nat)) (rl : List (List (Option Nat))) (nh : Option Nat) (rh : Option Nat) (I : FI) (L : FL) (r : FI × FL) (hf : f_2_1 I L = some r) : pEN Ls xs (d + 1) 2 [.ref 66, .ref 11] (hp kp nh rh tl rl I L) = some (none, hp kp nh rh tl rl r.1 r.2) := by
  refine en_run (d := d + 0) (cd := cd_2) (f := (sf 0 rs_0 false 2 none Ls xs (d + 0))) rfl rfl (x := (0, [some (.ref 66), some (.ref 11)], [], hp kp nh rh tl rl I L)) rfl rfl (Nat.le_of_ble_eq_true rfl) ?_
  unfold f_2_1 at hf
  refine bs_st 20 (x' := (38, [some (.ref 66), some (.ref 11)], [], hp kp nh rh tl rl (c2 (c2 (u2 I 66 2 (I 11 2)) 12 67 0 0 30) 13 68 0 0 30) L)) rfl ?_
  cases hf
  exact bs_ret rfl
/-- House.copyFrom(LLampRounds$House;) on (70, 3) -/
def f_17_3 (I : FI) (L : FL) : Option (FI × FL) :=
  some ((c2 (c2 (c2 (c2 (c2 (c2 (c2 (u2 (u2 (u2 (u2 (u2 (u2 (u2 (u2 I 70 0 (I 3 0)) 70 1 (I 3 1)) 70 2 (I 3 2)) 70 3 (I 3 3)) 70 4 (I 3 4)) 70 5 (I 3 5)) 70 6 (I 3 6)) 70 7 (I 3 7)) 4 71 0 0 4) 5 72 0 0 4) 6 73 0 0 4) 7 74 0 0 16) 8 75 0 0 5) 9 76 0 0 5) 10 77 0 0 12), L)
set_option maxHeartbeats 1000000 in
set_option maxRecDepth 20000 in
theorem t_17_3 (Ls : Nat) (xs : Nat → Int32) (d : Nat) (kp : Option Nat) (tl : List (Nat × Nat)) (rl : List (List (Option Nat))) (nh : Option Nat) (rh : Option Nat) (I : FI) (L : FL) (r : FI × FL) (hf : f_17_3 I L = some r) : pEN Ls xs (d + 1) 17 [.ref 70, .ref 3] (hp kp nh rh tl rl I L) = some (none, hp kp nh rh tl rl r.1 r.2) := by
  refine en_run (d := d + 0) (cd := cd_17) (f := (sf 3 rs_3 false 2 none Ls xs (d + 0))) rfl rfl (x := (0, [some (.ref 70), some (.ref 3)], [], hp kp nh rh tl rl I L)) rfl rfl (Nat.le_of_ble_eq_true rfl) ?_
  unfold f_17_3 at hf
  refine bs_st 24 (x' := (48, [some (.ref 70), some (.ref 3)], [], hp kp nh rh tl rl (u2 (u2 (u2 (u2 (u2 (u2 I 70 0 (I 3 0)) 70 1 (I 3 1)) 70 2 (I 3 2)) 70 3 (I 3 3)) 70 4 (I 3 4)) 70 5 (I 3 5)) L)) rfl ?_
  refine bs_st 24 (x' := (92, [some (.ref 70), some (.ref 3)], [], hp kp nh rh tl rl (c2 (c2 (u2 (u2 (u2 (u2 (u2 (u2 (u2 (u2 I 70 0 (I 3 0)) 70 1 (I 3 1)) 70 2 (I 3 2)) 70 3 (I 3 3)) 70 4 (I 3 4)) 70 5 (I 3 5)) 70 6 (I 3 6)) 70 7 (I 3 7)) 4 71 0 0 4) 5 72 0 0 4) L)) rfl ?_
  refine bs_st 24 (x' := (135, [some (.ref 70), some (.ref 3)], [], hp kp nh rh tl rl (c2 (c2 (c2 (c2 (c2 (u2 (u2 (u2 (u2 (u2 (u2 (u2 (u2 I 70 0 (I 3 0)) 70 1 (I 3 1)) 70 2 (I 3 2)) 70 3 (I 3 3)) 70 4 (I 3 4)) 70 5 (I 3 5)) 70 6 (I 3 6)) 70 7 (I 3 7)) 4 71 0 0 4) 5 72 0 0 4) 6 73 0 0 4) 7 74 0 0 16) 8 75 0 0 5) L)) rfl ?_
  refine bs_st 16 (x' := (164, [some (.ref 70), some (.ref 3)], [], hp kp nh rh tl rl (c2 (c2 (c2 (c2 (c2 (c2 (c2 (u2 (u2 (u2 (u2 (u2 (u2 (u2 (u2 I 70 0 (I 3 0)) 70 1 (I 3 1)) 70 2 (I 3 2)) 70 3 (I 3 3)) 70 4 (I 3 4)) 70 5 (I 3 5)) 70 6 (I 3 6)) 70 7 (I 3 7)) 4 71 0 0 4) 5 72 0 0 4) 6 73 0 0 4) 7 74 0 0 16) 8 75 0 0 5) 9 76 0 0 5) 10 77 0 0 12) L)) rfl ?_
  cases hf
  exact bs_ret rfl
/-- Acts.copyFrom(LLampRounds$Acts;) on (78, 11) -/
def f_2_2 (I : FI) (L : FL) : Option (FI × FL) :=
  some ((c2 (c2 (u2 I 78 2 (I 11 2)) 12 79 0 0 30) 13 80 0 0 30), L)
set_option maxHeartbeats 1000000 in
set_option maxRecDepth 20000 in
theorem t_2_2 (Ls : Nat) (xs : Nat → Int32) (d : Nat) (kp : Option Nat) (tl : List (Nat × Nat)) (rl : List (List (Option Nat))) (nh : Option Nat) (rh : Option Nat) (I : FI) (L : FL) (r : FI × FL) (hf : f_2_2 I L = some r) : pEN Ls xs (d + 1) 2 [.ref 78, .ref 11] (hp kp nh rh tl rl I L) = some (none, hp kp nh rh tl rl r.1 r.2) := by
  refine en_run (d := d + 0) (cd := cd_2) (f := (sf 0 rs_0 false 2 none Ls xs (d + 0))) rfl rfl (x := (0, [some (.ref 78), some (.ref 11)], [], hp kp nh rh tl rl I L)) rfl rfl (Nat.le_of_ble_eq_true rfl) ?_
  unfold f_2_2 at hf
  refine bs_st 20 (x' := (38, [some (.ref 78), some (.ref 11)], [], hp kp nh rh tl rl (c2 (c2 (u2 I 78 2 (I 11 2)) 12 79 0 0 30) 13 80 0 0 30) L)) rfl ?_
  cases hf
  exact bs_ret rfl
/-- LampRounds.image(I) on (0,) -/
def f_172 (x1 : Int32) (I : FI) (L : FL) : Option (Int32 × FI × FL) :=
  if x1 < 0 then
    some ((-2 : Int32), I, L)
  else
    if x1 < (3 : Int32) then
      if x1 = 0 then ((f_17_1 I L).bind fun q0 =>
        (f_2 q0.1 q0.2).bind fun q1 =>
        some ((0 : Int32), (u2 q1.1 45 2 (1 : Int32)), q1.2)) else if x1 = 1 then ((f_17_2 I L).bind fun q2 =>
        (f_2_1 q2.1 q2.2).bind fun q3 =>
        some ((0 : Int32), (u2 q3.1 57 2 (1 : Int32)), q3.2)) else if x1 = 2 then ((f_17_3 I L).bind fun q4 =>
        (f_2_2 q4.1 q4.2).bind fun q5 =>
        some ((0 : Int32), (u2 q5.1 69 2 (1 : Int32)), q5.2)) else none
    else
      some ((-2 : Int32), I, L)
set_option maxHeartbeats 1000000 in
set_option maxRecDepth 20000 in
theorem t_172 (Ls : Nat) (xs : Nat → Int32) (d : Nat) (kp : Option Nat) (tl : List (Nat × Nat)) (rl : List (List (Option Nat))) (nh : Option Nat) (rh : Option Nat) (x1 : Int32) (I : FI) (L : FL) (r : Int32 × FI × FL) (hf : f_172 x1 I L = some r) : pEN Ls xs (d + 2) 172 [.ref 0, .int x1] (hp kp nh rh tl rl I L) = some (some (.int r.1), hp kp nh rh tl rl r.2.1 r.2.2) := by
  refine en_run (d := d + 1) (cd := cd_172) (f := (sf 11 rs_11 false 2 (some (.int)) Ls xs (d + 1))) rfl rfl (x := (0, [some (.ref 0), some (.int x1)], [], hp kp nh rh tl rl I L)) rfl rfl (Nat.le_of_ble_eq_true rfl) ?_
  unfold f_172 at hf
  refine bs_st 1 (x' := (1, [some (.ref 0), some (.int x1)], [.int x1], hp kp nh rh tl rl I L)) rfl ?_
  refine bs_br (t := 9) (e := 4) (lo := [some (.ref 0), some (.int x1)]) (st := []) (h := hp kp nh rh tl rl I L) rfl hf (fun hc hf => ?_) (fun hc hf => ?_)
  · refine bs_st 1 (x' := (11, [some (.ref 0), some (.int x1)], [.int (-2 : Int32)], hp kp nh rh tl rl I L)) rfl ?_
    cases hf
    exact bs_ret rfl
  · refine bs_st 2 (x' := (6, [some (.ref 0), some (.int x1)], [.int (3 : Int32), .int x1], hp kp nh rh tl rl I L)) rfl ?_
    refine bs_br (t := 12) (e := 9) (lo := [some (.ref 0), some (.int x1)]) (st := []) (h := hp kp nh rh tl rl I L) rfl hf (fun hc hf => ?_) (fun hc hf => ?_)
    · refine bs_st 3 (x' := (17, [some (.ref 0), some (.int x1)], [.int x1, .ref 43], hp kp nh rh tl rl I L)) rfl ?_
      refine bs_cs hf (fun hc hf1_0 => ?_) (fun hc hf1_0 => ?_)
      · subst hc
        refine bs_st 4 (x' := (25, [some (.ref 0), some (.int (0 : Int32))], [.ref 3, .ref 46], hp kp nh rh tl rl I L)) rfl ?_
        obtain ⟨q0, hq0, hf1_0⟩ := Option.bind_eq_some_iff.mp hf1_0
        refine bs_call (o := pEN Ls xs (d + 1) 17 [.ref 46, .ref 3] (hp kp nh rh tl rl I L)) (w := none) (h' := hp kp nh rh tl rl q0.1 q0.2) (pc := 28) (lo := [some (.ref 0), some (.int (0 : Int32))]) (rest := []) rfl (t_17_1 Ls xs (d + 0) kp tl rl nh rh I L q0 hq0) ?_
        refine bs_st 7 (x' := (41, [some (.ref 0), some (.int (0 : Int32))], [.ref 11, .ref 54], hp kp nh rh tl rl q0.1 q0.2)) rfl ?_
        obtain ⟨q1, hq1, hf1_0⟩ := Option.bind_eq_some_iff.mp hf1_0
        refine bs_call (o := pEN Ls xs (d + 1) 2 [.ref 54, .ref 11] (hp kp nh rh tl rl q0.1 q0.2)) (w := none) (h' := hp kp nh rh tl rl q1.1 q1.2) (pc := 44) (lo := [some (.ref 0), some (.int (0 : Int32))]) (rest := []) rfl (t_2 Ls xs (d + 0) kp tl rl nh rh q0.1 q0.2 q1 hq1) ?_
        refine bs_st 7 (x' := (55, [some (.ref 0), some (.int (0 : Int32))], [.int (0 : Int32)], hp kp nh rh tl rl (u2 q1.1 45 2 (1 : Int32)) q1.2)) rfl ?_
        cases hf1_0
        exact bs_ret rfl
      refine bs_cs hf1_0 (fun hc hf1_1 => ?_) (fun hc hf1_1 => ?_)
      · subst hc
        refine bs_st 4 (x' := (25, [some (.ref 0), some (.int (1 : Int32))], [.ref 3, .ref 58], hp kp nh rh tl rl I L)) rfl ?_
        obtain ⟨q2, hq2, hf1_1⟩ := Option.bind_eq_some_iff.mp hf1_1
        refine bs_call (o := pEN Ls xs (d + 1) 17 [.ref 58, .ref 3] (hp kp nh rh tl rl I L)) (w := none) (h' := hp kp nh rh tl rl q2.1 q2.2) (pc := 28) (lo := [some (.ref 0), some (.int (1 : Int32))]) (rest := []) rfl (t_17_2 Ls xs (d + 0) kp tl rl nh rh I L q2 hq2) ?_
        refine bs_st 7 (x' := (41, [some (.ref 0), some (.int (1 : Int32))], [.ref 11, .ref 66], hp kp nh rh tl rl q2.1 q2.2)) rfl ?_
        obtain ⟨q3, hq3, hf1_1⟩ := Option.bind_eq_some_iff.mp hf1_1
        refine bs_call (o := pEN Ls xs (d + 1) 2 [.ref 66, .ref 11] (hp kp nh rh tl rl q2.1 q2.2)) (w := none) (h' := hp kp nh rh tl rl q3.1 q3.2) (pc := 44) (lo := [some (.ref 0), some (.int (1 : Int32))]) (rest := []) rfl (t_2_1 Ls xs (d + 0) kp tl rl nh rh q2.1 q2.2 q3 hq3) ?_
        refine bs_st 7 (x' := (55, [some (.ref 0), some (.int (1 : Int32))], [.int (0 : Int32)], hp kp nh rh tl rl (u2 q3.1 57 2 (1 : Int32)) q3.2)) rfl ?_
        cases hf1_1
        exact bs_ret rfl
      refine bs_cs hf1_1 (fun hc hf1_2 => ?_) (fun hc hf1_2 => ?_)
      · subst hc
        refine bs_st 4 (x' := (25, [some (.ref 0), some (.int (2 : Int32))], [.ref 3, .ref 70], hp kp nh rh tl rl I L)) rfl ?_
        obtain ⟨q4, hq4, hf1_2⟩ := Option.bind_eq_some_iff.mp hf1_2
        refine bs_call (o := pEN Ls xs (d + 1) 17 [.ref 70, .ref 3] (hp kp nh rh tl rl I L)) (w := none) (h' := hp kp nh rh tl rl q4.1 q4.2) (pc := 28) (lo := [some (.ref 0), some (.int (2 : Int32))]) (rest := []) rfl (t_17_3 Ls xs (d + 0) kp tl rl nh rh I L q4 hq4) ?_
        refine bs_st 7 (x' := (41, [some (.ref 0), some (.int (2 : Int32))], [.ref 11, .ref 78], hp kp nh rh tl rl q4.1 q4.2)) rfl ?_
        obtain ⟨q5, hq5, hf1_2⟩ := Option.bind_eq_some_iff.mp hf1_2
        refine bs_call (o := pEN Ls xs (d + 1) 2 [.ref 78, .ref 11] (hp kp nh rh tl rl q4.1 q4.2)) (w := none) (h' := hp kp nh rh tl rl q5.1 q5.2) (pc := 44) (lo := [some (.ref 0), some (.int (2 : Int32))]) (rest := []) rfl (t_2_2 Ls xs (d + 0) kp tl rl nh rh q4.1 q4.2 q5 hq5) ?_
        refine bs_st 7 (x' := (55, [some (.ref 0), some (.int (2 : Int32))], [.int (0 : Int32)], hp kp nh rh tl rl (u2 q5.1 69 2 (1 : Int32)) q5.2)) rfl ?_
        cases hf1_2
        exact bs_ret rfl
      cases hf1_2
    · refine bs_st 1 (x' := (11, [some (.ref 0), some (.int x1)], [.int (-2 : Int32)], hp kp nh rh tl rl I L)) rfl ?_
      cases hf
      exact bs_ret rfl
/-- House.copyFrom(LLampRounds$House;) on (3, 46) -/
def f_17_4 (I : FI) (L : FL) : Option (FI × FL) :=
  some ((c2 (c2 (c2 (c2 (c2 (c2 (c2 (u2 (u2 (u2 (u2 (u2 (u2 (u2 (u2 I 3 0 (I 46 0)) 3 1 (I 46 1)) 3 2 (I 46 2)) 3 3 (I 46 3)) 3 4 (I 46 4)) 3 5 (I 46 5)) 3 6 (I 46 6)) 3 7 (I 46 7)) 47 4 0 0 4) 48 5 0 0 4) 49 6 0 0 4) 50 7 0 0 16) 51 8 0 0 5) 52 9 0 0 5) 53 10 0 0 12), L)
set_option maxHeartbeats 1000000 in
set_option maxRecDepth 20000 in
theorem t_17_4 (Ls : Nat) (xs : Nat → Int32) (d : Nat) (kp : Option Nat) (tl : List (Nat × Nat)) (rl : List (List (Option Nat))) (nh : Option Nat) (rh : Option Nat) (I : FI) (L : FL) (r : FI × FL) (hf : f_17_4 I L = some r) : pEN Ls xs (d + 1) 17 [.ref 3, .ref 46] (hp kp nh rh tl rl I L) = some (none, hp kp nh rh tl rl r.1 r.2) := by
  refine en_run (d := d + 0) (cd := cd_17) (f := (sf 3 rs_3 false 2 none Ls xs (d + 0))) rfl rfl (x := (0, [some (.ref 3), some (.ref 46)], [], hp kp nh rh tl rl I L)) rfl rfl (Nat.le_of_ble_eq_true rfl) ?_
  unfold f_17_4 at hf
  refine bs_st 24 (x' := (48, [some (.ref 3), some (.ref 46)], [], hp kp nh rh tl rl (u2 (u2 (u2 (u2 (u2 (u2 I 3 0 (I 46 0)) 3 1 (I 46 1)) 3 2 (I 46 2)) 3 3 (I 46 3)) 3 4 (I 46 4)) 3 5 (I 46 5)) L)) rfl ?_
  refine bs_st 24 (x' := (92, [some (.ref 3), some (.ref 46)], [], hp kp nh rh tl rl (c2 (c2 (u2 (u2 (u2 (u2 (u2 (u2 (u2 (u2 I 3 0 (I 46 0)) 3 1 (I 46 1)) 3 2 (I 46 2)) 3 3 (I 46 3)) 3 4 (I 46 4)) 3 5 (I 46 5)) 3 6 (I 46 6)) 3 7 (I 46 7)) 47 4 0 0 4) 48 5 0 0 4) L)) rfl ?_
  refine bs_st 24 (x' := (135, [some (.ref 3), some (.ref 46)], [], hp kp nh rh tl rl (c2 (c2 (c2 (c2 (c2 (u2 (u2 (u2 (u2 (u2 (u2 (u2 (u2 I 3 0 (I 46 0)) 3 1 (I 46 1)) 3 2 (I 46 2)) 3 3 (I 46 3)) 3 4 (I 46 4)) 3 5 (I 46 5)) 3 6 (I 46 6)) 3 7 (I 46 7)) 47 4 0 0 4) 48 5 0 0 4) 49 6 0 0 4) 50 7 0 0 16) 51 8 0 0 5) L)) rfl ?_
  refine bs_st 16 (x' := (164, [some (.ref 3), some (.ref 46)], [], hp kp nh rh tl rl (c2 (c2 (c2 (c2 (c2 (c2 (c2 (u2 (u2 (u2 (u2 (u2 (u2 (u2 (u2 I 3 0 (I 46 0)) 3 1 (I 46 1)) 3 2 (I 46 2)) 3 3 (I 46 3)) 3 4 (I 46 4)) 3 5 (I 46 5)) 3 6 (I 46 6)) 3 7 (I 46 7)) 47 4 0 0 4) 48 5 0 0 4) 49 6 0 0 4) 50 7 0 0 16) 51 8 0 0 5) 52 9 0 0 5) 53 10 0 0 12) L)) rfl ?_
  cases hf
  exact bs_ret rfl
/-- Acts.copyFrom(LLampRounds$Acts;) on (11, 54) -/
def f_2_3 (I : FI) (L : FL) : Option (FI × FL) :=
  some ((c2 (c2 (u2 I 11 2 (I 54 2)) 55 12 0 0 30) 56 13 0 0 30), L)
set_option maxHeartbeats 1000000 in
set_option maxRecDepth 20000 in
theorem t_2_3 (Ls : Nat) (xs : Nat → Int32) (d : Nat) (kp : Option Nat) (tl : List (Nat × Nat)) (rl : List (List (Option Nat))) (nh : Option Nat) (rh : Option Nat) (I : FI) (L : FL) (r : FI × FL) (hf : f_2_3 I L = some r) : pEN Ls xs (d + 1) 2 [.ref 11, .ref 54] (hp kp nh rh tl rl I L) = some (none, hp kp nh rh tl rl r.1 r.2) := by
  refine en_run (d := d + 0) (cd := cd_2) (f := (sf 0 rs_0 false 2 none Ls xs (d + 0))) rfl rfl (x := (0, [some (.ref 11), some (.ref 54)], [], hp kp nh rh tl rl I L)) rfl rfl (Nat.le_of_ble_eq_true rfl) ?_
  unfold f_2_3 at hf
  refine bs_st 20 (x' := (38, [some (.ref 11), some (.ref 54)], [], hp kp nh rh tl rl (c2 (c2 (u2 I 11 2 (I 54 2)) 55 12 0 0 30) 56 13 0 0 30) L)) rfl ?_
  cases hf
  exact bs_ret rfl
/-- House.copyFrom(LLampRounds$House;) on (3, 58) -/
def f_17_5 (I : FI) (L : FL) : Option (FI × FL) :=
  some ((c2 (c2 (c2 (c2 (c2 (c2 (c2 (u2 (u2 (u2 (u2 (u2 (u2 (u2 (u2 I 3 0 (I 58 0)) 3 1 (I 58 1)) 3 2 (I 58 2)) 3 3 (I 58 3)) 3 4 (I 58 4)) 3 5 (I 58 5)) 3 6 (I 58 6)) 3 7 (I 58 7)) 59 4 0 0 4) 60 5 0 0 4) 61 6 0 0 4) 62 7 0 0 16) 63 8 0 0 5) 64 9 0 0 5) 65 10 0 0 12), L)
set_option maxHeartbeats 1000000 in
set_option maxRecDepth 20000 in
theorem t_17_5 (Ls : Nat) (xs : Nat → Int32) (d : Nat) (kp : Option Nat) (tl : List (Nat × Nat)) (rl : List (List (Option Nat))) (nh : Option Nat) (rh : Option Nat) (I : FI) (L : FL) (r : FI × FL) (hf : f_17_5 I L = some r) : pEN Ls xs (d + 1) 17 [.ref 3, .ref 58] (hp kp nh rh tl rl I L) = some (none, hp kp nh rh tl rl r.1 r.2) := by
  refine en_run (d := d + 0) (cd := cd_17) (f := (sf 3 rs_3 false 2 none Ls xs (d + 0))) rfl rfl (x := (0, [some (.ref 3), some (.ref 58)], [], hp kp nh rh tl rl I L)) rfl rfl (Nat.le_of_ble_eq_true rfl) ?_
  unfold f_17_5 at hf
  refine bs_st 24 (x' := (48, [some (.ref 3), some (.ref 58)], [], hp kp nh rh tl rl (u2 (u2 (u2 (u2 (u2 (u2 I 3 0 (I 58 0)) 3 1 (I 58 1)) 3 2 (I 58 2)) 3 3 (I 58 3)) 3 4 (I 58 4)) 3 5 (I 58 5)) L)) rfl ?_
  refine bs_st 24 (x' := (92, [some (.ref 3), some (.ref 58)], [], hp kp nh rh tl rl (c2 (c2 (u2 (u2 (u2 (u2 (u2 (u2 (u2 (u2 I 3 0 (I 58 0)) 3 1 (I 58 1)) 3 2 (I 58 2)) 3 3 (I 58 3)) 3 4 (I 58 4)) 3 5 (I 58 5)) 3 6 (I 58 6)) 3 7 (I 58 7)) 59 4 0 0 4) 60 5 0 0 4) L)) rfl ?_
  refine bs_st 24 (x' := (135, [some (.ref 3), some (.ref 58)], [], hp kp nh rh tl rl (c2 (c2 (c2 (c2 (c2 (u2 (u2 (u2 (u2 (u2 (u2 (u2 (u2 I 3 0 (I 58 0)) 3 1 (I 58 1)) 3 2 (I 58 2)) 3 3 (I 58 3)) 3 4 (I 58 4)) 3 5 (I 58 5)) 3 6 (I 58 6)) 3 7 (I 58 7)) 59 4 0 0 4) 60 5 0 0 4) 61 6 0 0 4) 62 7 0 0 16) 63 8 0 0 5) L)) rfl ?_
  refine bs_st 16 (x' := (164, [some (.ref 3), some (.ref 58)], [], hp kp nh rh tl rl (c2 (c2 (c2 (c2 (c2 (c2 (c2 (u2 (u2 (u2 (u2 (u2 (u2 (u2 (u2 I 3 0 (I 58 0)) 3 1 (I 58 1)) 3 2 (I 58 2)) 3 3 (I 58 3)) 3 4 (I 58 4)) 3 5 (I 58 5)) 3 6 (I 58 6)) 3 7 (I 58 7)) 59 4 0 0 4) 60 5 0 0 4) 61 6 0 0 4) 62 7 0 0 16) 63 8 0 0 5) 64 9 0 0 5) 65 10 0 0 12) L)) rfl ?_
  cases hf
  exact bs_ret rfl
/-- Acts.copyFrom(LLampRounds$Acts;) on (11, 66) -/
def f_2_4 (I : FI) (L : FL) : Option (FI × FL) :=
  some ((c2 (c2 (u2 I 11 2 (I 66 2)) 67 12 0 0 30) 68 13 0 0 30), L)
set_option maxHeartbeats 1000000 in
set_option maxRecDepth 20000 in
theorem t_2_4 (Ls : Nat) (xs : Nat → Int32) (d : Nat) (kp : Option Nat) (tl : List (Nat × Nat)) (rl : List (List (Option Nat))) (nh : Option Nat) (rh : Option Nat) (I : FI) (L : FL) (r : FI × FL) (hf : f_2_4 I L = some r) : pEN Ls xs (d + 1) 2 [.ref 11, .ref 66] (hp kp nh rh tl rl I L) = some (none, hp kp nh rh tl rl r.1 r.2) := by
  refine en_run (d := d + 0) (cd := cd_2) (f := (sf 0 rs_0 false 2 none Ls xs (d + 0))) rfl rfl (x := (0, [some (.ref 11), some (.ref 66)], [], hp kp nh rh tl rl I L)) rfl rfl (Nat.le_of_ble_eq_true rfl) ?_
  unfold f_2_4 at hf
  refine bs_st 20 (x' := (38, [some (.ref 11), some (.ref 66)], [], hp kp nh rh tl rl (c2 (c2 (u2 I 11 2 (I 66 2)) 67 12 0 0 30) 68 13 0 0 30) L)) rfl ?_
  cases hf
  exact bs_ret rfl
/-- House.copyFrom(LLampRounds$House;) on (3, 70) -/
def f_17_6 (I : FI) (L : FL) : Option (FI × FL) :=
  some ((c2 (c2 (c2 (c2 (c2 (c2 (c2 (u2 (u2 (u2 (u2 (u2 (u2 (u2 (u2 I 3 0 (I 70 0)) 3 1 (I 70 1)) 3 2 (I 70 2)) 3 3 (I 70 3)) 3 4 (I 70 4)) 3 5 (I 70 5)) 3 6 (I 70 6)) 3 7 (I 70 7)) 71 4 0 0 4) 72 5 0 0 4) 73 6 0 0 4) 74 7 0 0 16) 75 8 0 0 5) 76 9 0 0 5) 77 10 0 0 12), L)
set_option maxHeartbeats 1000000 in
set_option maxRecDepth 20000 in
theorem t_17_6 (Ls : Nat) (xs : Nat → Int32) (d : Nat) (kp : Option Nat) (tl : List (Nat × Nat)) (rl : List (List (Option Nat))) (nh : Option Nat) (rh : Option Nat) (I : FI) (L : FL) (r : FI × FL) (hf : f_17_6 I L = some r) : pEN Ls xs (d + 1) 17 [.ref 3, .ref 70] (hp kp nh rh tl rl I L) = some (none, hp kp nh rh tl rl r.1 r.2) := by
  refine en_run (d := d + 0) (cd := cd_17) (f := (sf 3 rs_3 false 2 none Ls xs (d + 0))) rfl rfl (x := (0, [some (.ref 3), some (.ref 70)], [], hp kp nh rh tl rl I L)) rfl rfl (Nat.le_of_ble_eq_true rfl) ?_
  unfold f_17_6 at hf
  refine bs_st 24 (x' := (48, [some (.ref 3), some (.ref 70)], [], hp kp nh rh tl rl (u2 (u2 (u2 (u2 (u2 (u2 I 3 0 (I 70 0)) 3 1 (I 70 1)) 3 2 (I 70 2)) 3 3 (I 70 3)) 3 4 (I 70 4)) 3 5 (I 70 5)) L)) rfl ?_
  refine bs_st 24 (x' := (92, [some (.ref 3), some (.ref 70)], [], hp kp nh rh tl rl (c2 (c2 (u2 (u2 (u2 (u2 (u2 (u2 (u2 (u2 I 3 0 (I 70 0)) 3 1 (I 70 1)) 3 2 (I 70 2)) 3 3 (I 70 3)) 3 4 (I 70 4)) 3 5 (I 70 5)) 3 6 (I 70 6)) 3 7 (I 70 7)) 71 4 0 0 4) 72 5 0 0 4) L)) rfl ?_
  refine bs_st 24 (x' := (135, [some (.ref 3), some (.ref 70)], [], hp kp nh rh tl rl (c2 (c2 (c2 (c2 (c2 (u2 (u2 (u2 (u2 (u2 (u2 (u2 (u2 I 3 0 (I 70 0)) 3 1 (I 70 1)) 3 2 (I 70 2)) 3 3 (I 70 3)) 3 4 (I 70 4)) 3 5 (I 70 5)) 3 6 (I 70 6)) 3 7 (I 70 7)) 71 4 0 0 4) 72 5 0 0 4) 73 6 0 0 4) 74 7 0 0 16) 75 8 0 0 5) L)) rfl ?_
  refine bs_st 16 (x' := (164, [some (.ref 3), some (.ref 70)], [], hp kp nh rh tl rl (c2 (c2 (c2 (c2 (c2 (c2 (c2 (u2 (u2 (u2 (u2 (u2 (u2 (u2 (u2 I 3 0 (I 70 0)) 3 1 (I 70 1)) 3 2 (I 70 2)) 3 3 (I 70 3)) 3 4 (I 70 4)) 3 5 (I 70 5)) 3 6 (I 70 6)) 3 7 (I 70 7)) 71 4 0 0 4) 72 5 0 0 4) 73 6 0 0 4) 74 7 0 0 16) 75 8 0 0 5) 76 9 0 0 5) 77 10 0 0 12) L)) rfl ?_
  cases hf
  exact bs_ret rfl
/-- Acts.copyFrom(LLampRounds$Acts;) on (11, 78) -/
def f_2_5 (I : FI) (L : FL) : Option (FI × FL) :=
  some ((c2 (c2 (u2 I 11 2 (I 78 2)) 79 12 0 0 30) 80 13 0 0 30), L)
set_option maxHeartbeats 1000000 in
set_option maxRecDepth 20000 in
theorem t_2_5 (Ls : Nat) (xs : Nat → Int32) (d : Nat) (kp : Option Nat) (tl : List (Nat × Nat)) (rl : List (List (Option Nat))) (nh : Option Nat) (rh : Option Nat) (I : FI) (L : FL) (r : FI × FL) (hf : f_2_5 I L = some r) : pEN Ls xs (d + 1) 2 [.ref 11, .ref 78] (hp kp nh rh tl rl I L) = some (none, hp kp nh rh tl rl r.1 r.2) := by
  refine en_run (d := d + 0) (cd := cd_2) (f := (sf 0 rs_0 false 2 none Ls xs (d + 0))) rfl rfl (x := (0, [some (.ref 11), some (.ref 78)], [], hp kp nh rh tl rl I L)) rfl rfl (Nat.le_of_ble_eq_true rfl) ?_
  unfold f_2_5 at hf
  refine bs_st 20 (x' := (38, [some (.ref 11), some (.ref 78)], [], hp kp nh rh tl rl (c2 (c2 (u2 I 11 2 (I 78 2)) 79 12 0 0 30) 80 13 0 0 30) L)) rfl ?_
  cases hf
  exact bs_ret rfl
/-- LampRounds.back(I) on (0,) -/
def f_173_1 (n : Nat) (rh : Option Nat) (x1 : Int32) (I : FI) (L : FL) : Option (Int32 × Option Nat × FI × FL) :=
  if x1 < 0 then
    some ((-2 : Int32), rh, I, L)
  else
    if x1 < (3 : Int32) then
      if x1 = 0 then (if ¬ I 45 2 = 0 then
          (f_17_4 I L).bind fun q0 =>
          (f_2_3 q0.1 q0.2).bind fun q1 =>
          (f_186_1 n q1.1 q1.2).bind fun q2 =>
          some ((0 : Int32), (some 3), q2.1, q2.2)
        else
          some ((-6 : Int32), rh, I, L)) else if x1 = 1 then (if ¬ I 57 2 = 0 then
          (f_17_5 I L).bind fun q3 =>
          (f_2_4 q3.1 q3.2).bind fun q4 =>
          (f_186_1 n q4.1 q4.2).bind fun q5 =>
          some ((0 : Int32), (some 3), q5.1, q5.2)
        else
          some ((-6 : Int32), rh, I, L)) else if x1 = 2 then (if ¬ I 69 2 = 0 then
          (f_17_6 I L).bind fun q6 =>
          (f_2_5 q6.1 q6.2).bind fun q7 =>
          (f_186_1 n q7.1 q7.2).bind fun q8 =>
          some ((0 : Int32), (some 3), q8.1, q8.2)
        else
          some ((-6 : Int32), rh, I, L)) else none
    else
      some ((-2 : Int32), rh, I, L)
set_option maxHeartbeats 1000000 in
set_option maxRecDepth 20000 in
theorem t_173_1 (Ls : Nat) (xs : Nat → Int32) (d : Nat) (nh : Option Nat) (rh : Option Nat) (n : Nat) (x1 : Int32) (I : FI) (L : FL) (r : Int32 × Option Nat × FI × FL) (hf : f_173_1 n rh x1 I L = some r) : pEN Ls xs (d + 3) 173 [.ref 0, .int x1] (hp (some 114) nh rh TK (RK (some 3)) I L) = some (some (.int r.1), hp (some 114) nh r.2.1 TK (RK (some 3)) r.2.2.1 r.2.2.2) := by
  refine en_run (d := d + 2) (cd := cd_173) (f := (sf 11 rs_11 false 2 (some (.int)) Ls xs (d + 2))) rfl rfl (x := (0, [some (.ref 0), some (.int x1)], [], hp (some 114) nh rh TK (RK (some 3)) I L)) rfl rfl (Nat.le_of_ble_eq_true rfl) ?_
  unfold f_173_1 at hf
  refine bs_st 1 (x' := (1, [some (.ref 0), some (.int x1)], [.int x1], hp (some 114) nh rh TK (RK (some 3)) I L)) rfl ?_
  refine bs_br (t := 9) (e := 4) (lo := [some (.ref 0), some (.int x1)]) (st := []) (h := hp (some 114) nh rh TK (RK (some 3)) I L) rfl hf (fun hc hf => ?_) (fun hc hf => ?_)
  · refine bs_st 1 (x' := (11, [some (.ref 0), some (.int x1)], [.int (-2 : Int32)], hp (some 114) nh rh TK (RK (some 3)) I L)) rfl ?_
    cases hf
    exact bs_ret rfl
  · refine bs_st 2 (x' := (6, [some (.ref 0), some (.int x1)], [.int (3 : Int32), .int x1], hp (some 114) nh rh TK (RK (some 3)) I L)) rfl ?_
    refine bs_br (t := 12) (e := 9) (lo := [some (.ref 0), some (.int x1)]) (st := []) (h := hp (some 114) nh rh TK (RK (some 3)) I L) rfl hf (fun hc hf => ?_) (fun hc hf => ?_)
    · refine bs_st 3 (x' := (17, [some (.ref 0), some (.int x1)], [.int x1, .ref 43], hp (some 114) nh rh TK (RK (some 3)) I L)) rfl ?_
      refine bs_cs hf (fun hc hf1_0 => ?_) (fun hc hf1_0 => ?_)
      · subst hc
        refine bs_st 2 (x' := (21, [some (.ref 0), some (.int (0 : Int32))], [.int (I 45 2)], hp (some 114) nh rh TK (RK (some 3)) I L)) rfl ?_
        refine bs_br (t := 27) (e := 24) (lo := [some (.ref 0), some (.int (0 : Int32))]) (st := []) (h := hp (some 114) nh rh TK (RK (some 3)) I L) rfl hf1_0 (fun hc hf1_0 => ?_) (fun hc hf1_0 => ?_)
        · refine bs_st 7 (x' := (40, [some (.ref 0), some (.int (0 : Int32))], [.ref 46, .ref 3], hp (some 114) nh rh TK (RK (some 3)) I L)) rfl ?_
          obtain ⟨q0, hq0, hf1_0⟩ := Option.bind_eq_some_iff.mp hf1_0
          refine bs_call (o := pEN Ls xs (d + 2) 17 [.ref 3, .ref 46] (hp (some 114) nh rh TK (RK (some 3)) I L)) (w := none) (h' := hp (some 114) nh rh TK (RK (some 3)) q0.1 q0.2) (pc := 43) (lo := [some (.ref 0), some (.int (0 : Int32))]) (rest := []) rfl (t_17_4 Ls xs (d + 1) (some 114) TK (RK (some 3)) nh rh I L q0 hq0) ?_
          refine bs_st 7 (x' := (56, [some (.ref 0), some (.int (0 : Int32))], [.ref 54, .ref 11], hp (some 114) nh rh TK (RK (some 3)) q0.1 q0.2)) rfl ?_
          obtain ⟨q1, hq1, hf1_0⟩ := Option.bind_eq_some_iff.mp hf1_0
          refine bs_call (o := pEN Ls xs (d + 2) 2 [.ref 11, .ref 54] (hp (some 114) nh rh TK (RK (some 3)) q0.1 q0.2)) (w := none) (h' := hp (some 114) nh rh TK (RK (some 3)) q1.1 q1.2) (pc := 59) (lo := [some (.ref 0), some (.int (0 : Int32))]) (rest := []) rfl (t_2_3 Ls xs (d + 1) (some 114) TK (RK (some 3)) nh rh q0.1 q0.2 q1 hq1) ?_
          refine bs_st 1 (x' := (60, [some (.ref 0), some (.int (0 : Int32))], [.ref 0], hp (some 114) nh rh TK (RK (some 3)) q1.1 q1.2)) rfl ?_
          obtain ⟨q2, hq2, hf1_0⟩ := Option.bind_eq_some_iff.mp hf1_0
          refine bs_call (o := pEN Ls xs (d + 2) 186 [.ref 0] (hp (some 114) nh rh TK (RK (some 3)) q1.1 q1.2)) (w := none) (h' := hp (some 114) nh (some 3) TK (RK (some 3)) q2.1 q2.2) (pc := 63) (lo := [some (.ref 0), some (.int (0 : Int32))]) (rest := []) rfl (t_186_1 Ls xs (d + 0) nh rh n q1.1 q1.2 q2 hq2) ?_
          refine bs_st 1 (x' := (64, [some (.ref 0), some (.int (0 : Int32))], [.int (0 : Int32)], hp (some 114) nh (some 3) TK (RK (some 3)) q2.1 q2.2)) rfl ?_
          cases hf1_0
          exact bs_ret rfl
        · refine bs_st 1 (x' := (26, [some (.ref 0), some (.int (0 : Int32))], [.int (-6 : Int32)], hp (some 114) nh rh TK (RK (some 3)) I L)) rfl ?_
          cases hf1_0
          exact bs_ret rfl
      refine bs_cs hf1_0 (fun hc hf1_1 => ?_) (fun hc hf1_1 => ?_)
      · subst hc
        refine bs_st 2 (x' := (21, [some (.ref 0), some (.int (1 : Int32))], [.int (I 57 2)], hp (some 114) nh rh TK (RK (some 3)) I L)) rfl ?_
        refine bs_br (t := 27) (e := 24) (lo := [some (.ref 0), some (.int (1 : Int32))]) (st := []) (h := hp (some 114) nh rh TK (RK (some 3)) I L) rfl hf1_1 (fun hc hf1_1 => ?_) (fun hc hf1_1 => ?_)
        · refine bs_st 7 (x' := (40, [some (.ref 0), some (.int (1 : Int32))], [.ref 58, .ref 3], hp (some 114) nh rh TK (RK (some 3)) I L)) rfl ?_
          obtain ⟨q3, hq3, hf1_1⟩ := Option.bind_eq_some_iff.mp hf1_1
          refine bs_call (o := pEN Ls xs (d + 2) 17 [.ref 3, .ref 58] (hp (some 114) nh rh TK (RK (some 3)) I L)) (w := none) (h' := hp (some 114) nh rh TK (RK (some 3)) q3.1 q3.2) (pc := 43) (lo := [some (.ref 0), some (.int (1 : Int32))]) (rest := []) rfl (t_17_5 Ls xs (d + 1) (some 114) TK (RK (some 3)) nh rh I L q3 hq3) ?_
          refine bs_st 7 (x' := (56, [some (.ref 0), some (.int (1 : Int32))], [.ref 66, .ref 11], hp (some 114) nh rh TK (RK (some 3)) q3.1 q3.2)) rfl ?_
          obtain ⟨q4, hq4, hf1_1⟩ := Option.bind_eq_some_iff.mp hf1_1
          refine bs_call (o := pEN Ls xs (d + 2) 2 [.ref 11, .ref 66] (hp (some 114) nh rh TK (RK (some 3)) q3.1 q3.2)) (w := none) (h' := hp (some 114) nh rh TK (RK (some 3)) q4.1 q4.2) (pc := 59) (lo := [some (.ref 0), some (.int (1 : Int32))]) (rest := []) rfl (t_2_4 Ls xs (d + 1) (some 114) TK (RK (some 3)) nh rh q3.1 q3.2 q4 hq4) ?_
          refine bs_st 1 (x' := (60, [some (.ref 0), some (.int (1 : Int32))], [.ref 0], hp (some 114) nh rh TK (RK (some 3)) q4.1 q4.2)) rfl ?_
          obtain ⟨q5, hq5, hf1_1⟩ := Option.bind_eq_some_iff.mp hf1_1
          refine bs_call (o := pEN Ls xs (d + 2) 186 [.ref 0] (hp (some 114) nh rh TK (RK (some 3)) q4.1 q4.2)) (w := none) (h' := hp (some 114) nh (some 3) TK (RK (some 3)) q5.1 q5.2) (pc := 63) (lo := [some (.ref 0), some (.int (1 : Int32))]) (rest := []) rfl (t_186_1 Ls xs (d + 0) nh rh n q4.1 q4.2 q5 hq5) ?_
          refine bs_st 1 (x' := (64, [some (.ref 0), some (.int (1 : Int32))], [.int (0 : Int32)], hp (some 114) nh (some 3) TK (RK (some 3)) q5.1 q5.2)) rfl ?_
          cases hf1_1
          exact bs_ret rfl
        · refine bs_st 1 (x' := (26, [some (.ref 0), some (.int (1 : Int32))], [.int (-6 : Int32)], hp (some 114) nh rh TK (RK (some 3)) I L)) rfl ?_
          cases hf1_1
          exact bs_ret rfl
      refine bs_cs hf1_1 (fun hc hf1_2 => ?_) (fun hc hf1_2 => ?_)
      · subst hc
        refine bs_st 2 (x' := (21, [some (.ref 0), some (.int (2 : Int32))], [.int (I 69 2)], hp (some 114) nh rh TK (RK (some 3)) I L)) rfl ?_
        refine bs_br (t := 27) (e := 24) (lo := [some (.ref 0), some (.int (2 : Int32))]) (st := []) (h := hp (some 114) nh rh TK (RK (some 3)) I L) rfl hf1_2 (fun hc hf1_2 => ?_) (fun hc hf1_2 => ?_)
        · refine bs_st 7 (x' := (40, [some (.ref 0), some (.int (2 : Int32))], [.ref 70, .ref 3], hp (some 114) nh rh TK (RK (some 3)) I L)) rfl ?_
          obtain ⟨q6, hq6, hf1_2⟩ := Option.bind_eq_some_iff.mp hf1_2
          refine bs_call (o := pEN Ls xs (d + 2) 17 [.ref 3, .ref 70] (hp (some 114) nh rh TK (RK (some 3)) I L)) (w := none) (h' := hp (some 114) nh rh TK (RK (some 3)) q6.1 q6.2) (pc := 43) (lo := [some (.ref 0), some (.int (2 : Int32))]) (rest := []) rfl (t_17_6 Ls xs (d + 1) (some 114) TK (RK (some 3)) nh rh I L q6 hq6) ?_
          refine bs_st 7 (x' := (56, [some (.ref 0), some (.int (2 : Int32))], [.ref 78, .ref 11], hp (some 114) nh rh TK (RK (some 3)) q6.1 q6.2)) rfl ?_
          obtain ⟨q7, hq7, hf1_2⟩ := Option.bind_eq_some_iff.mp hf1_2
          refine bs_call (o := pEN Ls xs (d + 2) 2 [.ref 11, .ref 78] (hp (some 114) nh rh TK (RK (some 3)) q6.1 q6.2)) (w := none) (h' := hp (some 114) nh rh TK (RK (some 3)) q7.1 q7.2) (pc := 59) (lo := [some (.ref 0), some (.int (2 : Int32))]) (rest := []) rfl (t_2_5 Ls xs (d + 1) (some 114) TK (RK (some 3)) nh rh q6.1 q6.2 q7 hq7) ?_
          refine bs_st 1 (x' := (60, [some (.ref 0), some (.int (2 : Int32))], [.ref 0], hp (some 114) nh rh TK (RK (some 3)) q7.1 q7.2)) rfl ?_
          obtain ⟨q8, hq8, hf1_2⟩ := Option.bind_eq_some_iff.mp hf1_2
          refine bs_call (o := pEN Ls xs (d + 2) 186 [.ref 0] (hp (some 114) nh rh TK (RK (some 3)) q7.1 q7.2)) (w := none) (h' := hp (some 114) nh (some 3) TK (RK (some 3)) q8.1 q8.2) (pc := 63) (lo := [some (.ref 0), some (.int (2 : Int32))]) (rest := []) rfl (t_186_1 Ls xs (d + 0) nh rh n q7.1 q7.2 q8 hq8) ?_
          refine bs_st 1 (x' := (64, [some (.ref 0), some (.int (2 : Int32))], [.int (0 : Int32)], hp (some 114) nh (some 3) TK (RK (some 3)) q8.1 q8.2)) rfl ?_
          cases hf1_2
          exact bs_ret rfl
        · refine bs_st 1 (x' := (26, [some (.ref 0), some (.int (2 : Int32))], [.int (-6 : Int32)], hp (some 114) nh rh TK (RK (some 3)) I L)) rfl ?_
          cases hf1_2
          exact bs_ret rfl
      cases hf1_2
    · refine bs_st 1 (x' := (11, [some (.ref 0), some (.int x1)], [.int (-2 : Int32)], hp (some 114) nh rh TK (RK (some 3)) I L)) rfl ?_
      cases hf
      exact bs_ret rfl
/-- Row.clear(II) on (81,) -/
def b_106_0 (n : Nat) (K0 : Int32 → FI → FL → Option (FI × FL)) (x3 : Int32) (I : FI) (L : FL) : Option (FI × FL) :=
  if (60 : Int32) ≤ x3 then
    some (I, L)
  else
    if pin x3 60 = true then K0 (x3 + (1 : Int32)) I (u2 L 82 x3.toNatClampNeg (0 : Int64)) else none
def c_106_0 (n : Nat) : Nat → Int32 → FI → FL → Option (FI × FL)
  | 0, _, _, _ => none
  | m + 1, x3, I, L => b_106_0 n (c_106_0 n m) x3 I L
set_option maxHeartbeats 1000000 in
set_option maxRecDepth 20000 in
theorem tc_106_0 (Ls : Nat) (xs : Nat → Int32) (d : Nat) (kp : Option Nat) (tl : List (Nat × Nat)) (rl : List (List (Option Nat))) (nh : Option Nat) (rh : Option Nat) (n : Nat) : ∀ (m : Nat) (w1 : Option Value) (w2 : Option Value) (x3 : Int32) (I : FI) (L : FL) (r : FI × FL), c_106_0 n m x3 I L = some r → Bs cd_106 (sf 9 rs_9 false 4 none Ls xs (d + 0)) (17, [some (.ref 81), w1, w2, some (.int x3)], [], hp kp nh rh tl rl I L) (none, hp kp nh rh tl rl r.1 r.2)
  | 0, w1, w2, x3, I, L, r, hf => by cases hf
  | m + 1, w1, w2, x3, I, L, r, hf => by
    unfold c_106_0 b_106_0 at hf
    have hK0 := tc_106_0 Ls xs d kp tl rl nh rh n m
    refine bs_st 2 (x' := (20, [some (.ref 81), w1, w2, some (.int x3)], [.int (60 : Int32), .int x3], hp kp nh rh tl rl I L)) rfl ?_
    refine bs_br (t := 36) (e := 23) (lo := [some (.ref 81), w1, w2, some (.int x3)]) (st := []) (h := hp kp nh rh tl rl I L) rfl hf (fun hc hf => ?_) (fun hc hf => ?_)
    · cases hf
      exact bs_ret rfl
    · refine bs_st 4 (x' := (29, [some (.ref 81), w1, w2, some (.int x3)], [.long (0 : Int64), .int x3, .ref 82], hp kp nh rh tl rl I L)) rfl ?_
      refine bs_gd (x' := (30, [some (.ref 81), w1, w2, some (.int x3)], [], hp kp nh rh tl rl I (u2 L 82 x3.toNatClampNeg (0 : Int64)))) rfl hf (fun hc hf => ?_)
      refine bs_st 2 (x' := (17, [some (.ref 81), w1, (pcl w2), some (.int (x3 + (1 : Int32)))], [], hp kp nh rh tl rl I (u2 L 82 x3.toNatClampNeg (0 : Int64)))) rfl ?_
      exact hK0 w1 (pcl w2) (x3 + (1 : Int32)) I (u2 L 82 x3.toNatClampNeg (0 : Int64)) r hf
def f_106 (n : Nat) (x1 : Int32) (x2 : Int32) (I : FI) (L : FL) : Option (FI × FL) :=
  c_106_0 n n (0 : Int32) (u2 (u2 (u2 I 81 1 x1) 81 2 x2) 81 3 (1 : Int32)) L
set_option maxHeartbeats 1000000 in
set_option maxRecDepth 20000 in
theorem t_106 (Ls : Nat) (xs : Nat → Int32) (d : Nat) (kp : Option Nat) (tl : List (Nat × Nat)) (rl : List (List (Option Nat))) (nh : Option Nat) (rh : Option Nat) (n : Nat) (x1 : Int32) (x2 : Int32) (I : FI) (L : FL) (r : FI × FL) (hf : f_106 n x1 x2 I L = some r) : pEN Ls xs (d + 1) 106 [.ref 81, .int x1, .int x2] (hp kp nh rh tl rl I L) = some (none, hp kp nh rh tl rl r.1 r.2) := by
  refine en_run (d := d + 0) (cd := cd_106) (f := (sf 9 rs_9 false 4 none Ls xs (d + 0))) rfl rfl (x := (0, [some (.ref 81), some (.int x1), some (.int x2), none], [], hp kp nh rh tl rl I L)) rfl rfl (Nat.le_of_ble_eq_true rfl) ?_
  unfold f_106 at hf
  refine bs_st 11 (x' := (17, [some (.ref 81), some (.int x1), some (.int x2), some (.int (0 : Int32))], [], hp kp nh rh tl rl (u2 (u2 (u2 I 81 1 x1) 81 2 x2) 81 3 (1 : Int32)) L)) rfl ?_
  exact tc_106_0 Ls xs d kp tl rl nh rh n n (some (.int x1)) (some (.int x2)) (0 : Int32) (u2 (u2 (u2 I 81 1 x1) 81 2 x2) 81 3 (1 : Int32)) L r hf
/-- Row.clear(II) on (83,) -/
def b_106_1_0 (n : Nat) (K0 : Int32 → FI → FL → Option (FI × FL)) (x3 : Int32) (I : FI) (L : FL) : Option (FI × FL) :=
  if (60 : Int32) ≤ x3 then
    some (I, L)
  else
    if pin x3 60 = true then K0 (x3 + (1 : Int32)) I (u2 L 84 x3.toNatClampNeg (0 : Int64)) else none
def c_106_1_0 (n : Nat) : Nat → Int32 → FI → FL → Option (FI × FL)
  | 0, _, _, _ => none
  | m + 1, x3, I, L => b_106_1_0 n (c_106_1_0 n m) x3 I L
set_option maxHeartbeats 1000000 in
set_option maxRecDepth 20000 in
theorem tc_106_1_0 (Ls : Nat) (xs : Nat → Int32) (d : Nat) (kp : Option Nat) (tl : List (Nat × Nat)) (rl : List (List (Option Nat))) (nh : Option Nat) (rh : Option Nat) (n : Nat) : ∀ (m : Nat) (w1 : Option Value) (w2 : Option Value) (x3 : Int32) (I : FI) (L : FL) (r : FI × FL), c_106_1_0 n m x3 I L = some r → Bs cd_106 (sf 9 rs_9 false 4 none Ls xs (d + 0)) (17, [some (.ref 83), w1, w2, some (.int x3)], [], hp kp nh rh tl rl I L) (none, hp kp nh rh tl rl r.1 r.2)
  | 0, w1, w2, x3, I, L, r, hf => by cases hf
  | m + 1, w1, w2, x3, I, L, r, hf => by
    unfold c_106_1_0 b_106_1_0 at hf
    have hK0 := tc_106_1_0 Ls xs d kp tl rl nh rh n m
    refine bs_st 2 (x' := (20, [some (.ref 83), w1, w2, some (.int x3)], [.int (60 : Int32), .int x3], hp kp nh rh tl rl I L)) rfl ?_
    refine bs_br (t := 36) (e := 23) (lo := [some (.ref 83), w1, w2, some (.int x3)]) (st := []) (h := hp kp nh rh tl rl I L) rfl hf (fun hc hf => ?_) (fun hc hf => ?_)
    · cases hf
      exact bs_ret rfl
    · refine bs_st 4 (x' := (29, [some (.ref 83), w1, w2, some (.int x3)], [.long (0 : Int64), .int x3, .ref 84], hp kp nh rh tl rl I L)) rfl ?_
      refine bs_gd (x' := (30, [some (.ref 83), w1, w2, some (.int x3)], [], hp kp nh rh tl rl I (u2 L 84 x3.toNatClampNeg (0 : Int64)))) rfl hf (fun hc hf => ?_)
      refine bs_st 2 (x' := (17, [some (.ref 83), w1, (pcl w2), some (.int (x3 + (1 : Int32)))], [], hp kp nh rh tl rl I (u2 L 84 x3.toNatClampNeg (0 : Int64)))) rfl ?_
      exact hK0 w1 (pcl w2) (x3 + (1 : Int32)) I (u2 L 84 x3.toNatClampNeg (0 : Int64)) r hf
def f_106_1 (n : Nat) (x1 : Int32) (x2 : Int32) (I : FI) (L : FL) : Option (FI × FL) :=
  c_106_1_0 n n (0 : Int32) (u2 (u2 (u2 I 83 1 x1) 83 2 x2) 83 3 (1 : Int32)) L
set_option maxHeartbeats 1000000 in
set_option maxRecDepth 20000 in
theorem t_106_1 (Ls : Nat) (xs : Nat → Int32) (d : Nat) (kp : Option Nat) (tl : List (Nat × Nat)) (rl : List (List (Option Nat))) (nh : Option Nat) (rh : Option Nat) (n : Nat) (x1 : Int32) (x2 : Int32) (I : FI) (L : FL) (r : FI × FL) (hf : f_106_1 n x1 x2 I L = some r) : pEN Ls xs (d + 1) 106 [.ref 83, .int x1, .int x2] (hp kp nh rh tl rl I L) = some (none, hp kp nh rh tl rl r.1 r.2) := by
  refine en_run (d := d + 0) (cd := cd_106) (f := (sf 9 rs_9 false 4 none Ls xs (d + 0))) rfl rfl (x := (0, [some (.ref 83), some (.int x1), some (.int x2), none], [], hp kp nh rh tl rl I L)) rfl rfl (Nat.le_of_ble_eq_true rfl) ?_
  unfold f_106_1 at hf
  refine bs_st 11 (x' := (17, [some (.ref 83), some (.int x1), some (.int x2), some (.int (0 : Int32))], [], hp kp nh rh tl rl (u2 (u2 (u2 I 83 1 x1) 83 2 x2) 83 3 (1 : Int32)) L)) rfl ?_
  exact tc_106_1_0 Ls xs d kp tl rl nh rh n n (some (.int x1)) (some (.int x2)) (0 : Int32) (u2 (u2 (u2 I 83 1 x1) 83 2 x2) 83 3 (1 : Int32)) L r hf
/-- Row.clear(II) on (85,) -/
def b_106_2_0 (n : Nat) (K0 : Int32 → FI → FL → Option (FI × FL)) (x3 : Int32) (I : FI) (L : FL) : Option (FI × FL) :=
  if (60 : Int32) ≤ x3 then
    some (I, L)
  else
    if pin x3 60 = true then K0 (x3 + (1 : Int32)) I (u2 L 86 x3.toNatClampNeg (0 : Int64)) else none
def c_106_2_0 (n : Nat) : Nat → Int32 → FI → FL → Option (FI × FL)
  | 0, _, _, _ => none
  | m + 1, x3, I, L => b_106_2_0 n (c_106_2_0 n m) x3 I L
set_option maxHeartbeats 1000000 in
set_option maxRecDepth 20000 in
theorem tc_106_2_0 (Ls : Nat) (xs : Nat → Int32) (d : Nat) (kp : Option Nat) (tl : List (Nat × Nat)) (rl : List (List (Option Nat))) (nh : Option Nat) (rh : Option Nat) (n : Nat) : ∀ (m : Nat) (w1 : Option Value) (w2 : Option Value) (x3 : Int32) (I : FI) (L : FL) (r : FI × FL), c_106_2_0 n m x3 I L = some r → Bs cd_106 (sf 9 rs_9 false 4 none Ls xs (d + 0)) (17, [some (.ref 85), w1, w2, some (.int x3)], [], hp kp nh rh tl rl I L) (none, hp kp nh rh tl rl r.1 r.2)
  | 0, w1, w2, x3, I, L, r, hf => by cases hf
  | m + 1, w1, w2, x3, I, L, r, hf => by
    unfold c_106_2_0 b_106_2_0 at hf
    have hK0 := tc_106_2_0 Ls xs d kp tl rl nh rh n m
    refine bs_st 2 (x' := (20, [some (.ref 85), w1, w2, some (.int x3)], [.int (60 : Int32), .int x3], hp kp nh rh tl rl I L)) rfl ?_
    refine bs_br (t := 36) (e := 23) (lo := [some (.ref 85), w1, w2, some (.int x3)]) (st := []) (h := hp kp nh rh tl rl I L) rfl hf (fun hc hf => ?_) (fun hc hf => ?_)
    · cases hf
      exact bs_ret rfl
    · refine bs_st 4 (x' := (29, [some (.ref 85), w1, w2, some (.int x3)], [.long (0 : Int64), .int x3, .ref 86], hp kp nh rh tl rl I L)) rfl ?_
      refine bs_gd (x' := (30, [some (.ref 85), w1, w2, some (.int x3)], [], hp kp nh rh tl rl I (u2 L 86 x3.toNatClampNeg (0 : Int64)))) rfl hf (fun hc hf => ?_)
      refine bs_st 2 (x' := (17, [some (.ref 85), w1, (pcl w2), some (.int (x3 + (1 : Int32)))], [], hp kp nh rh tl rl I (u2 L 86 x3.toNatClampNeg (0 : Int64)))) rfl ?_
      exact hK0 w1 (pcl w2) (x3 + (1 : Int32)) I (u2 L 86 x3.toNatClampNeg (0 : Int64)) r hf
def f_106_2 (n : Nat) (x1 : Int32) (x2 : Int32) (I : FI) (L : FL) : Option (FI × FL) :=
  c_106_2_0 n n (0 : Int32) (u2 (u2 (u2 I 85 1 x1) 85 2 x2) 85 3 (1 : Int32)) L
set_option maxHeartbeats 1000000 in
set_option maxRecDepth 20000 in
theorem t_106_2 (Ls : Nat) (xs : Nat → Int32) (d : Nat) (kp : Option Nat) (tl : List (Nat × Nat)) (rl : List (List (Option Nat))) (nh : Option Nat) (rh : Option Nat) (n : Nat) (x1 : Int32) (x2 : Int32) (I : FI) (L : FL) (r : FI × FL) (hf : f_106_2 n x1 x2 I L = some r) : pEN Ls xs (d + 1) 106 [.ref 85, .int x1, .int x2] (hp kp nh rh tl rl I L) = some (none, hp kp nh rh tl rl r.1 r.2) := by
  refine en_run (d := d + 0) (cd := cd_106) (f := (sf 9 rs_9 false 4 none Ls xs (d + 0))) rfl rfl (x := (0, [some (.ref 85), some (.int x1), some (.int x2), none], [], hp kp nh rh tl rl I L)) rfl rfl (Nat.le_of_ble_eq_true rfl) ?_
  unfold f_106_2 at hf
  refine bs_st 11 (x' := (17, [some (.ref 85), some (.int x1), some (.int x2), some (.int (0 : Int32))], [], hp kp nh rh tl rl (u2 (u2 (u2 I 85 1 x1) 85 2 x2) 85 3 (1 : Int32)) L)) rfl ?_
  exact tc_106_2_0 Ls xs d kp tl rl nh rh n n (some (.int x1)) (some (.int x2)) (0 : Int32) (u2 (u2 (u2 I 85 1 x1) 85 2 x2) 85 3 (1 : Int32)) L r hf
/-- Row.clear(II) on (87,) -/
def b_106_3_0 (n : Nat) (K0 : Int32 → FI → FL → Option (FI × FL)) (x3 : Int32) (I : FI) (L : FL) : Option (FI × FL) :=
  if (60 : Int32) ≤ x3 then
    some (I, L)
  else
    if pin x3 60 = true then K0 (x3 + (1 : Int32)) I (u2 L 88 x3.toNatClampNeg (0 : Int64)) else none
def c_106_3_0 (n : Nat) : Nat → Int32 → FI → FL → Option (FI × FL)
  | 0, _, _, _ => none
  | m + 1, x3, I, L => b_106_3_0 n (c_106_3_0 n m) x3 I L
set_option maxHeartbeats 1000000 in
set_option maxRecDepth 20000 in
theorem tc_106_3_0 (Ls : Nat) (xs : Nat → Int32) (d : Nat) (kp : Option Nat) (tl : List (Nat × Nat)) (rl : List (List (Option Nat))) (nh : Option Nat) (rh : Option Nat) (n : Nat) : ∀ (m : Nat) (w1 : Option Value) (w2 : Option Value) (x3 : Int32) (I : FI) (L : FL) (r : FI × FL), c_106_3_0 n m x3 I L = some r → Bs cd_106 (sf 9 rs_9 false 4 none Ls xs (d + 0)) (17, [some (.ref 87), w1, w2, some (.int x3)], [], hp kp nh rh tl rl I L) (none, hp kp nh rh tl rl r.1 r.2)
  | 0, w1, w2, x3, I, L, r, hf => by cases hf
  | m + 1, w1, w2, x3, I, L, r, hf => by
    unfold c_106_3_0 b_106_3_0 at hf
    have hK0 := tc_106_3_0 Ls xs d kp tl rl nh rh n m
    refine bs_st 2 (x' := (20, [some (.ref 87), w1, w2, some (.int x3)], [.int (60 : Int32), .int x3], hp kp nh rh tl rl I L)) rfl ?_
    refine bs_br (t := 36) (e := 23) (lo := [some (.ref 87), w1, w2, some (.int x3)]) (st := []) (h := hp kp nh rh tl rl I L) rfl hf (fun hc hf => ?_) (fun hc hf => ?_)
    · cases hf
      exact bs_ret rfl
    · refine bs_st 4 (x' := (29, [some (.ref 87), w1, w2, some (.int x3)], [.long (0 : Int64), .int x3, .ref 88], hp kp nh rh tl rl I L)) rfl ?_
      refine bs_gd (x' := (30, [some (.ref 87), w1, w2, some (.int x3)], [], hp kp nh rh tl rl I (u2 L 88 x3.toNatClampNeg (0 : Int64)))) rfl hf (fun hc hf => ?_)
      refine bs_st 2 (x' := (17, [some (.ref 87), w1, (pcl w2), some (.int (x3 + (1 : Int32)))], [], hp kp nh rh tl rl I (u2 L 88 x3.toNatClampNeg (0 : Int64)))) rfl ?_
      exact hK0 w1 (pcl w2) (x3 + (1 : Int32)) I (u2 L 88 x3.toNatClampNeg (0 : Int64)) r hf
def f_106_3 (n : Nat) (x1 : Int32) (x2 : Int32) (I : FI) (L : FL) : Option (FI × FL) :=
  c_106_3_0 n n (0 : Int32) (u2 (u2 (u2 I 87 1 x1) 87 2 x2) 87 3 (1 : Int32)) L
set_option maxHeartbeats 1000000 in
set_option maxRecDepth 20000 in
theorem t_106_3 (Ls : Nat) (xs : Nat → Int32) (d : Nat) (kp : Option Nat) (tl : List (Nat × Nat)) (rl : List (List (Option Nat))) (nh : Option Nat) (rh : Option Nat) (n : Nat) (x1 : Int32) (x2 : Int32) (I : FI) (L : FL) (r : FI × FL) (hf : f_106_3 n x1 x2 I L = some r) : pEN Ls xs (d + 1) 106 [.ref 87, .int x1, .int x2] (hp kp nh rh tl rl I L) = some (none, hp kp nh rh tl rl r.1 r.2) := by
  refine en_run (d := d + 0) (cd := cd_106) (f := (sf 9 rs_9 false 4 none Ls xs (d + 0))) rfl rfl (x := (0, [some (.ref 87), some (.int x1), some (.int x2), none], [], hp kp nh rh tl rl I L)) rfl rfl (Nat.le_of_ble_eq_true rfl) ?_
  unfold f_106_3 at hf
  refine bs_st 11 (x' := (17, [some (.ref 87), some (.int x1), some (.int x2), some (.int (0 : Int32))], [], hp kp nh rh tl rl (u2 (u2 (u2 I 87 1 x1) 87 2 x2) 87 3 (1 : Int32)) L)) rfl ?_
  exact tc_106_3_0 Ls xs d kp tl rl nh rh n n (some (.int x1)) (some (.int x2)) (0 : Int32) (u2 (u2 (u2 I 87 1 x1) 87 2 x2) 87 3 (1 : Int32)) L r hf
/-- LampRounds.row(III) on (0,) -/
def f_174 (n : Nat) (x1 : Int32) (x2 : Int32) (x3 : Int32) (I : FI) (L : FL) : Option (Int32 × FI × FL) :=
  (f_184 x1 I L).bind fun q0 =>
  if q0 = 0 then
    some ((-2 : Int32), I, L)
  else
    if x2 < 0 then
      some ((-2 : Int32), I, L)
    else
      if (3 : Int32) < x2 then
        some ((-2 : Int32), I, L)
      else
        if x3 ≤ (60 : Int32) then
          if 0 ≤ x3 then
            if x1 = 0 then ((f_106 n x2 x3 I L).bind fun q1 =>
              some ((0 : Int32), q1.1, q1.2)) else if x1 = 1 then ((f_106_1 n x2 x3 I L).bind fun q2 =>
              some ((0 : Int32), q2.1, q2.2)) else if x1 = 2 then ((f_106_2 n x2 x3 I L).bind fun q3 =>
              some ((0 : Int32), q3.1, q3.2)) else if x1 = 3 then ((f_106_3 n x2 x3 I L).bind fun q4 =>
              some ((0 : Int32), q4.1, q4.2)) else none
          else
            some ((-3 : Int32), I, L)
        else
          some ((-2 : Int32), I, L)
set_option maxHeartbeats 1000000 in
set_option maxRecDepth 20000 in
theorem t_174 (Ls : Nat) (xs : Nat → Int32) (d : Nat) (kp : Option Nat) (tl : List (Nat × Nat)) (rl : List (List (Option Nat))) (nh : Option Nat) (rh : Option Nat) (n : Nat) (x1 : Int32) (x2 : Int32) (x3 : Int32) (I : FI) (L : FL) (r : Int32 × FI × FL) (hf : f_174 n x1 x2 x3 I L = some r) : pEN Ls xs (d + 2) 174 [.ref 0, .int x1, .int x2, .int x3] (hp kp nh rh tl rl I L) = some (some (.int r.1), hp kp nh rh tl rl r.2.1 r.2.2) := by
  refine en_run (d := d + 1) (cd := cd_174) (f := (sf 11 rs_11 false 4 (some (.int)) Ls xs (d + 1))) rfl rfl (x := (0, [some (.ref 0), some (.int x1), some (.int x2), some (.int x3)], [], hp kp nh rh tl rl I L)) rfl rfl (Nat.le_of_ble_eq_true rfl) ?_
  unfold f_174 at hf
  refine bs_st 1 (x' := (1, [some (.ref 0), some (.int x1), some (.int x2), some (.int x3)], [.int x1], hp kp nh rh tl rl I L)) rfl ?_
  obtain ⟨q0, hq0, hf⟩ := Option.bind_eq_some_iff.mp hf
  refine bs_call (o := pEN Ls xs (d + 1) 184 [.int x1] (hp kp nh rh tl rl I L)) (w := some (.int q0)) (h' := hp kp nh rh tl rl I L) (pc := 4) (lo := [some (.ref 0), some (.int x1), some (.int x2), some (.int x3)]) (rest := []) rfl (t_184 Ls xs (d + 0) kp tl rl nh rh x1 I L q0 hq0) ?_
  refine bs_br (t := 22) (e := 7) (lo := [some (.ref 0), some (.int x1), some (.int x2), some (.int x3)]) (st := []) (h := hp kp nh rh tl rl I L) rfl hf (fun hc hf => ?_) (fun hc hf => ?_)
  · refine bs_st 1 (x' := (24, [some (.ref 0), some (.int x1), some (.int x2), some (.int x3)], [.int (-2 : Int32)], hp kp nh rh tl rl I L)) rfl ?_
    cases hf
    exact bs_ret rfl
  · refine bs_st 1 (x' := (8, [some (.ref 0), some (.int x1), some (.int x2), some (.int x3)], [.int x2], hp kp nh rh tl rl I L)) rfl ?_
    refine bs_br (t := 22) (e := 11) (lo := [some (.ref 0), some (.int x1), some (.int x2), some (.int x3)]) (st := []) (h := hp kp nh rh tl rl I L) rfl hf (fun hc hf => ?_) (fun hc hf => ?_)
    · refine bs_st 1 (x' := (24, [some (.ref 0), some (.int x1), some (.int x2), some (.int x3)], [.int (-2 : Int32)], hp kp nh rh tl rl I L)) rfl ?_
      cases hf
      exact bs_ret rfl
    · refine bs_st 2 (x' := (13, [some (.ref 0), some (.int x1), some (.int x2), some (.int x3)], [.int (3 : Int32), .int x2], hp kp nh rh tl rl I L)) rfl ?_
      refine bs_br (t := 22) (e := 16) (lo := [some (.ref 0), some (.int x1), some (.int x2), some (.int x3)]) (st := []) (h := hp kp nh rh tl rl I L) rfl hf (fun hc hf => ?_) (fun hc hf => ?_)
      · refine bs_st 1 (x' := (24, [some (.ref 0), some (.int x1), some (.int x2), some (.int x3)], [.int (-2 : Int32)], hp kp nh rh tl rl I L)) rfl ?_
        cases hf
        exact bs_ret rfl
      · refine bs_st 2 (x' := (19, [some (.ref 0), some (.int x1), some (.int x2), some (.int x3)], [.int (60 : Int32), .int x3], hp kp nh rh tl rl I L)) rfl ?_
        refine bs_br (t := 25) (e := 22) (lo := [some (.ref 0), some (.int x1), some (.int x2), some (.int x3)]) (st := []) (h := hp kp nh rh tl rl I L) rfl hf (fun hc hf => ?_) (fun hc hf => ?_)
        · refine bs_st 1 (x' := (26, [some (.ref 0), some (.int x1), some (.int x2), some (.int x3)], [.int x3], hp kp nh rh tl rl I L)) rfl ?_
          refine bs_br (t := 32) (e := 29) (lo := [some (.ref 0), some (.int x1), some (.int x2), some (.int x3)]) (st := []) (h := hp kp nh rh tl rl I L) rfl hf (fun hc hf => ?_) (fun hc hf => ?_)
          · refine bs_st 3 (x' := (37, [some (.ref 0), some (.int x1), some (.int x2), some (.int x3)], [.int x1, .ref 44], hp kp nh rh tl rl I L)) rfl ?_
            refine bs_cs hf (fun hc hf1_0 => ?_) (fun hc hf1_0 => ?_)
            · subst hc
              refine bs_st 3 (x' := (40, [some (.ref 0), some (.int (0 : Int32)), some (.int x2), some (.int x3)], [.int x3, .int x2, .ref 81], hp kp nh rh tl rl I L)) rfl ?_
              obtain ⟨q1, hq1, hf1_0⟩ := Option.bind_eq_some_iff.mp hf1_0
              refine bs_call (o := pEN Ls xs (d + 1) 106 [.ref 81, .int x2, .int x3] (hp kp nh rh tl rl I L)) (w := none) (h' := hp kp nh rh tl rl q1.1 q1.2) (pc := 43) (lo := [some (.ref 0), some (.int (0 : Int32)), some (.int x2), some (.int x3)]) (rest := []) rfl (t_106 Ls xs (d + 0) kp tl rl nh rh n x2 x3 I L q1 hq1) ?_
              refine bs_st 1 (x' := (44, [some (.ref 0), some (.int (0 : Int32)), some (.int x2), some (.int x3)], [.int (0 : Int32)], hp kp nh rh tl rl q1.1 q1.2)) rfl ?_
              cases hf1_0
              exact bs_ret rfl
            refine bs_cs hf1_0 (fun hc hf1_1 => ?_) (fun hc hf1_1 => ?_)
            · subst hc
              refine bs_st 3 (x' := (40, [some (.ref 0), some (.int (1 : Int32)), some (.int x2), some (.int x3)], [.int x3, .int x2, .ref 83], hp kp nh rh tl rl I L)) rfl ?_
              obtain ⟨q2, hq2, hf1_1⟩ := Option.bind_eq_some_iff.mp hf1_1
              refine bs_call (o := pEN Ls xs (d + 1) 106 [.ref 83, .int x2, .int x3] (hp kp nh rh tl rl I L)) (w := none) (h' := hp kp nh rh tl rl q2.1 q2.2) (pc := 43) (lo := [some (.ref 0), some (.int (1 : Int32)), some (.int x2), some (.int x3)]) (rest := []) rfl (t_106_1 Ls xs (d + 0) kp tl rl nh rh n x2 x3 I L q2 hq2) ?_
              refine bs_st 1 (x' := (44, [some (.ref 0), some (.int (1 : Int32)), some (.int x2), some (.int x3)], [.int (0 : Int32)], hp kp nh rh tl rl q2.1 q2.2)) rfl ?_
              cases hf1_1
              exact bs_ret rfl
            refine bs_cs hf1_1 (fun hc hf1_2 => ?_) (fun hc hf1_2 => ?_)
            · subst hc
              refine bs_st 3 (x' := (40, [some (.ref 0), some (.int (2 : Int32)), some (.int x2), some (.int x3)], [.int x3, .int x2, .ref 85], hp kp nh rh tl rl I L)) rfl ?_
              obtain ⟨q3, hq3, hf1_2⟩ := Option.bind_eq_some_iff.mp hf1_2
              refine bs_call (o := pEN Ls xs (d + 1) 106 [.ref 85, .int x2, .int x3] (hp kp nh rh tl rl I L)) (w := none) (h' := hp kp nh rh tl rl q3.1 q3.2) (pc := 43) (lo := [some (.ref 0), some (.int (2 : Int32)), some (.int x2), some (.int x3)]) (rest := []) rfl (t_106_2 Ls xs (d + 0) kp tl rl nh rh n x2 x3 I L q3 hq3) ?_
              refine bs_st 1 (x' := (44, [some (.ref 0), some (.int (2 : Int32)), some (.int x2), some (.int x3)], [.int (0 : Int32)], hp kp nh rh tl rl q3.1 q3.2)) rfl ?_
              cases hf1_2
              exact bs_ret rfl
            refine bs_cs hf1_2 (fun hc hf1_3 => ?_) (fun hc hf1_3 => ?_)
            · subst hc
              refine bs_st 3 (x' := (40, [some (.ref 0), some (.int (3 : Int32)), some (.int x2), some (.int x3)], [.int x3, .int x2, .ref 87], hp kp nh rh tl rl I L)) rfl ?_
              obtain ⟨q4, hq4, hf1_3⟩ := Option.bind_eq_some_iff.mp hf1_3
              refine bs_call (o := pEN Ls xs (d + 1) 106 [.ref 87, .int x2, .int x3] (hp kp nh rh tl rl I L)) (w := none) (h' := hp kp nh rh tl rl q4.1 q4.2) (pc := 43) (lo := [some (.ref 0), some (.int (3 : Int32)), some (.int x2), some (.int x3)]) (rest := []) rfl (t_106_3 Ls xs (d + 0) kp tl rl nh rh n x2 x3 I L q4 hq4) ?_
              refine bs_st 1 (x' := (44, [some (.ref 0), some (.int (3 : Int32)), some (.int x2), some (.int x3)], [.int (0 : Int32)], hp kp nh rh tl rl q4.1 q4.2)) rfl ?_
              cases hf1_3
              exact bs_ret rfl
            cases hf1_3
          · refine bs_st 1 (x' := (31, [some (.ref 0), some (.int x1), some (.int x2), some (.int x3)], [.int (-3 : Int32)], hp kp nh rh tl rl I L)) rfl ?_
            cases hf
            exact bs_ret rfl
        · refine bs_st 1 (x' := (24, [some (.ref 0), some (.int x1), some (.int x2), some (.int x3)], [.int (-2 : Int32)], hp kp nh rh tl rl I L)) rfl ?_
          cases hf
          exact bs_ret rfl
/-- Row.cut(J) on (81,) -/
def f_107 (y1 : Int64) (I : FI) (L : FL) : Option (Int64) :=
  if (I 81 1).toInt < 0 ∨ 2 < (I 81 1).toInt then some (y1) else if I 81 1 = (0 : Int32) then some (y1.toInt32.toInt8.toInt32.toInt64) else if I 81 1 = (1 : Int32) then some (y1.toInt32.toInt16.toInt32.toInt64) else if I 81 1 = (2 : Int32) then some (y1.toInt32.toInt64) else none
set_option maxHeartbeats 1000000 in
set_option maxRecDepth 20000 in
theorem t_107 (Ls : Nat) (xs : Nat → Int32) (d : Nat) (kp : Option Nat) (tl : List (Nat × Nat)) (rl : List (List (Option Nat))) (nh : Option Nat) (rh : Option Nat) (y1 : Int64) (I : FI) (L : FL) (r : Int64) (hf : f_107 y1 I L = some r) : pEN Ls xs (d + 1) 107 [.ref 81, .long y1] (hp kp nh rh tl rl I L) = some (some (.long r), hp kp nh rh tl rl I L) := by
  refine en_run (d := d + 0) (cd := cd_107) (f := (sf 9 rs_9 false 3 (some (.long)) Ls xs (d + 0))) rfl rfl (x := (0, [some (.ref 81), some (.long y1), none], [], hp kp nh rh tl rl I L)) rfl rfl (Nat.le_of_ble_eq_true rfl) ?_
  unfold f_107 at hf
  refine bs_st 2 (x' := (4, [some (.ref 81), some (.long y1), none], [.int (I 81 1)], hp kp nh rh tl rl I L)) rfl ?_
  refine bs_sw (x' := (46, [some (.ref 81), some (.long y1), none], [], hp kp nh rh tl rl I L)) rfl hf (fun hc hf => ?_) (fun hc hf => ?_)
  · refine bs_st 1 (x' := (47, [some (.ref 81), some (.long y1), none], [.long y1], hp kp nh rh tl rl I L)) rfl ?_
    cases hf
    exact bs_ret rfl
  refine bs_cs hf (fun hc hf => ?_) (fun hc0 hf => ?_)
  · refine bs_val hc (x' := (32, [some (.ref 81), some (.long y1), none], [], hp kp nh rh tl rl I L)) rfl ?_
    refine bs_st 4 (x' := (36, [some (.ref 81), some (.long y1), none], [.long y1.toInt32.toInt8.toInt32.toInt64], hp kp nh rh tl rl I L)) rfl ?_
    cases hf
    exact bs_ret rfl
  refine bs_cs hf (fun hc hf => ?_) (fun hc1 hf => ?_)
  · refine bs_val hc (x' := (37, [some (.ref 81), some (.long y1), none], [], hp kp nh rh tl rl I L)) rfl ?_
    refine bs_st 4 (x' := (41, [some (.ref 81), some (.long y1), none], [.long y1.toInt32.toInt16.toInt32.toInt64], hp kp nh rh tl rl I L)) rfl ?_
    cases hf
    exact bs_ret rfl
  refine bs_cs hf (fun hc hf => ?_) (fun hc2 hf => ?_)
  · refine bs_val hc (x' := (42, [some (.ref 81), some (.long y1), none], [], hp kp nh rh tl rl I L)) rfl ?_
    refine bs_st 3 (x' := (45, [some (.ref 81), some (.long y1), none], [.long y1.toInt32.toInt64], hp kp nh rh tl rl I L)) rfl ?_
    cases hf
    exact bs_ret rfl
  cases hf
/-- Row.cut(J) on (83,) -/
def f_107_1 (y1 : Int64) (I : FI) (L : FL) : Option (Int64) :=
  if (I 83 1).toInt < 0 ∨ 2 < (I 83 1).toInt then some (y1) else if I 83 1 = (0 : Int32) then some (y1.toInt32.toInt8.toInt32.toInt64) else if I 83 1 = (1 : Int32) then some (y1.toInt32.toInt16.toInt32.toInt64) else if I 83 1 = (2 : Int32) then some (y1.toInt32.toInt64) else none
set_option maxHeartbeats 1000000 in
set_option maxRecDepth 20000 in
theorem t_107_1 (Ls : Nat) (xs : Nat → Int32) (d : Nat) (kp : Option Nat) (tl : List (Nat × Nat)) (rl : List (List (Option Nat))) (nh : Option Nat) (rh : Option Nat) (y1 : Int64) (I : FI) (L : FL) (r : Int64) (hf : f_107_1 y1 I L = some r) : pEN Ls xs (d + 1) 107 [.ref 83, .long y1] (hp kp nh rh tl rl I L) = some (some (.long r), hp kp nh rh tl rl I L) := by
  refine en_run (d := d + 0) (cd := cd_107) (f := (sf 9 rs_9 false 3 (some (.long)) Ls xs (d + 0))) rfl rfl (x := (0, [some (.ref 83), some (.long y1), none], [], hp kp nh rh tl rl I L)) rfl rfl (Nat.le_of_ble_eq_true rfl) ?_
  unfold f_107_1 at hf
  refine bs_st 2 (x' := (4, [some (.ref 83), some (.long y1), none], [.int (I 83 1)], hp kp nh rh tl rl I L)) rfl ?_
  refine bs_sw (x' := (46, [some (.ref 83), some (.long y1), none], [], hp kp nh rh tl rl I L)) rfl hf (fun hc hf => ?_) (fun hc hf => ?_)
  · refine bs_st 1 (x' := (47, [some (.ref 83), some (.long y1), none], [.long y1], hp kp nh rh tl rl I L)) rfl ?_
    cases hf
    exact bs_ret rfl
  refine bs_cs hf (fun hc hf => ?_) (fun hc0 hf => ?_)
  · refine bs_val hc (x' := (32, [some (.ref 83), some (.long y1), none], [], hp kp nh rh tl rl I L)) rfl ?_
    refine bs_st 4 (x' := (36, [some (.ref 83), some (.long y1), none], [.long y1.toInt32.toInt8.toInt32.toInt64], hp kp nh rh tl rl I L)) rfl ?_
    cases hf
    exact bs_ret rfl
  refine bs_cs hf (fun hc hf => ?_) (fun hc1 hf => ?_)
  · refine bs_val hc (x' := (37, [some (.ref 83), some (.long y1), none], [], hp kp nh rh tl rl I L)) rfl ?_
    refine bs_st 4 (x' := (41, [some (.ref 83), some (.long y1), none], [.long y1.toInt32.toInt16.toInt32.toInt64], hp kp nh rh tl rl I L)) rfl ?_
    cases hf
    exact bs_ret rfl
  refine bs_cs hf (fun hc hf => ?_) (fun hc2 hf => ?_)
  · refine bs_val hc (x' := (42, [some (.ref 83), some (.long y1), none], [], hp kp nh rh tl rl I L)) rfl ?_
    refine bs_st 3 (x' := (45, [some (.ref 83), some (.long y1), none], [.long y1.toInt32.toInt64], hp kp nh rh tl rl I L)) rfl ?_
    cases hf
    exact bs_ret rfl
  cases hf
/-- Row.cut(J) on (85,) -/
def f_107_2 (y1 : Int64) (I : FI) (L : FL) : Option (Int64) :=
  if (I 85 1).toInt < 0 ∨ 2 < (I 85 1).toInt then some (y1) else if I 85 1 = (0 : Int32) then some (y1.toInt32.toInt8.toInt32.toInt64) else if I 85 1 = (1 : Int32) then some (y1.toInt32.toInt16.toInt32.toInt64) else if I 85 1 = (2 : Int32) then some (y1.toInt32.toInt64) else none
set_option maxHeartbeats 1000000 in
set_option maxRecDepth 20000 in
theorem t_107_2 (Ls : Nat) (xs : Nat → Int32) (d : Nat) (kp : Option Nat) (tl : List (Nat × Nat)) (rl : List (List (Option Nat))) (nh : Option Nat) (rh : Option Nat) (y1 : Int64) (I : FI) (L : FL) (r : Int64) (hf : f_107_2 y1 I L = some r) : pEN Ls xs (d + 1) 107 [.ref 85, .long y1] (hp kp nh rh tl rl I L) = some (some (.long r), hp kp nh rh tl rl I L) := by
  refine en_run (d := d + 0) (cd := cd_107) (f := (sf 9 rs_9 false 3 (some (.long)) Ls xs (d + 0))) rfl rfl (x := (0, [some (.ref 85), some (.long y1), none], [], hp kp nh rh tl rl I L)) rfl rfl (Nat.le_of_ble_eq_true rfl) ?_
  unfold f_107_2 at hf
  refine bs_st 2 (x' := (4, [some (.ref 85), some (.long y1), none], [.int (I 85 1)], hp kp nh rh tl rl I L)) rfl ?_
  refine bs_sw (x' := (46, [some (.ref 85), some (.long y1), none], [], hp kp nh rh tl rl I L)) rfl hf (fun hc hf => ?_) (fun hc hf => ?_)
  · refine bs_st 1 (x' := (47, [some (.ref 85), some (.long y1), none], [.long y1], hp kp nh rh tl rl I L)) rfl ?_
    cases hf
    exact bs_ret rfl
  refine bs_cs hf (fun hc hf => ?_) (fun hc0 hf => ?_)
  · refine bs_val hc (x' := (32, [some (.ref 85), some (.long y1), none], [], hp kp nh rh tl rl I L)) rfl ?_
    refine bs_st 4 (x' := (36, [some (.ref 85), some (.long y1), none], [.long y1.toInt32.toInt8.toInt32.toInt64], hp kp nh rh tl rl I L)) rfl ?_
    cases hf
    exact bs_ret rfl
  refine bs_cs hf (fun hc hf => ?_) (fun hc1 hf => ?_)
  · refine bs_val hc (x' := (37, [some (.ref 85), some (.long y1), none], [], hp kp nh rh tl rl I L)) rfl ?_
    refine bs_st 4 (x' := (41, [some (.ref 85), some (.long y1), none], [.long y1.toInt32.toInt16.toInt32.toInt64], hp kp nh rh tl rl I L)) rfl ?_
    cases hf
    exact bs_ret rfl
  refine bs_cs hf (fun hc hf => ?_) (fun hc2 hf => ?_)
  · refine bs_val hc (x' := (42, [some (.ref 85), some (.long y1), none], [], hp kp nh rh tl rl I L)) rfl ?_
    refine bs_st 3 (x' := (45, [some (.ref 85), some (.long y1), none], [.long y1.toInt32.toInt64], hp kp nh rh tl rl I L)) rfl ?_
    cases hf
    exact bs_ret rfl
  cases hf
/-- Row.cut(J) on (87,) -/
def f_107_3 (y1 : Int64) (I : FI) (L : FL) : Option (Int64) :=
  if (I 87 1).toInt < 0 ∨ 2 < (I 87 1).toInt then some (y1) else if I 87 1 = (0 : Int32) then some (y1.toInt32.toInt8.toInt32.toInt64) else if I 87 1 = (1 : Int32) then some (y1.toInt32.toInt16.toInt32.toInt64) else if I 87 1 = (2 : Int32) then some (y1.toInt32.toInt64) else none
set_option maxHeartbeats 1000000 in
set_option maxRecDepth 20000 in
theorem t_107_3 (Ls : Nat) (xs : Nat → Int32) (d : Nat) (kp : Option Nat) (tl : List (Nat × Nat)) (rl : List (List (Option Nat))) (nh : Option Nat) (rh : Option Nat) (y1 : Int64) (I : FI) (L : FL) (r : Int64) (hf : f_107_3 y1 I L = some r) : pEN Ls xs (d + 1) 107 [.ref 87, .long y1] (hp kp nh rh tl rl I L) = some (some (.long r), hp kp nh rh tl rl I L) := by
  refine en_run (d := d + 0) (cd := cd_107) (f := (sf 9 rs_9 false 3 (some (.long)) Ls xs (d + 0))) rfl rfl (x := (0, [some (.ref 87), some (.long y1), none], [], hp kp nh rh tl rl I L)) rfl rfl (Nat.le_of_ble_eq_true rfl) ?_
  unfold f_107_3 at hf
  refine bs_st 2 (x' := (4, [some (.ref 87), some (.long y1), none], [.int (I 87 1)], hp kp nh rh tl rl I L)) rfl ?_
  refine bs_sw (x' := (46, [some (.ref 87), some (.long y1), none], [], hp kp nh rh tl rl I L)) rfl hf (fun hc hf => ?_) (fun hc hf => ?_)
  · refine bs_st 1 (x' := (47, [some (.ref 87), some (.long y1), none], [.long y1], hp kp nh rh tl rl I L)) rfl ?_
    cases hf
    exact bs_ret rfl
  refine bs_cs hf (fun hc hf => ?_) (fun hc0 hf => ?_)
  · refine bs_val hc (x' := (32, [some (.ref 87), some (.long y1), none], [], hp kp nh rh tl rl I L)) rfl ?_
    refine bs_st 4 (x' := (36, [some (.ref 87), some (.long y1), none], [.long y1.toInt32.toInt8.toInt32.toInt64], hp kp nh rh tl rl I L)) rfl ?_
    cases hf
    exact bs_ret rfl
  refine bs_cs hf (fun hc hf => ?_) (fun hc1 hf => ?_)
  · refine bs_val hc (x' := (37, [some (.ref 87), some (.long y1), none], [], hp kp nh rh tl rl I L)) rfl ?_
    refine bs_st 4 (x' := (41, [some (.ref 87), some (.long y1), none], [.long y1.toInt32.toInt16.toInt32.toInt64], hp kp nh rh tl rl I L)) rfl ?_
    cases hf
    exact bs_ret rfl
  refine bs_cs hf (fun hc hf => ?_) (fun hc2 hf => ?_)
  · refine bs_val hc (x' := (42, [some (.ref 87), some (.long y1), none], [], hp kp nh rh tl rl I L)) rfl ?_
    refine bs_st 3 (x' := (45, [some (.ref 87), some (.long y1), none], [.long y1.toInt32.toInt64], hp kp nh rh tl rl I L)) rfl ?_
    cases hf
    exact bs_ret rfl
  cases hf
/-- LampRounds.write(IIJ) on (0,) -/
def f_175 (x1 : Int32) (x2 : Int32) (y3 : Int64) (I : FI) (L : FL) : Option (Int32 × FI × FL) :=
  (f_184 x1 I L).bind fun q0 =>
  if ¬ q0 = 0 then
    if x1 = 0 then (if ¬ I 81 3 = 0 then
        if x2 < 0 then
          some ((-7 : Int32), I, L)
        else
          if x2 < I 81 2 then
            (f_107 y3 I L).bind fun q1 =>
            if pin x2 60 = true then some ((0 : Int32), I, (u2 L 82 x2.toNatClampNeg q1)) else none
          else
            some ((-7 : Int32), I, L)
      else
        some ((-6 : Int32), I, L)) else if x1 = 1 then (if ¬ I 83 3 = 0 then
        if x2 < 0 then
          some ((-7 : Int32), I, L)
        else
          if x2 < I 83 2 then
            (f_107_1 y3 I L).bind fun q2 =>
            if pin x2 60 = true then some ((0 : Int32), I, (u2 L 84 x2.toNatClampNeg q2)) else none
          else
            some ((-7 : Int32), I, L)
      else
        some ((-6 : Int32), I, L)) else if x1 = 2 then (if ¬ I 85 3 = 0 then
        if x2 < 0 then
          some ((-7 : Int32), I, L)
        else
          if x2 < I 85 2 then
            (f_107_2 y3 I L).bind fun q3 =>
            if pin x2 60 = true then some ((0 : Int32), I, (u2 L 86 x2.toNatClampNeg q3)) else none
          else
            some ((-7 : Int32), I, L)
      else
        some ((-6 : Int32), I, L)) else if x1 = 3 then (if ¬ I 87 3 = 0 then
        if x2 < 0 then
          some ((-7 : Int32), I, L)
        else
          if x2 < I 87 2 then
            (f_107_3 y3 I L).bind fun q4 =>
            if pin x2 60 = true then some ((0 : Int32), I, (u2 L 88 x2.toNatClampNeg q4)) else none
          else
            some ((-7 : Int32), I, L)
      else
        some ((-6 : Int32), I, L)) else none
  else
    some ((-2 : Int32), I, L)
set_option maxHeartbeats 1000000 in
set_option maxRecDepth 20000 in
theorem t_175 (Ls : Nat) (xs : Nat → Int32) (d : Nat) (kp : Option Nat) (tl : List (Nat × Nat)) (rl : List (List (Option Nat))) (nh : Option Nat) (rh : Option Nat) (x1 : Int32) (x2 : Int32) (y3 : Int64) (I : FI) (L : FL) (r : Int32 × FI × FL) (hf : f_175 x1 x2 y3 I L = some r) : pEN Ls xs (d + 2) 175 [.ref 0, .int x1, .int x2, .long y3] (hp kp nh rh tl rl I L) = some (some (.int r.1), hp kp nh rh tl rl r.2.1 r.2.2) := by
  refine en_run (d := d + 1) (cd := cd_175) (f := (sf 11 rs_11 false 6 (some (.int)) Ls xs (d + 1))) rfl rfl (x := (0, [some (.ref 0), some (.int x1), some (.int x2), some (.long y3), none, none], [], hp kp nh rh tl rl I L)) rfl rfl (Nat.le_of_ble_eq_true rfl) ?_
  unfold f_175 at hf
  refine bs_st 1 (x' := (1, [some (.ref 0), some (.int x1), some (.int x2), some (.long y3), none, none], [.int x1], hp kp nh rh tl rl I L)) rfl ?_
  obtain ⟨q0, hq0, hf⟩ := Option.bind_eq_some_iff.mp hf
  refine bs_call (o := pEN Ls xs (d + 1) 184 [.int x1] (hp kp nh rh tl rl I L)) (w := some (.int q0)) (h' := hp kp nh rh tl rl I L) (pc := 4) (lo := [some (.ref 0), some (.int x1), some (.int x2), some (.long y3), none, none]) (rest := []) rfl (t_184 Ls xs (d + 0) kp tl rl nh rh x1 I L q0 hq0) ?_
  refine bs_br (t := 10) (e := 7) (lo := [some (.ref 0), some (.int x1), some (.int x2), some (.long y3), none, none]) (st := []) (h := hp kp nh rh tl rl I L) rfl hf (fun hc hf => ?_) (fun hc hf => ?_)
  · refine bs_st 3 (x' := (15, [some (.ref 0), some (.int x1), some (.int x2), some (.long y3), none, none], [.int x1, .ref 44], hp kp nh rh tl rl I L)) rfl ?_
    refine bs_cs hf (fun hc hf1_0 => ?_) (fun hc hf1_0 => ?_)
    · subst hc
      refine bs_st 4 (x' := (23, [some (.ref 0), some (.int (0 : Int32)), some (.int x2), some (.long y3), none, some (.ref 81)], [.int (I 81 3)], hp kp nh rh tl rl I L)) rfl ?_
      refine bs_br (t := 29) (e := 26) (lo := [some (.ref 0), some (.int (0 : Int32)), some (.int x2), some (.long y3), none, some (.ref 81)]) (st := []) (h := hp kp nh rh tl rl I L) rfl hf1_0 (fun hc hf1_0 => ?_) (fun hc hf1_0 => ?_)
      · refine bs_st 1 (x' := (30, [some (.ref 0), some (.int (0 : Int32)), some (.int x2), some (.long y3), none, some (.ref 81)], [.int x2], hp kp nh rh tl rl I L)) rfl ?_
        refine bs_br (t := 42) (e := 33) (lo := [some (.ref 0), some (.int (0 : Int32)), some (.int x2), some (.long y3), none, some (.ref 81)]) (st := []) (h := hp kp nh rh tl rl I L) rfl hf1_0 (fun hc hf1_0 => ?_) (fun hc hf1_0 => ?_)
        · refine bs_st 1 (x' := (44, [some (.ref 0), some (.int (0 : Int32)), some (.int x2), some (.long y3), none, some (.ref 81)], [.int (-7 : Int32)], hp kp nh rh tl rl I L)) rfl ?_
          cases hf1_0
          exact bs_ret rfl
        · refine bs_st 3 (x' := (39, [some (.ref 0), some (.int (0 : Int32)), some (.int x2), some (.long y3), none, some (.ref 81)], [.int (I 81 2), .int x2], hp kp nh rh tl rl I L)) rfl ?_
          refine bs_br (t := 45) (e := 42) (lo := [some (.ref 0), some (.int (0 : Int32)), some (.int x2), some (.long y3), none, some (.ref 81)]) (st := []) (h := hp kp nh rh tl rl I L) rfl hf1_0 (fun hc hf1_0 => ?_) (fun hc hf1_0 => ?_)
          · refine bs_st 5 (x' := (54, [some (.ref 0), some (.int (0 : Int32)), some (.int x2), some (.long y3), none, some (.ref 81)], [.long y3, .ref 81, .int x2, .ref 82], hp kp nh rh tl rl I L)) rfl ?_
            obtain ⟨q1, hq1, hf1_0⟩ := Option.bind_eq_some_iff.mp hf1_0
            refine bs_call (o := pEN Ls xs (d + 1) 107 [.ref 81, .long y3] (hp kp nh rh tl rl I L)) (w := some (.long q1)) (h' := hp kp nh rh tl rl I L) (pc := 57) (lo := [some (.ref 0), some (.int (0 : Int32)), some (.int x2), some (.long y3), none, some (.ref 81)]) (rest := [.int x2, .ref 82]) rfl (t_107 Ls xs (d + 0) kp tl rl nh rh y3 I L q1 hq1) ?_
            refine bs_gd (x' := (58, [some (.ref 0), some (.int (0 : Int32)), some (.int x2), some (.long y3), none, some (.ref 81)], [], hp kp nh rh tl rl I (u2 L 82 x2.toNatClampNeg q1))) rfl hf1_0 (fun hc hf1_0 => ?_)
            refine bs_st 1 (x' := (59, [some (.ref 0), some (.int (0 : Int32)), some (.int x2), some (.long y3), none, some (.ref 81)], [.int (0 : Int32)], hp kp nh rh tl rl I (u2 L 82 x2.toNatClampNeg q1))) rfl ?_
            cases hf1_0
            exact bs_ret rfl
          · refine bs_st 1 (x' := (44, [some (.ref 0), some (.int (0 : Int32)), some (.int x2), some (.long y3), none, some (.ref 81)], [.int (-7 : Int32)], hp kp nh rh tl rl I L)) rfl ?_
            cases hf1_0
            exact bs_ret rfl
      · refine bs_st 1 (x' := (28, [some (.ref 0), some (.int (0 : Int32)), some (.int x2), some (.long y3), none, some (.ref 81)], [.int (-6 : Int32)], hp kp nh rh tl rl I L)) rfl ?_
        cases hf1_0
        exact bs_ret rfl
    refine bs_cs hf1_0 (fun hc hf1_1 => ?_) (fun hc hf1_1 => ?_)
    · subst hc
      refine bs_st 4 (x' := (23, [some (.ref 0), some (.int (1 : Int32)), some (.int x2), some (.long y3), none, some (.ref 83)], [.int (I 83 3)], hp kp nh rh tl rl I L)) rfl ?_
      refine bs_br (t := 29) (e := 26) (lo := [some (.ref 0), some (.int (1 : Int32)), some (.int x2), some (.long y3), none, some (.ref 83)]) (st := []) (h := hp kp nh rh tl rl I L) rfl hf1_1 (fun hc hf1_1 => ?_) (fun hc hf1_1 => ?_)
      · refine bs_st 1 (x' := (30, [some (.ref 0), some (.int (1 : Int32)), some (.int x2), some (.long y3), none, some (.ref 83)], [.int x2], hp kp nh rh tl rl I L)) rfl ?_
        refine bs_br (t := 42) (e := 33) (lo := [some (.ref 0), some (.int (1 : Int32)), some (.int x2), some (.long y3), none, some (.ref 83)]) (st := []) (h := hp kp nh rh tl rl I L) rfl hf1_1 (fun hc hf1_1 => ?_) (fun hc hf1_1 => ?_)
        · refine bs_st 1 (x' := (44, [some (.ref 0), some (.int (1 : Int32)), some (.int x2), some (.long y3), none, some (.ref 83)], [.int (-7 : Int32)], hp kp nh rh tl rl I L)) rfl ?_
          cases hf1_1
          exact bs_ret rfl
        · refine bs_st 3 (x' := (39, [some (.ref 0), some (.int (1 : Int32)), some (.int x2), some (.long y3), none, some (.ref 83)], [.int (I 83 2), .int x2], hp kp nh rh tl rl I L)) rfl ?_
          refine bs_br (t := 45) (e := 42) (lo := [some (.ref 0), some (.int (1 : Int32)), some (.int x2), some (.long y3), none, some (.ref 83)]) (st := []) (h := hp kp nh rh tl rl I L) rfl hf1_1 (fun hc hf1_1 => ?_) (fun hc hf1_1 => ?_)
          · refine bs_st 5 (x' := (54, [some (.ref 0), some (.int (1 : Int32)), some (.int x2), some (.long y3), none, some (.ref 83)], [.long y3, .ref 83, .int x2, .ref 84], hp kp nh rh tl rl I L)) rfl ?_
            obtain ⟨q2, hq2, hf1_1⟩ := Option.bind_eq_some_iff.mp hf1_1
            refine bs_call (o := pEN Ls xs (d + 1) 107 [.ref 83, .long y3] (hp kp nh rh tl rl I L)) (w := some (.long q2)) (h' := hp kp nh rh tl rl I L) (pc := 57) (lo := [some (.ref 0), some (.int (1 : Int32)), some (.int x2), some (.long y3), none, some (.ref 83)]) (rest := [.int x2, .ref 84]) rfl (t_107_1 Ls xs (d + 0) kp tl rl nh rh y3 I L q2 hq2) ?_
            refine bs_gd (x' := (58, [some (.ref 0), some (.int (1 : Int32)), some (.int x2), some (.long y3), none, some (.ref 83)], [], hp kp nh rh tl rl I (u2 L 84 x2.toNatClampNeg q2))) rfl hf1_1 (fun hc hf1_1 => ?_)
            refine bs_st 1 (x' := (59, [some (.ref 0), some (.int (1 : Int32)), some (.int x2), some (.long y3), none, some (.ref 83)], [.int (0 : Int32)], hp kp nh rh tl rl I (u2 L 84 x2.toNatClampNeg q2))) rfl ?_
            cases hf1_1
            exact bs_ret rfl
          · refine bs_st 1 (x' := (44, [some (.ref 0), some (.int (1 : Int32)), some (.int x2), some (.long y3), none, some (.ref 83)], [.int (-7 : Int32)], hp kp nh rh tl rl I L)) rfl ?_
            cases hf1_1
            exact bs_ret rfl
      · refine bs_st 1 (x' := (28, [some (.ref 0), some (.int (1 : Int32)), some (.int x2), some (.long y3), none, some (.ref 83)], [.int (-6 : Int32)], hp kp nh rh tl rl I L)) rfl ?_
        cases hf1_1
        exact bs_ret rfl
    refine bs_cs hf1_1 (fun hc hf1_2 => ?_) (fun hc hf1_2 => ?_)
    · subst hc
      refine bs_st 4 (x' := (23, [some (.ref 0), some (.int (2 : Int32)), some (.int x2), some (.long y3), none, some (.ref 85)], [.int (I 85 3)], hp kp nh rh tl rl I L)) rfl ?_
      refine bs_br (t := 29) (e := 26) (lo := [some (.ref 0), some (.int (2 : Int32)), some (.int x2), some (.long y3), none, some (.ref 85)]) (st := []) (h := hp kp nh rh tl rl I L) rfl hf1_2 (fun hc hf1_2 => ?_) (fun hc hf1_2 => ?_)
      · refine bs_st 1 (x' := (30, [some (.ref 0), some (.int (2 : Int32)), some (.int x2), some (.long y3), none, some (.ref 85)], [.int x2], hp kp nh rh tl rl I L)) rfl ?_
        refine bs_br (t := 42) (e := 33) (lo := [some (.ref 0), some (.int (2 : Int32)), some (.int x2), some (.long y3), none, some (.ref 85)]) (st := []) (h := hp kp nh rh tl rl I L) rfl hf1_2 (fun hc hf1_2 => ?_) (fun hc hf1_2 => ?_)
        · refine bs_st 1 (x' := (44, [some (.ref 0), some (.int (2 : Int32)), some (.int x2), some (.long y3), none, some (.ref 85)], [.int (-7 : Int32)], hp kp nh rh tl rl I L)) rfl ?_
          cases hf1_2
          exact bs_ret rfl
        · refine bs_st 3 (x' := (39, [some (.ref 0), some (.int (2 : Int32)), some (.int x2), some (.long y3), none, some (.ref 85)], [.int (I 85 2), .int x2], hp kp nh rh tl rl I L)) rfl ?_
          refine bs_br (t := 45) (e := 42) (lo := [some (.ref 0), some (.int (2 : Int32)), some (.int x2), some (.long y3), none, some (.ref 85)]) (st := []) (h := hp kp nh rh tl rl I L) rfl hf1_2 (fun hc hf1_2 => ?_) (fun hc hf1_2 => ?_)
          · refine bs_st 5 (x' := (54, [some (.ref 0), some (.int (2 : Int32)), some (.int x2), some (.long y3), none, some (.ref 85)], [.long y3, .ref 85, .int x2, .ref 86], hp kp nh rh tl rl I L)) rfl ?_
            obtain ⟨q3, hq3, hf1_2⟩ := Option.bind_eq_some_iff.mp hf1_2
            refine bs_call (o := pEN Ls xs (d + 1) 107 [.ref 85, .long y3] (hp kp nh rh tl rl I L)) (w := some (.long q3)) (h' := hp kp nh rh tl rl I L) (pc := 57) (lo := [some (.ref 0), some (.int (2 : Int32)), some (.int x2), some (.long y3), none, some (.ref 85)]) (rest := [.int x2, .ref 86]) rfl (t_107_2 Ls xs (d + 0) kp tl rl nh rh y3 I L q3 hq3) ?_
            refine bs_gd (x' := (58, [some (.ref 0), some (.int (2 : Int32)), some (.int x2), some (.long y3), none, some (.ref 85)], [], hp kp nh rh tl rl I (u2 L 86 x2.toNatClampNeg q3))) rfl hf1_2 (fun hc hf1_2 => ?_)
            refine bs_st 1 (x' := (59, [some (.ref 0), some (.int (2 : Int32)), some (.int x2), some (.long y3), none, some (.ref 85)], [.int (0 : Int32)], hp kp nh rh tl rl I (u2 L 86 x2.toNatClampNeg q3))) rfl ?_
            cases hf1_2
            exact bs_ret rfl
          · refine bs_st 1 (x' := (44, [some (.ref 0), some (.int (2 : Int32)), some (.int x2), some (.long y3), none, some (.ref 85)], [.int (-7 : Int32)], hp kp nh rh tl rl I L)) rfl ?_
            cases hf1_2
            exact bs_ret rfl
      · refine bs_st 1 (x' := (28, [some (.ref 0), some (.int (2 : Int32)), some (.int x2), some (.long y3), none, some (.ref 85)], [.int (-6 : Int32)], hp kp nh rh tl rl I L)) rfl ?_
        cases hf1_2
        exact bs_ret rfl
    refine bs_cs hf1_2 (fun hc hf1_3 => ?_) (fun hc hf1_3 => ?_)
    · subst hc
      refine bs_st 4 (x' := (23, [some (.ref 0), some (.int (3 : Int32)), some (.int x2), some (.long y3), none, some (.ref 87)], [.int (I 87 3)], hp kp nh rh tl rl I L)) rfl ?_
      refine bs_br (t := 29) (e := 26) (lo := [some (.ref 0), some (.int (3 : Int32)), some (.int x2), some (.long y3), none, some (.ref 87)]) (st := []) (h := hp kp nh rh tl rl I L) rfl hf1_3 (fun hc hf1_3 => ?_) (fun hc hf1_3 => ?_)
      · refine bs_st 1 (x' := (30, [some (.ref 0), some (.int (3 : Int32)), some (.int x2), some (.long y3), none, some (.ref 87)], [.int x2], hp kp nh rh tl rl I L)) rfl ?_
        refine bs_br (t := 42) (e := 33) (lo := [some (.ref 0), some (.int (3 : Int32)), some (.int x2), some (.long y3), none, some (.ref 87)]) (st := []) (h := hp kp nh rh tl rl I L) rfl hf1_3 (fun hc hf1_3 => ?_) (fun hc hf1_3 => ?_)
        · refine bs_st 1 (x' := (44, [some (.ref 0), some (.int (3 : Int32)), some (.int x2), some (.long y3), none, some (.ref 87)], [.int (-7 : Int32)], hp kp nh rh tl rl I L)) rfl ?_
          cases hf1_3
          exact bs_ret rfl
        · refine bs_st 3 (x' := (39, [some (.ref 0), some (.int (3 : Int32)), some (.int x2), some (.long y3), none, some (.ref 87)], [.int (I 87 2), .int x2], hp kp nh rh tl rl I L)) rfl ?_
          refine bs_br (t := 45) (e := 42) (lo := [some (.ref 0), some (.int (3 : Int32)), some (.int x2), some (.long y3), none, some (.ref 87)]) (st := []) (h := hp kp nh rh tl rl I L) rfl hf1_3 (fun hc hf1_3 => ?_) (fun hc hf1_3 => ?_)
          · refine bs_st 5 (x' := (54, [some (.ref 0), some (.int (3 : Int32)), some (.int x2), some (.long y3), none, some (.ref 87)], [.long y3, .ref 87, .int x2, .ref 88], hp kp nh rh tl rl I L)) rfl ?_
            obtain ⟨q4, hq4, hf1_3⟩ := Option.bind_eq_some_iff.mp hf1_3
            refine bs_call (o := pEN Ls xs (d + 1) 107 [.ref 87, .long y3] (hp kp nh rh tl rl I L)) (w := some (.long q4)) (h' := hp kp nh rh tl rl I L) (pc := 57) (lo := [some (.ref 0), some (.int (3 : Int32)), some (.int x2), some (.long y3), none, some (.ref 87)]) (rest := [.int x2, .ref 88]) rfl (t_107_3 Ls xs (d + 0) kp tl rl nh rh y3 I L q4 hq4) ?_
            refine bs_gd (x' := (58, [some (.ref 0), some (.int (3 : Int32)), some (.int x2), some (.long y3), none, some (.ref 87)], [], hp kp nh rh tl rl I (u2 L 88 x2.toNatClampNeg q4))) rfl hf1_3 (fun hc hf1_3 => ?_)
            refine bs_st 1 (x' := (59, [some (.ref 0), some (.int (3 : Int32)), some (.int x2), some (.long y3), none, some (.ref 87)], [.int (0 : Int32)], hp kp nh rh tl rl I (u2 L 88 x2.toNatClampNeg q4))) rfl ?_
            cases hf1_3
            exact bs_ret rfl
          · refine bs_st 1 (x' := (44, [some (.ref 0), some (.int (3 : Int32)), some (.int x2), some (.long y3), none, some (.ref 87)], [.int (-7 : Int32)], hp kp nh rh tl rl I L)) rfl ?_
            cases hf1_3
            exact bs_ret rfl
      · refine bs_st 1 (x' := (28, [some (.ref 0), some (.int (3 : Int32)), some (.int x2), some (.long y3), none, some (.ref 87)], [.int (-6 : Int32)], hp kp nh rh tl rl I L)) rfl ?_
        cases hf1_3
        exact bs_ret rfl
    cases hf1_3
  · refine bs_st 1 (x' := (9, [some (.ref 0), some (.int x1), some (.int x2), some (.long y3), none, none], [.int (-2 : Int32)], hp kp nh rh tl rl I L)) rfl ?_
    cases hf
    exact bs_ret rfl
