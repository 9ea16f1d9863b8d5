/-- Clues.add(ILLampRounds$Night;) on (33, 26) -/
def b_10_0 (n : Nat) (K0 : Int32 → Int32 → FI → FL → Option (FI × FL)) (x1 : Int32) (x3 : Int32) (I : FI) (L : FL) : Option (FI × FL) :=
  if ((I 33 5) * (4 : Int32)) ≤ x3 then
    some (I, L)
  else
    if pin x3 120 = true then (if pin ((x1 * (120 : Int32)) + x3) 1440 = true then K0 x1 (x3 + (1 : Int32)) (u2 I 34 (((x1 * (120 : Int32)) + x3).toNatClampNeg) (vp_nar .byte ((I 31 x3.toNatClampNeg).toInt8.toInt32))) L else none) else none
def c_10_0 (n : Nat) : Nat → Int32 → Int32 → FI → FL → Option (FI × FL)
  | 0, _, _, _, _ => none
  | m + 1, x1, x3, I, L => b_10_0 n (c_10_0 n m) x1 x3 I L
set_option maxHeartbeats 1000000 in
set_option maxRecDepth 20000 in
theorem tc_10_0 (Ls : Nat) (xs : Nat → Int32) (d : Nat) (kp : Option Nat) (tl : List (Nat × Nat)) (rl : List (List (Option Nat))) (rh : Option Nat) (n : Nat) : ∀ (m : Nat) (x1 : Int32) (x3 : Int32) (I : FI) (L : FL) (r : FI × FL), c_10_0 n m x1 x3 I L = some r → Bs cd_10 (sf 2 rs_2 false 4 none Ls xs (d + 0)) (14, [some (.ref 33), some (.int x1), some (.ref 26), some (.int x3)], [], hp kp (some 3) rh tl rl I L) (none, hp kp (some 3) rh tl rl r.1 r.2)
  | 0, x1, x3, I, L, r, hf => by cases hf
  | m + 1, x1, x3, I, L, r, hf => by
    unfold c_10_0 b_10_0 at hf
    have hK0 := tc_10_0 Ls xs d kp tl rl rh n m
    refine bs_st 5 (x' := (21, [some (.ref 33), some (.int x1), some (.ref 26), some (.int x3)], [.int ((I 33 5) * (4 : Int32)), .int x3], hp kp (some 3) rh tl rl I L)) rfl ?_
    refine bs_br (t := 48) (e := 24) (lo := [some (.ref 33), some (.int x1), some (.ref 26), some (.int x3)]) (st := []) (h := hp kp (some 3) rh tl rl I L) rfl hf (fun hc hf => ?_) (fun hc hf => ?_)
    · cases hf
      exact bs_ret rfl
    · refine bs_st 10 (x' := (39, [some (.ref 33), some (.int x1), some (.ref 26), some (.int x3)], [.int x3, .ref 31, .int ((x1 * (120 : Int32)) + x3), .ref 34], hp kp (some 3) rh tl rl I L)) rfl ?_
      refine bs_gd (x' := (40, [some (.ref 33), some (.int x1), some (.ref 26), some (.int x3)], [.int (I 31 x3.toNatClampNeg), .int ((x1 * (120 : Int32)) + x3), .ref 34], hp kp (some 3) rh tl rl I L)) rfl hf (fun hc hf => ?_)
      refine bs_st 1 (x' := (41, [some (.ref 33), some (.int x1), some (.ref 26), some (.int x3)], [.int ((I 31 x3.toNatClampNeg).toInt8.toInt32), .int ((x1 * (120 : Int32)) + x3), .ref 34], hp kp (some 3) rh tl rl I L)) rfl ?_
      refine bs_gd (x' := (42, [some (.ref 33), some (.int x1), some (.ref 26), some (.int x3)], [], hp kp (some 3) rh tl rl (u2 I 34 (((x1 * (120 : Int32)) + x3).toNatClampNeg) (vp_nar .byte ((I 31 x3.toNatClampNeg).toInt8.toInt32))) L)) rfl hf (fun hc hf => ?_)
      refine bs_st 2 (x' := (14, [some (.ref 33), some (.int x1), some (.ref 26), some (.int (x3 + (1 : Int32)))], [], hp kp (some 3) rh tl rl (u2 I 34 (((x1 * (120 : Int32)) + x3).toNatClampNeg) (vp_nar .byte ((I 31 x3.toNatClampNeg).toInt8.toInt32))) L)) rfl ?_
      exact hK0 x1 (x3 + (1 : Int32)) (u2 I 34 (((x1 * (120 : Int32)) + x3).toNatClampNeg) (vp_nar .byte ((I 31 x3.toNatClampNeg).toInt8.toInt32))) L r hf
def f_10 (n : Nat) (x1 : Int32) (I : FI) (L : FL) : Option (FI × FL) :=
  c_10_0 n n x1 (0 : Int32) (u2 I 33 1 ((I 33 1) ||| ((1 : Int32) <<< (x1 &&& 31)))) L
set_option maxHeartbeats 1000000 in
set_option maxRecDepth 20000 in
theorem t_10 (Ls : Nat) (xs : Nat → Int32) (d : Nat) (kp : Option Nat) (tl : List (Nat × Nat)) (rl : List (List (Option Nat))) (rh : Option Nat) (n : Nat) (x1 : Int32) (I : FI) (L : FL) (r : FI × FL) (hf : f_10 n x1 I L = some r) : pEN Ls xs (d + 1) 10 [.ref 33, .int x1, .ref 26] (hp kp (some 3) rh tl rl I L) = some (none, hp kp (some 3) rh tl rl r.1 r.2) := by
  refine en_run (d := d + 0) (cd := cd_10) (f := (sf 2 rs_2 false 4 none Ls xs (d + 0))) rfl rfl (x := (0, [some (.ref 33), some (.int x1), some (.ref 26), none], [], hp kp (some 3) rh tl rl I L)) rfl rfl (Nat.le_of_ble_eq_true rfl) ?_
  unfold f_10 at hf
  refine bs_st 10 (x' := (14, [some (.ref 33), some (.int x1), some (.ref 26), some (.int (0 : Int32))], [], hp kp (some 3) rh tl rl (u2 I 33 1 ((I 33 1) ||| ((1 : Int32) <<< (x1 &&& 31)))) L)) rfl ?_
  exact tc_10_0 Ls xs d kp tl rl rh n n x1 (0 : Int32) (u2 I 33 1 ((I 33 1) ||| ((1 : Int32) <<< (x1 &&& 31)))) L r hf
/-- Night.agrees(LLampRounds$Row;) on (26, 83) -/
def b_72_1_0 (n : Nat) (I : FI) (L : FL) (K0 : Int32 → Option (Int32)) (x2 : Int32) : Option (Int32) :=
  if I 83 2 ≤ (x2 + (2 : Int32)) then
    some ((1 : Int32))
  else
    if pin x2 60 = true then (if pin (x2 + (1 : Int32)) 60 = true then ((f_60 ((L 84 x2.toNatClampNeg).toInt32) ((L 84 ((x2 + (1 : Int32)).toNatClampNeg)).toInt32) I L).bind fun q0 =>
        if pin (x2 + (2 : Int32)) 60 = true then (if (lg_cmp q0.toInt64 (L 84 ((x2 + (2 : Int32)).toNatClampNeg))) = 0 then
            K0 (x2 + (3 : Int32))
          else
            some ((0 : Int32))) else none) else none) else none
def c_72_1_0 (n : Nat) (I : FI) (L : FL) : Nat → Int32 → Option (Int32)
  | 0, _ => none
  | m + 1, x2 => b_72_1_0 n I L (c_72_1_0 n I L m) x2
set_option maxHeartbeats 1000000 in
set_option maxRecDepth 20000 in
theorem tc_72_1_0 (Ls : Nat) (xs : Nat → Int32) (d : Nat) (kp : Option Nat) (tl : List (Nat × Nat)) (rl : List (List (Option Nat))) (rh : Option Nat) (n : Nat) (I : FI) (L : FL) : ∀ (m : Nat) (x2 : Int32) (r : Int32), c_72_1_0 n I L m x2 = some r → Bs cd_72 (sf 6 rs_6 false 3 (some (.boolean)) Ls xs (d + 1)) (2, [some (.ref 26), some (.ref 83), some (.int x2)], [], hp kp (some 3) rh tl rl I L) (some (.int r), hp kp (some 3) rh tl rl I L)
  | 0, x2, r, hf => by cases hf
  | m + 1, x2, r, hf => by
    unfold c_72_1_0 b_72_1_0 at hf
    have hK0 := tc_72_1_0 Ls xs d kp tl rl rh n I L m
    refine bs_st 5 (x' := (9, [some (.ref 26), some (.ref 83), some (.int x2)], [.int (I 83 2), .int (x2 + (2 : Int32))], hp kp (some 3) rh tl rl I L)) rfl ?_
    refine bs_br (t := 53) (e := 12) (lo := [some (.ref 26), some (.ref 83), some (.int x2)]) (st := []) (h := hp kp (some 3) rh tl rl I L) rfl hf (fun hc hf => ?_) (fun hc hf => ?_)
    · refine bs_st 1 (x' := (54, [some (.ref 26), some (.ref 83), some (.int x2)], [.int (1 : Int32)], hp kp (some 3) rh tl rl I L)) rfl ?_
      cases hf
      exact bs_ret rfl
    · refine bs_st 4 (x' := (18, [some (.ref 26), some (.ref 83), some (.int x2)], [.int x2, .ref 84, .ref 26], hp kp (some 3) rh tl rl I L)) rfl ?_
      refine bs_gd (x' := (19, [some (.ref 26), some (.ref 83), some (.int x2)], [.long (L 84 x2.toNatClampNeg), .ref 26], hp kp (some 3) rh tl rl I L)) rfl hf (fun hc hf => ?_)
      refine bs_st 6 (x' := (27, [some (.ref 26), some (.ref 83), some (.int x2)], [.int (x2 + (1 : Int32)), .ref 84, .int ((L 84 x2.toNatClampNeg).toInt32), .ref 26], hp kp (some 3) rh tl rl I L)) rfl ?_
      refine bs_gd (x' := (28, [some (.ref 26), some (.ref 83), some (.int x2)], [.long (L 84 ((x2 + (1 : Int32)).toNatClampNeg)), .int ((L 84 x2.toNatClampNeg).toInt32), .ref 26], hp kp (some 3) rh tl rl I L)) rfl hf (fun hc hf => ?_)
      refine bs_st 1 (x' := (29, [some (.ref 26), some (.ref 83), some (.int x2)], [.int ((L 84 ((x2 + (1 : Int32)).toNatClampNeg)).toInt32), .int ((L 84 x2.toNatClampNeg).toInt32), .ref 26], hp kp (some 3) rh tl rl I L)) rfl ?_
      obtain ⟨q0, hq0, hf⟩ := Option.bind_eq_some_iff.mp hf
      refine bs_call (o := pEN Ls xs (d + 1) 60 [.ref 26, .int ((L 84 x2.toNatClampNeg).toInt32), .int ((L 84 ((x2 + (1 : Int32)).toNatClampNeg)).toInt32)] (hp kp (some 3) rh tl rl I L)) (w := some (.int q0)) (h' := hp kp (some 3) rh tl rl I L) (pc := 32) (lo := [some (.ref 26), some (.ref 83), some (.int x2)]) (rest := []) rfl (t_60 Ls xs (d + 0) kp tl rl rh ((L 84 x2.toNatClampNeg).toInt32) ((L 84 ((x2 + (1 : Int32)).toNatClampNeg)).toInt32) I L q0 hq0) ?_
      refine bs_st 6 (x' := (40, [some (.ref 26), some (.ref 83), some (.int x2)], [.int (x2 + (2 : Int32)), .ref 84, .long q0.toInt64], hp kp (some 3) rh tl rl I L)) rfl ?_
      refine bs_gd (x' := (41, [some (.ref 26), some (.ref 83), some (.int x2)], [.long (L 84 ((x2 + (2 : Int32)).toNatClampNeg)), .long q0.toInt64], hp kp (some 3) rh tl rl I L)) rfl hf (fun hc hf => ?_)
      refine bs_st 1 (x' := (42, [some (.ref 26), some (.ref 83), some (.int x2)], [.int (lg_cmp q0.toInt64 (L 84 ((x2 + (2 : Int32)).toNatClampNeg)))], hp kp (some 3) rh tl rl I L)) rfl ?_
      refine bs_br (t := 47) (e := 45) (lo := [some (.ref 26), some (.ref 83), some (.int x2)]) (st := []) (h := hp kp (some 3) rh tl rl I L) rfl hf (fun hc hf => ?_) (fun hc hf => ?_)
      · refine bs_st 2 (x' := (2, [some (.ref 26), some (.ref 83), some (.int (x2 + (3 : Int32)))], [], hp kp (some 3) rh tl rl I L)) rfl ?_
        exact hK0 (x2 + (3 : Int32)) r hf
      · refine bs_st 1 (x' := (46, [some (.ref 26), some (.ref 83), some (.int x2)], [.int (0 : Int32)], hp kp (some 3) rh tl rl I L)) rfl ?_
        cases hf
        exact bs_ret rfl
def f_72_1 (n : Nat) (I : FI) (L : FL) : Option (Int32) :=
  c_72_1_0 n I L n (0 : Int32)
set_option maxHeartbeats 1000000 in
set_option maxRecDepth 20000 in
theorem t_72_1 (Ls : Nat) (xs : Nat → Int32) (d : Nat) (kp : Option Nat) (tl : List (Nat × Nat)) (rl : List (List (Option Nat))) (rh : Option Nat) (n : Nat) (I : FI) (L : FL) (r : Int32) (hf : f_72_1 n I L = some r) : pEN Ls xs (d + 2) 72 [.ref 26, .ref 83] (hp kp (some 3) rh tl rl I L) = some (some (.int r), hp kp (some 3) rh tl rl I L) := by
  refine en_run (d := d + 1) (cd := cd_72) (f := (sf 6 rs_6 false 3 (some (.boolean)) Ls xs (d + 1))) rfl rfl (x := (0, [some (.ref 26), some (.ref 83), none], [], hp kp (some 3) rh tl rl I L)) rfl rfl (Nat.le_of_ble_eq_true rfl) ?_
  unfold f_72_1 at hf
  refine bs_st 2 (x' := (2, [some (.ref 26), some (.ref 83), some (.int (0 : Int32))], [], hp kp (some 3) rh tl rl I L)) rfl ?_
  exact tc_72_1_0 Ls xs d kp tl rl rh n I L n (0 : Int32) r hf
/-- Night.agrees(LLampRounds$Row;) on (26, 85) -/
def b_72_2_0 (n : Nat) (I : FI) (L : FL) (K0 : Int32 → Option (Int32)) (x2 : Int32) : Option (Int32) :=
  if I 85 2 ≤ (x2 + (2 : Int32)) then
    some ((1 : Int32))
  else
    if pin x2 60 = true then (if pin (x2 + (1 : Int32)) 60 = true then ((f_60 ((L 86 x2.toNatClampNeg).toInt32) ((L 86 ((x2 + (1 : Int32)).toNatClampNeg)).toInt32) I L).bind fun q0 =>
        if pin (x2 + (2 : Int32)) 60 = true then (if (lg_cmp q0.toInt64 (L 86 ((x2 + (2 : Int32)).toNatClampNeg))) = 0 then
            K0 (x2 + (3 : Int32))
          else
            some ((0 : Int32))) else none) else none) else none
def c_72_2_0 (n : Nat) (I : FI) (L : FL) : Nat → Int32 → Option (Int32)
  | 0, _ => none
  | m + 1, x2 => b_72_2_0 n I L (c_72_2_0 n I L m) x2
set_option maxHeartbeats 1000000 in
set_option maxRecDepth 20000 in
theorem tc_72_2_0 (Ls : Nat) (xs : Nat → Int32) (d : Nat) (kp : Option Nat) (tl : List (Nat × Nat)) (rl : List (List (Option Nat))) (rh : Option Nat) (n : Nat) (I : FI) (L : FL) : ∀ (m : Nat) (x2 : Int32) (r : Int32), c_72_2_0 n I L m x2 = some r → Bs cd_72 (sf 6 rs_6 false 3 (some (.boolean)) Ls xs (d + 1)) (2, [some (.ref 26), some (.ref 85), some (.int x2)], [], hp kp (some 3) rh tl rl I L) (some (.int r), hp kp (some 3) rh tl rl I L)
  | 0, x2, r, hf => by cases hf
  | m + 1, x2, r, hf => by
    unfold c_72_2_0 b_72_2_0 at hf
    have hK0 := tc_72_2_0 Ls xs d kp tl rl rh n I L m
    refine bs_st 5 (x' := (9, [some (.ref 26), some (.ref 85), some (.int x2)], [.int (I 85 2), .int (x2 + (2 : Int32))], hp kp (some 3) rh tl rl I L)) rfl ?_
    refine bs_br (t := 53) (e := 12) (lo := [some (.ref 26), some (.ref 85), some (.int x2)]) (st := []) (h := hp kp (some 3) rh tl rl I L) rfl hf (fun hc hf => ?_) (fun hc hf => ?_)
    · refine bs_st 1 (x' := (54, [some (.ref 26), some (.ref 85), some (.int x2)], [.int (1 : Int32)], hp kp (some 3) rh tl rl I L)) rfl ?_
      cases hf
      exact bs_ret rfl
    · refine bs_st 4 (x' := (18, [some (.ref 26), some (.ref 85), some (.int x2)], [.int x2, .ref 86, .ref 26], hp kp (some 3) rh tl rl I L)) rfl ?_
      refine bs_gd (x' := (19, [some (.ref 26), some (.ref 85), some (.int x2)], [.long (L 86 x2.toNatClampNeg), .ref 26], hp kp (some 3) rh tl rl I L)) rfl hf (fun hc hf => ?_)
      refine bs_st 6 (x' := (27, [some (.ref 26), some (.ref 85), some (.int x2)], [.int (x2 + (1 : Int32)), .ref 86, .int ((L 86 x2.toNatClampNeg).toInt32), .ref 26], hp kp (some 3) rh tl rl I L)) rfl ?_
      refine bs_gd (x' := (28, [some (.ref 26), some (.ref 85), some (.int x2)], [.long (L 86 ((x2 + (1 : Int32)).toNatClampNeg)), .int ((L 86 x2.toNatClampNeg).toInt32), .ref 26], hp kp (some 3) rh tl rl I L)) rfl hf (fun hc hf => ?_)
      refine bs_st 1 (x' := (29, [some (.ref 26), some (.ref 85), some (.int x2)], [.int ((L 86 ((x2 + (1 : Int32)).toNatClampNeg)).toInt32), .int ((L 86 x2.toNatClampNeg).toInt32), .ref 26], hp kp (some 3) rh tl rl I L)) rfl ?_
      obtain ⟨q0, hq0, hf⟩ := Option.bind_eq_some_iff.mp hf
      refine bs_call (o := pEN Ls xs (d + 1) 60 [.ref 26, .int ((L 86 x2.toNatClampNeg).toInt32), .int ((L 86 ((x2 + (1 : Int32)).toNatClampNeg)).toInt32)] (hp kp (some 3) rh tl rl I L)) (w := some (.int q0)) (h' := hp kp (some 3) rh tl rl I L) (pc := 32) (lo := [some (.ref 26), some (.ref 85), some (.int x2)]) (rest := []) rfl (t_60 Ls xs (d + 0) kp tl rl rh ((L 86 x2.toNatClampNeg).toInt32) ((L 86 ((x2 + (1 : Int32)).toNatClampNeg)).toInt32) I L q0 hq0) ?_
      refine bs_st 6 (x' := (40, [some (.ref 26), some (.ref 85), some (.int x2)], [.int (x2 + (2 : Int32)), .ref 86, .long q0.toInt64], hp kp (some 3) rh tl rl I L)) rfl ?_
      refine bs_gd (x' := (41, [some (.ref 26), some (.ref 85), some (.int x2)], [.long (L 86 ((x2 + (2 : Int32)).toNatClampNeg)), .long q0.toInt64], hp kp (some 3) rh tl rl I L)) rfl hf (fun hc hf => ?_)
      refine bs_st 1 (x' := (42, [some (.ref 26), some (.ref 85), some (.int x2)], [.int (lg_cmp q0.toInt64 (L 86 ((x2 + (2 : Int32)).toNatClampNeg)))], hp kp (some 3) rh tl rl I L)) rfl ?_
      refine bs_br (t := 47) (e := 45) (lo := [some (.ref 26), some (.ref 85), some (.int x2)]) (st := []) (h := hp kp (some 3) rh tl rl I L) rfl hf (fun hc hf => ?_) (fun hc hf => ?_)
      · refine bs_st 2 (x' := (2, [some (.ref 26), some (.ref 85), some (.int (x2 + (3 : Int32)))], [], hp kp (some 3) rh tl rl I L)) rfl ?_
        exact hK0 (x2 + (3 : Int32)) r hf
      · refine bs_st 1 (x' := (46, [some (.ref 26), some (.ref 85), some (.int x2)], [.int (0 : Int32)], hp kp (some 3) rh tl rl I L)) rfl ?_
        cases hf
        exact bs_ret rfl
def f_72_2 (n : Nat) (I : FI) (L : FL) : Option (Int32) :=
  c_72_2_0 n I L n (0 : Int32)
set_option maxHeartbeats 1000000 in
set_option maxRecDepth 20000 in
theorem t_72_2 (Ls : Nat) (xs : Nat → Int32) (d : Nat) (kp : Option Nat) (tl : List (Nat × Nat)) (rl : List (List (Option Nat))) (rh : Option Nat) (n : Nat) (I : FI) (L : FL) (r : Int32) (hf : f_72_2 n I L = some r) : pEN Ls xs (d + 2) 72 [.ref 26, .ref 85] (hp kp (some 3) rh tl rl I L) = some (some (.int r), hp kp (some 3) rh tl rl I L) := by
  refine en_run (d := d + 1) (cd := cd_72) (f := (sf 6 rs_6 false 3 (some (.boolean)) Ls xs (d + 1))) rfl rfl (x := (0, [some (.ref 26), some (.ref 85), none], [], hp kp (some 3) rh tl rl I L)) rfl rfl (Nat.le_of_ble_eq_true rfl) ?_
  unfold f_72_2 at hf
  refine bs_st 2 (x' := (2, [some (.ref 26), some (.ref 85), some (.int (0 : Int32))], [], hp kp (some 3) rh tl rl I L)) rfl ?_
  exact tc_72_2_0 Ls xs d kp tl rl rh n I L n (0 : Int32) r hf
/-- Night.agrees(LLampRounds$Row;) on (26, 87) -/
def b_72_3_0 (n : Nat) (I : FI) (L : FL) (K0 : Int32 → Option (Int32)) (x2 : Int32) : Option (Int32) :=
  if I 87 2 ≤ (x2 + (2 : Int32)) then
    some ((1 : Int32))
  else
    if pin x2 60 = true then (if pin (x2 + (1 : Int32)) 60 = true then ((f_60 ((L 88 x2.toNatClampNeg).toInt32) ((L 88 ((x2 + (1 : Int32)).toNatClampNeg)).toInt32) I L).bind fun q0 =>
        if pin (x2 + (2 : Int32)) 60 = true then (if (lg_cmp q0.toInt64 (L 88 ((x2 + (2 : Int32)).toNatClampNeg))) = 0 then
            K0 (x2 + (3 : Int32))
          else
            some ((0 : Int32))) else none) else none) else none
def c_72_3_0 (n : Nat) (I : FI) (L : FL) : Nat → Int32 → Option (Int32)
  | 0, _ => none
  | m + 1, x2 => b_72_3_0 n I L (c_72_3_0 n I L m) x2
set_option maxHeartbeats 1000000 in
set_option maxRecDepth 20000 in
theorem tc_72_3_0 (Ls : Nat) (xs : Nat → Int32) (d : Nat) (kp : Option Nat) (tl : List (Nat × Nat)) (rl : List (List (Option Nat))) (rh : Option Nat) (n : Nat) (I : FI) (L : FL) : ∀ (m : Nat) (x2 : Int32) (r : Int32), c_72_3_0 n I L m x2 = some r → Bs cd_72 (sf 6 rs_6 false 3 (some (.boolean)) Ls xs (d + 1)) (2, [some (.ref 26), some (.ref 87), some (.int x2)], [], hp kp (some 3) rh tl rl I L) (some (.int r), hp kp (some 3) rh tl rl I L)
  | 0, x2, r, hf => by cases hf
  | m + 1, x2, r, hf => by
    unfold c_72_3_0 b_72_3_0 at hf
    have hK0 := tc_72_3_0 Ls xs d kp tl rl rh n I L m
    refine bs_st 5 (x' := (9, [some (.ref 26), some (.ref 87), some (.int x2)], [.int (I 87 2), .int (x2 + (2 : Int32))], hp kp (some 3) rh tl rl I L)) rfl ?_
    refine bs_br (t := 53) (e := 12) (lo := [some (.ref 26), some (.ref 87), some (.int x2)]) (st := []) (h := hp kp (some 3) rh tl rl I L) rfl hf (fun hc hf => ?_) (fun hc hf => ?_)
    · refine bs_st 1 (x' := (54, [some (.ref 26), some (.ref 87), some (.int x2)], [.int (1 : Int32)], hp kp (some 3) rh tl rl I L)) rfl ?_
      cases hf
      exact bs_ret rfl
    · refine bs_st 4 (x' := (18, [some (.ref 26), some (.ref 87), some (.int x2)], [.int x2, .ref 88, .ref 26], hp kp (some 3) rh tl rl I L)) rfl ?_
      refine bs_gd (x' := (19, [some (.ref 26), some (.ref 87), some (.int x2)], [.long (L 88 x2.toNatClampNeg), .ref 26], hp kp (some 3) rh tl rl I L)) rfl hf (fun hc hf => ?_)
      refine bs_st 6 (x' := (27, [some (.ref 26), some (.ref 87), some (.int x2)], [.int (x2 + (1 : Int32)), .ref 88, .int ((L 88 x2.toNatClampNeg).toInt32), .ref 26], hp kp (some 3) rh tl rl I L)) rfl ?_
      refine bs_gd (x' := (28, [some (.ref 26), some (.ref 87), some (.int x2)], [.long (L 88 ((x2 + (1 : Int32)).toNatClampNeg)), .int ((L 88 x2.toNatClampNeg).toInt32), .ref 26], hp kp (some 3) rh tl rl I L)) rfl hf (fun hc hf => ?_)
      refine bs_st 1 (x' := (29, [some (.ref 26), some (.ref 87), some (.int x2)], [.int ((L 88 ((x2 + (1 : Int32)).toNatClampNeg)).toInt32), .int ((L 88 x2.toNatClampNeg).toInt32), .ref 26], hp kp (some 3) rh tl rl I L)) rfl ?_
      obtain ⟨q0, hq0, hf⟩ := Option.bind_eq_some_iff.mp hf
      refine bs_call (o := pEN Ls xs (d + 1) 60 [.ref 26, .int ((L 88 x2.toNatClampNeg).toInt32), .int ((L 88 ((x2 + (1 : Int32)).toNatClampNeg)).toInt32)] (hp kp (some 3) rh tl rl I L)) (w := some (.int q0)) (h' := hp kp (some 3) rh tl rl I L) (pc := 32) (lo := [some (.ref 26), some (.ref 87), some (.int x2)]) (rest := []) rfl (t_60 Ls xs (d + 0) kp tl rl rh ((L 88 x2.toNatClampNeg).toInt32) ((L 88 ((x2 + (1 : Int32)).toNatClampNeg)).toInt32) I L q0 hq0) ?_
      refine bs_st 6 (x' := (40, [some (.ref 26), some (.ref 87), some (.int x2)], [.int (x2 + (2 : Int32)), .ref 88, .long q0.toInt64], hp kp (some 3) rh tl rl I L)) rfl ?_
      refine bs_gd (x' := (41, [some (.ref 26), some (.ref 87), some (.int x2)], [.long (L 88 ((x2 + (2 : Int32)).toNatClampNeg)), .long q0.toInt64], hp kp (some 3) rh tl rl I L)) rfl hf (fun hc hf => ?_)
      refine bs_st 1 (x' := (42, [some (.ref 26), some (.ref 87), some (.int x2)], [.int (lg_cmp q0.toInt64 (L 88 ((x2 + (2 : Int32)).toNatClampNeg)))], hp kp (some 3) rh tl rl I L)) rfl ?_
      refine bs_br (t := 47) (e := 45) (lo := [some (.ref 26), some (.ref 87), some (.int x2)]) (st := []) (h := hp kp (some 3) rh tl rl I L) rfl hf (fun hc hf => ?_) (fun hc hf => ?_)
      · refine bs_st 2 (x' := (2, [some (.ref 26), some (.ref 87), some (.int (x2 + (3 : Int32)))], [], hp kp (some 3) rh tl rl I L)) rfl ?_
        exact hK0 (x2 + (3 : Int32)) r hf
      · refine bs_st 1 (x' := (46, [some (.ref 26), some (.ref 87), some (.int x2)], [.int (0 : Int32)], hp kp (some 3) rh tl rl I L)) rfl ?_
        cases hf
        exact bs_ret rfl
def f_72_3 (n : Nat) (I : FI) (L : FL) : Option (Int32) :=
  c_72_3_0 n I L n (0 : Int32)
set_option maxHeartbeats 1000000 in
set_option maxRecDepth 20000 in
theorem t_72_3 (Ls : Nat) (xs : Nat → Int32) (d : Nat) (kp : Option Nat) (tl : List (Nat × Nat)) (rl : List (List (Option Nat))) (rh : Option Nat) (n : Nat) (I : FI) (L : FL) (r : Int32) (hf : f_72_3 n I L = some r) : pEN Ls xs (d + 2) 72 [.ref 26, .ref 87] (hp kp (some 3) rh tl rl I L) = some (some (.int r), hp kp (some 3) rh tl rl I L) := by
  refine en_run (d := d + 1) (cd := cd_72) (f := (sf 6 rs_6 false 3 (some (.boolean)) Ls xs (d + 1))) rfl rfl (x := (0, [some (.ref 26), some (.ref 87), none], [], hp kp (some 3) rh tl rl I L)) rfl rfl (Nat.le_of_ble_eq_true rfl) ?_
  unfold f_72_3 at hf
  refine bs_st 2 (x' := (2, [some (.ref 26), some (.ref 87), some (.int (0 : Int32))], [], hp kp (some 3) rh tl rl I L)) rfl ?_
  exact tc_72_3_0 Ls xs d kp tl rl rh n I L n (0 : Int32) r hf
/-- LampRounds.cluesOf(I) on (0,) -/
def c_199_2 (n : Nat) (nh : Option Nat) (K1 : Int32 → Int32 → FI → FL → Option (Option Nat × FI × FL)) (x1 : Int32) (x2 : Int32) (I : FI) (L : FL) : Option (Option Nat × FI × FL) :=
  if I 3 7 ≤ x2 then
    (f_12_1 n I L).bind fun q5 =>
    some ((some 3), q5.1, q5.2)
  else
    (f_53_1 n (31 : Int32) I L).bind fun q6 =>
    (f_55 n (u2 q6.1 26 7 x2) q6.2).bind fun q7 =>
    if x1 = 0 then ((f_72 n q7.1 q7.2).bind fun q8 =>
      if q8 = 0 then
        K1 (0 : Int32) x2 q7.1 q7.2
      else
        (f_10 n x2 q7.1 q7.2).bind fun q9 =>
        K1 (0 : Int32) x2 q9.1 q9.2) else if x1 = 1 then ((f_72_1 n q7.1 q7.2).bind fun q10 =>
      if q10 = 0 then
        K1 (1 : Int32) x2 q7.1 q7.2
      else
        (f_10 n x2 q7.1 q7.2).bind fun q11 =>
        K1 (1 : Int32) x2 q11.1 q11.2) else if x1 = 2 then ((f_72_2 n q7.1 q7.2).bind fun q12 =>
      if q12 = 0 then
        K1 (2 : Int32) x2 q7.1 q7.2
      else
        (f_10 n x2 q7.1 q7.2).bind fun q13 =>
        K1 (2 : Int32) x2 q13.1 q13.2) else if x1 = 3 then ((f_72_3 n q7.1 q7.2).bind fun q14 =>
      if q14 = 0 then
        K1 (3 : Int32) x2 q7.1 q7.2
      else
        (f_10 n x2 q7.1 q7.2).bind fun q15 =>
        K1 (3 : Int32) x2 q15.1 q15.2) else none
set_option maxHeartbeats 1000000 in
set_option maxRecDepth 20000 in
theorem tc_199_2 (Ls : Nat) (xs : Nat → Int32) (d : Nat) (kp : Option Nat) (tl : List (Nat × Nat)) (rl : List (List (Option Nat))) (nh : Option Nat) (rh : Option Nat) (n : Nat) (K1 : Int32 → Int32 → FI → FL → Option (Option Nat × FI × FL)) (hK1 : ∀ (x1 : Int32) (x2 : Int32) (I : FI) (L : FL) (r : Option Nat × FI × FL), K1 x1 x2 I L = some r → Bs cd_199 (sf 11 rs_11 false 3 (some (.object "LampRounds$Clues")) Ls xs (d + 5)) (84, [some (.ref 0), some (.int x1), some (.int x2)], [], hp kp (some 3) rh tl rl I L) (some (.ref 33), hp kp r.1 rh tl rl r.2.1 r.2.2)) (x1 : Int32) (x2 : Int32) (I : FI) (L : FL) (r : Option Nat × FI × FL) (hf : c_199_2 n nh K1 x1 x2 I L = some r) : Bs cd_199 (sf 11 rs_11 false 3 (some (.object "LampRounds$Clues")) Ls xs (d + 5)) (13, [some (.ref 0), some (.int x1), some (.int x2)], [], hp kp (some 3) rh tl rl I L) (some (.ref 33), hp kp r.1 rh tl rl r.2.1 r.2.2) := by
  unfold c_199_2 at hf
  refine bs_st 4 (x' := (21, [some (.ref 0), some (.int x1), some (.int x2)], [.int (I 3 7), .int x2], hp kp (some 3) rh tl rl I L)) rfl ?_
  refine bs_br (t := 90) (e := 24) (lo := [some (.ref 0), some (.int x1), some (.int x2)]) (st := []) (h := hp kp (some 3) rh tl rl I L) rfl hf (fun hc hf => ?_) (fun hc hf => ?_)
  · refine bs_st 2 (x' := (94, [some (.ref 0), some (.int x1), some (.int x2)], [.ref 33], hp kp (some 3) rh tl rl I L)) rfl ?_
    obtain ⟨q5, hq5, hf⟩ := Option.bind_eq_some_iff.mp hf
    refine bs_call (o := pEN Ls xs (d + 5) 12 [.ref 33] (hp kp (some 3) rh tl rl I L)) (w := none) (h' := hp kp (some 3) rh tl rl q5.1 q5.2) (pc := 97) (lo := [some (.ref 0), some (.int x1), some (.int x2)]) (rest := []) rfl (t_12_1 Ls xs (d + 2) kp tl rl rh n I L q5 hq5) ?_
    refine bs_st 2 (x' := (101, [some (.ref 0), some (.int x1), some (.int x2)], [.ref 33], hp kp (some 3) rh tl rl q5.1 q5.2)) rfl ?_
    cases hf
    exact bs_ret rfl
  · refine bs_st 7 (x' := (38, [some (.ref 0), some (.int x1), some (.int x2)], [.int (31 : Int32), .ref 11, .ref 3, .ref 26], hp kp (some 3) rh tl rl I L)) rfl ?_
    obtain ⟨q6, hq6, hf⟩ := Option.bind_eq_some_iff.mp hf
    refine bs_call (o := pEN Ls xs (d + 5) 53 [.ref 26, .ref 3, .ref 11, .int (31 : Int32)] (hp kp (some 3) rh tl rl I L)) (w := none) (h' := hp kp (some 3) rh tl rl q6.1 q6.2) (pc := 41) (lo := [some (.ref 0), some (.int x1), some (.int x2)]) (rest := []) rfl (t_53_1 Ls xs (d + 4) kp tl rl rh n (31 : Int32) I L q6 hq6) ?_
    refine bs_st 6 (x' := (53, [some (.ref 0), some (.int x1), some (.int x2)], [.ref 26], hp kp (some 3) rh tl rl (u2 q6.1 26 7 x2) q6.2)) rfl ?_
    obtain ⟨q7, hq7, hf⟩ := Option.bind_eq_some_iff.mp hf
    refine bs_call (o := pEN Ls xs (d + 5) 55 [.ref 26] (hp kp (some 3) rh tl rl (u2 q6.1 26 7 x2) q6.2)) (w := none) (h' := hp kp (some 3) rh tl rl q7.1 q7.2) (pc := 56) (lo := [some (.ref 0), some (.int x1), some (.int x2)]) (rest := []) rfl (t_55 Ls xs (d + 0) kp tl rl rh n (u2 q6.1 26 7 x2) q6.2 q7 hq7) ?_
    refine bs_st 5 (x' := (65, [some (.ref 0), some (.int x1), some (.int x2)], [.int x1, .ref 44, .ref 26], hp kp (some 3) rh tl rl q7.1 q7.2)) rfl ?_
    refine bs_cs hf (fun hc hf1_0 => ?_) (fun hc hf1_0 => ?_)
    · subst hc
      refine bs_st 1 (x' := (66, [some (.ref 0), some (.int (0 : Int32)), some (.int x2)], [.ref 81, .ref 26], hp kp (some 3) rh tl rl q7.1 q7.2)) rfl ?_
      obtain ⟨q8, hq8, hf1_0⟩ := Option.bind_eq_some_iff.mp hf1_0
      refine bs_call (o := pEN Ls xs (d + 5) 72 [.ref 26, .ref 81] (hp kp (some 3) rh tl rl q7.1 q7.2)) (w := some (.int q8)) (h' := hp kp (some 3) rh tl rl q7.1 q7.2) (pc := 69) (lo := [some (.ref 0), some (.int (0 : Int32)), some (.int x2)]) (rest := []) rfl (t_72 Ls xs (d + 3) kp tl rl rh n q7.1 q7.2 q8 hq8) ?_
      refine bs_br (t := 84) (e := 72) (lo := [some (.ref 0), some (.int (0 : Int32)), some (.int x2)]) (st := []) (h := hp kp (some 3) rh tl rl q7.1 q7.2) rfl hf1_0 (fun hc hf1_0 => ?_) (fun hc hf1_0 => ?_)
      · exact hK1 (0 : Int32) x2 q7.1 q7.2 r hf1_0
      · refine bs_st 5 (x' := (81, [some (.ref 0), some (.int (0 : Int32)), some (.int x2)], [.ref 26, .int x2, .ref 33], hp kp (some 3) rh tl rl q7.1 q7.2)) rfl ?_
        obtain ⟨q9, hq9, hf1_0⟩ := Option.bind_eq_some_iff.mp hf1_0
        refine bs_call (o := pEN Ls xs (d + 5) 10 [.ref 33, .int x2, .ref 26] (hp kp (some 3) rh tl rl q7.1 q7.2)) (w := none) (h' := hp kp (some 3) rh tl rl q9.1 q9.2) (pc := 84) (lo := [some (.ref 0), some (.int (0 : Int32)), some (.int x2)]) (rest := []) rfl (t_10 Ls xs (d + 4) kp tl rl rh n x2 q7.1 q7.2 q9 hq9) ?_
        exact hK1 (0 : Int32) x2 q9.1 q9.2 r hf1_0
    refine bs_cs hf1_0 (fun hc hf1_1 => ?_) (fun hc hf1_1 => ?_)
    · subst hc
      refine bs_st 1 (x' := (66, [some (.ref 0), some (.int (1 : Int32)), some (.int x2)], [.ref 83, .ref 26], hp kp (some 3) rh tl rl q7.1 q7.2)) rfl ?_
      obtain ⟨q10, hq10, hf1_1⟩ := Option.bind_eq_some_iff.mp hf1_1
      refine bs_call (o := pEN Ls xs (d + 5) 72 [.ref 26, .ref 83] (hp kp (some 3) rh tl rl q7.1 q7.2)) (w := some (.int q10)) (h' := hp kp (some 3) rh tl rl q7.1 q7.2) (pc := 69) (lo := [some (.ref 0), some (.int (1 : Int32)), some (.int x2)]) (rest := []) rfl (t_72_1 Ls xs (d + 3) kp tl rl rh n q7.1 q7.2 q10 hq10) ?_
      refine bs_br (t := 84) (e := 72) (lo := [some (.ref 0), some (.int (1 : Int32)), some (.int x2)]) (st := []) (h := hp kp (some 3) rh tl rl q7.1 q7.2) rfl hf1_1 (fun hc hf1_1 => ?_) (fun hc hf1_1 => ?_)
      · exact hK1 (1 : Int32) x2 q7.1 q7.2 r hf1_1
      · refine bs_st 5 (x' := (81, [some (.ref 0), some (.int (1 : Int32)), some (.int x2)], [.ref 26, .int x2, .ref 33], hp kp (some 3) rh tl rl q7.1 q7.2)) rfl ?_
        obtain ⟨q11, hq11, hf1_1⟩ := Option.bind_eq_some_iff.mp hf1_1
        refine bs_call (o := pEN Ls xs (d + 5) 10 [.ref 33, .int x2, .ref 26] (hp kp (some 3) rh tl rl q7.1 q7.2)) (w := none) (h' := hp kp (some 3) rh tl rl q11.1 q11.2) (pc := 84) (lo := [some (.ref 0), some (.int (1 : Int32)), some (.int x2)]) (rest := []) rfl (t_10 Ls xs (d + 4) kp tl rl rh n x2 q7.1 q7.2 q11 hq11) ?_
        exact hK1 (1 : Int32) x2 q11.1 q11.2 r hf1_1
    refine bs_cs hf1_1 (fun hc hf1_2 => ?_) (fun hc hf1_2 => ?_)
    · subst hc
      refine bs_st 1 (x' := (66, [some (.ref 0), some (.int (2 : Int32)), some (.int x2)], [.ref 85, .ref 26], hp kp (some 3) rh tl rl q7.1 q7.2)) rfl ?_
      obtain ⟨q12, hq12, hf1_2⟩ := Option.bind_eq_some_iff.mp hf1_2
      refine bs_call (o := pEN Ls xs (d + 5) 72 [.ref 26, .ref 85] (hp kp (some 3) rh tl rl q7.1 q7.2)) (w := some (.int q12)) (h' := hp kp (some 3) rh tl rl q7.1 q7.2) (pc := 69) (lo := [some (.ref 0), some (.int (2 : Int32)), some (.int x2)]) (rest := []) rfl (t_72_2 Ls xs (d + 3) kp tl rl rh n q7.1 q7.2 q12 hq12) ?_
      refine bs_br (t := 84) (e := 72) (lo := [some (.ref 0), some (.int (2 : Int32)), some (.int x2)]) (st := []) (h := hp kp (some 3) rh tl rl q7.1 q7.2) rfl hf1_2 (fun hc hf1_2 => ?_) (fun hc hf1_2 => ?_)
      · exact hK1 (2 : Int32) x2 q7.1 q7.2 r hf1_2
      · refine bs_st 5 (x' := (81, [some (.ref 0), some (.int (2 : Int32)), some (.int x2)], [.ref 26, .int x2, .ref 33], hp kp (some 3) rh tl rl q7.1 q7.2)) rfl ?_
        obtain ⟨q13, hq13, hf1_2⟩ := Option.bind_eq_some_iff.mp hf1_2
        refine bs_call (o := pEN Ls xs (d + 5) 10 [.ref 33, .int x2, .ref 26] (hp kp (some 3) rh tl rl q7.1 q7.2)) (w := none) (h' := hp kp (some 3) rh tl rl q13.1 q13.2) (pc := 84) (lo := [some (.ref 0), some (.int (2 : Int32)), some (.int x2)]) (rest := []) rfl (t_10 Ls xs (d + 4) kp tl rl rh n x2 q7.1 q7.2 q13 hq13) ?_
        exact hK1 (2 : Int32) x2 q13.1 q13.2 r hf1_2
    refine bs_cs hf1_2 (fun hc hf1_3 => ?_) (fun hc hf1_3 => ?_)
    · subst hc
      refine bs_st 1 (x' := (66, [some (.ref 0), some (.int (3 : Int32)), some (.int x2)], [.ref 87, .ref 26], hp kp (some 3) rh tl rl q7.1 q7.2)) rfl ?_
      obtain ⟨q14, hq14, hf1_3⟩ := Option.bind_eq_some_iff.mp hf1_3
      refine bs_call (o := pEN Ls xs (d + 5) 72 [.ref 26, .ref 87] (hp kp (some 3) rh tl rl q7.1 q7.2)) (w := some (.int q14)) (h' := hp kp (some 3) rh tl rl q7.1 q7.2) (pc := 69) (lo := [some (.ref 0), some (.int (3 : Int32)), some (.int x2)]) (rest := []) rfl (t_72_3 Ls xs (d + 3) kp tl rl rh n q7.1 q7.2 q14 hq14) ?_
      refine bs_br (t := 84) (e := 72) (lo := [some (.ref 0), some (.int (3 : Int32)), some (.int x2)]) (st := []) (h := hp kp (some 3) rh tl rl q7.1 q7.2) rfl hf1_3 (fun hc hf1_3 => ?_) (fun hc hf1_3 => ?_)
      · exact hK1 (3 : Int32) x2 q7.1 q7.2 r hf1_3
      · refine bs_st 5 (x' := (81, [some (.ref 0), some (.int (3 : Int32)), some (.int x2)], [.ref 26, .int x2, .ref 33], hp kp (some 3) rh tl rl q7.1 q7.2)) rfl ?_
        obtain ⟨q15, hq15, hf1_3⟩ := Option.bind_eq_some_iff.mp hf1_3
        refine bs_call (o := pEN Ls xs (d + 5) 10 [.ref 33, .int x2, .ref 26] (hp kp (some 3) rh tl rl q7.1 q7.2)) (w := none) (h' := hp kp (some 3) rh tl rl q15.1 q15.2) (pc := 84) (lo := [some (.ref 0), some (.int (3 : Int32)), some (.int x2)]) (rest := []) rfl (t_10 Ls xs (d + 4) kp tl rl rh n x2 q7.1 q7.2 q15 hq15) ?_
        exact hK1 (3 : Int32) x2 q15.1 q15.2 r hf1_3
    cases hf1_3
def b_199_1 (n : Nat) (nh : Option Nat) (K1 : Int32 → Int32 → FI → FL → Option (Option Nat × FI × FL)) (x1 : Int32) (x2 : Int32) (I : FI) (L : FL) : Option (Option Nat × FI × FL) :=
  c_199_2 n nh K1 x1 (x2 + (1 : Int32)) I L
def c_199_1 (n : Nat) (nh : Option Nat) : Nat → Int32 → Int32 → FI → FL → Option (Option Nat × FI × FL)
  | 0, _, _, _, _ => none
  | m + 1, x1, x2, I, L => b_199_1 n nh (c_199_1 n nh m) x1 x2 I L
set_option maxHeartbeats 1000000 in
set_option maxRecDepth 20000 in
theorem tc_199_1 (Ls : Nat) (xs : Nat → Int32) (d : Nat) (kp : Option Nat) (tl : List (Nat × Nat)) (rl : List (List (Option Nat))) (nh : Option Nat) (rh : Option Nat) (n : Nat) : ∀ (m : Nat) (x1 : Int32) (x2 : Int32) (I : FI) (L : FL) (r : Option Nat × FI × FL), c_199_1 n nh m x1 x2 I L = some r → Bs cd_199 (sf 11 rs_11 false 3 (some (.object "LampRounds$Clues")) Ls xs (d + 5)) (84, [some (.ref 0), some (.int x1), some (.int x2)], [], hp kp (some 3) rh tl rl I L) (some (.ref 33), hp kp r.1 rh tl rl r.2.1 r.2.2)
  | 0, x1, x2, I, L, r, hf => by cases hf
  | m + 1, x1, x2, I, L, r, hf => by
    unfold c_199_1 b_199_1 at hf
    have hK1 := tc_199_1 Ls xs d kp tl rl nh rh n m
    refine bs_st 2 (x' := (13, [some (.ref 0), some (.int x1), some (.int (x2 + (1 : Int32)))], [], hp kp (some 3) rh tl rl I L)) rfl ?_
    exact tc_199_2 Ls xs d kp tl rl nh rh n _ hK1 x1 (x2 + (1 : Int32)) I L r hf
def c_199_0 (n : Nat) (nh : Option Nat) (x1 : Int32) (x2 : Int32) (I : FI) (L : FL) : Option (Option Nat × FI × FL) :=
  if I 3 7 ≤ x2 then
    (f_12 n I L).bind fun q1 =>
    some (nh, q1.1, q1.2)
  else
    (f_53 n (31 : Int32) I L).bind fun q2 =>
    (f_55 n (u2 q2.1 26 7 x2) q2.2).bind fun q3 =>
    if x1 = 0 then ((f_72 n q3.1 q3.2).bind fun q4 =>
      if q4 = 0 then
        c_199_1 n nh n (0 : Int32) x2 q3.1 q3.2
      else
        (f_10 n x2 q3.1 q3.2).bind fun q16 =>
        c_199_1 n nh n (0 : Int32) x2 q16.1 q16.2) else if x1 = 1 then ((f_72_1 n q3.1 q3.2).bind fun q17 =>
      if q17 = 0 then
        c_199_1 n nh n (1 : Int32) x2 q3.1 q3.2
      else
        (f_10 n x2 q3.1 q3.2).bind fun q18 =>
        c_199_1 n nh n (1 : Int32) x2 q18.1 q18.2) else if x1 = 2 then ((f_72_2 n q3.1 q3.2).bind fun q19 =>
      if q19 = 0 then
        c_199_1 n nh n (2 : Int32) x2 q3.1 q3.2
      else
        (f_10 n x2 q3.1 q3.2).bind fun q20 =>
        c_199_1 n nh n (2 : Int32) x2 q20.1 q20.2) else if x1 = 3 then ((f_72_3 n q3.1 q3.2).bind fun q21 =>
      if q21 = 0 then
        c_199_1 n nh n (3 : Int32) x2 q3.1 q3.2
      else
        (f_10 n x2 q3.1 q3.2).bind fun q22 =>
        c_199_1 n nh n (3 : Int32) x2 q22.1 q22.2) else none
set_option maxHeartbeats 1000000 in
set_option maxRecDepth 20000 in
theorem tc_199_0 (Ls : Nat) (xs : Nat → Int32) (d : Nat) (kp : Option Nat) (tl : List (Nat × Nat)) (rl : List (List (Option Nat))) (nh : Option Nat) (rh : Option Nat) (n : Nat) (x1 : Int32) (x2 : Int32) (I : FI) (L : FL) (r : Option Nat × FI × FL) (hf : c_199_0 n nh x1 x2 I L = some r) : Bs cd_199 (sf 11 rs_11 false 3 (some (.object "LampRounds$Clues")) Ls xs (d + 5)) (13, [some (.ref 0), some (.int x1), some (.int x2)], [], hp kp nh rh tl rl I L) (some (.ref 33), hp kp r.1 rh tl rl r.2.1 r.2.2) := by
  unfold c_199_0 at hf
  refine bs_st 4 (x' := (21, [some (.ref 0), some (.int x1), some (.int x2)], [.int (I 3 7), .int x2], hp kp nh rh tl rl I L)) rfl ?_
  refine bs_br (t := 90) (e := 24) (lo := [some (.ref 0), some (.int x1), some (.int x2)]) (st := []) (h := hp kp nh rh tl rl I L) rfl hf (fun hc hf => ?_) (fun hc hf => ?_)
  · refine bs_st 2 (x' := (94, [some (.ref 0), some (.int x1), some (.int x2)], [.ref 33], hp kp nh rh tl rl I L)) rfl ?_
    obtain ⟨q1, hq1, hf⟩ := Option.bind_eq_some_iff.mp hf
    refine bs_call (o := pEN Ls xs (d + 5) 12 [.ref 33] (hp kp nh rh tl rl I L)) (w := none) (h' := hp kp nh rh tl rl q1.1 q1.2) (pc := 97) (lo := [some (.ref 0), some (.int x1), some (.int x2)]) (rest := []) rfl (t_12 Ls xs (d + 2) kp tl rl nh rh n I L q1 hq1) ?_
    refine bs_st 2 (x' := (101, [some (.ref 0), some (.int x1), some (.int x2)], [.ref 33], hp kp nh rh tl rl q1.1 q1.2)) rfl ?_
    cases hf
    exact bs_ret rfl
  · refine bs_st 7 (x' := (38, [some (.ref 0), some (.int x1), some (.int x2)], [.int (31 : Int32), .ref 11, .ref 3, .ref 26], hp kp nh rh tl rl I L)) rfl ?_
    obtain ⟨q2, hq2, hf⟩ := Option.bind_eq_some_iff.mp hf
    refine bs_call (o := pEN Ls xs (d + 5) 53 [.ref 26, .ref 3, .ref 11, .int (31 : Int32)] (hp kp nh rh tl rl I L)) (w := none) (h' := hp kp (some 3) rh tl rl q2.1 q2.2) (pc := 41) (lo := [some (.ref 0), some (.int x1), some (.int x2)]) (rest := []) rfl (t_53 Ls xs (d + 4) kp tl rl nh rh n (31 : Int32) I L q2 hq2) ?_
    refine bs_st 6 (x' := (53, [some (.ref 0), some (.int x1), some (.int x2)], [.ref 26], hp kp (some 3) rh tl rl (u2 q2.1 26 7 x2) q2.2)) rfl ?_
    obtain ⟨q3, hq3, hf⟩ := Option.bind_eq_some_iff.mp hf
    refine bs_call (o := pEN Ls xs (d + 5) 55 [.ref 26] (hp kp (some 3) rh tl rl (u2 q2.1 26 7 x2) q2.2)) (w := none) (h' := hp kp (some 3) rh tl rl q3.1 q3.2) (pc := 56) (lo := [some (.ref 0), some (.int x1), some (.int x2)]) (rest := []) rfl (t_55 Ls xs (d + 0) kp tl rl rh n (u2 q2.1 26 7 x2) q2.2 q3 hq3) ?_
    refine bs_st 5 (x' := (65, [some (.ref 0), some (.int x1), some (.int x2)], [.int x1, .ref 44, .ref 26], hp kp (some 3) rh tl rl q3.1 q3.2)) rfl ?_
    refine bs_cs hf (fun hc hf2_0 => ?_) (fun hc hf2_0 => ?_)
    · subst hc
      refine bs_st 1 (x' := (66, [some (.ref 0), some (.int (0 : Int32)), some (.int x2)], [.ref 81, .ref 26], hp kp (some 3) rh tl rl q3.1 q3.2)) rfl ?_
      obtain ⟨q4, hq4, hf2_0⟩ := Option.bind_eq_some_iff.mp hf2_0
      refine bs_call (o := pEN Ls xs (d + 5) 72 [.ref 26, .ref 81] (hp kp (some 3) rh tl rl q3.1 q3.2)) (w := some (.int q4)) (h' := hp kp (some 3) rh tl rl q3.1 q3.2) (pc := 69) (lo := [some (.ref 0), some (.int (0 : Int32)), some (.int x2)]) (rest := []) rfl (t_72 Ls xs (d + 3) kp tl rl rh n q3.1 q3.2 q4 hq4) ?_
      refine bs_br (t := 84) (e := 72) (lo := [some (.ref 0), some (.int (0 : Int32)), some (.int x2)]) (st := []) (h := hp kp (some 3) rh tl rl q3.1 q3.2) rfl hf2_0 (fun hc hf2_0 => ?_) (fun hc hf2_0 => ?_)
      · exact tc_199_1 Ls xs d kp tl rl nh rh n n (0 : Int32) x2 q3.1 q3.2 r hf2_0
      · refine bs_st 5 (x' := (81, [some (.ref 0), some (.int (0 : Int32)), some (.int x2)], [.ref 26, .int x2, .ref 33], hp kp (some 3) rh tl rl q3.1 q3.2)) rfl ?_
        obtain ⟨q16, hq16, hf2_0⟩ := Option.bind_eq_some_iff.mp hf2_0
        refine bs_call (o := pEN Ls xs (d + 5) 10 [.ref 33, .int x2, .ref 26] (hp kp (some 3) rh tl rl q3.1 q3.2)) (w := none) (h' := hp kp (some 3) rh tl rl q16.1 q16.2) (pc := 84) (lo := [some (.ref 0), some (.int (0 : Int32)), some (.int x2)]) (rest := []) rfl (t_10 Ls xs (d + 4) kp tl rl rh n x2 q3.1 q3.2 q16 hq16) ?_
        exact tc_199_1 Ls xs d kp tl rl nh rh n n (0 : Int32) x2 q16.1 q16.2 r hf2_0
    refine bs_cs hf2_0 (fun hc hf2_1 => ?_) (fun hc hf2_1 => ?_)
    · subst hc
      refine bs_st 1 (x' := (66, [some (.ref 0), some (.int (1 : Int32)), some (.int x2)], [.ref 83, .ref 26], hp kp (some 3) rh tl rl q3.1 q3.2)) rfl ?_
      obtain ⟨q17, hq17, hf2_1⟩ := Option.bind_eq_some_iff.mp hf2_1
      refine bs_call (o := pEN Ls xs (d + 5) 72 [.ref 26, .ref 83] (hp kp (some 3) rh tl rl q3.1 q3.2)) (w := some (.int q17)) (h' := hp kp (some 3) rh tl rl q3.1 q3.2) (pc := 69) (lo := [some (.ref 0), some (.int (1 : Int32)), some (.int x2)]) (rest := []) rfl (t_72_1 Ls xs (d + 3) kp tl rl rh n q3.1 q3.2 q17 hq17) ?_
      refine bs_br (t := 84) (e := 72) (lo := [some (.ref 0), some (.int (1 : Int32)), some (.int x2)]) (st := []) (h := hp kp (some 3) rh tl rl q3.1 q3.2) rfl hf2_1 (fun hc hf2_1 => ?_) (fun hc hf2_1 => ?_)
      · exact tc_199_1 Ls xs d kp tl rl nh rh n n (1 : Int32) x2 q3.1 q3.2 r hf2_1
      · refine bs_st 5 (x' := (81, [some (.ref 0), some (.int (1 : Int32)), some (.int x2)], [.ref 26, .int x2, .ref 33], hp kp (some 3) rh tl rl q3.1 q3.2)) rfl ?_
        obtain ⟨q18, hq18, hf2_1⟩ := Option.bind_eq_some_iff.mp hf2_1
        refine bs_call (o := pEN Ls xs (d + 5) 10 [.ref 33, .int x2, .ref 26] (hp kp (some 3) rh tl rl q3.1 q3.2)) (w := none) (h' := hp kp (some 3) rh tl rl q18.1 q18.2) (pc := 84) (lo := [some (.ref 0), some (.int (1 : Int32)), some (.int x2)]) (rest := []) rfl (t_10 Ls xs (d + 4) kp tl rl rh n x2 q3.1 q3.2 q18 hq18) ?_
        exact tc_199_1 Ls xs d kp tl rl nh rh n n (1 : Int32) x2 q18.1 q18.2 r hf2_1
    refine bs_cs hf2_1 (fun hc hf2_2 => ?_) (fun hc hf2_2 => ?_)
    · subst hc
      refine bs_st 1 (x' := (66, [some (.ref 0), some (.int (2 : Int32)), some (.int x2)], [.ref 85, .ref 26], hp kp (some 3) rh tl rl q3.1 q3.2)) rfl ?_
      obtain ⟨q19, hq19, hf2_2⟩ := Option.bind_eq_some_iff.mp hf2_2
      refine bs_call (o := pEN Ls xs (d + 5) 72 [.ref 26, .ref 85] (hp kp (some 3) rh tl rl q3.1 q3.2)) (w := some (.int q19)) (h' := hp kp (some 3) rh tl rl q3.1 q3.2) (pc := 69) (lo := [some (.ref 0), some (.int (2 : Int32)), some (.int x2)]) (rest := []) rfl (t_72_2 Ls xs (d + 3) kp tl rl rh n q3.1 q3.2 q19 hq19) ?_
      refine bs_br (t := 84) (e := 72) (lo := [some (.ref 0), some (.int (2 : Int32)), some (.int x2)]) (st := []) (h := hp kp (some 3) rh tl rl q3.1 q3.2) rfl hf2_2 (fun hc hf2_2 => ?_) (fun hc hf2_2 => ?_)
      · exact tc_199_1 Ls xs d kp tl rl nh rh n n (2 : Int32) x2 q3.1 q3.2 r hf2_2
      · refine bs_st 5 (x' := (81, [some (.ref 0), some (.int (2 : Int32)), some (.int x2)], [.ref 26, .int x2, .ref 33], hp kp (some 3) rh tl rl q3.1 q3.2)) rfl ?_
        obtain ⟨q20, hq20, hf2_2⟩ := Option.bind_eq_some_iff.mp hf2_2
        refine bs_call (o := pEN Ls xs (d + 5) 10 [.ref 33, .int x2, .ref 26] (hp kp (some 3) rh tl rl q3.1 q3.2)) (w := none) (h' := hp kp (some 3) rh tl rl q20.1 q20.2) (pc := 84) (lo := [some (.ref 0), some (.int (2 : Int32)), some (.int x2)]) (rest := []) rfl (t_10 Ls xs (d + 4) kp tl rl rh n x2 q3.1 q3.2 q20 hq20) ?_
        exact tc_199_1 Ls xs d kp tl rl nh rh n n (2 : Int32) x2 q20.1 q20.2 r hf2_2
    refine bs_cs hf2_2 (fun hc hf2_3 => ?_) (fun hc hf2_3 => ?_)
    · subst hc
      refine bs_st 1 (x' := (66, [some (.ref 0), some (.int (3 : Int32)), some (.int x2)], [.ref 87, .ref 26], hp kp (some 3) rh tl rl q3.1 q3.2)) rfl ?_
      obtain ⟨q21, hq21, hf2_3⟩ := Option.bind_eq_some_iff.mp hf2_3
      refine bs_call (o := pEN Ls xs (d + 5) 72 [.ref 26, .ref 87] (hp kp (some 3) rh tl rl q3.1 q3.2)) (w := some (.int q21)) (h' := hp kp (some 3) rh tl rl q3.1 q3.2) (pc := 69) (lo := [some (.ref 0), some (.int (3 : Int32)), some (.int x2)]) (rest := []) rfl (t_72_3 Ls xs (d + 3) kp tl rl rh n q3.1 q3.2 q21 hq21) ?_
      refine bs_br (t := 84) (e := 72) (lo := [some (.ref 0), some (.int (3 : Int32)), some (.int x2)]) (st := []) (h := hp kp (some 3) rh tl rl q3.1 q3.2) rfl hf2_3 (fun hc hf2_3 => ?_) (fun hc hf2_3 => ?_)
      · exact tc_199_1 Ls xs d kp tl rl nh rh n n (3 : Int32) x2 q3.1 q3.2 r hf2_3
      · refine bs_st 5 (x' := (81, [some (.ref 0), some (.int (3 : Int32)), some (.int x2)], [.ref 26, .int x2, .ref 33], hp kp (some 3) rh tl rl q3.1 q3.2)) rfl ?_
        obtain ⟨q22, hq22, hf2_3⟩ := Option.bind_eq_some_iff.mp hf2_3
        refine bs_call (o := pEN Ls xs (d + 5) 10 [.ref 33, .int x2, .ref 26] (hp kp (some 3) rh tl rl q3.1 q3.2)) (w := none) (h' := hp kp (some 3) rh tl rl q22.1 q22.2) (pc := 84) (lo := [some (.ref 0), some (.int (3 : Int32)), some (.int x2)]) (rest := []) rfl (t_10 Ls xs (d + 4) kp tl rl rh n x2 q3.1 q3.2 q22 hq22) ?_
        exact tc_199_1 Ls xs d kp tl rl nh rh n n (3 : Int32) x2 q22.1 q22.2 r hf2_3
    cases hf2_3
def f_199 (n : Nat) (nh : Option Nat) (x1 : Int32) (I : FI) (L : FL) : Option (Option Nat × FI × FL) :=
  (f_9 I L).bind fun q0 =>
  c_199_0 n nh x1 (0 : Int32) q0.1 q0.2
set_option maxHeartbeats 1000000 in
set_option maxRecDepth 20000 in
theorem t_199 (Ls : Nat) (xs : Nat → Int32) (d : Nat) (kp : Option Nat) (tl : List (Nat × Nat)) (rl : List (List (Option Nat))) (nh : Option Nat) (rh : Option Nat) (n : Nat) (x1 : Int32) (I : FI) (L : FL) (r : Option Nat × FI × FL) (hf : f_199 n nh x1 I L = some r) : pEN Ls xs (d + 6) 199 [.ref 0, .int x1] (hp kp nh rh tl rl I L) = some (some (.ref 33), hp kp r.1 rh tl rl r.2.1 r.2.2) := by
  refine en_run (d := d + 5) (cd := cd_199) (f := (sf 11 rs_11 false 3 (some (.object "LampRounds$Clues")) Ls xs (d + 5))) rfl rfl (x := (0, [some (.ref 0), some (.int x1), none], [], hp kp nh rh tl rl I L)) rfl rfl (Nat.le_of_ble_eq_true rfl) ?_
  unfold f_199 at hf
  refine bs_st 4 (x' := (8, [some (.ref 0), some (.int x1), none], [.ref 3, .ref 33], hp kp nh rh tl rl I L)) rfl ?_
  obtain ⟨q0, hq0, hf⟩ := Option.bind_eq_some_iff.mp hf
  refine bs_call (o := pEN Ls xs (d + 5) 9 [.ref 33, .ref 3] (hp kp nh rh tl rl I L)) (w := none) (h' := hp kp nh rh tl rl q0.1 q0.2) (pc := 11) (lo := [some (.ref 0), some (.int x1), none]) (rest := []) rfl (t_9 Ls xs (d + 4) kp tl rl nh rh I L q0 hq0) ?_
  refine bs_st 2 (x' := (13, [some (.ref 0), some (.int x1), some (.int (0 : Int32))], [], hp kp nh rh tl rl q0.1 q0.2)) rfl ?_
  exact tc_199_0 Ls xs d kp tl rl nh rh n x1 (0 : Int32) q0.1 q0.2 r hf
/-- LampRounds.begins(I) on (0,) -/
def f_152 (n : Nat) (nh : Option Nat) (x1 : Int32) (I : FI) (L : FL) : Option (Int32 × Option Nat × FI × FL) :=
  (f_198 n x1 I L).bind fun q0 =>
  if q0 = 0 then
    (f_199 n nh x1 I L).bind fun q1 =>
    (f_360 (q1.2.1 33 1) q1.2.1 q1.2.2).bind fun q2 =>
    some (q2, q1.1, q1.2.1, q1.2.2)
  else
    some (q0, nh, I, L)
set_option maxHeartbeats 1000000 in
set_option maxRecDepth 20000 in
theorem t_152 (Ls : Nat) (xs : Nat → Int32) (d : Nat) (kp : Option Nat) (tl : List (Nat × Nat)) (rl : List (List (Option Nat))) (nh : Option Nat) (rh : Option Nat) (n : Nat) (x1 : Int32) (I : FI) (L : FL) (r : Int32 × Option Nat × FI × FL) (hf : f_152 n nh x1 I L = some r) : pEN Ls xs (d + 7) 152 [.ref 0, .int x1] (hp kp nh rh tl rl I L) = some (some (.int r.1), hp kp r.2.1 rh tl rl r.2.2.1 r.2.2.2) := by
  refine en_run (d := d + 6) (cd := cd_152) (f := (sf 11 rs_11 false 3 (some (.int)) Ls xs (d + 6))) rfl rfl (x := (0, [some (.ref 0), some (.int x1), none], [], hp kp nh rh tl rl I L)) rfl rfl (Nat.le_of_ble_eq_true rfl) ?_
  unfold f_152 at hf
  refine bs_st 2 (x' := (2, [some (.ref 0), some (.int x1), none], [.int x1, .ref 0], hp kp nh rh tl rl I L)) rfl ?_
  obtain ⟨q0, hq0, hf⟩ := Option.bind_eq_some_iff.mp hf
  refine bs_call (o := pEN Ls xs (d + 6) 198 [.ref 0, .int x1] (hp kp nh rh tl rl I L)) (w := some (.int q0)) (h' := hp kp nh rh tl rl I L) (pc := 5) (lo := [some (.ref 0), some (.int x1), none]) (rest := []) rfl (t_198 Ls xs (d + 4) kp tl rl nh rh n x1 I L q0 hq0) ?_
  refine bs_st 2 (x' := (7, [some (.ref 0), some (.int x1), some (.int q0)], [.int q0], hp kp nh rh tl rl I L)) rfl ?_
  refine bs_br (t := 14) (e := 10) (lo := [some (.ref 0), some (.int x1), some (.int q0)]) (st := []) (h := hp kp nh rh tl rl I L) rfl hf (fun hc hf => ?_) (fun hc hf => ?_)
  · refine bs_st 2 (x' := (16, [some (.ref 0), some (.int x1), some (.int q0)], [.int x1, .ref 0], hp kp nh rh tl rl I L)) rfl ?_
    obtain ⟨q1, hq1, hf⟩ := Option.bind_eq_some_iff.mp hf
    refine bs_call (o := pEN Ls xs (d + 6) 199 [.ref 0, .int x1] (hp kp nh rh tl rl I L)) (w := some (.ref 33)) (h' := hp kp q1.1 rh tl rl q1.2.1 q1.2.2) (pc := 19) (lo := [some (.ref 0), some (.int x1), some (.int q0)]) (rest := []) rfl (t_199 Ls xs (d + 0) kp tl rl nh rh n x1 I L q1 hq1) ?_
    refine bs_st 1 (x' := (22, [some (.ref 0), some (.int x1), some (.int q0)], [.int (q1.2.1 33 1)], hp kp q1.1 rh tl rl q1.2.1 q1.2.2)) rfl ?_
    obtain ⟨q2, hq2, hf⟩ := Option.bind_eq_some_iff.mp hf
    refine bs_call (o := pEN Ls xs (d + 6) 360 [.int (q1.2.1 33 1)] (hp kp q1.1 rh tl rl q1.2.1 q1.2.2)) (w := some (.int q2)) (h' := hp kp q1.1 rh tl rl q1.2.1 q1.2.2) (pc := 25) (lo := [some (.ref 0), some (.int x1), some (.int q0)]) (rest := []) rfl (t_360 Ls xs (d + 5) kp tl rl q1.1 rh (q1.2.1 33 1) q1.2.1 q1.2.2 q2 hq2) ?_
    cases hf
    exact bs_ret rfl
  · refine bs_st 2 (x' := (25, [some (.ref 0), some (.int x1), some (.int q0)], [.int q0], hp kp nh rh tl rl I L)) rfl ?_
    cases hf
    exact bs_ret rfl
/-- Clues.firstFitting() on (33,) -/
def b_11_0 (n : Nat) (I : FI) (L : FL) (K0 : Int32 → Option (Int32)) (x1 : Int32) : Option (Int32) :=
  if (12 : Int32) ≤ x1 then
    some ((-1 : Int32))
  else
    if (((I 33 1) >>> (x1 &&& 31)) &&& (1 : Int32)) = 0 then
      K0 (x1 + (1 : Int32))
    else
      some (x1)
def c_11_0 (n : Nat) (I : FI) (L : FL) : Nat → Int32 → Option (Int32)
  | 0, _ => none
  | m + 1, x1 => b_11_0 n I L (c_11_0 n I L m) x1
set_option maxHeartbeats 1000000 in
set_option maxRecDepth 20000 in
theorem tc_11_0 (Ls : Nat) (xs : Nat → Int32) (d : Nat) (kp : Option Nat) (tl : List (Nat × Nat)) (rl : List (List (Option Nat))) (nh : Option Nat) (rh : Option Nat) (n : Nat) (I : FI) (L : FL) : ∀ (m : Nat) (x1 : Int32) (r : Int32), c_11_0 n I L m x1 = some r → Bs cd_11 (sf 2 rs_2 false 2 (some (.int)) Ls xs (d + 0)) (2, [some (.ref 33), some (.int x1)], [], hp kp nh rh tl rl I L) (some (.int r), hp kp nh rh tl rl I L)
  | 0, x1, r, hf => by cases hf
  | m + 1, x1, r, hf => by
    unfold c_11_0 b_11_0 at hf
    have hK0 := tc_11_0 Ls xs d kp tl rl nh rh n I L m
    refine bs_st 2 (x' := (5, [some (.ref 33), some (.int x1)], [.int (12 : Int32), .int x1], hp kp nh rh tl rl I L)) rfl ?_
    refine bs_br (t := 27) (e := 8) (lo := [some (.ref 33), some (.int x1)]) (st := []) (h := hp kp nh rh tl rl I L) rfl hf (fun hc hf => ?_) (fun hc hf => ?_)
    · refine bs_st 1 (x' := (28, [some (.ref 33), some (.int x1)], [.int (-1 : Int32)], hp kp nh rh tl rl I L)) rfl ?_
      cases hf
      exact bs_ret rfl
    · refine bs_st 6 (x' := (16, [some (.ref 33), some (.int x1)], [.int (((I 33 1) >>> (x1 &&& 31)) &&& (1 : Int32))], hp kp nh rh tl rl I L)) rfl ?_
      refine bs_br (t := 21) (e := 19) (lo := [some (.ref 33), some (.int x1)]) (st := []) (h := hp kp nh rh tl rl I L) rfl hf (fun hc hf => ?_) (fun hc hf => ?_)
      · refine bs_st 2 (x' := (2, [some (.ref 33), some (.int (x1 + (1 : Int32)))], [], hp kp nh rh tl rl I L)) rfl ?_
        exact hK0 (x1 + (1 : Int32)) r hf
      · refine bs_st 1 (x' := (20, [some (.ref 33), some (.int x1)], [.int x1], hp kp nh rh tl rl I L)) rfl ?_
        cases hf
        exact bs_ret rfl
def f_11 (n : Nat) (I : FI) (L : FL) : Option (Int32) :=
  c_11_0 n I L n (0 : Int32)
set_option maxHeartbeats 1000000 in
set_option maxRecDepth 20000 in
theorem t_11 (Ls : Nat) (xs : Nat → Int32) (d : Nat) (kp : Option Nat) (tl : List (Nat × Nat)) (rl : List (List (Option Nat))) (nh : Option Nat) (rh : Option Nat) (n : Nat) (I : FI) (L : FL) (r : Int32) (hf : f_11 n I L = some r) : pEN Ls xs (d + 1) 11 [.ref 33] (hp kp nh rh tl rl I L) = some (some (.int r), hp kp nh rh tl rl I L) := by
  refine en_run (d := d + 0) (cd := cd_11) (f := (sf 2 rs_2 false 2 (some (.int)) Ls xs (d + 0))) rfl rfl (x := (0, [some (.ref 33), none], [], hp kp nh rh tl rl I L)) rfl rfl (Nat.le_of_ble_eq_true rfl) ?_
  unfold f_11 at hf
  refine bs_st 2 (x' := (2, [some (.ref 33), some (.int (0 : Int32))], [], hp kp nh rh tl rl I L)) rfl ?_
  exact tc_11_0 Ls xs d kp tl rl nh rh n I L n (0 : Int32) r hf
/-- LampRounds.begun(I) on (0,) -/
def f_153 (n : Nat) (nh : Option Nat) (x1 : Int32) (I : FI) (L : FL) : Option (Int32 × Option Nat × FI × FL) :=
  (f_198 n x1 I L).bind fun q0 =>
  if q0 = 0 then
    (f_199 n nh x1 I L).bind fun q1 =>
    (f_11 n q1.2.1 q1.2.2).bind fun q2 =>
    some (q2, q1.1, q1.2.1, q1.2.2)
  else
    some (q0, nh, I, L)
set_option maxHeartbeats 1000000 in
set_option maxRecDepth 20000 in
theorem t_153 (Ls : Nat) (xs : Nat → Int32) (d : Nat) (kp : Option Nat) (tl : List (Nat × Nat)) (rl : List (List (Option Nat))) (nh : Option Nat) (rh : Option Nat) (n : Nat) (x1 : Int32) (I : FI) (L : FL) (r : Int32 × Option Nat × FI × FL) (hf : f_153 n nh x1 I L = some r) : pEN Ls xs (d + 7) 153 [.ref 0, .int x1] (hp kp nh rh tl rl I L) = some (some (.int r.1), hp kp r.2.1 rh tl rl r.2.2.1 r.2.2.2) := by
  refine en_run (d := d + 6) (cd := cd_153) (f := (sf 11 rs_11 false 3 (some (.int)) Ls xs (d + 6))) rfl rfl (x := (0, [some (.ref 0), some (.int x1), none], [], hp kp nh rh tl rl I L)) rfl rfl (Nat.le_of_ble_eq_true rfl) ?_
  unfold f_153 at hf
  refine bs_st 2 (x' := (2, [some (.ref 0), some (.int x1), none], [.int x1, .ref 0], hp kp nh rh tl rl I L)) rfl ?_
  obtain ⟨q0, hq0, hf⟩ := Option.bind_eq_some_iff.mp hf
  refine bs_call (o := pEN Ls xs (d + 6) 198 [.ref 0, .int x1] (hp kp nh rh tl rl I L)) (w := some (.int q0)) (h' := hp kp nh rh tl rl I L) (pc := 5) (lo := [some (.ref 0), some (.int x1), none]) (rest := []) rfl (t_198 Ls xs (d + 4) kp tl rl nh rh n x1 I L q0 hq0) ?_
  refine bs_st 2 (x' := (7, [some (.ref 0), some (.int x1), some (.int q0)], [.int q0], hp kp nh rh tl rl I L)) rfl ?_
  refine bs_br (t := 12) (e := 10) (lo := [some (.ref 0), some (.int x1), some (.int q0)]) (st := []) (h := hp kp nh rh tl rl I L) rfl hf (fun hc hf => ?_) (fun hc hf => ?_)
  · refine bs_st 2 (x' := (14, [some (.ref 0), some (.int x1), some (.int q0)], [.int x1, .ref 0], hp kp nh rh tl rl I L)) rfl ?_
    obtain ⟨q1, hq1, hf⟩ := Option.bind_eq_some_iff.mp hf
    refine bs_call (o := pEN Ls xs (d + 6) 199 [.ref 0, .int x1] (hp kp nh rh tl rl I L)) (w := some (.ref 33)) (h' := hp kp q1.1 rh tl rl q1.2.1 q1.2.2) (pc := 17) (lo := [some (.ref 0), some (.int x1), some (.int q0)]) (rest := []) rfl (t_199 Ls xs (d + 0) kp tl rl nh rh n x1 I L q1 hq1) ?_
    obtain ⟨q2, hq2, hf⟩ := Option.bind_eq_some_iff.mp hf
    refine bs_call (o := pEN Ls xs (d + 6) 11 [.ref 33] (hp kp q1.1 rh tl rl q1.2.1 q1.2.2)) (w := some (.int q2)) (h' := hp kp q1.1 rh tl rl q1.2.1 q1.2.2) (pc := 20) (lo := [some (.ref 0), some (.int x1), some (.int q0)]) (rest := []) rfl (t_11 Ls xs (d + 5) kp tl rl q1.1 rh n q1.2.1 q1.2.2 q2 hq2) ?_
    cases hf
    exact bs_ret rfl
  · refine bs_st 1 (x' := (11, [some (.ref 0), some (.int x1), some (.int q0)], [.int q0], hp kp nh rh tl rl I L)) rfl ?_
    cases hf
    exact bs_ret rfl
/-- LampRounds.window(I) on (0,) -/
def f_154 (n : Nat) (nh : Option Nat) (x1 : Int32) (I : FI) (L : FL) : Option (Int32 × Option Nat × FI × FL) :=
  (f_198 n x1 I L).bind fun q0 =>
  if q0 = 0 then
    (f_199 n nh x1 I L).bind fun q1 =>
    some (q1.2.1 33 2, q1.1, q1.2.1, q1.2.2)
  else
    some (q0, nh, I, L)
set_option maxHeartbeats 1000000 in
set_option maxRecDepth 20000 in
theorem t_154 (Ls : Nat) (xs : Nat → Int32) (d : Nat) (kp : Option Nat) (tl : List (Nat × Nat)) (rl : List (List (Option Nat))) (nh : Option Nat) (rh : Option Nat) (n : Nat) (x1 : Int32) (I : FI) (L : FL) (r : Int32 × Option Nat × FI × FL) (hf : f_154 n nh x1 I L = some r) : pEN Ls xs (d + 7) 154 [.ref 0, .int x1] (hp kp nh rh tl rl I L) = some (some (.int r.1), hp kp r.2.1 rh tl rl r.2.2.1 r.2.2.2) := by
  refine en_run (d := d + 6) (cd := cd_154) (f := (sf 11 rs_11 false 3 (some (.int)) Ls xs (d + 6))) rfl rfl (x := (0, [some (.ref 0), some (.int x1), none], [], hp kp nh rh tl rl I L)) rfl rfl (Nat.le_of_ble_eq_true rfl) ?_
  unfold f_154 at hf
  refine bs_st 2 (x' := (2, [some (.ref 0), some (.int x1), none], [.int x1, .ref 0], hp kp nh rh tl rl I L)) rfl ?_
  obtain ⟨q0, hq0, hf⟩ := Option.bind_eq_some_iff.mp hf
  refine bs_call (o := pEN Ls xs (d + 6) 198 [.ref 0, .int x1] (hp kp nh rh tl rl I L)) (w := some (.int q0)) (h' := hp kp nh rh tl rl I L) (pc := 5) (lo := [some (.ref 0), some (.int x1), none]) (rest := []) rfl (t_198 Ls xs (d + 4) kp tl rl nh rh n x1 I L q0 hq0) ?_
  refine bs_st 2 (x' := (7, [some (.ref 0), some (.int x1), some (.int q0)], [.int q0], hp kp nh rh tl rl I L)) rfl ?_
  refine bs_br (t := 14) (e := 10) (lo := [some (.ref 0), some (.int x1), some (.int q0)]) (st := []) (h := hp kp nh rh tl rl I L) rfl hf (fun hc hf => ?_) (fun hc hf => ?_)
  · refine bs_st 2 (x' := (16, [some (.ref 0), some (.int x1), some (.int q0)], [.int x1, .ref 0], hp kp nh rh tl rl I L)) rfl ?_
    obtain ⟨q1, hq1, hf⟩ := Option.bind_eq_some_iff.mp hf
    refine bs_call (o := pEN Ls xs (d + 6) 199 [.ref 0, .int x1] (hp kp nh rh tl rl I L)) (w := some (.ref 33)) (h' := hp kp q1.1 rh tl rl q1.2.1 q1.2.2) (pc := 19) (lo := [some (.ref 0), some (.int x1), some (.int q0)]) (rest := []) rfl (t_199 Ls xs (d + 0) kp tl rl nh rh n x1 I L q1 hq1) ?_
    refine bs_st 1 (x' := (22, [some (.ref 0), some (.int x1), some (.int q0)], [.int (q1.2.1 33 2)], hp kp q1.1 rh tl rl q1.2.1 q1.2.2)) rfl ?_
    cases hf
    exact bs_ret rfl
  · refine bs_st 2 (x' := (22, [some (.ref 0), some (.int x1), some (.int q0)], [.int q0], hp kp nh rh tl rl I L)) rfl ?_
    cases hf
    exact bs_ret rfl
/-- LampRounds.leaves(I) on (0,) -/
def f_155 (n : Nat) (nh : Option Nat) (x1 : Int32) (I : FI) (L : FL) : Option (Int32 × Option Nat × FI × FL) :=
  (f_198 n x1 I L).bind fun q0 =>
  if q0 = 0 then
    (f_199 n nh x1 I L).bind fun q1 =>
    some (q1.2.1 33 3, q1.1, q1.2.1, q1.2.2)
  else
    some (q0, nh, I, L)
set_option maxHeartbeats 1000000 in
set_option maxRecDepth 20000 in
theorem t_155 (Ls : Nat) (xs : Nat → Int32) (d : Nat) (kp : Option Nat) (tl : List (Nat × Nat)) (rl : List (List (Option Nat))) (nh : Option Nat) (rh : Option Nat) (n : Nat) (x1 : Int32) (I : FI) (L : FL) (r : Int32 × Option Nat × FI × FL) (hf : f_155 n nh x1 I L = some r) : pEN Ls xs (d + 7) 155 [.ref 0, .int x1] (hp kp nh rh tl rl I L) = some (some (.int r.1), hp kp r.2.1 rh tl rl r.2.2.1 r.2.2.2) := by
  refine en_run (d := d + 6) (cd := cd_155) (f := (sf 11 rs_11 false 3 (some (.int)) Ls xs (d + 6))) rfl rfl (x := (0, [some (.ref 0), some (.int x1), none], [], hp kp nh rh tl rl I L)) rfl rfl (Nat.le_of_ble_eq_true rfl) ?_
  unfold f_155 at hf
  refine bs_st 2 (x' := (2, [some (.ref 0), some (.int x1), none], [.int x1, .ref 0], hp kp nh rh tl rl I L)) rfl ?_
  obtain ⟨q0, hq0, hf⟩ := Option.bind_eq_some_iff.mp hf
  refine bs_call (o := pEN Ls xs (d + 6) 198 [.ref 0, .int x1] (hp kp nh rh tl rl I L)) (w := some (.int q0)) (h' := hp kp nh rh tl rl I L) (pc := 5) (lo := [some (.ref 0), some (.int x1), none]) (rest := []) rfl (t_198 Ls xs (d + 4) kp tl rl nh rh n x1 I L q0 hq0) ?_
  refine bs_st 2 (x' := (7, [some (.ref 0), some (.int x1), some (.int q0)], [.int q0], hp kp nh rh tl rl I L)) rfl ?_
  refine bs_br (t := 14) (e := 10) (lo := [some (.ref 0), some (.int x1), some (.int q0)]) (st := []) (h := hp kp nh rh tl rl I L) rfl hf (fun hc hf => ?_) (fun hc hf => ?_)
  · refine bs_st 2 (x' := (16, [some (.ref 0), some (.int x1), some (.int q0)], [.int x1, .ref 0], hp kp nh rh tl rl I L)) rfl ?_
    obtain ⟨q1, hq1, hf⟩ := Option.bind_eq_some_iff.mp hf
    refine bs_call (o := pEN Ls xs (d + 6) 199 [.ref 0, .int x1] (hp kp nh rh tl rl I L)) (w := some (.ref 33)) (h' := hp kp q1.1 rh tl rl q1.2.1 q1.2.2) (pc := 19) (lo := [some (.ref 0), some (.int x1), some (.int q0)]) (rest := []) rfl (t_199 Ls xs (d + 0) kp tl rl nh rh n x1 I L q1 hq1) ?_
    refine bs_st 1 (x' := (22, [some (.ref 0), some (.int x1), some (.int q0)], [.int (q1.2.1 33 3)], hp kp q1.1 rh tl rl q1.2.1 q1.2.2)) rfl ?_
    cases hf
    exact bs_ret rfl
  · refine bs_st 2 (x' := (22, [some (.ref 0), some (.int x1), some (.int q0)], [.int q0], hp kp nh rh tl rl I L)) rfl ?_
    cases hf
    exact bs_ret rfl
/-- LampRounds.nightByLaw(I) on (0,) -/
def f_192 (n : Nat) (x1 : Int32) (I : FI) (L : FL) : Option (FI × FL) :=
  (f_53 n (31 : Int32) I L).bind fun q0 =>
  (f_55 n (u2 q0.1 26 6 x1) q0.2).bind fun q1 =>
  some (q1.1, q1.2)
set_option maxHeartbeats 1000000 in
set_option maxRecDepth 20000 in
theorem t_192 (Ls : Nat) (xs : Nat → Int32) (d : Nat) (kp : Option Nat) (tl : List (Nat × Nat)) (rl : List (List (Option Nat))) (nh : Option Nat) (rh : Option Nat) (n : Nat) (x1 : Int32) (I : FI) (L : FL) (r : FI × FL) (hf : f_192 n x1 I L = some r) : pEN Ls xs (d + 6) 192 [.ref 0, .int x1] (hp kp nh rh tl rl I L) = some (some (.ref 26), hp kp (some 3) rh tl rl r.1 r.2) := by
  refine en_run (d := d + 5) (cd := cd_192) (f := (sf 11 rs_11 false 2 (some (.object "LampRounds$Night")) Ls xs (d + 5))) rfl rfl (x := (0, [some (.ref 0), some (.int x1)], [], hp kp nh rh tl rl I L)) rfl rfl (Nat.le_of_ble_eq_true rfl) ?_
  unfold f_192 at hf
  refine bs_st 7 (x' := (14, [some (.ref 0), some (.int x1)], [.int (31 : Int32), .ref 11, .ref 3, .ref 26], hp kp nh rh tl rl I L)) rfl ?_
  obtain ⟨q0, hq0, hf⟩ := Option.bind_eq_some_iff.mp hf
  refine bs_call (o := pEN Ls xs (d + 5) 53 [.ref 26, .ref 3, .ref 11, .int (31 : Int32)] (hp kp nh rh tl rl I L)) (w := none) (h' := hp kp (some 3) rh tl rl q0.1 q0.2) (pc := 17) (lo := [some (.ref 0), some (.int x1)]) (rest := []) rfl (t_53 Ls xs (d + 4) kp tl rl nh rh n (31 : Int32) I L q0 hq0) ?_
  refine bs_st 6 (x' := (29, [some (.ref 0), some (.int x1)], [.ref 26], hp kp (some 3) rh tl rl (u2 q0.1 26 6 x1) q0.2)) rfl ?_
  obtain ⟨q1, hq1, hf⟩ := Option.bind_eq_some_iff.mp hf
  refine bs_call (o := pEN Ls xs (d + 5) 55 [.ref 26] (hp kp (some 3) rh tl rl (u2 q0.1 26 6 x1) q0.2)) (w := none) (h' := hp kp (some 3) rh tl rl q1.1 q1.2) (pc := 32) (lo := [some (.ref 0), some (.int x1)]) (rest := []) rfl (t_55 Ls xs (d + 0) kp tl rl rh n (u2 q0.1 26 6 x1) q0.2 q1 hq1) ?_
  refine bs_st 2 (x' := (36, [some (.ref 0), some (.int x1)], [.ref 26], hp kp (some 3) rh tl rl q1.1 q1.2)) rfl ?_
  cases hf
  exact bs_ret rfl
/-- LampRounds.nightByLaw(I) on (0,) -/
def f_192_1 (n : Nat) (x1 : Int32) (I : FI) (L : FL) : Option (FI × FL) :=
  (f_53_1 n (31 : Int32) I L).bind fun q0 =>
  (f_55 n (u2 q0.1 26 6 x1) q0.2).bind fun q1 =>
  some (q1.1, q1.2)
set_option maxHeartbeats 1000000 in
set_option maxRecDepth 20000 in
theorem t_192_1 (Ls : Nat) (xs : Nat → Int32) (d : Nat) (kp : Option Nat) (tl : List (Nat × Nat)) (rl : List (List (Option Nat))) (rh : Option Nat) (n : Nat) (x1 : Int32) (I : FI) (L : FL) (r : FI × FL) (hf : f_192_1 n x1 I L = some r) : pEN Ls xs (d + 6) 192 [.ref 0, .int x1] (hp kp (some 3) rh tl rl I L) = some (some (.ref 26), hp kp (some 3) rh tl rl r.1 r.2) := by
  refine en_run (d := d + 5) (cd := cd_192) (f := (sf 11 rs_11 false 2 (some (.object "LampRounds$Night")) Ls xs (d + 5))) rfl rfl (x := (0, [some (.ref 0), some (.int x1)], [], hp kp (some 3) rh tl rl I L)) rfl rfl (Nat.le_of_ble_eq_true rfl) ?_
  unfold f_192_1 at hf
  refine bs_st 7 (x' := (14, [some (.ref 0), some (.int x1)], [.int (31 : Int32), .ref 11, .ref 3, .ref 26], hp kp (some 3) rh tl rl I L)) rfl ?_
  obtain ⟨q0, hq0, hf⟩ := Option.bind_eq_some_iff.mp hf
  refine bs_call (o := pEN Ls xs (d + 5) 53 [.ref 26, .ref 3, .ref 11, .int (31 : Int32)] (hp kp (some 3) rh tl rl I L)) (w := none) (h' := hp kp (some 3) rh tl rl q0.1 q0.2) (pc := 17) (lo := [some (.ref 0), some (.int x1)]) (rest := []) rfl (t_53_1 Ls xs (d + 4) kp tl rl rh n (31 : Int32) I L q0 hq0) ?_
  refine bs_st 6 (x' := (29, [some (.ref 0), some (.int x1)], [.ref 26], hp kp (some 3) rh tl rl (u2 q0.1 26 6 x1) q0.2)) rfl ?_
  obtain ⟨q1, hq1, hf⟩ := Option.bind_eq_some_iff.mp hf
  refine bs_call (o := pEN Ls xs (d + 5) 55 [.ref 26] (hp kp (some 3) rh tl rl (u2 q0.1 26 6 x1) q0.2)) (w := none) (h' := hp kp (some 3) rh tl rl q1.1 q1.2) (pc := 32) (lo := [some (.ref 0), some (.int x1)]) (rest := []) rfl (t_55 Ls xs (d + 0) kp tl rl rh n (u2 q0.1 26 6 x1) q0.2 q1 hq1) ?_
  refine bs_st 2 (x' := (36, [some (.ref 0), some (.int x1)], [.ref 26], hp kp (some 3) rh tl rl q1.1 q1.2)) rfl ?_
  cases hf
  exact bs_ret rfl
/-- LampRounds.laws(I) on (0,) -/
def c_156_2 (n : Nat) (nh : Option Nat) (K1 : Int32 → Int32 → Int32 → FI → FL → Option (Int32 × Option Nat × FI × FL)) (x1 : Int32) (x3 : Int32) (x4 : Int32) (I : FI) (L : FL) : Option (Int32 × Option Nat × FI × FL) :=
  if (4 : Int32) ≤ x4 then
    some (x3, (some 3), I, L)
  else
    (f_192_1 n x4 I L).bind fun q3 =>
    if x1 = 0 then ((f_72 n q3.1 q3.2).bind fun q4 =>
      if q4 = 0 then
        K1 (0 : Int32) x3 x4 q3.1 q3.2
      else
        K1 (0 : Int32) (x3 ||| ((1 : Int32) <<< (x4 &&& 31))) x4 q3.1 q3.2) else if x1 = 1 then ((f_72_1 n q3.1 q3.2).bind fun q5 =>
      if q5 = 0 then
        K1 (1 : Int32) x3 x4 q3.1 q3.2
      else
        K1 (1 : Int32) (x3 ||| ((1 : Int32) <<< (x4 &&& 31))) x4 q3.1 q3.2) else if x1 = 2 then ((f_72_2 n q3.1 q3.2).bind fun q6 =>
      if q6 = 0 then
        K1 (2 : Int32) x3 x4 q3.1 q3.2
      else
        K1 (2 : Int32) (x3 ||| ((1 : Int32) <<< (x4 &&& 31))) x4 q3.1 q3.2) else if x1 = 3 then ((f_72_3 n q3.1 q3.2).bind fun q7 =>
      if q7 = 0 then
        K1 (3 : Int32) x3 x4 q3.1 q3.2
      else
        K1 (3 : Int32) (x3 ||| ((1 : Int32) <<< (x4 &&& 31))) x4 q3.1 q3.2) else none
set_option maxHeartbeats 1000000 in
set_option maxRecDepth 20000 in
theorem tc_156_2 (Ls : Nat) (xs : Nat → Int32) (d : Nat) (kp : Option Nat) (tl : List (Nat × Nat)) (rl : List (List (Option Nat))) (nh : Option Nat) (rh : Option Nat) (n : Nat) (K1 : Int32 → Int32 → Int32 → FI → FL → Option (Int32 × Option Nat × FI × FL)) (hK1 : ∀ (w2 : Option Value) (x1 : Int32) (x3 : Int32) (x4 : Int32) (I : FI) (L : FL) (r : Int32 × Option Nat × FI × FL), K1 x1 x3 x4 I L = some r → Bs cd_156 (sf 11 rs_11 false 5 (some (.int)) Ls xs (d + 6)) (48, [some (.ref 0), some (.int x1), w2, some (.int x3), some (.int x4)], [], hp kp (some 3) rh tl rl I L) (some (.int r.1), hp kp r.2.1 rh tl rl r.2.2.1 r.2.2.2)) (w2 : Option Value) (x1 : Int32) (x3 : Int32) (x4 : Int32) (I : FI) (L : FL) (r : Int32 × Option Nat × FI × FL) (hf : c_156_2 n nh K1 x1 x3 x4 I L = some r) : Bs cd_156 (sf 11 rs_11 false 5 (some (.int)) Ls xs (d + 6)) (17, [some (.ref 0), some (.int x1), w2, some (.int x3), some (.int x4)], [], hp kp (some 3) rh tl rl I L) (some (.int r.1), hp kp r.2.1 rh tl rl r.2.2.1 r.2.2.2) := by
  unfold c_156_2 at hf
  refine bs_st 2 (x' := (20, [some (.ref 0), some (.int x1), w2, some (.int x3), some (.int x4)], [.int (4 : Int32), .int x4], hp kp (some 3) rh tl rl I L)) rfl ?_
  refine bs_br (t := 54) (e := 23) (lo := [some (.ref 0), some (.int x1), w2, some (.int x3), some (.int x4)]) (st := []) (h := hp kp (some 3) rh tl rl I L) rfl hf (fun hc hf => ?_) (fun hc hf => ?_)
  · refine bs_st 1 (x' := (55, [some (.ref 0), some (.int x1), w2, some (.int x3), some (.int x4)], [.int x3], hp kp (some 3) rh tl rl I L)) rfl ?_
    cases hf
    exact bs_ret rfl
  · refine bs_st 2 (x' := (26, [some (.ref 0), some (.int x1), w2, some (.int x3), some (.int x4)], [.int x4, .ref 0], hp kp (some 3) rh tl rl I L)) rfl ?_
    obtain ⟨q3, hq3, hf⟩ := Option.bind_eq_some_iff.mp hf
    refine bs_call (o := pEN Ls xs (d + 6) 192 [.ref 0, .int x4] (hp kp (some 3) rh tl rl I L)) (w := some (.ref 26)) (h' := hp kp (some 3) rh tl rl q3.1 q3.2) (pc := 29) (lo := [some (.ref 0), some (.int x1), w2, some (.int x3), some (.int x4)]) (rest := []) rfl (t_192_1 Ls xs (d + 0) kp tl rl rh n x4 I L q3 hq3) ?_
    refine bs_st 3 (x' := (34, [some (.ref 0), some (.int x1), w2, some (.int x3), some (.int x4)], [.int x1, .ref 44, .ref 26], hp kp (some 3) rh tl rl q3.1 q3.2)) rfl ?_
    refine bs_cs hf (fun hc hf1_0 => ?_) (fun hc hf1_0 => ?_)
    · subst hc
      refine bs_st 1 (x' := (35, [some (.ref 0), some (.int (0 : Int32)), w2, some (.int x3), some (.int x4)], [.ref 81, .ref 26], hp kp (some 3) rh tl rl q3.1 q3.2)) rfl ?_
      obtain ⟨q4, hq4, hf1_0⟩ := Option.bind_eq_some_iff.mp hf1_0
      refine bs_call (o := pEN Ls xs (d + 6) 72 [.ref 26, .ref 81] (hp kp (some 3) rh tl rl q3.1 q3.2)) (w := some (.int q4)) (h' := hp kp (some 3) rh tl rl q3.1 q3.2) (pc := 38) (lo := [some (.ref 0), some (.int (0 : Int32)), w2, some (.int x3), some (.int x4)]) (rest := []) rfl (t_72 Ls xs (d + 4) kp tl rl rh n q3.1 q3.2 q4 hq4) ?_
      refine bs_br (t := 48) (e := 41) (lo := [some (.ref 0), some (.int (0 : Int32)), w2, some (.int x3), some (.int x4)]) (st := []) (h := hp kp (some 3) rh tl rl q3.1 q3.2) rfl hf1_0 (fun hc hf1_0 => ?_) (fun hc hf1_0 => ?_)
      · exact hK1 w2 (0 : Int32) x3 x4 q3.1 q3.2 r hf1_0
      · refine bs_st 6 (x' := (48, [some (.ref 0), some (.int (0 : Int32)), (pcl w2), some (.int (x3 ||| ((1 : Int32) <<< (x4 &&& 31)))), some (.int x4)], [], hp kp (some 3) rh tl rl q3.1 q3.2)) rfl ?_
        exact hK1 (pcl w2) (0 : Int32) (x3 ||| ((1 : Int32) <<< (x4 &&& 31))) x4 q3.1 q3.2 r hf1_0
    refine bs_cs hf1_0 (fun hc hf1_1 => ?_) (fun hc hf1_1 => ?_)
    · subst hc
      refine bs_st 1 (x' := (35, [some (.ref 0), some (.int (1 : Int32)), w2, some (.int x3), some (.int x4)], [.ref 83, .ref 26], hp kp (some 3) rh tl rl q3.1 q3.2)) rfl ?_
      obtain ⟨q5, hq5, hf1_1⟩ := Option.bind_eq_some_iff.mp hf1_1
      refine bs_call (o := pEN Ls xs (d + 6) 72 [.ref 26, .ref 83] (hp kp (some 3) rh tl rl q3.1 q3.2)) (w := some (.int q5)) (h' := hp kp (some 3) rh tl rl q3.1 q3.2) (pc := 38) (lo := [some (.ref 0), some (.int (1 : Int32)), w2, some (.int x3), some (.int x4)]) (rest := []) rfl (t_72_1 Ls xs (d + 4) kp tl rl rh n q3.1 q3.2 q5 hq5) ?_
      refine bs_br (t := 48) (e := 41) (lo := [some (.ref 0), some (.int (1 : Int32)), w2, some (.int x3), some (.int x4)]) (st := []) (h := hp kp (some 3) rh tl rl q3.1 q3.2) rfl hf1_1 (fun hc hf1_1 => ?_) (fun hc hf1_1 => ?_)
      · exact hK1 w2 (1 : Int32) x3 x4 q3.1 q3.2 r hf1_1
      · refine bs_st 6 (x' := (48, [some (.ref 0), some (.int (1 : Int32)), (pcl w2), some (.int (x3 ||| ((1 : Int32) <<< (x4 &&& 31)))), some (.int x4)], [], hp kp (some 3) rh tl rl q3.1 q3.2)) rfl ?_
        exact hK1 (pcl w2) (1 : Int32) (x3 ||| ((1 : Int32) <<< (x4 &&& 31))) x4 q3.1 q3.2 r hf1_1
    refine bs_cs hf1_1 (fun hc hf1_2 => ?_) (fun hc hf1_2 => ?_)
    · subst hc
      refine bs_st 1 (x' := (35, [some (.ref 0), some (.int (2 : Int32)), w2, some (.int x3), some (.int x4)], [.ref 85, .ref 26], hp kp (some 3) rh tl rl q3.1 q3.2)) rfl ?_
      obtain ⟨q6, hq6, hf1_2⟩ := Option.bind_eq_some_iff.mp hf1_2
      refine bs_call (o := pEN Ls xs (d + 6) 72 [.ref 26, .ref 85] (hp kp (some 3) rh tl rl q3.1 q3.2)) (w := some (.int q6)) (h' := hp kp (some 3) rh tl rl q3.1 q3.2) (pc := 38) (lo := [some (.ref 0), some (.int (2 : Int32)), w2, some (.int x3), some (.int x4)]) (rest := []) rfl (t_72_2 Ls xs (d + 4) kp tl rl rh n q3.1 q3.2 q6 hq6) ?_
      refine bs_br (t := 48) (e := 41) (lo := [some (.ref 0), some (.int (2 : Int32)), w2, some (.int x3), some (.int x4)]) (st := []) (h := hp kp (some 3) rh tl rl q3.1 q3.2) rfl hf1_2 (fun hc hf1_2 => ?_) (fun hc hf1_2 => ?_)
      · exact hK1 w2 (2 : Int32) x3 x4 q3.1 q3.2 r hf1_2
      · refine bs_st 6 (x' := (48, [some (.ref 0), some (.int (2 : Int32)), (pcl w2), some (.int (x3 ||| ((1 : Int32) <<< (x4 &&& 31)))), some (.int x4)], [], hp kp (some 3) rh tl rl q3.1 q3.2)) rfl ?_
        exact hK1 (pcl w2) (2 : Int32) (x3 ||| ((1 : Int32) <<< (x4 &&& 31))) x4 q3.1 q3.2 r hf1_2
    refine bs_cs hf1_2 (fun hc hf1_3 => ?_) (fun hc hf1_3 => ?_)
    · subst hc
      refine bs_st 1 (x' := (35, [some (.ref 0), some (.int (3 : Int32)), w2, some (.int x3), some (.int x4)], [.ref 87, .ref 26], hp kp (some 3) rh tl rl q3.1 q3.2)) rfl ?_
      obtain ⟨q7, hq7, hf1_3⟩ := Option.bind_eq_some_iff.mp hf1_3
      refine bs_call (o := pEN Ls xs (d + 6) 72 [.ref 26, .ref 87] (hp kp (some 3) rh tl rl q3.1 q3.2)) (w := some (.int q7)) (h' := hp kp (some 3) rh tl rl q3.1 q3.2) (pc := 38) (lo := [some (.ref 0), some (.int (3 : Int32)), w2, some (.int x3), some (.int x4)]) (rest := []) rfl (t_72_3 Ls xs (d + 4) kp tl rl rh n q3.1 q3.2 q7 hq7) ?_
      refine bs_br (t := 48) (e := 41) (lo := [some (.ref 0), some (.int (3 : Int32)), w2, some (.int x3), some (.int x4)]) (st := []) (h := hp kp (some 3) rh tl rl q3.1 q3.2) rfl hf1_3 (fun hc hf1_3 => ?_) (fun hc hf1_3 => ?_)
      · exact hK1 w2 (3 : Int32) x3 x4 q3.1 q3.2 r hf1_3
      · refine bs_st 6 (x' := (48, [some (.ref 0), some (.int (3 : Int32)), (pcl w2), some (.int (x3 ||| ((1 : Int32) <<< (x4 &&& 31)))), some (.int x4)], [], hp kp (some 3) rh tl rl q3.1 q3.2)) rfl ?_
        exact hK1 (pcl w2) (3 : Int32) (x3 ||| ((1 : Int32) <<< (x4 &&& 31))) x4 q3.1 q3.2 r hf1_3
    cases hf1_3
def b_156_1 (n : Nat) (nh : Option Nat) (K1 : Int32 → Int32 → Int32 → FI → FL → Option (Int32 × Option Nat × FI × FL)) (x1 : Int32) (x3 : Int32) (x4 : Int32) (I : FI) (L : FL) : Option (Int32 × Option Nat × FI × FL) :=
  c_156_2 n nh K1 x1 x3 (x4 + (1 : Int32)) I L
def c_156_1 (n : Nat) (nh : Option Nat) : Nat → Int32 → Int32 → Int32 → FI → FL → Option (Int32 × Option Nat × FI × FL)
  | 0, _, _, _, _, _ => none
  | m + 1, x1, x3, x4, I, L => b_156_1 n nh (c_156_1 n nh m) x1 x3 x4 I L
set_option maxHeartbeats 1000000 in
set_option maxRecDepth 20000 in
theorem tc_156_1 (Ls : Nat) (xs : Nat → Int32) (d : Nat) (kp : Option Nat) (tl : List (Nat × Nat)) (rl : List (List (Option Nat))) (nh : Option Nat) (rh : Option Nat) (n : Nat) : ∀ (m : Nat) (w2 : Option Value) (x1 : Int32) (x3 : Int32) (x4 : Int32) (I : FI) (L : FL) (r : Int32 × Option Nat × FI × FL), c_156_1 n nh m x1 x3 x4 I L = some r → Bs cd_156 (sf 11 rs_11 false 5 (some (.int)) Ls xs (d + 6)) (48, [some (.ref 0), some (.int x1), w2, some (.int x3), some (.int x4)], [], hp kp (some 3) rh tl rl I L) (some (.int r.1), hp kp r.2.1 rh tl rl r.2.2.1 r.2.2.2)
  | 0, w2, x1, x3, x4, I, L, r, hf => by cases hf
  | m + 1, w2, x1, x3, x4, I, L, r, hf => by
    unfold c_156_1 b_156_1 at hf
    have hK1 := tc_156_1 Ls xs d kp tl rl nh rh n m
    refine bs_st 2 (x' := (17, [some (.ref 0), some (.int x1), w2, some (.int x3), some (.int (x4 + (1 : Int32)))], [], hp kp (some 3) rh tl rl I L)) rfl ?_
    exact tc_156_2 Ls xs d kp tl rl nh rh n _ hK1 w2 x1 x3 (x4 + (1 : Int32)) I L r hf
def c_156_0 (n : Nat) (nh : Option Nat) (x1 : Int32) (x3 : Int32) (x4 : Int32) (I : FI) (L : FL) : Option (Int32 × Option Nat × FI × FL) :=
  if (4 : Int32) ≤ x4 then
    some (x3, nh, I, L)
  else
    (f_192 n x4 I L).bind fun q1 =>
    if x1 = 0 then ((f_72 n q1.1 q1.2).bind fun q2 =>
      if q2 = 0 then
        c_156_1 n nh n (0 : Int32) x3 x4 q1.1 q1.2
      else
        c_156_1 n nh n (0 : Int32) (x3 ||| ((1 : Int32) <<< (x4 &&& 31))) x4 q1.1 q1.2) else if x1 = 1 then ((f_72_1 n q1.1 q1.2).bind fun q8 =>
      if q8 = 0 then
        c_156_1 n nh n (1 : Int32) x3 x4 q1.1 q1.2
      else
        c_156_1 n nh n (1 : Int32) (x3 ||| ((1 : Int32) <<< (x4 &&& 31))) x4 q1.1 q1.2) else if x1 = 2 then ((f_72_2 n q1.1 q1.2).bind fun q9 =>
      if q9 = 0 then
        c_156_1 n nh n (2 : Int32) x3 x4 q1.1 q1.2
      else
        c_156_1 n nh n (2 : Int32) (x3 ||| ((1 : Int32) <<< (x4 &&& 31))) x4 q1.1 q1.2) else if x1 = 3 then ((f_72_3 n q1.1 q1.2).bind fun q10 =>
      if q10 = 0 then
        c_156_1 n nh n (3 : Int32) x3 x4 q1.1 q1.2
      else
        c_156_1 n nh n (3 : Int32) (x3 ||| ((1 : Int32) <<< (x4 &&& 31))) x4 q1.1 q1.2) else none
set_option maxHeartbeats 1000000 in
set_option maxRecDepth 20000 in
theorem tc_156_0 (Ls : Nat) (xs : Nat → Int32) (d : Nat) (kp : Option Nat) (tl : List (Nat × Nat)) (rl : List (List (Option Nat))) (nh : Option Nat) (rh : Option Nat) (n : Nat) (w2 : Option Value) (x1 : Int32) (x3 : Int32) (x4 : Int32) (I : FI) (L : FL) (r : Int32 × Option Nat × FI × FL) (hf : c_156_0 n nh x1 x3 x4 I L = some r) : Bs cd_156 (sf 11 rs_11 false 5 (some (.int)) Ls xs (d + 6)) (17, [some (.ref 0), some (.int x1), w2, some (.int x3), some (.int x4)], [], hp kp nh rh tl rl I L) (some (.int r.1), hp kp r.2.1 rh tl rl r.2.2.1 r.2.2.2) := by
  unfold c_156_0 at hf
  refine bs_st 2 (x' := (20, [some (.ref 0), some (.int x1), w2, some (.int x3), some (.int x4)], [.int (4 : Int32), .int x4], hp kp nh rh tl rl I L)) rfl ?_
  refine bs_br (t := 54) (e := 23) (lo := [some (.ref 0), some (.int x1), w2, some (.int x3), some (.int x4)]) (st := []) (h := hp kp nh rh tl rl I L) rfl hf (fun hc hf => ?_) (fun hc hf => ?_)
  · refine bs_st 1 (x' := (55, [some (.ref 0), some (.int x1), w2, some (.int x3), some (.int x4)], [.int x3], hp kp nh rh tl rl I L)) rfl ?_
    cases hf
    exact bs_ret rfl
  · refine bs_st 2 (x' := (26, [some (.ref 0), some (.int x1), w2, some (.int x3), some (.int x4)], [.int x4, .ref 0], hp kp nh rh tl rl I L)) rfl ?_
    obtain ⟨q1, hq1, hf⟩ := Option.bind_eq_some_iff.mp hf
    refine bs_call (o := pEN Ls xs (d + 6) 192 [.ref 0, .int x4] (hp kp nh rh tl rl I L)) (w := some (.ref 26)) (h' := hp kp (some 3) rh tl rl q1.1 q1.2) (pc := 29) (lo := [some (.ref 0), some (.int x1), w2, some (.int x3), some (.int x4)]) (rest := []) rfl (t_192 Ls xs (d + 0) kp tl rl nh rh n x4 I L q1 hq1) ?_
    refine bs_st 3 (x' := (34, [some (.ref 0), some (.int x1), w2, some (.int x3), some (.int x4)], [.int x1, .ref 44, .ref 26], hp kp (some 3) rh tl rl q1.1 q1.2)) rfl ?_
    refine bs_cs hf (fun hc hf2_0 => ?_) (fun hc hf2_0 => ?_)
    · subst hc
      refine bs_st 1 (x' := (35, [some (.ref 0), some (.int (0 : Int32)), w2, some (.int x3), some (.int x4)], [.ref 81, .ref 26], hp kp (some 3) rh tl rl q1.1 q1.2)) rfl ?_
      obtain ⟨q2, hq2, hf2_0⟩ := Option.bind_eq_some_iff.mp hf2_0
      refine bs_call (o := pEN Ls xs (d + 6) 72 [.ref 26, .ref 81] (hp kp (some 3) rh tl rl q1.1 q1.2)) (w := some (.int q2)) (h' := hp kp (some 3) rh tl rl q1.1 q1.2) (pc := 38) (lo := [some (.ref 0), some (.int (0 : Int32)), w2, some (.int x3), some (.int x4)]) (rest := []) rfl (t_72 Ls xs (d + 4) kp tl rl rh n q1.1 q1.2 q2 hq2) ?_
      refine bs_br (t := 48) (e := 41) (lo := [some (.ref 0), some (.int (0 : Int32)), w2, some (.int x3), some (.int x4)]) (st := []) (h := hp kp (some 3) rh tl rl q1.1 q1.2) rfl hf2_0 (fun hc hf2_0 => ?_) (fun hc hf2_0 => ?_)
      · exact tc_156_1 Ls xs d kp tl rl nh rh n n w2 (0 : Int32) x3 x4 q1.1 q1.2 r hf2_0
      · refine bs_st 6 (x' := (48, [some (.ref 0), some (.int (0 : Int32)), (pcl w2), some (.int (x3 ||| ((1 : Int32) <<< (x4 &&& 31)))), some (.int x4)], [], hp kp (some 3) rh tl rl q1.1 q1.2)) rfl ?_
        exact tc_156_1 Ls xs d kp tl rl nh rh n n (pcl w2) (0 : Int32) (x3 ||| ((1 : Int32) <<< (x4 &&& 31))) x4 q1.1 q1.2 r hf2_0
    refine bs_cs hf2_0 (fun hc hf2_1 => ?_) (fun hc hf2_1 => ?_)
    · subst hc
      refine bs_st 1 (x' := (35, [some (.ref 0), some (.int (1 : Int32)), w2, some (.int x3), some (.int x4)], [.ref 83, .ref 26], hp kp (some 3) rh tl rl q1.1 q1.2)) rfl ?_
      obtain ⟨q8, hq8, hf2_1⟩ := Option.bind_eq_some_iff.mp hf2_1
      refine bs_call (o := pEN Ls xs (d + 6) 72 [.ref 26, .ref 83] (hp kp (some 3) rh tl rl q1.1 q1.2)) (w := some (.int q8)) (h' := hp kp (some 3) rh tl rl q1.1 q1.2) (pc := 38) (lo := [some (.ref 0), some (.int (1 : Int32)), w2, some (.int x3), some (.int x4)]) (rest := []) rfl (t_72_1 Ls xs (d + 4) kp tl rl rh n q1.1 q1.2 q8 hq8) ?_
      refine bs_br (t := 48) (e := 41) (lo := [some (.ref 0), some (.int (1 : Int32)), w2, some (.int x3), some (.int x4)]) (st := []) (h := hp kp (some 3) rh tl rl q1.1 q1.2) rfl hf2_1 (fun hc hf2_1 => ?_) (fun hc hf2_1 => ?_)
      · exact tc_156_1 Ls xs d kp tl rl nh rh n n w2 (1 : Int32) x3 x4 q1.1 q1.2 r hf2_1
      · refine bs_st 6 (x' := (48, [some (.ref 0), some (.int (1 : Int32)), (pcl w2), some (.int (x3 ||| ((1 : Int32) <<< (x4 &&& 31)))), some (.int x4)], [], hp kp (some 3) rh tl rl q1.1 q1.2)) rfl ?_
        exact tc_156_1 Ls xs d kp tl rl nh rh n n (pcl w2) (1 : Int32) (x3 ||| ((1 : Int32) <<< (x4 &&& 31))) x4 q1.1 q1.2 r hf2_1
    refine bs_cs hf2_1 (fun hc hf2_2 => ?_) (fun hc hf2_2 => ?_)
    · subst hc
      refine bs_st 1 (x' := (35, [some (.ref 0), some (.int (2 : Int32)), w2, some (.int x3), some (.int x4)], [.ref 85, .ref 26], hp kp (some 3) rh tl rl q1.1 q1.2)) rfl ?_
      obtain ⟨q9, hq9, hf2_2⟩ := Option.bind_eq_some_iff.mp hf2_2
      refine bs_call (o := pEN Ls xs (d + 6) 72 [.ref 26, .ref 85] (hp kp (some 3) rh tl rl q1.1 q1.2)) (w := some (.int q9)) (h' := hp kp (some 3) rh tl rl q1.1 q1.2) (pc := 38) (lo := [some (.ref 0), some (.int (2 : Int32)), w2, some (.int x3), some (.int x4)]) (rest := []) rfl (t_72_2 Ls xs (d + 4) kp tl rl rh n q1.1 q1.2 q9 hq9) ?_
      refine bs_br (t := 48) (e := 41) (lo := [some (.ref 0), some (.int (2 : Int32)), w2, some (.int x3), some (.int x4)]) (st := []) (h := hp kp (some 3) rh tl rl q1.1 q1.2) rfl hf2_2 (fun hc hf2_2 => ?_) (fun hc hf2_2 => ?_)
      · exact tc_156_1 Ls xs d kp tl rl nh rh n n w2 (2 : Int32) x3 x4 q1.1 q1.2 r hf2_2
      · refine bs_st 6 (x' := (48, [some (.ref 0), some (.int (2 : Int32)), (pcl w2), some (.int (x3 ||| ((1 : Int32) <<< (x4 &&& 31)))), some (.int x4)], [], hp kp (some 3) rh tl rl q1.1 q1.2)) rfl ?_
        exact tc_156_1 Ls xs d kp tl rl nh rh n n (pcl w2) (2 : Int32) (x3 ||| ((1 : Int32) <<< (x4 &&& 31))) x4 q1.1 q1.2 r hf2_2
    refine bs_cs hf2_2 (fun hc hf2_3 => ?_) (fun hc hf2_3 => ?_)
    · subst hc
      refine bs_st 1 (x' := (35, [some (.ref 0), some (.int (3 : Int32)), w2, some (.int x3), some (.int x4)], [.ref 87, .ref 26], hp kp (some 3) rh tl rl q1.1 q1.2)) rfl ?_
      obtain ⟨q10, hq10, hf2_3⟩ := Option.bind_eq_some_iff.mp hf2_3
      refine bs_call (o := pEN Ls xs (d + 6) 72 [.ref 26, .ref 87] (hp kp (some 3) rh tl rl q1.1 q1.2)) (w := some (.int q10)) (h' := hp kp (some 3) rh tl rl q1.1 q1.2) (pc := 38) (lo := [some (.ref 0), some (.int (3 : Int32)), w2, some (.int x3), some (.int x4)]) (rest := []) rfl (t_72_3 Ls xs (d + 4) kp tl rl rh n q1.1 q1.2 q10 hq10) ?_
      refine bs_br (t := 48) (e := 41) (lo := [some (.ref 0), some (.int (3 : Int32)), w2, some (.int x3), some (.int x4)]) (st := []) (h := hp kp (some 3) rh tl rl q1.1 q1.2) rfl hf2_3 (fun hc hf2_3 => ?_) (fun hc hf2_3 => ?_)
      · exact tc_156_1 Ls xs d kp tl rl nh rh n n w2 (3 : Int32) x3 x4 q1.1 q1.2 r hf2_3
      · refine bs_st 6 (x' := (48, [some (.ref 0), some (.int (3 : Int32)), (pcl w2), some (.int (x3 ||| ((1 : Int32) <<< (x4 &&& 31)))), some (.int x4)], [], hp kp (some 3) rh tl rl q1.1 q1.2)) rfl ?_
        exact tc_156_1 Ls xs d kp tl rl nh rh n n (pcl w2) (3 : Int32) (x3 ||| ((1 : Int32) <<< (x4 &&& 31))) x4 q1.1 q1.2 r hf2_3
    cases hf2_3
def f_156 (n : Nat) (nh : Option Nat) (x1 : Int32) (I : FI) (L : FL) : Option (Int32 × Option Nat × FI × FL) :=
  (f_198 n x1 I L).bind fun q0 =>
  if q0 = 0 then
    c_156_0 n nh x1 (0 : Int32) (0 : Int32) I L
  else
    some (q0, nh, I, L)
set_option maxHeartbeats 1000000 in
set_option maxRecDepth 20000 in
theorem t_156 (Ls : Nat) (xs : Nat → Int32) (d : Nat) (kp : Option Nat) (tl : List (Nat × Nat)) (rl : List (List (Option Nat))) (nh : Option Nat) (rh : Option Nat) (n : Nat) (x1 : Int32) (I : FI) (L : FL) (r : Int32 × Option Nat × FI × FL) (hf : f_156 n nh x1 I L = some r) : pEN Ls xs (d + 7) 156 [.ref 0, .int x1] (hp kp nh rh tl rl I L) = some (some (.int r.1), hp kp r.2.1 rh tl rl r.2.2.1 r.2.2.2) := by
  refine en_run (d := d + 6) (cd := cd_156) (f := (sf 11 rs_11 false 5 (some (.int)) Ls xs (d + 6))) rfl rfl (x := (0, [some (.ref 0), some (.int x1), none, none, none], [], hp kp nh rh tl rl I L)) rfl rfl (Nat.le_of_ble_eq_true rfl) ?_
  unfold f_156 at hf
  refine bs_st 2 (x' := (2, [some (.ref 0), some (.int x1), none, none, none], [.int x1, .ref 0], hp kp nh rh tl rl I L)) rfl ?_
  obtain ⟨q0, hq0, hf⟩ := Option.bind_eq_some_iff.mp hf
  refine bs_call (o := pEN Ls xs (d + 6) 198 [.ref 0, .int x1] (hp kp nh rh tl rl I L)) (w := some (.int q0)) (h' := hp kp nh rh tl rl I L) (pc := 5) (lo := [some (.ref 0), some (.int x1), none, none, none]) (rest := []) rfl (t_198 Ls xs (d + 4) kp tl rl nh rh n x1 I L q0 hq0) ?_
  refine bs_st 2 (x' := (7, [some (.ref 0), some (.int x1), some (.int q0), none, none], [.int q0], hp kp nh rh tl rl I L)) rfl ?_
  refine bs_br (t := 12) (e := 10) (lo := [some (.ref 0), some (.int x1), some (.int q0), none, none]) (st := []) (h := hp kp nh rh tl rl I L) rfl hf (fun hc hf => ?_) (fun hc hf => ?_)
  · refine bs_st 4 (x' := (17, [some (.ref 0), some (.int x1), some (.int q0), some (.int (0 : Int32)), some (.int (0 : Int32))], [], hp kp nh rh tl rl I L)) rfl ?_
    exact tc_156_0 Ls xs d kp tl rl nh rh n (some (.int q0)) x1 (0 : Int32) (0 : Int32) I L r hf
  · refine bs_st 1 (x' := (11, [some (.ref 0), some (.int x1), some (.int q0), none, none], [.int q0], hp kp nh rh tl rl I L)) rfl ?_
    cases hf
    exact bs_ret rfl
/-- LampRounds.by(I) on (0,) -/
def f_157 (n : Nat) (nh : Option Nat) (x1 : Int32) (I : FI) (L : FL) : Option (Int32 × Option Nat × FI × FL) :=
  (f_177 I L).bind fun q0 =>
  if q0 = 0 then
    some ((-2 : Int32), nh, I, L)
  else
    if x1 < 0 then
      some ((-2 : Int32), nh, I, L)
    else
      if x1 < (4 : Int32) then
        (f_192 n x1 I L).bind fun q1 =>
        (f_66 n q1.1 q1.2).bind fun q2 =>
        some (q2, (some 3), q1.1, q1.2)
      else
        some ((-2 : Int32), nh, I, L)
set_option maxHeartbeats 1000000 in
set_option maxRecDepth 20000 in
theorem t_157 (Ls : Nat) (xs : Nat → Int32) (d : Nat) (kp : Option Nat) (tl : List (Nat × Nat)) (rl : List (List (Option Nat))) (nh : Option Nat) (rh : Option Nat) (n : Nat) (x1 : Int32) (I : FI) (L : FL) (r : Int32 × Option Nat × FI × FL) (hf : f_157 n nh x1 I L = some r) : pEN Ls xs (d + 7) 157 [.ref 0, .int x1] (hp kp nh rh tl rl I L) = some (some (.int r.1), hp kp r.2.1 rh tl rl r.2.2.1 r.2.2.2) := by
  refine en_run (d := d + 6) (cd := cd_157) (f := (sf 11 rs_11 false 2 (some (.int)) Ls xs (d + 6))) rfl rfl (x := (0, [some (.ref 0), some (.int x1)], [], hp kp nh rh tl rl I L)) rfl rfl (Nat.le_of_ble_eq_true rfl) ?_
  unfold f_157 at hf
  refine bs_st 1 (x' := (1, [some (.ref 0), some (.int x1)], [.ref 0], hp kp nh rh tl rl I L)) rfl ?_
  obtain ⟨q0, hq0, hf⟩ := Option.bind_eq_some_iff.mp hf
  refine bs_call (o := pEN Ls xs (d + 6) 177 [.ref 0] (hp kp nh rh tl rl I L)) (w := some (.int q0)) (h' := hp kp nh rh tl rl I L) (pc := 4) (lo := [some (.ref 0), some (.int x1)]) (rest := []) rfl (t_177 Ls xs (d + 5) kp tl rl nh rh I L q0 hq0) ?_
  refine bs_br (t := 16) (e := 7) (lo := [some (.ref 0), some (.int x1)]) (st := []) (h := hp kp nh rh tl rl I L) rfl hf (fun hc hf => ?_) (fun hc hf => ?_)
  · refine bs_st 1 (x' := (18, [some (.ref 0), some (.int x1)], [.int (-2 : Int32)], hp kp nh rh tl rl I L)) rfl ?_
    cases hf
    exact bs_ret rfl
  · refine bs_st 1 (x' := (8, [some (.ref 0), some (.int x1)], [.int x1], hp kp nh rh tl rl I L)) rfl ?_
    refine bs_br (t := 16) (e := 11) (lo := [some (.ref 0), some (.int x1)]) (st := []) (h := hp kp nh rh tl rl I L) rfl hf (fun hc hf => ?_) (fun hc hf => ?_)
    · refine bs_st 1 (x' := (18, [some (.ref 0), some (.int x1)], [.int (-2 : Int32)], hp kp nh rh tl rl I L)) rfl ?_
      cases hf
      exact bs_ret rfl
    · refine bs_st 2 (x' := (13, [some (.ref 0), some (.int x1)], [.int (4 : Int32), .int x1], hp kp nh rh tl rl I L)) rfl ?_
      refine bs_br (t := 19) (e := 16) (lo := [some (.ref 0), some (.int x1)]) (st := []) (h := hp kp nh rh tl rl I L) rfl hf (fun hc hf => ?_) (fun hc hf => ?_)
      · refine bs_st 2 (x' := (21, [some (.ref 0), some (.int x1)], [.int x1, .ref 0], hp kp nh rh tl rl I L)) rfl ?_
        obtain ⟨q1, hq1, hf⟩ := Option.bind_eq_some_iff.mp hf
        refine bs_call (o := pEN Ls xs (d + 6) 192 [.ref 0, .int x1] (hp kp nh rh tl rl I L)) (w := some (.ref 26)) (h' := hp kp (some 3) rh tl rl q1.1 q1.2) (pc := 24) (lo := [some (.ref 0), some (.int x1)]) (rest := []) rfl (t_192 Ls xs (d + 0) kp tl rl nh rh n x1 I L q1 hq1) ?_
        obtain ⟨q2, hq2, hf⟩ := Option.bind_eq_some_iff.mp hf
        refine bs_call (o := pEN Ls xs (d + 6) 66 [.ref 26] (hp kp (some 3) rh tl rl q1.1 q1.2)) (w := some (.int q2)) (h' := hp kp (some 3) rh tl rl q1.1 q1.2) (pc := 27) (lo := [some (.ref 0), some (.int x1)]) (rest := []) rfl (t_66 Ls xs (d + 4) kp tl rl rh n q1.1 q1.2 q2 hq2) ?_
        cases hf
        exact bs_ret rfl
      · refine bs_st 1 (x' := (18, [some (.ref 0), some (.int x1)], [.int (-2 : Int32)], hp kp nh rh tl rl I L)) rfl ?_
        cases hf
        exact bs_ret rfl
/-- LampRounds.lateness(I) on () -/
def f_196 (x0 : Int32) (I : FI) (L : FL) : Option (Int32) :=
  if ¬ x0 = (-1 : Int32) then
    some (x0)
  else
    some ((1000 : Int32))
set_option maxHeartbeats 1000000 in
set_option maxRecDepth 20000 in
theorem t_196 (Ls : Nat) (xs : Nat → Int32) (d : Nat) (kp : Option Nat) (tl : List (Nat × Nat)) (rl : List (List (Option Nat))) (rh : Option Nat) (x0 : Int32) (I : FI) (L : FL) (r : Int32) (hf : f_196 x0 I L = some r) : pEN Ls xs (d + 1) 196 [.int x0] (hp kp (some 3) rh tl rl I L) = some (some (.int r), hp kp (some 3) rh tl rl I L) := by
  refine en_run (d := d + 0) (cd := cd_196) (f := (sf 11 rs_11 false 1 (some (.int)) Ls xs (d + 0))) rfl rfl (x := (0, [some (.int x0)], [], hp kp (some 3) rh tl rl I L)) rfl rfl (Nat.le_of_ble_eq_true rfl) ?_
  unfold f_196 at hf
  refine bs_st 2 (x' := (2, [some (.int x0)], [.int (-1 : Int32), .int x0], hp kp (some 3) rh tl rl I L)) rfl ?_
  refine bs_br (t := 11) (e := 5) (lo := [some (.int x0)]) (st := []) (h := hp kp (some 3) rh tl rl I L) rfl hf (fun hc hf => ?_) (fun hc hf => ?_)
  · refine bs_st 1 (x' := (12, [some (.int x0)], [.int x0], hp kp (some 3) rh tl rl I L)) rfl ?_
    cases hf
    exact bs_ret rfl
  · refine bs_st 2 (x' := (12, [some (.int x0)], [.int (1000 : Int32)], hp kp (some 3) rh tl rl I L)) rfl ?_
    cases hf
    exact bs_ret rfl
/-- LampRounds.law() on (0,) -/
def c_158_2 (n : Nat) (nh : Option Nat) (K1 : Int32 → Int32 → Int32 → FI → FL → Option (Int32 × Option Nat × FI × FL)) (x1 : Int32) (x2 : Int32) (x3 : Int32) (I : FI) (L : FL) : Option (Int32 × Option Nat × FI × FL) :=
  if (4 : Int32) ≤ x3 then
    some (x1, (some 3), I, L)
  else
    (f_192_1 n x3 I L).bind fun q4 =>
    (f_66 n q4.1 q4.2).bind fun q5 =>
    (f_196 q5 q4.1 q4.2).bind fun q6 =>
    if q6 ≤ x2 then
      K1 x1 x2 x3 q4.1 q4.2
    else
      K1 x3 q6 x3 q4.1 q4.2
set_option maxHeartbeats 1000000 in
set_option maxRecDepth 20000 in
theorem tc_158_2 (Ls : Nat) (xs : Nat → Int32) (d : Nat) (kp : Option Nat) (tl : List (Nat × Nat)) (rl : List (List (Option Nat))) (nh : Option Nat) (rh : Option Nat) (n : Nat) (K1 : Int32 → Int32 → Int32 → FI → FL → Option (Int32 × Option Nat × FI × FL)) (hK1 : ∀ (w4 : Option Value) (x1 : Int32) (x2 : Int32) (x3 : Int32) (I : FI) (L : FL) (r : Int32 × Option Nat × FI × FL), K1 x1 x2 x3 I L = some r → Bs cd_158 (sf 11 rs_11 false 5 (some (.int)) Ls xs (d + 6)) (45, [some (.ref 0), some (.int x1), some (.int x2), some (.int x3), w4], [], hp kp (some 3) rh tl rl I L) (some (.int r.1), hp kp r.2.1 rh tl rl r.2.2.1 r.2.2.2)) (w4 : Option Value) (x1 : Int32) (x2 : Int32) (x3 : Int32) (I : FI) (L : FL) (r : Int32 × Option Nat × FI × FL) (hf : c_158_2 n nh K1 x1 x2 x3 I L = some r) : Bs cd_158 (sf 11 rs_11 false 5 (some (.int)) Ls xs (d + 6)) (16, [some (.ref 0), some (.int x1), some (.int x2), some (.int x3), w4], [], hp kp (some 3) rh tl rl I L) (some (.int r.1), hp kp r.2.1 rh tl rl r.2.2.1 r.2.2.2) := by
  unfold c_158_2 at hf
  refine bs_st 2 (x' := (18, [some (.ref 0), some (.int x1), some (.int x2), some (.int x3), w4], [.int (4 : Int32), .int x3], hp kp (some 3) rh tl rl I L)) rfl ?_
  refine bs_br (t := 51) (e := 21) (lo := [some (.ref 0), some (.int x1), some (.int x2), some (.int x3), w4]) (st := []) (h := hp kp (some 3) rh tl rl I L) rfl hf (fun hc hf => ?_) (fun hc hf => ?_)
  · refine bs_st 1 (x' := (52, [some (.ref 0), some (.int x1), some (.int x2), some (.int x3), w4], [.int x1], hp kp (some 3) rh tl rl I L)) rfl ?_
    cases hf
    exact bs_ret rfl
  · refine bs_st 2 (x' := (23, [some (.ref 0), some (.int x1), some (.int x2), some (.int x3), w4], [.int x3, .ref 0], hp kp (some 3) rh tl rl I L)) rfl ?_
    obtain ⟨q4, hq4, hf⟩ := Option.bind_eq_some_iff.mp hf
    refine bs_call (o := pEN Ls xs (d + 6) 192 [.ref 0, .int x3] (hp kp (some 3) rh tl rl I L)) (w := some (.ref 26)) (h' := hp kp (some 3) rh tl rl q4.1 q4.2) (pc := 26) (lo := [some (.ref 0), some (.int x1), some (.int x2), some (.int x3), w4]) (rest := []) rfl (t_192_1 Ls xs (d + 0) kp tl rl rh n x3 I L q4 hq4) ?_
    obtain ⟨q5, hq5, hf⟩ := Option.bind_eq_some_iff.mp hf
    refine bs_call (o := pEN Ls xs (d + 6) 66 [.ref 26] (hp kp (some 3) rh tl rl q4.1 q4.2)) (w := some (.int q5)) (h' := hp kp (some 3) rh tl rl q4.1 q4.2) (pc := 29) (lo := [some (.ref 0), some (.int x1), some (.int x2), some (.int x3), w4]) (rest := []) rfl (t_66 Ls xs (d + 4) kp tl rl rh n q4.1 q4.2 q5 hq5) ?_
    obtain ⟨q6, hq6, hf⟩ := Option.bind_eq_some_iff.mp hf
    refine bs_call (o := pEN Ls xs (d + 6) 196 [.int q5] (hp kp (some 3) rh tl rl q4.1 q4.2)) (w := some (.int q6)) (h' := hp kp (some 3) rh tl rl q4.1 q4.2) (pc := 32) (lo := [some (.ref 0), some (.int x1), some (.int x2), some (.int x3), w4]) (rest := []) rfl (t_196 Ls xs (d + 5) kp tl rl rh q5 q4.1 q4.2 q6 hq6) ?_
    refine bs_st 3 (x' := (37, [some (.ref 0), some (.int x1), some (.int x2), some (.int x3), some (.int q6)], [.int x2, .int q6], hp kp (some 3) rh tl rl q4.1 q4.2)) rfl ?_
    refine bs_br (t := 45) (e := 40) (lo := [some (.ref 0), some (.int x1), some (.int x2), some (.int x3), some (.int q6)]) (st := []) (h := hp kp (some 3) rh tl rl q4.1 q4.2) rfl hf (fun hc hf => ?_) (fun hc hf => ?_)
    · exact hK1 (some (.int q6)) x1 x2 x3 q4.1 q4.2 r hf
    · refine bs_st 4 (x' := (45, [some (.ref 0), some (.int x3), some (.int q6), some (.int x3), some (.int q6)], [], hp kp (some 3) rh tl rl q4.1 q4.2)) rfl ?_
      exact hK1 (some (.int q6)) x3 q6 x3 q4.1 q4.2 r hf
def b_158_1 (n : Nat) (nh : Option Nat) (K1 : Int32 → Int32 → Int32 → FI → FL → Option (Int32 × Option Nat × FI × FL)) (x1 : Int32) (x2 : Int32) (x3 : Int32) (I : FI) (L : FL) : Option (Int32 × Option Nat × FI × FL) :=
  c_158_2 n nh K1 x1 x2 (x3 + (1 : Int32)) I L
def c_158_1 (n : Nat) (nh : Option Nat) : Nat → Int32 → Int32 → Int32 → FI → FL → Option (Int32 × Option Nat × FI × FL)
  | 0, _, _, _, _, _ => none
  | m + 1, x1, x2, x3, I, L => b_158_1 n nh (c_158_1 n nh m) x1 x2 x3 I L
set_option maxHeartbeats 1000000 in
set_option maxRecDepth 20000 in
theorem tc_158_1 (Ls : Nat) (xs : Nat → Int32) (d : Nat) (kp : Option Nat) (tl : List (Nat × Nat)) (rl : List (List (Option Nat))) (nh : Option Nat) (rh : Option Nat) (n : Nat) : ∀ (m : Nat) (w4 : Option Value) (x1 : Int32) (x2 : Int32) (x3 : Int32) (I : FI) (L : FL) (r : Int32 × Option Nat × FI × FL), c_158_1 n nh m x1 x2 x3 I L = some r → Bs cd_158 (sf 11 rs_11 false 5 (some (.int)) Ls xs (d + 6)) (45, [some (.ref 0), some (.int x1), some (.int x2), some (.int x3), w4], [], hp kp (some 3) rh tl rl I L) (some (.int r.1), hp kp r.2.1 rh tl rl r.2.2.1 r.2.2.2)
  | 0, w4, x1, x2, x3, I, L, r, hf => by cases hf
  | m + 1, w4, x1, x2, x3, I, L, r, hf => by
    unfold c_158_1 b_158_1 at hf
    have hK1 := tc_158_1 Ls xs d kp tl rl nh rh n m
    refine bs_st 2 (x' := (16, [some (.ref 0), some (.int x1), some (.int x2), some (.int (x3 + (1 : Int32))), w4], [], hp kp (some 3) rh tl rl I L)) rfl ?_
    exact tc_158_2 Ls xs d kp tl rl nh rh n _ hK1 w4 x1 x2 (x3 + (1 : Int32)) I L r hf
def c_158_0 (n : Nat) (nh : Option Nat) (x1 : Int32) (x2 : Int32) (x3 : Int32) (I : FI) (L : FL) : Option (Int32 × Option Nat × FI × FL) :=
  if (4 : Int32) ≤ x3 then
    some (x1, nh, I, L)
  else
    (f_192 n x3 I L).bind fun q1 =>
    (f_66 n q1.1 q1.2).bind fun q2 =>
    (f_196 q2 q1.1 q1.2).bind fun q3 =>
    if q3 ≤ x2 then
      c_158_1 n nh n x1 x2 x3 q1.1 q1.2
    else
      c_158_1 n nh n x3 q3 x3 q1.1 q1.2
set_option maxHeartbeats 1000000 in
set_option maxRecDepth 20000 in
theorem tc_158_0 (Ls : Nat) (xs : Nat → Int32) (d : Nat) (kp : Option Nat) (tl : List (Nat × Nat)) (rl : List (List (Option Nat))) (nh : Option Nat) (rh : Option Nat) (n : Nat) (w4 : Option Value) (x1 : Int32) (x2 : Int32) (x3 : Int32) (I : FI) (L : FL) (r : Int32 × Option Nat × FI × FL) (hf : c_158_0 n nh x1 x2 x3 I L = some r) : Bs cd_158 (sf 11 rs_11 false 5 (some (.int)) Ls xs (d + 6)) (16, [some (.ref 0), some (.int x1), some (.int x2), some (.int x3), w4], [], hp kp nh rh tl rl I L) (some (.int r.1), hp kp r.2.1 rh tl rl r.2.2.1 r.2.2.2) := by
  unfold c_158_0 at hf
  refine bs_st 2 (x' := (18, [some (.ref 0), some (.int x1), some (.int x2), some (.int x3), w4], [.int (4 : Int32), .int x3], hp kp nh rh tl rl I L)) rfl ?_
  refine bs_br (t := 51) (e := 21) (lo := [some (.ref 0), some (.int x1), some (.int x2), some (.int x3), w4]) (st := []) (h := hp kp nh rh tl rl I L) rfl hf (fun hc hf => ?_) (fun hc hf => ?_)
  · refine bs_st 1 (x' := (52, [some (.ref 0), some (.int x1), some (.int x2), some (.int x3), w4], [.int x1], hp kp nh rh tl rl I L)) rfl ?_
    cases hf
    exact bs_ret rfl
  · refine bs_st 2 (x' := (23, [some (.ref 0), some (.int x1), some (.int x2), some (.int x3), w4], [.int x3, .ref 0], hp kp nh rh tl rl I L)) rfl ?_
    obtain ⟨q1, hq1, hf⟩ := Option.bind_eq_some_iff.mp hf
    refine bs_call (o := pEN Ls xs (d + 6) 192 [.ref 0, .int x3] (hp kp nh rh tl rl I L)) (w := some (.ref 26)) (h' := hp kp (some 3) rh tl rl q1.1 q1.2) (pc := 26) (lo := [some (.ref 0), some (.int x1), some (.int x2), some (.int x3), w4]) (rest := []) rfl (t_192 Ls xs (d + 0) kp tl rl nh rh n x3 I L q1 hq1) ?_
    obtain ⟨q2, hq2, hf⟩ := Option.bind_eq_some_iff.mp hf
    refine bs_call (o := pEN Ls xs (d + 6) 66 [.ref 26] (hp kp (some 3) rh tl rl q1.1 q1.2)) (w := some (.int q2)) (h' := hp kp (some 3) rh tl rl q1.1 q1.2) (pc := 29) (lo := [some (.ref 0), some (.int x1), some (.int x2), some (.int x3), w4]) (rest := []) rfl (t_66 Ls xs (d + 4) kp tl rl rh n q1.1 q1.2 q2 hq2) ?_
    obtain ⟨q3, hq3, hf⟩ := Option.bind_eq_some_iff.mp hf
    refine bs_call (o := pEN Ls xs (d + 6) 196 [.int q2] (hp kp (some 3) rh tl rl q1.1 q1.2)) (w := some (.int q3)) (h' := hp kp (some 3) rh tl rl q1.1 q1.2) (pc := 32) (lo := [some (.ref 0), some (.int x1), some (.int x2), some (.int x3), w4]) (rest := []) rfl (t_196 Ls xs (d + 5) kp tl rl rh q2 q1.1 q1.2 q3 hq3) ?_
    refine bs_st 3 (x' := (37, [some (.ref 0), some (.int x1), some (.int x2), some (.int x3), some (.int q3)], [.int x2, .int q3], hp kp (some 3) rh tl rl q1.1 q1.2)) rfl ?_
    refine bs_br (t := 45) (e := 40) (lo := [some (.ref 0), some (.int x1), some (.int x2), some (.int x3), some (.int q3)]) (st := []) (h := hp kp (some 3) rh tl rl q1.1 q1.2) rfl hf (fun hc hf => ?_) (fun hc hf => ?_)
    · exact tc_158_1 Ls xs d kp tl rl nh rh n n (some (.int q3)) x1 x2 x3 q1.1 q1.2 r hf
    · refine bs_st 4 (x' := (45, [some (.ref 0), some (.int x3), some (.int q3), some (.int x3), some (.int q3)], [], hp kp (some 3) rh tl rl q1.1 q1.2)) rfl ?_
      exact tc_158_1 Ls xs d kp tl rl nh rh n n (some (.int q3)) x3 q3 x3 q1.1 q1.2 r hf
def f_158 (n : Nat) (nh : Option Nat) (I : FI) (L : FL) : Option (Int32 × Option Nat × FI × FL) :=
  (f_177 I L).bind fun q0 =>
  if ¬ q0 = 0 then
    c_158_0 n nh (0 : Int32) (-1 : Int32) (0 : Int32) I L
  else
    some ((-2 : Int32), nh, I, L)
set_option maxHeartbeats 1000000 in
set_option maxRecDepth 20000 in
theorem t_158 (Ls : Nat) (xs : Nat → Int32) (d : Nat) (kp : Option Nat) (tl : List (Nat × Nat)) (rl : List (List (Option Nat))) (nh : Option Nat) (rh : Option Nat) (n : Nat) (I : FI) (L : FL) (r : Int32 × Option Nat × FI × FL) (hf : f_158 n nh I L = some r) : pEN Ls xs (d + 7) 158 [.ref 0] (hp kp nh rh tl rl I L) = some (some (.int r.1), hp kp r.2.1 rh tl rl r.2.2.1 r.2.2.2) := by
  refine en_run (d := d + 6) (cd := cd_158) (f := (sf 11 rs_11 false 5 (some (.int)) Ls xs (d + 6))) rfl rfl (x := (0, [some (.ref 0), none, none, none, none], [], hp kp nh rh tl rl I L)) rfl rfl (Nat.le_of_ble_eq_true rfl) ?_
  unfold f_158 at hf
  refine bs_st 1 (x' := (1, [some (.ref 0), none, none, none, none], [.ref 0], hp kp nh rh tl rl I L)) rfl ?_
  obtain ⟨q0, hq0, hf⟩ := Option.bind_eq_some_iff.mp hf
  refine bs_call (o := pEN Ls xs (d + 6) 177 [.ref 0] (hp kp nh rh tl rl I L)) (w := some (.int q0)) (h' := hp kp nh rh tl rl I L) (pc := 4) (lo := [some (.ref 0), none, none, none, none]) (rest := []) rfl (t_177 Ls xs (d + 5) kp tl rl nh rh I L q0 hq0) ?_
  refine bs_br (t := 10) (e := 7) (lo := [some (.ref 0), none, none, none, none]) (st := []) (h := hp kp nh rh tl rl I L) rfl hf (fun hc hf => ?_) (fun hc hf => ?_)
  · refine bs_st 6 (x' := (16, [some (.ref 0), some (.int (0 : Int32)), some (.int (-1 : Int32)), some (.int (0 : Int32)), none], [], hp kp nh rh tl rl I L)) rfl ?_
    exact tc_158_0 Ls xs d kp tl rl nh rh n none (0 : Int32) (-1 : Int32) (0 : Int32) I L r hf
  · refine bs_st 1 (x' := (9, [some (.ref 0), none, none, none, none], [.int (-2 : Int32)], hp kp nh rh tl rl I L)) rfl ?_
    cases hf
    exact bs_ret rfl
/-- LampRounds.arePair(II) on (0,) -/
def f_179 (x1 : Int32) (x2 : Int32) (I : FI) (L : FL) : Option (Int32) :=
  (f_178 x1 I L).bind fun q0 =>
  if q0 = 0 then
    some ((0 : Int32))
  else
    (f_178 x2 I L).bind fun q1 =>
    if q1 = 0 then
      some ((0 : Int32))
    else
      if x1 = x2 then
        some ((0 : Int32))
      else
        some ((1 : Int32))
set_option maxHeartbeats 1000000 in
set_option maxRecDepth 20000 in
theorem t_179 (Ls : Nat) (xs : Nat → Int32) (d : Nat) (kp : Option Nat) (tl : List (Nat × Nat)) (rl : List (List (Option Nat))) (nh : Option Nat) (rh : Option Nat) (x1 : Int32) (x2 : Int32) (I : FI) (L : FL) (r : Int32) (hf : f_179 x1 x2 I L = some r) : pEN Ls xs (d + 2) 179 [.ref 0, .int x1, .int x2] (hp kp nh rh tl rl I L) = some (some (.int r), hp kp nh rh tl rl I L) := by
  refine en_run (d := d + 1) (cd := cd_179) (f := (sf 11 rs_11 false 3 (some (.boolean)) Ls xs (d + 1))) rfl rfl (x := (0, [some (.ref 0), some (.int x1), some (.int x2)], [], hp kp nh rh tl rl I L)) rfl rfl (Nat.le_of_ble_eq_true rfl) ?_
  unfold f_179 at hf
  refine bs_st 2 (x' := (2, [some (.ref 0), some (.int x1), some (.int x2)], [.int x1, .ref 0], hp kp nh rh tl rl I L)) rfl ?_
  obtain ⟨q0, hq0, hf⟩ := Option.bind_eq_some_iff.mp hf
  refine bs_call (o := pEN Ls xs (d + 1) 178 [.ref 0, .int x1] (hp kp nh rh tl rl I L)) (w := some (.int q0)) (h' := hp kp nh rh tl rl I L) (pc := 5) (lo := [some (.ref 0), some (.int x1), some (.int x2)]) (rest := []) rfl (t_178 Ls xs (d + 0) kp tl rl nh rh x1 I L q0 hq0) ?_
  refine bs_br (t := 25) (e := 8) (lo := [some (.ref 0), some (.int x1), some (.int x2)]) (st := []) (h := hp kp nh rh tl rl I L) rfl hf (fun hc hf => ?_) (fun hc hf => ?_)
  · refine bs_st 1 (x' := (26, [some (.ref 0), some (.int x1), some (.int x2)], [.int (0 : Int32)], hp kp nh rh tl rl I L)) rfl ?_
    cases hf
    exact bs_ret rfl
  · refine bs_st 2 (x' := (10, [some (.ref 0), some (.int x1), some (.int x2)], [.int x2, .ref 0], hp kp nh rh tl rl I L)) rfl ?_
    obtain ⟨q1, hq1, hf⟩ := Option.bind_eq_some_iff.mp hf
    refine bs_call (o := pEN Ls xs (d + 1) 178 [.ref 0, .int x2] (hp kp nh rh tl rl I L)) (w := some (.int q1)) (h' := hp kp nh rh tl rl I L) (pc := 13) (lo := [some (.ref 0), some (.int x1), some (.int x2)]) (rest := []) rfl (t_178 Ls xs (d + 0) kp tl rl nh rh x2 I L q1 hq1) ?_
    refine bs_br (t := 25) (e := 16) (lo := [some (.ref 0), some (.int x1), some (.int x2)]) (st := []) (h := hp kp nh rh tl rl I L) rfl hf (fun hc hf => ?_) (fun hc hf => ?_)
    · refine bs_st 1 (x' := (26, [some (.ref 0), some (.int x1), some (.int x2)], [.int (0 : Int32)], hp kp nh rh tl rl I L)) rfl ?_
      cases hf
      exact bs_ret rfl
    · refine bs_st 2 (x' := (18, [some (.ref 0), some (.int x1), some (.int x2)], [.int x2, .int x1], hp kp nh rh tl rl I L)) rfl ?_
      refine bs_br (t := 25) (e := 21) (lo := [some (.ref 0), some (.int x1), some (.int x2)]) (st := []) (h := hp kp nh rh tl rl I L) rfl hf (fun hc hf => ?_) (fun hc hf => ?_)
      · refine bs_st 1 (x' := (26, [some (.ref 0), some (.int x1), some (.int x2)], [.int (0 : Int32)], hp kp nh rh tl rl I L)) rfl ?_
        cases hf
        exact bs_ret rfl
      · refine bs_st 2 (x' := (26, [some (.ref 0), some (.int x1), some (.int x2)], [.int (1 : Int32)], hp kp nh rh tl rl I L)) rfl ?_
        cases hf
        exact bs_ret rfl
/-- Night.hurry(II) on (26,) -/
def f_54 (x1 : Int32) (x2 : Int32) (I : FI) (L : FL) : Option (FI × FL) :=
  if pin x1 4 = true then ((f_358 (1 : Int32) ((I 27 x1.toNatClampNeg) - x2) I L).bind fun q0 =>
    if pin x1 4 = true then some ((u2 I 27 x1.toNatClampNeg q0), L) else none) else none
set_option maxHeartbeats 1000000 in
set_option maxRecDepth 20000 in
theorem t_54 (Ls : Nat) (xs : Nat → Int32) (d : Nat) (kp : Option Nat) (tl : List (Nat × Nat)) (rl : List (List (Option Nat))) (rh : Option Nat) (x1 : Int32) (x2 : Int32) (I : FI) (L : FL) (r : FI × FL) (hf : f_54 x1 x2 I L = some r) : pEN Ls xs (d + 2) 54 [.ref 26, .int x1, .int x2] (hp kp (some 3) rh tl rl I L) = some (none, hp kp (some 3) rh tl rl r.1 r.2) := by
  refine en_run (d := d + 1) (cd := cd_54) (f := (sf 6 rs_6 false 3 none Ls xs (d + 1))) rfl rfl (x := (0, [some (.ref 26), some (.int x1), some (.int x2)], [], hp kp (some 3) rh tl rl I L)) rfl rfl (Nat.le_of_ble_eq_true rfl) ?_
  unfold f_54 at hf
  refine bs_st 7 (x' := (11, [some (.ref 26), some (.int x1), some (.int x2)], [.int x1, .ref 27, .int (1 : Int32), .int x1, .ref 27], hp kp (some 3) rh tl rl I L)) rfl ?_
  refine bs_gd (x' := (12, [some (.ref 26), some (.int x1), some (.int x2)], [.int (I 27 x1.toNatClampNeg), .int (1 : Int32), .int x1, .ref 27], hp kp (some 3) rh tl rl I L)) rfl hf (fun hc hf => ?_)
  refine bs_st 2 (x' := (14, [some (.ref 26), some (.int x1), some (.int x2)], [.int ((I 27 x1.toNatClampNeg) - x2), .int (1 : Int32), .int x1, .ref 27], hp kp (some 3) rh tl rl I L)) rfl ?_
  obtain ⟨q0, hq0, hf⟩ := Option.bind_eq_some_iff.mp hf
  refine bs_call (o := pEN Ls xs (d + 1) 358 [.int (1 : Int32), .int ((I 27 x1.toNatClampNeg) - x2)] (hp kp (some 3) rh tl rl I L)) (w := some (.int q0)) (h' := hp kp (some 3) rh tl rl I L) (pc := 17) (lo := [some (.ref 26), some (.int x1), some (.int x2)]) (rest := [.int x1, .ref 27]) rfl (t_358 Ls xs (d + 0) kp tl rl rh (1 : Int32) ((I 27 x1.toNatClampNeg) - x2) I L q0 hq0) ?_
  refine bs_gd (x' := (18, [some (.ref 26), some (.int x1), some (.int x2)], [], hp kp (some 3) rh tl rl (u2 I 27 x1.toNatClampNeg q0) L)) rfl hf (fun hc hf => ?_)
  cases hf
  exact bs_ret rfl
/-- LampRounds.getting(IIII) on (0,) -/
def f_195 (n : Nat) (x1 : Int32) (x2 : Int32) (x3 : Int32) (x4 : Int32) (I : FI) (L : FL) : Option (Int32 × FI × FL) :=
  (f_53 n (31 : Int32) I L).bind fun q0 =>
  (f_54 x1 x3 (u2 q0.1 26 8 (1 : Int32)) q0.2).bind fun q1 =>
  (f_54 x2 x4 q1.1 q1.2).bind fun q2 =>
  (f_55 n q2.1 q2.2).bind fun q3 =>
  (f_67 n x1 q3.1 q3.2).bind fun q4 =>
  some ((q4 - ((3 : Int32) * x3)), q3.1, q3.2)
set_option maxHeartbeats 1000000 in
set_option maxRecDepth 20000 in
theorem t_195 (Ls : Nat) (xs : Nat → Int32) (d : Nat) (kp : Option Nat) (tl : List (Nat × Nat)) (rl : List (List (Option Nat))) (nh : Option Nat) (rh : Option Nat) (n : Nat) (x1 : Int32) (x2 : Int32) (x3 : Int32) (x4 : Int32) (I : FI) (L : FL) (r : Int32 × FI × FL) (hf : f_195 n x1 x2 x3 x4 I L = some r) : pEN Ls xs (d + 6) 195 [.ref 0, .int x1, .int x2, .int x3, .int x4] (hp kp nh rh tl rl I L) = some (some (.int r.1), hp kp (some 3) rh tl rl r.2.1 r.2.2) := by
  refine en_run (d := d + 5) (cd := cd_195) (f := (sf 11 rs_11 false 5 (some (.int)) Ls xs (d + 5))) rfl rfl (x := (0, [some (.ref 0), some (.int x1), some (.int x2), some (.int x3), some (.int x4)], [], hp kp nh rh tl rl I L)) rfl rfl (Nat.le_of_ble_eq_true rfl) ?_
  unfold f_195 at hf
  refine bs_st 7 (x' := (14, [some (.ref 0), some (.int x1), some (.int x2), some (.int x3), some (.int x4)], [.int (31 : Int32), .ref 11, .ref 3, .ref 26], hp kp nh rh tl rl I L)) rfl ?_
  obtain ⟨q0, hq0, hf⟩ := Option.bind_eq_some_iff.mp hf
  refine bs_call (o := pEN Ls xs (d + 5) 53 [.ref 26, .ref 3, .ref 11, .int (31 : Int32)] (hp kp nh rh tl rl I L)) (w := none) (h' := hp kp (some 3) rh tl rl q0.1 q0.2) (pc := 17) (lo := [some (.ref 0), some (.int x1), some (.int x2), some (.int x3), some (.int x4)]) (rest := []) rfl (t_53 Ls xs (d + 4) kp tl rl nh rh n (31 : Int32) I L q0 hq0) ?_
  refine bs_st 8 (x' := (31, [some (.ref 0), some (.int x1), some (.int x2), some (.int x3), some (.int x4)], [.int x3, .int x1, .ref 26], hp kp (some 3) rh tl rl (u2 q0.1 26 8 (1 : Int32)) q0.2)) rfl ?_
  obtain ⟨q1, hq1, hf⟩ := Option.bind_eq_some_iff.mp hf
  refine bs_call (o := pEN Ls xs (d + 5) 54 [.ref 26, .int x1, .int x3] (hp kp (some 3) rh tl rl (u2 q0.1 26 8 (1 : Int32)) q0.2)) (w := none) (h' := hp kp (some 3) rh tl rl q1.1 q1.2) (pc := 34) (lo := [some (.ref 0), some (.int x1), some (.int x2), some (.int x3), some (.int x4)]) (rest := []) rfl (t_54 Ls xs (d + 3) kp tl rl rh x1 x3 (u2 q0.1 26 8 (1 : Int32)) q0.2 q1 hq1) ?_
  refine bs_st 4 (x' := (41, [some (.ref 0), some (.int x1), some (.int x2), some (.int x3), some (.int x4)], [.int x4, .int x2, .ref 26], hp kp (some 3) rh tl rl q1.1 q1.2)) rfl ?_
  obtain ⟨q2, hq2, hf⟩ := Option.bind_eq_some_iff.mp hf
  refine bs_call (o := pEN Ls xs (d + 5) 54 [.ref 26, .int x2, .int x4] (hp kp (some 3) rh tl rl q1.1 q1.2)) (w := none) (h' := hp kp (some 3) rh tl rl q2.1 q2.2) (pc := 44) (lo := [some (.ref 0), some (.int x1), some (.int x2), some (.int x3), some (.int x4)]) (rest := []) rfl (t_54 Ls xs (d + 3) kp tl rl rh x2 x4 q1.1 q1.2 q2 hq2) ?_
  refine bs_st 2 (x' := (48, [some (.ref 0), some (.int x1), some (.int x2), some (.int x3), some (.int x4)], [.ref 26], hp kp (some 3) rh tl rl q2.1 q2.2)) rfl ?_
  obtain ⟨q3, hq3, hf⟩ := Option.bind_eq_some_iff.mp hf
  refine bs_call (o := pEN Ls xs (d + 5) 55 [.ref 26] (hp kp (some 3) rh tl rl q2.1 q2.2)) (w := none) (h' := hp kp (some 3) rh tl rl q3.1 q3.2) (pc := 51) (lo := [some (.ref 0), some (.int x1), some (.int x2), some (.int x3), some (.int x4)]) (rest := []) rfl (t_55 Ls xs (d + 0) kp tl rl rh n q2.1 q2.2 q3 hq3) ?_
  refine bs_st 3 (x' := (56, [some (.ref 0), some (.int x1), some (.int x2), some (.int x3), some (.int x4)], [.int x1, .ref 26], hp kp (some 3) rh tl rl q3.1 q3.2)) rfl ?_
  obtain ⟨q4, hq4, hf⟩ := Option.bind_eq_some_iff.mp hf
  refine bs_call (o := pEN Ls xs (d + 5) 67 [.ref 26, .int x1] (hp kp (some 3) rh tl rl q3.1 q3.2)) (w := some (.int q4)) (h' := hp kp (some 3) rh tl rl q3.1 q3.2) (pc := 59) (lo := [some (.ref 0), some (.int x1), some (.int x2), some (.int x3), some (.int x4)]) (rest := []) rfl (t_67 Ls xs (d + 4) kp tl rl rh n x1 q3.1 q3.2 q4 hq4) ?_
  refine bs_st 4 (x' := (63, [some (.ref 0), some (.int x1), some (.int x2), some (.int x3), some (.int x4)], [.int (q4 - ((3 : Int32) * x3))], hp kp (some 3) rh tl rl q3.1 q3.2)) rfl ?_
  cases hf
  exact bs_ret rfl
/-- LampRounds.getting(IIII) on (0,) -/
def f_195_1 (n : Nat) (x1 : Int32) (x2 : Int32) (x3 : Int32) (x4 : Int32) (I : FI) (L : FL) : Option (Int32 × FI × FL) :=
  (f_53_1 n (31 : Int32) I L).bind fun q0 =>
  (f_54 x1 x3 (u2 q0.1 26 8 (1 : Int32)) q0.2).bind fun q1 =>
  (f_54 x2 x4 q1.1 q1.2).bind fun q2 =>
  (f_55 n q2.1 q2.2).bind fun q3 =>
  (f_67 n x1 q3.1 q3.2).bind fun q4 =>
  some ((q4 - ((3 : Int32) * x3)), q3.1, q3.2)
set_option maxHeartbeats 1000000 in
set_option maxRecDepth 20000 in
theorem t_195_1 (Ls : Nat) (xs : Nat → Int32) (d : Nat) (kp : Option Nat) (tl : List (Nat × Nat)) (rl : List (List (Option Nat))) (rh : Option Nat) (n : Nat) (x1 : Int32) (x2 : Int32) (x3 : Int32) (x4 : Int32) (I : FI) (L : FL) (r : Int32 × FI × FL) (hf : f_195_1 n x1 x2 x3 x4 I L = some r) : pEN Ls xs (d + 6) 195 [.ref 0, .int x1, .int x2, .int x3, .int x4] (hp kp (some 3) rh tl rl I L) = some (some (.int r.1), hp kp (some 3) rh tl rl r.2.1 r.2.2) := by
  refine en_run (d := d + 5) (cd := cd_195) (f := (sf 11 rs_11 false 5 (some (.int)) Ls xs (d + 5))) rfl rfl (x := (0, [some (.ref 0), some (.int x1), some (.int x2), some (.int x3), some (.int x4)], [], hp kp (some 3) rh tl rl I L)) rfl rfl (Nat.le_of_ble_eq_true rfl) ?_
  unfold f_195_1 at hf
  refine bs_st 7 (x' := (14, [some (.ref 0), some (.int x1), some (.int x2), some (.int x3), some (.int x4)], [.int (31 : Int32), .ref 11, .ref 3, .ref 26], hp kp (some 3) rh tl rl I L)) rfl ?_
  obtain ⟨q0, hq0, hf⟩ := Option.bind_eq_some_iff.mp hf
  refine bs_call (o := pEN Ls xs (d + 5) 53 [.ref 26, .ref 3, .ref 11, .int (31 : Int32)] (hp kp (some 3) rh tl rl I L)) (w := none) (h' := hp kp (some 3) rh tl rl q0.1 q0.2) (pc := 17) (lo := [some (.ref 0), some (.int x1), some (.int x2), some (.int x3), some (.int x4)]) (rest := []) rfl (t_53_1 Ls xs (d + 4) kp tl rl rh n (31 : Int32) I L q0 hq0) ?_
  refine bs_st 8 (x' := (31, [some (.ref 0), some (.int x1), some (.int x2), some (.int x3), some (.int x4)], [.int x3, .int x1, .ref 26], hp kp (some 3) rh tl rl (u2 q0.1 26 8 (1 : Int32)) q0.2)) rfl ?_
  obtain ⟨q1, hq1, hf⟩ := Option.bind_eq_some_iff.mp hf
  refine bs_call (o := pEN Ls xs (d + 5) 54 [.ref 26, .int x1, .int x3] (hp kp (some 3) rh tl rl (u2 q0.1 26 8 (1 : Int32)) q0.2)) (w := none) (h' := hp kp (some 3) rh tl rl q1.1 q1.2) (pc := 34) (lo := [some (.ref 0), some (.int x1), some (.int x2), some (.int x3), some (.int x4)]) (rest := []) rfl (t_54 Ls xs (d + 3) kp tl rl rh x1 x3 (u2 q0.1 26 8 (1 : Int32)) q0.2 q1 hq1) ?_
  refine bs_st 4 (x' := (41, [some (.ref 0), some (.int x1), some (.int x2), some (.int x3), some (.int x4)], [.int x4, .int x2, .ref 26], hp kp (some 3) rh tl rl q1.1 q1.2)) rfl ?_
  obtain ⟨q2, hq2, hf⟩ := Option.bind_eq_some_iff.mp hf
  refine bs_call (o := pEN Ls xs (d + 5) 54 [.ref 26, .int x2, .int x4] (hp kp (some 3) rh tl rl q1.1 q1.2)) (w := none) (h' := hp kp (some 3) rh tl rl q2.1 q2.2) (pc := 44) (lo := [some (.ref 0), some (.int x1), some (.int x2), some (.int x3), some (.int x4)]) (rest := []) rfl (t_54 Ls xs (d + 3) kp tl rl rh x2 x4 q1.1 q1.2 q2 hq2) ?_
  refine bs_st 2 (x' := (48, [some (.ref 0), some (.int x1), some (.int x2), some (.int x3), some (.int x4)], [.ref 26], hp kp (some 3) rh tl rl q2.1 q2.2)) rfl ?_
  obtain ⟨q3, hq3, hf⟩ := Option.bind_eq_some_iff.mp hf
  refine bs_call (o := pEN Ls xs (d + 5) 55 [.ref 26] (hp kp (some 3) rh tl rl q2.1 q2.2)) (w := none) (h' := hp kp (some 3) rh tl rl q3.1 q3.2) (pc := 51) (lo := [some (.ref 0), some (.int x1), some (.int x2), some (.int x3), some (.int x4)]) (rest := []) rfl (t_55 Ls xs (d + 0) kp tl rl rh n q2.1 q2.2 q3 hq3) ?_
  refine bs_st 3 (x' := (56, [some (.ref 0), some (.int x1), some (.int x2), some (.int x3), some (.int x4)], [.int x1, .ref 26], hp kp (some 3) rh tl rl q3.1 q3.2)) rfl ?_
  obtain ⟨q4, hq4, hf⟩ := Option.bind_eq_some_iff.mp hf
  refine bs_call (o := pEN Ls xs (d + 5) 67 [.ref 26, .int x1] (hp kp (some 3) rh tl rl q3.1 q3.2)) (w := some (.int q4)) (h' := hp kp (some 3) rh tl rl q3.1 q3.2) (pc := 59) (lo := [some (.ref 0), some (.int x1), some (.int x2), some (.int x3), some (.int x4)]) (rest := []) rfl (t_67 Ls xs (d + 4) kp tl rl rh n x1 q3.1 q3.2 q4 hq4) ?_
  refine bs_st 4 (x' := (63, [some (.ref 0), some (.int x1), some (.int x2), some (.int x3), some (.int x4)], [.int (q4 - ((3 : Int32) * x3))], hp kp (some 3) rh tl rl q3.1 q3.2)) rfl ?_
  cases hf
  exact bs_ret rfl
/-- LampRounds.rests(II) on (0,) -/
def c_159_4 (n : Nat) (nh : Option Nat) (K1 : Int32 → Int32 → Int32 → Int32 → Int32 → Int32 → Int32 → FI → FL → Option (Int32 × Option Nat × FI × FL)) (x1 : Int32) (x2 : Int32) (x3 : Int32) (x4 : Int32) (I : FI) (L : FL) : Option (Int32 × Option Nat × FI × FL) :=
  if (4 : Int32) ≤ x4 then
    some (x3, (some 3), I, L)
  else
    (f_195_1 n x1 x2 (x4 &&& (1 : Int32)) (x4 >>> ((1 : Int32) &&& 31)) I L).bind fun q5 =>
    (f_195_1 n x1 x2 ((1 : Int32) - (x4 &&& (1 : Int32))) (x4 >>> ((1 : Int32) &&& 31)) q5.2.1 q5.2.2).bind fun q6 =>
    if q5.1 < q6.1 then
      K1 x1 x2 x3 x4 (x4 &&& (1 : Int32)) (x4 >>> ((1 : Int32) &&& 31)) (0 : Int32) q6.2.1 q6.2.2
    else
      K1 x1 x2 x3 x4 (x4 &&& (1 : Int32)) (x4 >>> ((1 : Int32) &&& 31)) (1 : Int32) q6.2.1 q6.2.2
set_option maxHeartbeats 1000000 in
set_option maxRecDepth 20000 in
theorem tc_159_4 (Ls : Nat) (xs : Nat → Int32) (d : Nat) (kp : Option Nat) (tl : List (Nat × Nat)) (rl : List (List (Option Nat))) (nh : Option Nat) (rh : Option Nat) (n : Nat) (K1 : Int32 → Int32 → Int32 → Int32 → Int32 → Int32 → Int32 → FI → FL → Option (Int32 × Option Nat × FI × FL)) (hK1 : ∀ (w7 : Option Value) (w8 : Option Value) (x1 : Int32) (x2 : Int32) (x3 : Int32) (x4 : Int32) (x5 : Int32) (x6 : Int32) (s0 : Int32) (I : FI) (L : FL) (r : Int32 × Option Nat × FI × FL), K1 x1 x2 x3 x4 x5 x6 s0 I L = some r → Bs cd_159 (sf 11 rs_11 false 9 (some (.int)) Ls xs (d + 6)) (65, [some (.ref 0), some (.int x1), some (.int x2), some (.int x3), some (.int x4), some (.int x5), some (.int x6), w7, w8], [.int s0], hp kp (some 3) rh tl rl I L) (some (.int r.1), hp kp r.2.1 rh tl rl r.2.2.1 r.2.2.2)) (w5 : Option Value) (w6 : Option Value) (w7 : Option Value) (w8 : Option Value) (x1 : Int32) (x2 : Int32) (x3 : Int32) (x4 : Int32) (I : FI) (L : FL) (r : Int32 × Option Nat × FI × FL) (hf : c_159_4 n nh K1 x1 x2 x3 x4 I L = some r) : Bs cd_159 (sf 11 rs_11 false 9 (some (.int)) Ls xs (d + 6)) (17, [some (.ref 0), some (.int x1), some (.int x2), some (.int x3), some (.int x4), w5, w6, w7, w8], [], hp kp (some 3) rh tl rl I L) (some (.int r.1), hp kp r.2.1 rh tl rl r.2.2.1 r.2.2.2) := by
  unfold c_159_4 at hf
  refine bs_st 2 (x' := (20, [some (.ref 0), some (.int x1), some (.int x2), some (.int x3), some (.int x4), w5, w6, w7, w8], [.int (4 : Int32), .int x4], hp kp (some 3) rh tl rl I L)) rfl ?_
  refine bs_br (t := 122) (e := 23) (lo := [some (.ref 0), some (.int x1), some (.int x2), some (.int x3), some (.int x4), w5, w6, w7, w8]) (st := []) (h := hp kp (some 3) rh tl rl I L) rfl hf (fun hc hf => ?_) (fun hc hf => ?_)
  · refine bs_st 1 (x' := (123, [some (.ref 0), some (.int x1), some (.int x2), some (.int x3), some (.int x4), w5, w6, w7, w8], [.int x3], hp kp (some 3) rh tl rl I L)) rfl ?_
    cases hf
    exact bs_ret rfl
  · refine bs_st 13 (x' := (42, [some (.ref 0), some (.int x1), some (.int x2), some (.int x3), some (.int x4), some (.int (x4 &&& (1 : Int32))), some (.int (x4 >>> ((1 : Int32) &&& 31))), w7, w8], [.int (x4 >>> ((1 : Int32) &&& 31)), .int (x4 &&& (1 : Int32)), .int x2, .int x1, .ref 0], hp kp (some 3) rh tl rl I L)) rfl ?_
    obtain ⟨q5, hq5, hf⟩ := Option.bind_eq_some_iff.mp hf
    refine bs_call (o := pEN Ls xs (d + 6) 195 [.ref 0, .int x1, .int x2, .int (x4 &&& (1 : Int32)), .int (x4 >>> ((1 : Int32) &&& 31))] (hp kp (some 3) rh tl rl I L)) (w := some (.int q5.1)) (h' := hp kp (some 3) rh tl rl q5.2.1 q5.2.2) (pc := 45) (lo := [some (.ref 0), some (.int x1), some (.int x2), some (.int x3), some (.int x4), some (.int (x4 &&& (1 : Int32))), some (.int (x4 >>> ((1 : Int32) &&& 31))), w7, w8]) (rest := []) rfl (t_195_1 Ls xs (d + 0) kp tl rl rh n x1 x2 (x4 &&& (1 : Int32)) (x4 >>> ((1 : Int32) &&& 31)) I L q5 hq5) ?_
    refine bs_st 7 (x' := (54, [some (.ref 0), some (.int x1), some (.int x2), some (.int x3), some (.int x4), some (.int (x4 &&& (1 : Int32))), some (.int (x4 >>> ((1 : Int32) &&& 31))), w7, w8], [.int (x4 >>> ((1 : Int32) &&& 31)), .int ((1 : Int32) - (x4 &&& (1 : Int32))), .int x2, .int x1, .ref 0, .int q5.1], hp kp (some 3) rh tl rl q5.2.1 q5.2.2)) rfl ?_
    obtain ⟨q6, hq6, hf⟩ := Option.bind_eq_some_iff.mp hf
    refine bs_call (o := pEN Ls xs (d + 6) 195 [.ref 0, .int x1, .int x2, .int ((1 : Int32) - (x4 &&& (1 : Int32))), .int (x4 >>> ((1 : Int32) &&& 31))] (hp kp (some 3) rh tl rl q5.2.1 q5.2.2)) (w := some (.int q6.1)) (h' := hp kp (some 3) rh tl rl q6.2.1 q6.2.2) (pc := 57) (lo := [some (.ref 0), some (.int x1), some (.int x2), some (.int x3), some (.int x4), some (.int (x4 &&& (1 : Int32))), some (.int (x4 >>> ((1 : Int32) &&& 31))), w7, w8]) (rest := [.int q5.1]) rfl (t_195_1 Ls xs (d + 0) kp tl rl rh n x1 x2 ((1 : Int32) - (x4 &&& (1 : Int32))) (x4 >>> ((1 : Int32) &&& 31)) q5.2.1 q5.2.2 q6 hq6) ?_
    refine bs_br (t := 64) (e := 60) (lo := [some (.ref 0), some (.int x1), some (.int x2), some (.int x3), some (.int x4), some (.int (x4 &&& (1 : Int32))), some (.int (x4 >>> ((1 : Int32) &&& 31))), w7, w8]) (st := []) (h := hp kp (some 3) rh tl rl q6.2.1 q6.2.2) rfl hf (fun hc hf => ?_) (fun hc hf => ?_)
    · refine bs_st 1 (x' := (65, [some (.ref 0), some (.int x1), some (.int x2), some (.int x3), some (.int x4), some (.int (x4 &&& (1 : Int32))), some (.int (x4 >>> ((1 : Int32) &&& 31))), w7, w8], [.int (0 : Int32)], hp kp (some 3) rh tl rl q6.2.1 q6.2.2)) rfl ?_
      exact hK1 w7 w8 x1 x2 x3 x4 (x4 &&& (1 : Int32)) (x4 >>> ((1 : Int32) &&& 31)) (0 : Int32) q6.2.1 q6.2.2 r hf
    · refine bs_st 2 (x' := (65, [some (.ref 0), some (.int x1), some (.int x2), some (.int x3), some (.int x4), some (.int (x4 &&& (1 : Int32))), some (.int (x4 >>> ((1 : Int32) &&& 31))), w7, w8], [.int (1 : Int32)], hp kp (some 3) rh tl rl q6.2.1 q6.2.2)) rfl ?_
      exact hK1 w7 w8 x1 x2 x3 x4 (x4 &&& (1 : Int32)) (x4 >>> ((1 : Int32) &&& 31)) (1 : Int32) q6.2.1 q6.2.2 r hf
def c_159_3 (n : Nat) (nh : Option Nat) (K1 : Int32 → Int32 → Int32 → Int32 → Int32 → Int32 → Int32 → FI → FL → Option (Int32 × Option Nat × FI × FL)) (x1 : Int32) (x2 : Int32) (x3 : Int32) (x4 : Int32) (I : FI) (L : FL) : Option (Int32 × Option Nat × FI × FL) :=
  c_159_4 n nh K1 x1 x2 x3 (x4 + (1 : Int32)) I L
set_option maxHeartbeats 1000000 in
set_option maxRecDepth 20000 in
theorem tc_159_3 (Ls : Nat) (xs : Nat → Int32) (d : Nat) (kp : Option Nat) (tl : List (Nat × Nat)) (rl : List (List (Option Nat))) (nh : Option Nat) (rh : Option Nat) (n : Nat) (K1 : Int32 → Int32 → Int32 → Int32 → Int32 → Int32 → Int32 → FI → FL → Option (Int32 × Option Nat × FI × FL)) (hK1 : ∀ (w7 : Option Value) (w8 : Option Value) (x1 : Int32) (x2 : Int32) (x3 : Int32) (x4 : Int32) (x5 : Int32) (x6 : Int32) (s0 : Int32) (I : FI) (L : FL) (r : Int32 × Option Nat × FI × FL), K1 x1 x2 x3 x4 x5 x6 s0 I L = some r → Bs cd_159 (sf 11 rs_11 false 9 (some (.int)) Ls xs (d + 6)) (65, [some (.ref 0), some (.int x1), some (.int x2), some (.int x3), some (.int x4), some (.int x5), some (.int x6), w7, w8], [.int s0], hp kp (some 3) rh tl rl I L) (some (.int r.1), hp kp r.2.1 rh tl rl r.2.2.1 r.2.2.2)) (w5 : Option Value) (w6 : Option Value) (w7 : Option Value) (w8 : Option Value) (x1 : Int32) (x2 : Int32) (x3 : Int32) (x4 : Int32) (I : FI) (L : FL) (r : Int32 × Option Nat × FI × FL) (hf : c_159_3 n nh K1 x1 x2 x3 x4 I L = some r) : Bs cd_159 (sf 11 rs_11 false 9 (some (.int)) Ls xs (d + 6)) (116, [some (.ref 0), some (.int x1), some (.int x2), some (.int x3), some (.int x4), w5, w6, w7, w8], [], hp kp (some 3) rh tl rl I L) (some (.int r.1), hp kp r.2.1 rh tl rl r.2.2.1 r.2.2.2) := by
  unfold c_159_3 at hf
  refine bs_st 2 (x' := (17, [some (.ref 0), some (.int x1), some (.int x2), some (.int x3), some (.int (x4 + (1 : Int32))), w5, w6, w7, w8], [], hp kp (some 3) rh tl rl I L)) rfl ?_
  exact tc_159_4 Ls xs d kp tl rl nh rh n _ hK1 w5 w6 w7 w8 x1 x2 x3 (x4 + (1 : Int32)) I L r hf
def c_159_2 (n : Nat) (nh : Option Nat) (K1 : Int32 → Int32 → Int32 → Int32 → Int32 → Int32 → Int32 → FI → FL → Option (Int32 × Option Nat × FI × FL)) (x1 : Int32) (x2 : Int32) (x3 : Int32) (x4 : Int32) (x7 : Int32) (s0 : Int32) (I : FI) (L : FL) : Option (Int32 × Option Nat × FI × FL) :=
  if x7 = 0 then
    c_159_3 n nh K1 x1 x2 x3 x4 I L
  else
    if s0 = 0 then
      c_159_3 n nh K1 x1 x2 x3 x4 I L
    else
      c_159_3 n nh K1 x1 x2 (x3 ||| ((1 : Int32) <<< (x4 &&& 31))) x4 I L
set_option maxHeartbeats 1000000 in
set_option maxRecDepth 20000 in
theorem tc_159_2 (Ls : Nat) (xs : Nat → Int32) (d : Nat) (kp : Option Nat) (tl : List (Nat × Nat)) (rl : List (List (Option Nat))) (nh : Option Nat) (rh : Option Nat) (n : Nat) (K1 : Int32 → Int32 → Int32 → Int32 → Int32 → Int32 → Int32 → FI → FL → Option (Int32 × Option Nat × FI × FL)) (hK1 : ∀ (w7 : Option Value) (w8 : Option Value) (x1 : Int32) (x2 : Int32) (x3 : Int32) (x4 : Int32) (x5 : Int32) (x6 : Int32) (s0 : Int32) (I : FI) (L : FL) (r : Int32 × Option Nat × FI × FL), K1 x1 x2 x3 x4 x5 x6 s0 I L = some r → Bs cd_159 (sf 11 rs_11 false 9 (some (.int)) Ls xs (d + 6)) (65, [some (.ref 0), some (.int x1), some (.int x2), some (.int x3), some (.int x4), some (.int x5), some (.int x6), w7, w8], [.int s0], hp kp (some 3) rh tl rl I L) (some (.int r.1), hp kp r.2.1 rh tl rl r.2.2.1 r.2.2.2)) (w5 : Option Value) (w6 : Option Value) (w8 : Option Value) (x1 : Int32) (x2 : Int32) (x3 : Int32) (x4 : Int32) (x7 : Int32) (s0 : Int32) (I : FI) (L : FL) (r : Int32 × Option Nat × FI × FL) (hf : c_159_2 n nh K1 x1 x2 x3 x4 x7 s0 I L = some r) : Bs cd_159 (sf 11 rs_11 false 9 (some (.int)) Ls xs (d + 6)) (97, [some (.ref 0), some (.int x1), some (.int x2), some (.int x3), some (.int x4), w5, w6, some (.int x7), w8], [.int s0], hp kp (some 3) rh tl rl I L) (some (.int r.1), hp kp r.2.1 rh tl rl r.2.2.1 r.2.2.2) := by
  unfold c_159_2 at hf
  refine bs_st 2 (x' := (101, [some (.ref 0), some (.int x1), some (.int x2), some (.int x3), some (.int x4), w5, w6, some (.int x7), some (.int s0)], [.int x7], hp kp (some 3) rh tl rl I L)) rfl ?_
  refine bs_br (t := 116) (e := 104) (lo := [some (.ref 0), some (.int x1), some (.int x2), some (.int x3), some (.int x4), w5, w6, some (.int x7), some (.int s0)]) (st := []) (h := hp kp (some 3) rh tl rl I L) rfl hf (fun hc hf => ?_) (fun hc hf => ?_)
  · exact tc_159_3 Ls xs d kp tl rl nh rh n _ hK1 w5 w6 (some (.int x7)) (some (.int s0)) x1 x2 x3 x4 I L r hf
  · refine bs_st 1 (x' := (106, [some (.ref 0), some (.int x1), some (.int x2), some (.int x3), some (.int x4), w5, w6, some (.int x7), some (.int s0)], [.int s0], hp kp (some 3) rh tl rl I L)) rfl ?_
    refine bs_br (t := 116) (e := 109) (lo := [some (.ref 0), some (.int x1), some (.int x2), some (.int x3), some (.int x4), w5, w6, some (.int x7), some (.int s0)]) (st := []) (h := hp kp (some 3) rh tl rl I L) rfl hf (fun hc hf => ?_) (fun hc hf => ?_)
    · exact tc_159_3 Ls xs d kp tl rl nh rh n _ hK1 w5 w6 (some (.int x7)) (some (.int s0)) x1 x2 x3 x4 I L r hf
    · refine bs_st 6 (x' := (116, [some (.ref 0), some (.int x1), some (.int x2), some (.int (x3 ||| ((1 : Int32) <<< (x4 &&& 31)))), some (.int x4), w5, w6, some (.int x7), some (.int s0)], [], hp kp (some 3) rh tl rl I L)) rfl ?_
      exact tc_159_3 Ls xs d kp tl rl nh rh n _ hK1 w5 w6 (some (.int x7)) (some (.int s0)) x1 x2 (x3 ||| ((1 : Int32) <<< (x4 &&& 31))) x4 I L r hf
def b_159_1 (n : Nat) (nh : Option Nat) (K1 : Int32 → Int32 → Int32 → Int32 → Int32 → Int32 → Int32 → FI → FL → Option (Int32 × Option Nat × FI × FL)) (x1 : Int32) (x2 : Int32) (x3 : Int32) (x4 : Int32) (x5 : Int32) (x6 : Int32) (s0 : Int32) (I : FI) (L : FL) : Option (Int32 × Option Nat × FI × FL) :=
  (f_195_1 n x2 x1 x6 x5 I L).bind fun q3 =>
  (f_195_1 n x2 x1 ((1 : Int32) - x6) x5 q3.2.1 q3.2.2).bind fun q4 =>
  if q3.1 < q4.1 then
    c_159_2 n nh K1 x1 x2 x3 x4 s0 (0 : Int32) q4.2.1 q4.2.2
  else
    c_159_2 n nh K1 x1 x2 x3 x4 s0 (1 : Int32) q4.2.1 q4.2.2
def c_159_1 (n : Nat) (nh : Option Nat) : Nat → Int32 → Int32 → Int32 → Int32 → Int32 → Int32 → Int32 → FI → FL → Option (Int32 × Option Nat × FI × FL)
  | 0, _, _, _, _, _, _, _, _, _ => none
  | m + 1, x1, x2, x3, x4, x5, x6, s0, I, L => b_159_1 n nh (c_159_1 n nh m) x1 x2 x3 x4 x5 x6 s0 I L
set_option maxHeartbeats 1000000 in
set_option maxRecDepth 20000 in
theorem tc_159_1 (Ls : Nat) (xs : Nat → Int32) (d : Nat) (kp : Option Nat) (tl : List (Nat × Nat)) (rl : List (List (Option Nat))) (nh : Option Nat) (rh : Option Nat) (n : Nat) : ∀ (m : Nat) (w7 : Option Value) (w8 : Option Value) (x1 : Int32) (x2 : Int32) (x3 : Int32) (x4 : Int32) (x5 : Int32) (x6 : Int32) (s0 : Int32) (I : FI) (L : FL) (r : Int32 × Option Nat × FI × FL), c_159_1 n nh m x1 x2 x3 x4 x5 x6 s0 I L = some r → Bs cd_159 (sf 11 rs_11 false 9 (some (.int)) Ls xs (d + 6)) (65, [some (.ref 0), some (.int x1), some (.int x2), some (.int x3), some (.int x4), some (.int x5), some (.int x6), w7, w8], [.int s0], hp kp (some 3) rh tl rl I L) (some (.int r.1), hp kp r.2.1 rh tl rl r.2.2.1 r.2.2.2)
  | 0, w7, w8, x1, x2, x3, x4, x5, x6, s0, I, L, r, hf => by cases hf
  | m + 1, w7, w8, x1, x2, x3, x4, x5, x6, s0, I, L, r, hf => by
    unfold c_159_1 b_159_1 at hf
    have hK1 := tc_159_1 Ls xs d kp tl rl nh rh n m
    refine bs_st 6 (x' := (74, [some (.ref 0), some (.int x1), some (.int x2), some (.int x3), some (.int x4), some (.int x5), some (.int x6), some (.int s0), w8], [.int x5, .int x6, .int x1, .int x2, .ref 0], hp kp (some 3) rh tl rl I L)) rfl ?_
    obtain ⟨q3, hq3, hf⟩ := Option.bind_eq_some_iff.mp hf
    refine bs_call (o := pEN Ls xs (d + 6) 195 [.ref 0, .int x2, .int x1, .int x6, .int x5] (hp kp (some 3) rh tl rl I L)) (w := some (.int q3.1)) (h' := hp kp (some 3) rh tl rl q3.2.1 q3.2.2) (pc := 77) (lo := [some (.ref 0), some (.int x1), some (.int x2), some (.int x3), some (.int x4), some (.int x5), some (.int x6), some (.int s0), w8]) (rest := []) rfl (t_195_1 Ls xs (d + 0) kp tl rl rh n x2 x1 x6 x5 I L q3 hq3) ?_
    refine bs_st 7 (x' := (86, [some (.ref 0), some (.int x1), some (.int x2), some (.int x3), some (.int x4), some (.int x5), some (.int x6), some (.int s0), w8], [.int x5, .int ((1 : Int32) - x6), .int x1, .int x2, .ref 0, .int q3.1], hp kp (some 3) rh tl rl q3.2.1 q3.2.2)) rfl ?_
    obtain ⟨q4, hq4, hf⟩ := Option.bind_eq_some_iff.mp hf
    refine bs_call (o := pEN Ls xs (d + 6) 195 [.ref 0, .int x2, .int x1, .int ((1 : Int32) - x6), .int x5] (hp kp (some 3) rh tl rl q3.2.1 q3.2.2)) (w := some (.int q4.1)) (h' := hp kp (some 3) rh tl rl q4.2.1 q4.2.2) (pc := 89) (lo := [some (.ref 0), some (.int x1), some (.int x2), some (.int x3), some (.int x4), some (.int x5), some (.int x6), some (.int s0), w8]) (rest := [.int q3.1]) rfl (t_195_1 Ls xs (d + 0) kp tl rl rh n x2 x1 ((1 : Int32) - x6) x5 q3.2.1 q3.2.2 q4 hq4) ?_
    refine bs_br (t := 96) (e := 92) (lo := [some (.ref 0), some (.int x1), some (.int x2), some (.int x3), some (.int x4), some (.int x5), some (.int x6), some (.int s0), w8]) (st := []) (h := hp kp (some 3) rh tl rl q4.2.1 q4.2.2) rfl hf (fun hc hf => ?_) (fun hc hf => ?_)
    · refine bs_st 1 (x' := (97, [some (.ref 0), some (.int x1), some (.int x2), some (.int x3), some (.int x4), some (.int x5), some (.int x6), some (.int s0), w8], [.int (0 : Int32)], hp kp (some 3) rh tl rl q4.2.1 q4.2.2)) rfl ?_
      exact tc_159_2 Ls xs d kp tl rl nh rh n _ hK1 (some (.int x5)) (some (.int x6)) w8 x1 x2 x3 x4 s0 (0 : Int32) q4.2.1 q4.2.2 r hf
    · refine bs_st 2 (x' := (97, [some (.ref 0), some (.int x1), some (.int x2), some (.int x3), some (.int x4), some (.int x5), some (.int x6), some (.int s0), w8], [.int (1 : Int32)], hp kp (some 3) rh tl rl q4.2.1 q4.2.2)) rfl ?_
      exact tc_159_2 Ls xs d kp tl rl nh rh n _ hK1 (some (.int x5)) (some (.int x6)) w8 x1 x2 x3 x4 s0 (1 : Int32) q4.2.1 q4.2.2 r hf
def c_159_0 (n : Nat) (nh : Option Nat) (x1 : Int32) (x2 : Int32) (x3 : Int32) (x4 : Int32) (I : FI) (L : FL) : Option (Int32 × Option Nat × FI × FL) :=
  if (4 : Int32) ≤ x4 then
    some (x3, nh, I, L)
  else
    (f_195 n x1 x2 (x4 &&& (1 : Int32)) (x4 >>> ((1 : Int32) &&& 31)) I L).bind fun q1 =>
    (f_195_1 n x1 x2 ((1 : Int32) - (x4 &&& (1 : Int32))) (x4 >>> ((1 : Int32) &&& 31)) q1.2.1 q1.2.2).bind fun q2 =>
    if q1.1 < q2.1 then
      c_159_1 n nh n x1 x2 x3 x4 (x4 &&& (1 : Int32)) (x4 >>> ((1 : Int32) &&& 31)) (0 : Int32) q2.2.1 q2.2.2
    else
      c_159_1 n nh n x1 x2 x3 x4 (x4 &&& (1 : Int32)) (x4 >>> ((1 : Int32) &&& 31)) (1 : Int32) q2.2.1 q2.2.2
set_option maxHeartbeats 1000000 in
set_option maxRecDepth 20000 in
theorem tc_159_0 (Ls : Nat) (xs : Nat → Int32) (d : Nat) (kp : Option Nat) (tl : List (Nat × Nat)) (rl : List (List (Option Nat))) (nh : Option Nat) (rh : Option Nat) (n : Nat) (w5 : Option Value) (w6 : Option Value) (w7 : Option Value) (w8 : Option Value) (x1 : Int32) (x2 : Int32) (x3 : Int32) (x4 : Int32) (I : FI) (L : FL) (r : Int32 × Option Nat × FI × FL) (hf : c_159_0 n nh x1 x2 x3 x4 I L = some r) : Bs cd_159 (sf 11 rs_11 false 9 (some (.int)) Ls xs (d + 6)) (17, [some (.ref 0), some (.int x1), some (.int x2), some (.int x3), some (.int x4), w5, w6, w7, w8], [], hp kp nh rh tl rl I L) (some (.int r.1), hp kp r.2.1 rh tl rl r.2.2.1 r.2.2.2) := by
  unfold c_159_0 at hf
  refine bs_st 2 (x' := (20, [some (.ref 0), some (.int x1), some (.int x2), some (.int x3), some (.int x4), w5, w6, w7, w8], [.int (4 : Int32), .int x4], hp kp nh rh tl rl I L)) rfl ?_
  refine bs_br (t := 122) (e := 23) (lo := [some (.ref 0), some (.int x1), some (.int x2), some (.int x3), some (.int x4), w5, w6, w7, w8]) (st := []) (h := hp kp nh rh tl rl I L) rfl hf (fun hc hf => ?_) (fun hc hf => ?_)
  · refine bs_st 1 (x' := (123, [some (.ref 0), some (.int x1), some (.int x2), some (.int x3), some (.int x4), w5, w6, w7, w8], [.int x3], hp kp nh rh tl rl I L)) rfl ?_
    cases hf
    exact bs_ret rfl
  · refine bs_st 13 (x' := (42, [some (.ref 0), some (.int x1), some (.int x2), some (.int x3), some (.int x4), some (.int (x4 &&& (1 : Int32))), some (.int (x4 >>> ((1 : Int32) &&& 31))), w7, w8], [.int (x4 >>> ((1 : Int32) &&& 31)), .int (x4 &&& (1 : Int32)), .int x2, .int x1, .ref 0], hp kp nh rh tl rl I L)) rfl ?_
    obtain ⟨q1, hq1, hf⟩ := Option.bind_eq_some_iff.mp hf
    refine bs_call (o := pEN Ls xs (d + 6) 195 [.ref 0, .int x1, .int x2, .int (x4 &&& (1 : Int32)), .int (x4 >>> ((1 : Int32) &&& 31))] (hp kp nh rh tl rl I L)) (w := some (.int q1.1)) (h' := hp kp (some 3) rh tl rl q1.2.1 q1.2.2) (pc := 45) (lo := [some (.ref 0), some (.int x1), some (.int x2), some (.int x3), some (.int x4), some (.int (x4 &&& (1 : Int32))), some (.int (x4 >>> ((1 : Int32) &&& 31))), w7, w8]) (rest := []) rfl (t_195 Ls xs (d + 0) kp tl rl nh rh n x1 x2 (x4 &&& (1 : Int32)) (x4 >>> ((1 : Int32) &&& 31)) I L q1 hq1) ?_
    refine bs_st 7 (x' := (54, [some (.ref 0), some (.int x1), some (.int x2), some (.int x3), some (.int x4), some (.int (x4 &&& (1 : Int32))), some (.int (x4 >>> ((1 : Int32) &&& 31))), w7, w8], [.int (x4 >>> ((1 : Int32) &&& 31)), .int ((1 : Int32) - (x4 &&& (1 : Int32))), .int x2, .int x1, .ref 0, .int q1.1], hp kp (some 3) rh tl rl q1.2.1 q1.2.2)) rfl ?_
    obtain ⟨q2, hq2, hf⟩ := Option.bind_eq_some_iff.mp hf
    refine bs_call (o := pEN Ls xs (d + 6) 195 [.ref 0, .int x1, .int x2, .int ((1 : Int32) - (x4 &&& (1 : Int32))), .int (x4 >>> ((1 : Int32) &&& 31))] (hp kp (some 3) rh tl rl q1.2.1 q1.2.2)) (w := some (.int q2.1)) (h' := hp kp (some 3) rh tl rl q2.2.1 q2.2.2) (pc := 57) (lo := [some (.ref 0), some (.int x1), some (.int x2), some (.int x3), some (.int x4), some (.int (x4 &&& (1 : Int32))), some (.int (x4 >>> ((1 : Int32) &&& 31))), w7, w8]) (rest := [.int q1.1]) rfl (t_195_1 Ls xs (d + 0) kp tl rl rh n x1 x2 ((1 : Int32) - (x4 &&& (1 : Int32))) (x4 >>> ((1 : Int32) &&& 31)) q1.2.1 q1.2.2 q2 hq2) ?_
    refine bs_br (t := 64) (e := 60) (lo := [some (.ref 0), some (.int x1), some (.int x2), some (.int x3), some (.int x4), some (.int (x4 &&& (1 : Int32))), some (.int (x4 >>> ((1 : Int32) &&& 31))), w7, w8]) (st := []) (h := hp kp (some 3) rh tl rl q2.2.1 q2.2.2) rfl hf (fun hc hf => ?_) (fun hc hf => ?_)
    · refine bs_st 1 (x' := (65, [some (.ref 0), some (.int x1), some (.int x2), some (.int x3), some (.int x4), some (.int (x4 &&& (1 : Int32))), some (.int (x4 >>> ((1 : Int32) &&& 31))), w7, w8], [.int (0 : Int32)], hp kp (some 3) rh tl rl q2.2.1 q2.2.2)) rfl ?_
      exact tc_159_1 Ls xs d kp tl rl nh rh n n w7 w8 x1 x2 x3 x4 (x4 &&& (1 : Int32)) (x4 >>> ((1 : Int32) &&& 31)) (0 : Int32) q2.2.1 q2.2.2 r hf
    · refine bs_st 2 (x' := (65, [some (.ref 0), some (.int x1), some (.int x2), some (.int x3), some (.int x4), some (.int (x4 &&& (1 : Int32))), some (.int (x4 >>> ((1 : Int32) &&& 31))), w7, w8], [.int (1 : Int32)], hp kp (some 3) rh tl rl q2.2.1 q2.2.2)) rfl ?_
      exact tc_159_1 Ls xs d kp tl rl nh rh n n w7 w8 x1 x2 x3 x4 (x4 &&& (1 : Int32)) (x4 >>> ((1 : Int32) &&& 31)) (1 : Int32) q2.2.1 q2.2.2 r hf
def f_159 (n : Nat) (nh : Option Nat) (x1 : Int32) (x2 : Int32) (I : FI) (L : FL) : Option (Int32 × Option Nat × FI × FL) :=
  (f_179 x1 x2 I L).bind fun q0 =>
  if ¬ q0 = 0 then
    c_159_0 n nh x1 x2 (0 : Int32) (0 : Int32) I L
  else
    some ((-2 : Int32), nh, I, L)
set_option maxHeartbeats 1000000 in
set_option maxRecDepth 20000 in
theorem t_159 (Ls : Nat) (xs : Nat → Int32) (d : Nat) (kp : Option Nat) (tl : List (Nat × Nat)) (rl : List (List (Option Nat))) (nh : Option Nat) (rh : Option Nat) (n : Nat) (x1 : Int32) (x2 : Int32) (I : FI) (L : FL) (r : Int32 × Option Nat × FI × FL) (hf : f_159 n nh x1 x2 I L = some r) : pEN Ls xs (d + 7) 159 [.ref 0, .int x1, .int x2] (hp kp nh rh tl rl I L) = some (some (.int r.1), hp kp r.2.1 rh tl rl r.2.2.1 r.2.2.2) := by
  refine en_run (d := d + 6) (cd := cd_159) (f := (sf 11 rs_11 false 9 (some (.int)) Ls xs (d + 6))) rfl rfl (x := (0, [some (.ref 0), some (.int x1), some (.int x2), none, none, none, none, none, none], [], hp kp nh rh tl rl I L)) rfl rfl (Nat.le_of_ble_eq_true rfl) ?_
  unfold f_159 at hf
  refine bs_st 3 (x' := (3, [some (.ref 0), some (.int x1), some (.int x2), none, none, none, none, none, none], [.int x2, .int x1, .ref 0], hp kp nh rh tl rl I L)) rfl ?_
  obtain ⟨q0, hq0, hf⟩ := Option.bind_eq_some_iff.mp hf
  refine bs_call (o := pEN Ls xs (d + 6) 179 [.ref 0, .int x1, .int x2] (hp kp nh rh tl rl I L)) (w := some (.int q0)) (h' := hp kp nh rh tl rl I L) (pc := 6) (lo := [some (.ref 0), some (.int x1), some (.int x2), none, none, none, none, none, none]) (rest := []) rfl (t_179 Ls xs (d + 4) kp tl rl nh rh x1 x2 I L q0 hq0) ?_
  refine bs_br (t := 12) (e := 9) (lo := [some (.ref 0), some (.int x1), some (.int x2), none, none, none, none, none, none]) (st := []) (h := hp kp nh rh tl rl I L) rfl hf (fun hc hf => ?_) (fun hc hf => ?_)
  · refine bs_st 4 (x' := (17, [some (.ref 0), some (.int x1), some (.int x2), some (.int (0 : Int32)), some (.int (0 : Int32)), none, none, none, none], [], hp kp nh rh tl rl I L)) rfl ?_
    exact tc_159_0 Ls xs d kp tl rl nh rh n none none none none x1 x2 (0 : Int32) (0 : Int32) I L r hf
  · refine bs_st 1 (x' := (11, [some (.ref 0), some (.int x1), some (.int x2), none, none, none, none, none, none], [.int (-2 : Int32)], hp kp nh rh tl rl I L)) rfl ?_
    cases hf
    exact bs_ret rfl
/-- LampRounds.gets(IIII) on (0,) -/
def f_160 (n : Nat) (nh : Option Nat) (x1 : Int32) (x2 : Int32) (x3 : Int32) (x4 : Int32) (I : FI) (L : FL) : Option (Int32 × Option Nat × FI × FL) :=
  (f_179 x1 x2 I L).bind fun q0 =>
  if q0 = 0 then
    some ((-1000 : Int32), nh, I, L)
  else
    (f_182 x3 I L).bind fun q1 =>
    if q1 = 0 then
      some ((-1000 : Int32), nh, I, L)
    else
      (f_182 x4 I L).bind fun q2 =>
      if ¬ q2 = 0 then
        (f_195 n x1 x2 x3 x4 I L).bind fun q3 =>
        some (q3.1, (some 3), q3.2.1, q3.2.2)
      else
        some ((-1000 : Int32), nh, I, L)
set_option maxHeartbeats 1000000 in
set_option maxRecDepth 20000 in
theorem t_160 (Ls : Nat) (xs : Nat → Int32) (d : Nat) (kp : Option Nat) (tl : List (Nat × Nat)) (rl : List (List (Option Nat))) (nh : Option Nat) (rh : Option Nat) (n : Nat) (x1 : Int32) (x2 : Int32) (x3 : Int32) (x4 : Int32) (I : FI) (L : FL) (r : Int32 × Option Nat × FI × FL) (hf : f_160 n nh x1 x2 x3 x4 I L = some r) : pEN Ls xs (d + 7) 160 [.ref 0, .int x1, .int x2, .int x3, .int x4] (hp kp nh rh tl rl I L) = some (some (.int r.1), hp kp r.2.1 rh tl rl r.2.2.1 r.2.2.2) := by
  refine en_run (d := d + 6) (cd := cd_160) (f := (sf 11 rs_11 false 5 (some (.int)) Ls xs (d + 6))) rfl rfl (x := (0, [some (.ref 0), some (.int x1), some (.int x2), some (.int x3), some (.int x4)], [], hp kp nh rh tl rl I L)) rfl rfl (Nat.le_of_ble_eq_true rfl) ?_
  unfold f_160 at hf
  refine bs_st 3 (x' := (3, [some (.ref 0), some (.int x1), some (.int x2), some (.int x3), some (.int x4)], [.int x2, .int x1, .ref 0], hp kp nh rh tl rl I L)) rfl ?_
  obtain ⟨q0, hq0, hf⟩ := Option.bind_eq_some_iff.mp hf
  refine bs_call (o := pEN Ls xs (d + 6) 179 [.ref 0, .int x1, .int x2] (hp kp nh rh tl rl I L)) (w := some (.int q0)) (h' := hp kp nh rh tl rl I L) (pc := 6) (lo := [some (.ref 0), some (.int x1), some (.int x2), some (.int x3), some (.int x4)]) (rest := []) rfl (t_179 Ls xs (d + 4) kp tl rl nh rh x1 x2 I L q0 hq0) ?_
  refine bs_br (t := 24) (e := 9) (lo := [some (.ref 0), some (.int x1), some (.int x2), some (.int x3), some (.int x4)]) (st := []) (h := hp kp nh rh tl rl I L) rfl hf (fun hc hf => ?_) (fun hc hf => ?_)
  · refine bs_st 1 (x' := (27, [some (.ref 0), some (.int x1), some (.int x2), some (.int x3), some (.int x4)], [.int (-1000 : Int32)], hp kp nh rh tl rl I L)) rfl ?_
    cases hf
    exact bs_ret rfl
  · refine bs_st 1 (x' := (10, [some (.ref 0), some (.int x1), some (.int x2), some (.int x3), some (.int x4)], [.int x3], hp kp nh rh tl rl I L)) rfl ?_
    obtain ⟨q1, hq1, hf⟩ := Option.bind_eq_some_iff.mp hf
    refine bs_call (o := pEN Ls xs (d + 6) 182 [.int x3] (hp kp nh rh tl rl I L)) (w := some (.int q1)) (h' := hp kp nh rh tl rl I L) (pc := 13) (lo := [some (.ref 0), some (.int x1), some (.int x2), some (.int x3), some (.int x4)]) (rest := []) rfl (t_182 Ls xs (d + 5) kp tl rl nh rh x3 I L q1 hq1) ?_
    refine bs_br (t := 24) (e := 16) (lo := [some (.ref 0), some (.int x1), some (.int x2), some (.int x3), some (.int x4)]) (st := []) (h := hp kp nh rh tl rl I L) rfl hf (fun hc hf => ?_) (fun hc hf => ?_)
    · refine bs_st 1 (x' := (27, [some (.ref 0), some (.int x1), some (.int x2), some (.int x3), some (.int x4)], [.int (-1000 : Int32)], hp kp nh rh tl rl I L)) rfl ?_
      cases hf
      exact bs_ret rfl
    · refine bs_st 1 (x' := (18, [some (.ref 0), some (.int x1), some (.int x2), some (.int x3), some (.int x4)], [.int x4], hp kp nh rh tl rl I L)) rfl ?_
      obtain ⟨q2, hq2, hf⟩ := Option.bind_eq_some_iff.mp hf
      refine bs_call (o := pEN Ls xs (d + 6) 182 [.int x4] (hp kp nh rh tl rl I L)) (w := some (.int q2)) (h' := hp kp nh rh tl rl I L) (pc := 21) (lo := [some (.ref 0), some (.int x1), some (.int x2), some (.int x3), some (.int x4)]) (rest := []) rfl (t_182 Ls xs (d + 5) kp tl rl nh rh x4 I L q2 hq2) ?_
      refine bs_br (t := 28) (e := 24) (lo := [some (.ref 0), some (.int x1), some (.int x2), some (.int x3), some (.int x4)]) (st := []) (h := hp kp nh rh tl rl I L) rfl hf (fun hc hf => ?_) (fun hc hf => ?_)
      · refine bs_st 5 (x' := (34, [some (.ref 0), some (.int x1), some (.int x2), some (.int x3), some (.int x4)], [.int x4, .int x3, .int x2, .int x1, .ref 0], hp kp nh rh tl rl I L)) rfl ?_
        obtain ⟨q3, hq3, hf⟩ := Option.bind_eq_some_iff.mp hf
        refine bs_call (o := pEN Ls xs (d + 6) 195 [.ref 0, .int x1, .int x2, .int x3, .int x4] (hp kp nh rh tl rl I L)) (w := some (.int q3.1)) (h' := hp kp (some 3) rh tl rl q3.2.1 q3.2.2) (pc := 37) (lo := [some (.ref 0), some (.int x1), some (.int x2), some (.int x3), some (.int x4)]) (rest := []) rfl (t_195 Ls xs (d + 0) kp tl rl nh rh n x1 x2 x3 x4 I L q3 hq3) ?_
        cases hf
        exact bs_ret rfl
      · refine bs_st 1 (x' := (27, [some (.ref 0), some (.int x1), some (.int x2), some (.int x3), some (.int x4)], [.int (-1000 : Int32)], hp kp nh rh tl rl I L)) rfl ?_
        cases hf
        exact bs_ret rfl
/-- House.allWeight() on (3,) -/
def b_27_0 (n : Nat) (I : FI) (L : FL) (K0 : Int32 → Int32 → Option (Int32)) (x1 : Int32) (x2 : Int32) : Option (Int32) :=
  if I 3 6 ≤ x2 then
    some (x1)
  else
    K0 (x1 * (10 : Int32)) (x2 + (1 : Int32))
def c_27_0 (n : Nat) (I : FI) (L : FL) : Nat → Int32 → Int32 → Option (Int32)
  | 0, _, _ => none
  | m + 1, x1, x2 => b_27_0 n I L (c_27_0 n I L m) x1 x2
set_option maxHeartbeats 1000000 in
set_option maxRecDepth 20000 in
theorem tc_27_0 (Ls : Nat) (xs : Nat → Int32) (d : Nat) (kp : Option Nat) (tl : List (Nat × Nat)) (rl : List (List (Option Nat))) (nh : Option Nat) (rh : Option Nat) (n : Nat) (I : FI) (L : FL) : ∀ (m : Nat) (x1 : Int32) (x2 : Int32) (r : Int32), c_27_0 n I L m x1 x2 = some r → Bs cd_27 (sf 3 rs_3 false 3 (some (.int)) Ls xs (d + 0)) (4, [some (.ref 3), some (.int x1), some (.int x2)], [], hp kp nh rh tl rl I L) (some (.int r), hp kp nh rh tl rl I L)
  | 0, x1, x2, r, hf => by cases hf
  | m + 1, x1, x2, r, hf => by
    unfold c_27_0 b_27_0 at hf
    have hK0 := tc_27_0 Ls xs d kp tl rl nh rh n I L m
    refine bs_st 3 (x' := (9, [some (.ref 3), some (.int x1), some (.int x2)], [.int (I 3 6), .int x2], hp kp nh rh tl rl I L)) rfl ?_
    refine bs_br (t := 23) (e := 12) (lo := [some (.ref 3), some (.int x1), some (.int x2)]) (st := []) (h := hp kp nh rh tl rl I L) rfl hf (fun hc hf => ?_) (fun hc hf => ?_)
    · refine bs_st 1 (x' := (24, [some (.ref 3), some (.int x1), some (.int x2)], [.int x1], hp kp nh rh tl rl I L)) rfl ?_
      cases hf
      exact bs_ret rfl
    · refine bs_st 6 (x' := (4, [some (.ref 3), some (.int (x1 * (10 : Int32))), some (.int (x2 + (1 : Int32)))], [], hp kp nh rh tl rl I L)) rfl ?_
      exact hK0 (x1 * (10 : Int32)) (x2 + (1 : Int32)) r hf
def f_27 (n : Nat) (I : FI) (L : FL) : Option (Int32) :=
  c_27_0 n I L n (1 : Int32) (0 : Int32)
set_option maxHeartbeats 1000000 in
set_option maxRecDepth 20000 in
theorem t_27 (Ls : Nat) (xs : Nat → Int32) (d : Nat) (kp : Option Nat) (tl : List (Nat × Nat)) (rl : List (List (Option Nat))) (nh : Option Nat) (rh : Option Nat) (n : Nat) (I : FI) (L : FL) (r : Int32) (hf : f_27 n I L = some r) : pEN Ls xs (d + 1) 27 [.ref 3] (hp kp nh rh tl rl I L) = some (some (.int r), hp kp nh rh tl rl I L) := by
  refine en_run (d := d + 0) (cd := cd_27) (f := (sf 3 rs_3 false 3 (some (.int)) Ls xs (d + 0))) rfl rfl (x := (0, [some (.ref 3), none, none], [], hp kp nh rh tl rl I L)) rfl rfl (Nat.le_of_ble_eq_true rfl) ?_
  unfold f_27 at hf
  refine bs_st 4 (x' := (4, [some (.ref 3), some (.int (1 : Int32)), some (.int (0 : Int32))], [], hp kp nh rh tl rl I L)) rfl ?_
  exact tc_27_0 Ls xs d kp tl rl nh rh n I L n (1 : Int32) (0 : Int32) r hf
/-- LampRounds.nightOf(I) on (0,) -/
def f_193 (n : Nat) (x1 : Int32) (I : FI) (L : FL) : Option (FI × FL) :=
  (f_53 n x1 I L).bind fun q0 =>
  (f_55 n q0.1 q0.2).bind fun q1 =>
  some (q1.1, q1.2)
set_option maxHeartbeats 1000000 in
set_option maxRecDepth 20000 in
theorem t_193 (Ls : Nat) (xs : Nat → Int32) (d : Nat) (kp : Option Nat) (tl : List (Nat × Nat)) (rl : List (List (Option Nat))) (nh : Option Nat) (rh : Option Nat) (n : Nat) (x1 : Int32) (I : FI) (L : FL) (r : FI × FL) (hf : f_193 n x1 I L = some r) : pEN Ls xs (d + 6) 193 [.ref 0, .int x1] (hp kp nh rh tl rl I L) = some (some (.ref 26), hp kp (some 3) rh tl rl r.1 r.2) := by
  refine en_run (d := d + 5) (cd := cd_193) (f := (sf 11 rs_11 false 2 (some (.object "LampRounds$Night")) Ls xs (d + 5))) rfl rfl (x := (0, [some (.ref 0), some (.int x1)], [], hp kp nh rh tl rl I L)) rfl rfl (Nat.le_of_ble_eq_true rfl) ?_
  unfold f_193 at hf
  refine bs_st 7 (x' := (13, [some (.ref 0), some (.int x1)], [.int x1, .ref 11, .ref 3, .ref 26], hp kp nh rh tl rl I L)) rfl ?_
  obtain ⟨q0, hq0, hf⟩ := Option.bind_eq_some_iff.mp hf
  refine bs_call (o := pEN Ls xs (d + 5) 53 [.ref 26, .ref 3, .ref 11, .int x1] (hp kp nh rh tl rl I L)) (w := none) (h' := hp kp (some 3) rh tl rl q0.1 q0.2) (pc := 16) (lo := [some (.ref 0), some (.int x1)]) (rest := []) rfl (t_53 Ls xs (d + 4) kp tl rl nh rh n x1 I L q0 hq0) ?_
  refine bs_st 2 (x' := (20, [some (.ref 0), some (.int x1)], [.ref 26], hp kp (some 3) rh tl rl q0.1 q0.2)) rfl ?_
  obtain ⟨q1, hq1, hf⟩ := Option.bind_eq_some_iff.mp hf
  refine bs_call (o := pEN Ls xs (d + 5) 55 [.ref 26] (hp kp (some 3) rh tl rl q0.1 q0.2)) (w := none) (h' := hp kp (some 3) rh tl rl q1.1 q1.2) (pc := 23) (lo := [some (.ref 0), some (.int x1)]) (rest := []) rfl (t_55 Ls xs (d + 0) kp tl rl rh n q0.1 q0.2 q1 hq1) ?_
  refine bs_st 2 (x' := (27, [some (.ref 0), some (.int x1)], [.ref 26], hp kp (some 3) rh tl rl q1.1 q1.2)) rfl ?_
  cases hf
  exact bs_ret rfl
/-- House.everyRoom() on (3,) -/
def f_24_2 (I : FI) (L : FL) : Option (Int32) :=
  some ((((1 : Int32) <<< ((I 3 4) &&& 31)) - (1 : Int32)))
set_option maxHeartbeats 1000000 in
set_option maxRecDepth 20000 in
theorem t_24_2 (Ls : Nat) (xs : Nat → Int32) (d : Nat) (kp : Option Nat) (tl : List (Nat × Nat)) (rl : List (List (Option Nat))) (rh : Option Nat) (I : FI) (L : FL) (r : Int32) (hf : f_24_2 I L = some r) : pEN Ls xs (d + 1) 24 [.ref 3] (hp kp (some 3) rh tl rl I L) = some (some (.int r), hp kp (some 3) rh tl rl I L) := by
  refine en_run (d := d + 0) (cd := cd_24) (f := (sf 3 rs_3 false 1 (some (.int)) Ls xs (d + 0))) rfl rfl (x := (0, [some (.ref 3)], [], hp kp (some 3) rh tl rl I L)) rfl rfl (Nat.le_of_ble_eq_true rfl) ?_
  unfold f_24_2 at hf
  refine bs_st 6 (x' := (8, [some (.ref 3)], [.int (((1 : Int32) <<< ((I 3 4) &&& 31)) - (1 : Int32))], hp kp (some 3) rh tl rl I L)) rfl ?_
  cases hf
  exact bs_ret rfl
/-- House.allWeight() on (3,) -/
def b_27_1_0 (n : Nat) (I : FI) (L : FL) (K0 : Int32 → Int32 → Option (Int32)) (x1 : Int32) (x2 : Int32) : Option (Int32) :=
  if I 3 6 ≤ x2 then
    some (x1)
  else
    K0 (x1 * (10 : Int32)) (x2 + (1 : Int32))
def c_27_1_0 (n : Nat) (I : FI) (L : FL) : Nat → Int32 → Int32 → Option (Int32)
  | 0, _, _ => none
  | m + 1, x1, x2 => b_27_1_0 n I L (c_27_1_0 n I L m) x1 x2
set_option maxHeartbeats 1000000 in
set_option maxRecDepth 20000 in
theorem tc_27_1_0 (Ls : Nat) (xs : Nat → Int32) (d : Nat) (kp : Option Nat) (tl : List (Nat × Nat)) (rl : List (List (Option Nat))) (rh : Option Nat) (n : Nat) (I : FI) (L : FL) : ∀ (m : Nat) (x1 : Int32) (x2 : Int32) (r : Int32), c_27_1_0 n I L m x1 x2 = some r → Bs cd_27 (sf 3 rs_3 false 3 (some (.int)) Ls xs (d + 0)) (4, [some (.ref 3), some (.int x1), some (.int x2)], [], hp kp (some 3) rh tl rl I L) (some (.int r), hp kp (some 3) rh tl rl I L)
  | 0, x1, x2, r, hf => by cases hf
  | m + 1, x1, x2, r, hf => by
    unfold c_27_1_0 b_27_1_0 at hf
    have hK0 := tc_27_1_0 Ls xs d kp tl rl rh n I L m
    refine bs_st 3 (x' := (9, [some (.ref 3), some (.int x1), some (.int x2)], [.int (I 3 6), .int x2], hp kp (some 3) rh tl rl I L)) rfl ?_
    refine bs_br (t := 23) (e := 12) (lo := [some (.ref 3), some (.int x1), some (.int x2)]) (st := []) (h := hp kp (some 3) rh tl rl I L) rfl hf (fun hc hf => ?_) (fun hc hf => ?_)
    · refine bs_st 1 (x' := (24, [some (.ref 3), some (.int x1), some (.int x2)], [.int x1], hp kp (some 3) rh tl rl I L)) rfl ?_
      cases hf
      exact bs_ret rfl
    · refine bs_st 6 (x' := (4, [some (.ref 3), some (.int (x1 * (10 : Int32))), some (.int (x2 + (1 : Int32)))], [], hp kp (some 3) rh tl rl I L)) rfl ?_
      exact hK0 (x1 * (10 : Int32)) (x2 + (1 : Int32)) r hf
def f_27_1 (n : Nat) (I : FI) (L : FL) : Option (Int32) :=
  c_27_1_0 n I L n (1 : Int32) (0 : Int32)
set_option maxHeartbeats 1000000 in
set_option maxRecDepth 20000 in
theorem t_27_1 (Ls : Nat) (xs : Nat → Int32) (d : Nat) (kp : Option Nat) (tl : List (Nat × Nat)) (rl : List (List (Option Nat))) (rh : Option Nat) (n : Nat) (I : FI) (L : FL) (r : Int32) (hf : f_27_1 n I L = some r) : pEN Ls xs (d + 1) 27 [.ref 3] (hp kp (some 3) rh tl rl I L) = some (some (.int r), hp kp (some 3) rh tl rl I L) := by
  refine en_run (d := d + 0) (cd := cd_27) (f := (sf 3 rs_3 false 3 (some (.int)) Ls xs (d + 0))) rfl rfl (x := (0, [some (.ref 3), none, none], [], hp kp (some 3) rh tl rl I L)) rfl rfl (Nat.le_of_ble_eq_true rfl) ?_
  unfold f_27_1 at hf
  refine bs_st 4 (x' := (4, [some (.ref 3), some (.int (1 : Int32)), some (.int (0 : Int32))], [], hp kp (some 3) rh tl rl I L)) rfl ?_
  exact tc_27_1_0 Ls xs d kp tl rl rh n I L n (1 : Int32) (0 : Int32) r hf
/-- LampRounds.fraction(III) on () -/
def c_197_1_1 (n : Nat) (I : FI) (L : FL) (x0 : Int32) (x1 : Int32) (x2 : Int32) (x3 : Int32) : Option (Int32) :=
  if (1 : Int32) ≤ x3 then
    if ¬ x2 = 0 then
      if x3 = 0 then none else some ((x1 / x3))
    else
      if x3 = 0 then none else some ((x0 / x3))
  else
    some ((-1 : Int32))
set_option maxHeartbeats 1000000 in
set_option maxRecDepth 20000 in
theorem tc_197_1_1 (Ls : Nat) (xs : Nat → Int32) (d : Nat) (kp : Option Nat) (tl : List (Nat × Nat)) (rl : List (List (Option Nat))) (rh : Option Nat) (n : Nat) (I : FI) (L : FL) (w4 : Option Value) (w5 : Option Value) (w6 : Option Value) (x0 : Int32) (x1 : Int32) (x2 : Int32) (x3 : Int32) (r : Int32) (hf : c_197_1_1 n I L x0 x1 x2 x3 = some r) : Bs cd_197 (sf 11 rs_11 false 7 (some (.int)) Ls xs (d + 0)) (39, [some (.int x0), some (.int x1), some (.int x2), some (.int x3), w4, w5, w6], [], hp kp (some 3) rh tl rl I L) (some (.int r), hp kp (some 3) rh tl rl I L) := by
  unfold c_197_1_1 at hf
  refine bs_st 2 (x' := (41, [some (.int x0), some (.int x1), some (.int x2), some (.int x3), w4, w5, w6], [.int (1 : Int32), .int x3], hp kp (some 3) rh tl rl I L)) rfl ?_
  refine bs_br (t := 46) (e := 44) (lo := [some (.int x0), some (.int x1), some (.int x2), some (.int x3), w4, w5, w6]) (st := []) (h := hp kp (some 3) rh tl rl I L) rfl hf (fun hc hf => ?_) (fun hc hf => ?_)
  · refine bs_st 1 (x' := (47, [some (.int x0), some (.int x1), some (.int x2), some (.int x3), w4, w5, w6], [.int x2], hp kp (some 3) rh tl rl I L)) rfl ?_
    refine bs_br (t := 56) (e := 50) (lo := [some (.int x0), some (.int x1), some (.int x2), some (.int x3), w4, w5, w6]) (st := []) (h := hp kp (some 3) rh tl rl I L) rfl hf (fun hc hf => ?_) (fun hc hf => ?_)
    · refine bs_st 2 (x' := (58, [some (.int x0), some (.int x1), some (.int x2), some (.int x3), w4, w5, w6], [.int x3, .int x1], hp kp (some 3) rh tl rl I L)) rfl ?_
      refine bs_dv (x' := (59, [some (.int x0), some (.int x1), some (.int x2), some (.int x3), w4, w5, w6], [.int (x1 / x3)], hp kp (some 3) rh tl rl I L)) rfl hf (fun hc hf => ?_)
      cases hf
      exact bs_ret rfl
    · refine bs_st 2 (x' := (52, [some (.int x0), some (.int x1), some (.int x2), some (.int x3), w4, w5, w6], [.int x3, .int x0], hp kp (some 3) rh tl rl I L)) rfl ?_
      refine bs_dv (x' := (53, [some (.int x0), some (.int x1), some (.int x2), some (.int x3), w4, w5, w6], [.int (x0 / x3)], hp kp (some 3) rh tl rl I L)) rfl hf (fun hc hf => ?_)
      refine bs_st 1 (x' := (59, [some (.int x0), some (.int x1), some (.int x2), some (.int x3), w4, w5, w6], [.int (x0 / x3)], hp kp (some 3) rh tl rl I L)) rfl ?_
      cases hf
      exact bs_ret rfl
  · refine bs_st 1 (x' := (45, [some (.int x0), some (.int x1), some (.int x2), some (.int x3), w4, w5, w6], [.int (-1 : Int32)], hp kp (some 3) rh tl rl I L)) rfl ?_
    cases hf
    exact bs_ret rfl
def b_197_1_0 (n : Nat) (I : FI) (L : FL) (K0 : Int32 → Int32 → Int32 → Int32 → Int32 → Int32 → Option (Int32)) (x0 : Int32) (x1 : Int32) (x2 : Int32) (x3 : Int32) (x4 : Int32) (x5 : Int32) : Option (Int32) :=
  if (64 : Int32) ≤ x5 then
    c_197_1_1 n I L x0 x1 x2 x3
  else
    if x4 = 0 then
      c_197_1_1 n I L x0 x1 x2 x3
    else
      if x4 = 0 then none else K0 x0 x1 x2 x4 (x3 - x3 / x4 * x4) (x5 + (1 : Int32))
def c_197_1_0 (n : Nat) (I : FI) (L : FL) : Nat → Int32 → Int32 → Int32 → Int32 → Int32 → Int32 → Option (Int32)
  | 0, _, _, _, _, _, _ => none
  | m + 1, x0, x1, x2, x3, x4, x5 => b_197_1_0 n I L (c_197_1_0 n I L m) x0 x1 x2 x3 x4 x5
set_option maxHeartbeats 1000000 in
set_option maxRecDepth 20000 in
theorem tc_197_1_0 (Ls : Nat) (xs : Nat → Int32) (d : Nat) (kp : Option Nat) (tl : List (Nat × Nat)) (rl : List (List (Option Nat))) (rh : Option Nat) (n : Nat) (I : FI) (L : FL) : ∀ (m : Nat) (w6 : Option Value) (x0 : Int32) (x1 : Int32) (x2 : Int32) (x3 : Int32) (x4 : Int32) (x5 : Int32) (r : Int32), c_197_1_0 n I L m x0 x1 x2 x3 x4 x5 = some r → Bs cd_197 (sf 11 rs_11 false 7 (some (.int)) Ls xs (d + 0)) (8, [some (.int x0), some (.int x1), some (.int x2), some (.int x3), some (.int x4), some (.int x5), w6], [], hp kp (some 3) rh tl rl I L) (some (.int r), hp kp (some 3) rh tl rl I L)
  | 0, w6, x0, x1, x2, x3, x4, x5, r, hf => by cases hf
  | m + 1, w6, x0, x1, x2, x3, x4, x5, r, hf => by
    unfold c_197_1_0 b_197_1_0 at hf
    have hK0 := tc_197_1_0 Ls xs d kp tl rl rh n I L m
    refine bs_st 2 (x' := (12, [some (.int x0), some (.int x1), some (.int x2), some (.int x3), some (.int x4), some (.int x5), w6], [.int (64 : Int32), .int x5], hp kp (some 3) rh tl rl I L)) rfl ?_
    refine bs_br (t := 39) (e := 15) (lo := [some (.int x0), some (.int x1), some (.int x2), some (.int x3), some (.int x4), some (.int x5), w6]) (st := []) (h := hp kp (some 3) rh tl rl I L) rfl hf (fun hc hf => ?_) (fun hc hf => ?_)
    · exact tc_197_1_1 Ls xs d kp tl rl rh n I L (some (.int x4)) (some (.int x5)) w6 x0 x1 x2 x3 r hf
    · refine bs_st 1 (x' := (17, [some (.int x0), some (.int x1), some (.int x2), some (.int x3), some (.int x4), some (.int x5), w6], [.int x4], hp kp (some 3) rh tl rl I L)) rfl ?_
      refine bs_br (t := 39) (e := 20) (lo := [some (.int x0), some (.int x1), some (.int x2), some (.int x3), some (.int x4), some (.int x5), w6]) (st := []) (h := hp kp (some 3) rh tl rl I L) rfl hf (fun hc hf => ?_) (fun hc hf => ?_)
      · exact tc_197_1_1 Ls xs d kp tl rl rh n I L (some (.int x4)) (some (.int x5)) w6 x0 x1 x2 x3 r hf
      · refine bs_st 2 (x' := (23, [some (.int x0), some (.int x1), some (.int x2), some (.int x3), some (.int x4), some (.int x5), w6], [.int x4, .int x3], hp kp (some 3) rh tl rl I L)) rfl ?_
        refine bs_dv (x' := (24, [some (.int x0), some (.int x1), some (.int x2), some (.int x3), some (.int x4), some (.int x5), w6], [.int (x3 - x3 / x4 * x4)], hp kp (some 3) rh tl rl I L)) rfl hf (fun hc hf => ?_)
        refine bs_st 7 (x' := (8, [some (.int x0), some (.int x1), some (.int x2), some (.int x4), some (.int (x3 - x3 / x4 * x4)), some (.int (x5 + (1 : Int32))), some (.int (x3 - x3 / x4 * x4))], [], hp kp (some 3) rh tl rl I L)) rfl ?_
        exact hK0 (some (.int (x3 - x3 / x4 * x4))) x0 x1 x2 x4 (x3 - x3 / x4 * x4) (x5 + (1 : Int32)) r hf
def f_197_1 (n : Nat) (x0 : Int32) (x1 : Int32) (x2 : Int32) (I : FI) (L : FL) : Option (Int32) :=
  c_197_1_0 n I L n x0 x1 x2 x1 x0 (0 : Int32)
set_option maxHeartbeats 1000000 in
set_option maxRecDepth 20000 in
theorem t_197_1 (Ls : Nat) (xs : Nat → Int32) (d : Nat) (kp : Option Nat) (tl : List (Nat × Nat)) (rl : List (List (Option Nat))) (rh : Option Nat) (n : Nat) (x0 : Int32) (x1 : Int32) (x2 : Int32) (I : FI) (L : FL) (r : Int32) (hf : f_197_1 n x0 x1 x2 I L = some r) : pEN Ls xs (d + 1) 197 [.int x0, .int x1, .int x2] (hp kp (some 3) rh tl rl I L) = some (some (.int r), hp kp (some 3) rh tl rl I L) := by
  refine en_run (d := d + 0) (cd := cd_197) (f := (sf 11 rs_11 false 7 (some (.int)) Ls xs (d + 0))) rfl rfl (x := (0, [some (.int x0), some (.int x1), some (.int x2), none, none, none, none], [], hp kp (some 3) rh tl rl I L)) rfl rfl (Nat.le_of_ble_eq_true rfl) ?_
  unfold f_197_1 at hf
  refine bs_st 6 (x' := (8, [some (.int x0), some (.int x1), some (.int x2), some (.int x1), some (.int x0), some (.int (0 : Int32)), none], [], hp kp (some 3) rh tl rl I L)) rfl ?_
  exact tc_197_1_0 Ls xs d kp tl rl rh n I L n none x0 x1 x2 x1 x0 (0 : Int32) r hf
/-- LampRounds.nightOf(I) on (0,) -/
def f_193_1 (n : Nat) (x1 : Int32) (I : FI) (L : FL) : Option (FI × FL) :=
  (f_53_1 n x1 I L).bind fun q0 =>
  (f_55 n q0.1 q0.2).bind fun q1 =>
  some (q1.1, q1.2)
set_option maxHeartbeats 1000000 in
set_option maxRecDepth 20000 in
theorem t_193_1 (Ls : Nat) (xs : Nat → Int32) (d : Nat) (kp : Option Nat) (tl : List (Nat × Nat)) (rl : List (List (Option Nat))) (rh : Option Nat) (n : Nat) (x1 : Int32) (I : FI) (L : FL) (r : FI × FL) (hf : f_193_1 n x1 I L = some r) : pEN Ls xs (d + 6) 193 [.ref 0, .int x1] (hp kp (some 3) rh tl rl I L) = some (some (.ref 26), hp kp (some 3) rh tl rl r.1 r.2) := by
  refine en_run (d := d + 5) (cd := cd_193) (f := (sf 11 rs_11 false 2 (some (.object "LampRounds$Night")) Ls xs (d + 5))) rfl rfl (x := (0, [some (.ref 0), some (.int x1)], [], hp kp (some 3) rh tl rl I L)) rfl rfl (Nat.le_of_ble_eq_true rfl) ?_
  unfold f_193_1 at hf
  refine bs_st 7 (x' := (13, [some (.ref 0), some (.int x1)], [.int x1, .ref 11, .ref 3, .ref 26], hp kp (some 3) rh tl rl I L)) rfl ?_
  obtain ⟨q0, hq0, hf⟩ := Option.bind_eq_some_iff.mp hf
  refine bs_call (o := pEN Ls xs (d + 5) 53 [.ref 26, .ref 3, .ref 11, .int x1] (hp kp (some 3) rh tl rl I L)) (w := none) (h' := hp kp (some 3) rh tl rl q0.1 q0.2) (pc := 16) (lo := [some (.ref 0), some (.int x1)]) (rest := []) rfl (t_53_1 Ls xs (d + 4) kp tl rl rh n x1 I L q0 hq0) ?_
  refine bs_st 2 (x' := (20, [some (.ref 0), some (.int x1)], [.ref 26], hp kp (some 3) rh tl rl q0.1 q0.2)) rfl ?_
  obtain ⟨q1, hq1, hf⟩ := Option.bind_eq_some_iff.mp hf
  refine bs_call (o := pEN Ls xs (d + 5) 55 [.ref 26] (hp kp (some 3) rh tl rl q0.1 q0.2)) (w := none) (h' := hp kp (some 3) rh tl rl q1.1 q1.2) (pc := 23) (lo := [some (.ref 0), some (.int x1)]) (rest := []) rfl (t_55 Ls xs (d + 0) kp tl rl rh n q0.1 q0.2 q1 hq1) ?_
  refine bs_st 2 (x' := (27, [some (.ref 0), some (.int x1)], [.ref 26], hp kp (some 3) rh tl rl q1.1 q1.2)) rfl ?_
  cases hf
  exact bs_ret rfl
/-- House.weightOf(I) on (3,) -/
def c_26_1 (n : Nat) (I : FI) (L : FL) (K0 : Int32 → Int32 → Int32 → Option (Int32)) (x1 : Int32) (x3 : Int32) (s0 : Int32) (s1 : Int32) : Option (Int32) :=
  K0 x1 (s1 * s0) (x3 + (1 : Int32))
set_option maxHeartbeats 1000000 in
set_option maxRecDepth 20000 in
theorem tc_26_1 (Ls : Nat) (xs : Nat → Int32) (d : Nat) (kp : Option Nat) (tl : List (Nat × Nat)) (rl : List (List (Option Nat))) (rh : Option Nat) (n : Nat) (I : FI) (L : FL) (K0 : Int32 → Int32 → Int32 → Option (Int32)) (hK0 : ∀ (x1 : Int32) (x2 : Int32) (x3 : Int32) (r : Int32), K0 x1 x2 x3 = some r → Bs cd_26 (sf 3 rs_3 false 4 (some (.int)) Ls xs (d + 0)) (4, [some (.ref 3), some (.int x1), some (.int x2), some (.int x3)], [], hp kp (some 3) rh tl rl I L) (some (.int r), hp kp (some 3) rh tl rl I L)) (w2 : Option Value) (x1 : Int32) (x3 : Int32) (s0 : Int32) (s1 : Int32) (r : Int32) (hf : c_26_1 n I L K0 x1 x3 s0 s1 = some r) : Bs cd_26 (sf 3 rs_3 false 4 (some (.int)) Ls xs (d + 0)) (35, [some (.ref 3), some (.int x1), w2, some (.int x3)], [.int s0, .int s1], hp kp (some 3) rh tl rl I L) (some (.int r), hp kp (some 3) rh tl rl I L) := by
  unfold c_26_1 at hf
  refine bs_st 4 (x' := (4, [some (.ref 3), some (.int x1), some (.int (s1 * s0)), some (.int (x3 + (1 : Int32)))], [], hp kp (some 3) rh tl rl I L)) rfl ?_
  exact hK0 x1 (s1 * s0) (x3 + (1 : Int32)) r hf
def b_26_0 (n : Nat) (I : FI) (L : FL) (K0 : Int32 → Int32 → Int32 → Option (Int32)) (x1 : Int32) (x2 : Int32) (x3 : Int32) : Option (Int32) :=
  if I 3 6 ≤ x3 then
    some (x2)
  else
    if ((x1 >>> (x3 &&& 31)) &&& (1 : Int32)) = 0 then
      c_26_1 n I L K0 x1 x3 ((10 : Int32) - (I 3 2)) x2
    else
      c_26_1 n I L K0 x1 x3 (I 3 2) x2
def c_26_0 (n : Nat) (I : FI) (L : FL) : Nat → Int32 → Int32 → Int32 → Option (Int32)
  | 0, _, _, _ => none
  | m + 1, x1, x2, x3 => b_26_0 n I L (c_26_0 n I L m) x1 x2 x3
set_option maxHeartbeats 1000000 in
set_option maxRecDepth 20000 in
theorem tc_26_0 (Ls : Nat) (xs : Nat → Int32) (d : Nat) (kp : Option Nat) (tl : List (Nat × Nat)) (rl : List (List (Option Nat))) (rh : Option Nat) (n : Nat) (I : FI) (L : FL) : ∀ (m : Nat) (x1 : Int32) (x2 : Int32) (x3 : Int32) (r : Int32), c_26_0 n I L m x1 x2 x3 = some r → Bs cd_26 (sf 3 rs_3 false 4 (some (.int)) Ls xs (d + 0)) (4, [some (.ref 3), some (.int x1), some (.int x2), some (.int x3)], [], hp kp (some 3) rh tl rl I L) (some (.int r), hp kp (some 3) rh tl rl I L)
  | 0, x1, x2, x3, r, hf => by cases hf
  | m + 1, x1, x2, x3, r, hf => by
    unfold c_26_0 b_26_0 at hf
    have hK0 := tc_26_0 Ls xs d kp tl rl rh n I L m
    refine bs_st 3 (x' := (9, [some (.ref 3), some (.int x1), some (.int x2), some (.int x3)], [.int (I 3 6), .int x3], hp kp (some 3) rh tl rl I L)) rfl ?_
    refine bs_br (t := 43) (e := 12) (lo := [some (.ref 3), some (.int x1), some (.int x2), some (.int x3)]) (st := []) (h := hp kp (some 3) rh tl rl I L) rfl hf (fun hc hf => ?_) (fun hc hf => ?_)
    · refine bs_st 1 (x' := (44, [some (.ref 3), some (.int x1), some (.int x2), some (.int x3)], [.int x2], hp kp (some 3) rh tl rl I L)) rfl ?_
      cases hf
      exact bs_ret rfl
    · refine bs_st 6 (x' := (18, [some (.ref 3), some (.int x1), some (.int x2), some (.int x3)], [.int ((x1 >>> (x3 &&& 31)) &&& (1 : Int32)), .int x2], hp kp (some 3) rh tl rl I L)) rfl ?_
      refine bs_br (t := 28) (e := 21) (lo := [some (.ref 3), some (.int x1), some (.int x2), some (.int x3)]) (st := [.int x2]) (h := hp kp (some 3) rh tl rl I L) rfl hf (fun hc hf => ?_) (fun hc hf => ?_)
      · refine bs_st 4 (x' := (35, [some (.ref 3), some (.int x1), some (.int x2), some (.int x3)], [.int ((10 : Int32) - (I 3 2)), .int x2], hp kp (some 3) rh tl rl I L)) rfl ?_
        exact tc_26_1 Ls xs d kp tl rl rh n I L _ hK0 (some (.int x2)) x1 x3 ((10 : Int32) - (I 3 2)) x2 r hf
      · refine bs_st 3 (x' := (35, [some (.ref 3), some (.int x1), some (.int x2), some (.int x3)], [.int (I 3 2), .int x2], hp kp (some 3) rh tl rl I L)) rfl ?_
        exact tc_26_1 Ls xs d kp tl rl rh n I L _ hK0 (some (.int x2)) x1 x3 (I 3 2) x2 r hf
def f_26 (n : Nat) (x1 : Int32) (I : FI) (L : FL) : Option (Int32) :=
  c_26_0 n I L n x1 (1 : Int32) (0 : Int32)
set_option maxHeartbeats 1000000 in
set_option maxRecDepth 20000 in
theorem t_26 (Ls : Nat) (xs : Nat → Int32) (d : Nat) (kp : Option Nat) (tl : List (Nat × Nat)) (rl : List (List (Option Nat))) (rh : Option Nat) (n : Nat) (x1 : Int32) (I : FI) (L : FL) (r : Int32) (hf : f_26 n x1 I L = some r) : pEN Ls xs (d + 1) 26 [.ref 3, .int x1] (hp kp (some 3) rh tl rl I L) = some (some (.int r), hp kp (some 3) rh tl rl I L) := by
  refine en_run (d := d + 0) (cd := cd_26) (f := (sf 3 rs_3 false 4 (some (.int)) Ls xs (d + 0))) rfl rfl (x := (0, [some (.ref 3), some (.int x1), none, none], [], hp kp (some 3) rh tl rl I L)) rfl rfl (Nat.le_of_ble_eq_true rfl) ?_
  unfold f_26 at hf
  refine bs_st 4 (x' := (4, [some (.ref 3), some (.int x1), some (.int (1 : Int32)), some (.int (0 : Int32))], [], hp kp (some 3) rh tl rl I L)) rfl ?_
  exact tc_26_0 Ls xs d kp tl rl rh n I L n x1 (1 : Int32) (0 : Int32) r hf
/-- LampRounds.chance(II) on (0,) -/
def c_161_2 (n : Nat) (nh : Option Nat) (K1 : Int32 → Int32 → Int32 → Int32 → FI → FL → Option (Int32 × Option Nat × FI × FL)) (x1 : Int32) (x2 : Int32) (x3 : Int32) (x4 : Int32) (I : FI) (L : FL) : Option (Int32 × Option Nat × FI × FL) :=
  if ((1 : Int32) <<< ((I 3 6) &&& 31)) ≤ x4 then
    (f_27_1 n I L).bind fun q7 =>
    (f_197_1 n x3 q7 x2 I L).bind fun q8 =>
    some (q8, (some 3), I, L)
  else
    (f_193_1 n x4 I L).bind fun q9 =>
    (f_63 n x1 q9.1 q9.2).bind fun q10 =>
    (f_24_2 q9.1 q9.2).bind fun q11 =>
    if ¬ q10 = q11 then
      K1 x1 x2 x3 x4 q9.1 q9.2
    else
      (f_26 n x4 q9.1 q9.2).bind fun q12 =>
      K1 x1 x2 (x3 + q12) x4 q9.1 q9.2
set_option maxHeartbeats 1000000 in
set_option maxRecDepth 20000 in
theorem tc_161_2 (Ls : Nat) (xs : Nat → Int32) (d : Nat) (kp : Option Nat) (tl : List (Nat × Nat)) (rl : List (List (Option Nat))) (nh : Option Nat) (rh : Option Nat) (n : Nat) (K1 : Int32 → Int32 → Int32 → Int32 → FI → FL → Option (Int32 × Option Nat × FI × FL)) (hK1 : ∀ (x1 : Int32) (x2 : Int32) (x3 : Int32) (x4 : Int32) (I : FI) (L : FL) (r : Int32 × Option Nat × FI × FL), K1 x1 x2 x3 x4 I L = some r → Bs cd_161 (sf 11 rs_11 false 5 (some (.int)) Ls xs (d + 6)) (69, [some (.ref 0), some (.int x1), some (.int x2), some (.int x3), some (.int x4)], [], hp kp (some 3) rh tl rl I L) (some (.int r.1), hp kp r.2.1 rh tl rl r.2.2.1 r.2.2.2)) (x1 : Int32) (x2 : Int32) (x3 : Int32) (x4 : Int32) (I : FI) (L : FL) (r : Int32 × Option Nat × FI × FL) (hf : c_161_2 n nh K1 x1 x2 x3 x4 I L = some r) : Bs cd_161 (sf 11 rs_11 false 5 (some (.int)) Ls xs (d + 6)) (23, [some (.ref 0), some (.int x1), some (.int x2), some (.int x3), some (.int x4)], [], hp kp (some 3) rh tl rl I L) (some (.int r.1), hp kp r.2.1 rh tl rl r.2.2.1 r.2.2.2) := by
  unfold c_161_2 at hf
  refine bs_st 6 (x' := (34, [some (.ref 0), some (.int x1), some (.int x2), some (.int x3), some (.int x4)], [.int ((1 : Int32) <<< ((I 3 6) &&& 31)), .int x4], hp kp (some 3) rh tl rl I L)) rfl ?_
  refine bs_br (t := 75) (e := 37) (lo := [some (.ref 0), some (.int x1), some (.int x2), some (.int x3), some (.int x4)]) (st := []) (h := hp kp (some 3) rh tl rl I L) rfl hf (fun hc hf => ?_) (fun hc hf => ?_)
  · refine bs_st 3 (x' := (80, [some (.ref 0), some (.int x1), some (.int x2), some (.int x3), some (.int x4)], [.ref 3, .int x3], hp kp (some 3) rh tl rl I L)) rfl ?_
    obtain ⟨q7, hq7, hf⟩ := Option.bind_eq_some_iff.mp hf
    refine bs_call (o := pEN Ls xs (d + 6) 27 [.ref 3] (hp kp (some 3) rh tl rl I L)) (w := some (.int q7)) (h' := hp kp (some 3) rh tl rl I L) (pc := 83) (lo := [some (.ref 0), some (.int x1), some (.int x2), some (.int x3), some (.int x4)]) (rest := [.int x3]) rfl (t_27_1 Ls xs (d + 5) kp tl rl rh n I L q7 hq7) ?_
    refine bs_st 1 (x' := (84, [some (.ref 0), some (.int x1), some (.int x2), some (.int x3), some (.int x4)], [.int x2, .int q7, .int x3], hp kp (some 3) rh tl rl I L)) rfl ?_
    obtain ⟨q8, hq8, hf⟩ := Option.bind_eq_some_iff.mp hf
    refine bs_call (o := pEN Ls xs (d + 6) 197 [.int x3, .int q7, .int x2] (hp kp (some 3) rh tl rl I L)) (w := some (.int q8)) (h' := hp kp (some 3) rh tl rl I L) (pc := 87) (lo := [some (.ref 0), some (.int x1), some (.int x2), some (.int x3), some (.int x4)]) (rest := []) rfl (t_197_1 Ls xs (d + 5) kp tl rl rh n x3 q7 x2 I L q8 hq8) ?_
    cases hf
    exact bs_ret rfl
  · refine bs_st 2 (x' := (40, [some (.ref 0), some (.int x1), some (.int x2), some (.int x3), some (.int x4)], [.int x4, .ref 0], hp kp (some 3) rh tl rl I L)) rfl ?_
    obtain ⟨q9, hq9, hf⟩ := Option.bind_eq_some_iff.mp hf
    refine bs_call (o := pEN Ls xs (d + 6) 193 [.ref 0, .int x4] (hp kp (some 3) rh tl rl I L)) (w := some (.ref 26)) (h' := hp kp (some 3) rh tl rl q9.1 q9.2) (pc := 43) (lo := [some (.ref 0), some (.int x1), some (.int x2), some (.int x3), some (.int x4)]) (rest := []) rfl (t_193_1 Ls xs (d + 0) kp tl rl rh n x4 I L q9 hq9) ?_
    refine bs_st 1 (x' := (44, [some (.ref 0), some (.int x1), some (.int x2), some (.int x3), some (.int x4)], [.int x1, .ref 26], hp kp (some 3) rh tl rl q9.1 q9.2)) rfl ?_
    obtain ⟨q10, hq10, hf⟩ := Option.bind_eq_some_iff.mp hf
    refine bs_call (o := pEN Ls xs (d + 6) 63 [.ref 26, .int x1] (hp kp (some 3) rh tl rl q9.1 q9.2)) (w := some (.int q10)) (h' := hp kp (some 3) rh tl rl q9.1 q9.2) (pc := 47) (lo := [some (.ref 0), some (.int x1), some (.int x2), some (.int x3), some (.int x4)]) (rest := []) rfl (t_63 Ls xs (d + 4) kp tl rl rh n x1 q9.1 q9.2 q10 hq10) ?_
    refine bs_st 2 (x' := (51, [some (.ref 0), some (.int x1), some (.int x2), some (.int x3), some (.int x4)], [.ref 3, .int q10], hp kp (some 3) rh tl rl q9.1 q9.2)) rfl ?_
    obtain ⟨q11, hq11, hf⟩ := Option.bind_eq_some_iff.mp hf
    refine bs_call (o := pEN Ls xs (d + 6) 24 [.ref 3] (hp kp (some 3) rh tl rl q9.1 q9.2)) (w := some (.int q11)) (h' := hp kp (some 3) rh tl rl q9.1 q9.2) (pc := 54) (lo := [some (.ref 0), some (.int x1), some (.int x2), some (.int x3), some (.int x4)]) (rest := [.int q10]) rfl (t_24_2 Ls xs (d + 5) kp tl rl rh q9.1 q9.2 q11 hq11) ?_
    refine bs_br (t := 69) (e := 57) (lo := [some (.ref 0), some (.int x1), some (.int x2), some (.int x3), some (.int x4)]) (st := []) (h := hp kp (some 3) rh tl rl q9.1 q9.2) rfl hf (fun hc hf => ?_) (fun hc hf => ?_)
    · exact hK1 x1 x2 x3 x4 q9.1 q9.2 r hf
    · refine bs_st 4 (x' := (64, [some (.ref 0), some (.int x1), some (.int x2), some (.int x3), some (.int x4)], [.int x4, .ref 3, .int x3], hp kp (some 3) rh tl rl q9.1 q9.2)) rfl ?_
      obtain ⟨q12, hq12, hf⟩ := Option.bind_eq_some_iff.mp hf
      refine bs_call (o := pEN Ls xs (d + 6) 26 [.ref 3, .int x4] (hp kp (some 3) rh tl rl q9.1 q9.2)) (w := some (.int q12)) (h' := hp kp (some 3) rh tl rl q9.1 q9.2) (pc := 67) (lo := [some (.ref 0), some (.int x1), some (.int x2), some (.int x3), some (.int x4)]) (rest := [.int x3]) rfl (t_26 Ls xs (d + 5) kp tl rl rh n x4 q9.1 q9.2 q12 hq12) ?_
      refine bs_st 2 (x' := (69, [some (.ref 0), some (.int x1), some (.int x2), some (.int (x3 + q12)), some (.int x4)], [], hp kp (some 3) rh tl rl q9.1 q9.2)) rfl ?_
      exact hK1 x1 x2 (x3 + q12) x4 q9.1 q9.2 r hf
def b_161_1 (n : Nat) (nh : Option Nat) (K1 : Int32 → Int32 → Int32 → Int32 → FI → FL → Option (Int32 × Option Nat × FI × FL)) (x1 : Int32) (x2 : Int32) (x3 : Int32) (x4 : Int32) (I : FI) (L : FL) : Option (Int32 × Option Nat × FI × FL) :=
  c_161_2 n nh K1 x1 x2 x3 (x4 + (1 : Int32)) I L
def c_161_1 (n : Nat) (nh : Option Nat) : Nat → Int32 → Int32 → Int32 → Int32 → FI → FL → Option (Int32 × Option Nat × FI × FL)
  | 0, _, _, _, _, _, _ => none
  | m + 1, x1, x2, x3, x4, I, L => b_161_1 n nh (c_161_1 n nh m) x1 x2 x3 x4 I L
set_option maxHeartbeats 1000000 in
set_option maxRecDepth 20000 in
theorem tc_161_1 (Ls : Nat) (xs : Nat → Int32) (d : Nat) (kp : Option Nat) (tl : List (Nat × Nat)) (rl : List (List (Option Nat))) (nh : Option Nat) (rh : Option Nat) (n : Nat) : ∀ (m : Nat) (x1 : Int32) (x2 : Int32) (x3 : Int32) (x4 : Int32) (I : FI) (L : FL) (r : Int32 × Option Nat × FI × FL), c_161_1 n nh m x1 x2 x3 x4 I L = some r → Bs cd_161 (sf 11 rs_11 false 5 (some (.int)) Ls xs (d + 6)) (69, [some (.ref 0), some (.int x1), some (.int x2), some (.int x3), some (.int x4)], [], hp kp (some 3) rh tl rl I L) (some (.int r.1), hp kp r.2.1 rh tl rl r.2.2.1 r.2.2.2)
  | 0, x1, x2, x3, x4, I, L, r, hf => by cases hf
  | m + 1, x1, x2, x3, x4, I, L, r, hf => by
    unfold c_161_1 b_161_1 at hf
    have hK1 := tc_161_1 Ls xs d kp tl rl nh rh n m
    refine bs_st 2 (x' := (23, [some (.ref 0), some (.int x1), some (.int x2), some (.int x3), some (.int (x4 + (1 : Int32)))], [], hp kp (some 3) rh tl rl I L)) rfl ?_
    exact tc_161_2 Ls xs d kp tl rl nh rh n _ hK1 x1 x2 x3 (x4 + (1 : Int32)) I L r hf
def c_161_0 (n : Nat) (nh : Option Nat) (x1 : Int32) (x2 : Int32) (x3 : Int32) (x4 : Int32) (I : FI) (L : FL) : Option (Int32 × Option Nat × FI × FL) :=
  if ((1 : Int32) <<< ((I 3 6) &&& 31)) ≤ x4 then
    (f_27 n I L).bind fun q2 =>
    (f_197 n x3 q2 x2 I L).bind fun q3 =>
    some (q3, nh, I, L)
  else
    (f_193 n x4 I L).bind fun q4 =>
    (f_63 n x1 q4.1 q4.2).bind fun q5 =>
    (f_24_2 q4.1 q4.2).bind fun q6 =>
    if ¬ q5 = q6 then
      c_161_1 n nh n x1 x2 x3 x4 q4.1 q4.2
    else
      (f_26 n x4 q4.1 q4.2).bind fun q13 =>
      c_161_1 n nh n x1 x2 (x3 + q13) x4 q4.1 q4.2
set_option maxHeartbeats 1000000 in
set_option maxRecDepth 20000 in
theorem tc_161_0 (Ls : Nat) (xs : Nat → Int32) (d : Nat) (kp : Option Nat) (tl : List (Nat × Nat)) (rl : List (List (Option Nat))) (nh : Option Nat) (rh : Option Nat) (n : Nat) (x1 : Int32) (x2 : Int32) (x3 : Int32) (x4 : Int32) (I : FI) (L : FL) (r : Int32 × Option Nat × FI × FL) (hf : c_161_0 n nh x1 x2 x3 x4 I L = some r) : Bs cd_161 (sf 11 rs_11 false 5 (some (.int)) Ls xs (d + 6)) (23, [some (.ref 0), some (.int x1), some (.int x2), some (.int x3), some (.int x4)], [], hp kp nh rh tl rl I L) (some (.int r.1), hp kp r.2.1 rh tl rl r.2.2.1 r.2.2.2) := by
  unfold c_161_0 at hf
  refine bs_st 6 (x' := (34, [some (.ref 0), some (.int x1), some (.int x2), some (.int x3), some (.int x4)], [.int ((1 : Int32) <<< ((I 3 6) &&& 31)), .int x4], hp kp nh rh tl rl I L)) rfl ?_
  refine bs_br (t := 75) (e := 37) (lo := [some (.ref 0), some (.int x1), some (.int x2), some (.int x3), some (.int x4)]) (st := []) (h := hp kp nh rh tl rl I L) rfl hf (fun hc hf => ?_) (fun hc hf => ?_)
  · refine bs_st 3 (x' := (80, [some (.ref 0), some (.int x1), some (.int x2), some (.int x3), some (.int x4)], [.ref 3, .int x3], hp kp nh rh tl rl I L)) rfl ?_
    obtain ⟨q2, hq2, hf⟩ := Option.bind_eq_some_iff.mp hf
    refine bs_call (o := pEN Ls xs (d + 6) 27 [.ref 3] (hp kp nh rh tl rl I L)) (w := some (.int q2)) (h' := hp kp nh rh tl rl I L) (pc := 83) (lo := [some (.ref 0), some (.int x1), some (.int x2), some (.int x3), some (.int x4)]) (rest := [.int x3]) rfl (t_27 Ls xs (d + 5) kp tl rl nh rh n I L q2 hq2) ?_
    refine bs_st 1 (x' := (84, [some (.ref 0), some (.int x1), some (.int x2), some (.int x3), some (.int x4)], [.int x2, .int q2, .int x3], hp kp nh rh tl rl I L)) rfl ?_
    obtain ⟨q3, hq3, hf⟩ := Option.bind_eq_some_iff.mp hf
    refine bs_call (o := pEN Ls xs (d + 6) 197 [.int x3, .int q2, .int x2] (hp kp nh rh tl rl I L)) (w := some (.int q3)) (h' := hp kp nh rh tl rl I L) (pc := 87) (lo := [some (.ref 0), some (.int x1), some (.int x2), some (.int x3), some (.int x4)]) (rest := []) rfl (t_197 Ls xs (d + 5) kp tl rl nh rh n x3 q2 x2 I L q3 hq3) ?_
    cases hf
    exact bs_ret rfl
  · refine bs_st 2 (x' := (40, [some (.ref 0), some (.int x1), some (.int x2), some (.int x3), some (.int x4)], [.int x4, .ref 0], hp kp nh rh tl rl I L)) rfl ?_
    obtain ⟨q4, hq4, hf⟩ := Option.bind_eq_some_iff.mp hf
    refine bs_call (o := pEN Ls xs (d + 6) 193 [.ref 0, .int x4] (hp kp nh rh tl rl I L)) (w := some (.ref 26)) (h' := hp kp (some 3) rh tl rl q4.1 q4.2) (pc := 43) (lo := [some (.ref 0), some (.int x1), some (.int x2), some (.int x3), some (.int x4)]) (rest := []) rfl (t_193 Ls xs (d + 0) kp tl rl nh rh n x4 I L q4 hq4) ?_
    refine bs_st 1 (x' := (44, [some (.ref 0), some (.int x1), some (.int x2), some (.int x3), some (.int x4)], [.int x1, .ref 26], hp kp (some 3) rh tl rl q4.1 q4.2)) rfl ?_
    obtain ⟨q5, hq5, hf⟩ := Option.bind_eq_some_iff.mp hf
    refine bs_call (o := pEN Ls xs (d + 6) 63 [.ref 26, .int x1] (hp kp (some 3) rh tl rl q4.1 q4.2)) (w := some (.int q5)) (h' := hp kp (some 3) rh tl rl q4.1 q4.2) (pc := 47) (lo := [some (.ref 0), some (.int x1), some (.int x2), some (.int x3), some (.int x4)]) (rest := []) rfl (t_63 Ls xs (d + 4) kp tl rl rh n x1 q4.1 q4.2 q5 hq5) ?_
    refine bs_st 2 (x' := (51, [some (.ref 0), some (.int x1), some (.int x2), some (.int x3), some (.int x4)], [.ref 3, .int q5], hp kp (some 3) rh tl rl q4.1 q4.2)) rfl ?_
    obtain ⟨q6, hq6, hf⟩ := Option.bind_eq_some_iff.mp hf
    refine bs_call (o := pEN Ls xs (d + 6) 24 [.ref 3] (hp kp (some 3) rh tl rl q4.1 q4.2)) (w := some (.int q6)) (h' := hp kp (some 3) rh tl rl q4.1 q4.2) (pc := 54) (lo := [some (.ref 0), some (.int x1), some (.int x2), some (.int x3), some (.int x4)]) (rest := [.int q5]) rfl (t_24_2 Ls xs (d + 5) kp tl rl rh q4.1 q4.2 q6 hq6) ?_
    refine bs_br (t := 69) (e := 57) (lo := [some (.ref 0), some (.int x1), some (.int x2), some (.int x3), some (.int x4)]) (st := []) (h := hp kp (some 3) rh tl rl q4.1 q4.2) rfl hf (fun hc hf => ?_) (fun hc hf => ?_)
    · exact tc_161_1 Ls xs d kp tl rl nh rh n n x1 x2 x3 x4 q4.1 q4.2 r hf
    · refine bs_st 4 (x' := (64, [some (.ref 0), some (.int x1), some (.int x2), some (.int x3), some (.int x4)], [.int x4, .ref 3, .int x3], hp kp (some 3) rh tl rl q4.1 q4.2)) rfl ?_
      obtain ⟨q13, hq13, hf⟩ := Option.bind_eq_some_iff.mp hf
      refine bs_call (o := pEN Ls xs (d + 6) 26 [.ref 3, .int x4] (hp kp (some 3) rh tl rl q4.1 q4.2)) (w := some (.int q13)) (h' := hp kp (some 3) rh tl rl q4.1 q4.2) (pc := 67) (lo := [some (.ref 0), some (.int x1), some (.int x2), some (.int x3), some (.int x4)]) (rest := [.int x3]) rfl (t_26 Ls xs (d + 5) kp tl rl rh n x4 q4.1 q4.2 q13 hq13) ?_
      refine bs_st 2 (x' := (69, [some (.ref 0), some (.int x1), some (.int x2), some (.int (x3 + q13)), some (.int x4)], [], hp kp (some 3) rh tl rl q4.1 q4.2)) rfl ?_
      exact tc_161_1 Ls xs d kp tl rl nh rh n n x1 x2 (x3 + q13) x4 q4.1 q4.2 r hf
def f_161 (n : Nat) (nh : Option Nat) (x1 : Int32) (x2 : Int32) (I : FI) (L : FL) : Option (Int32 × Option Nat × FI × FL) :=
  (f_180 x1 I L).bind fun q0 =>
  if q0 = 0 then
    some ((-2 : Int32), nh, I, L)
  else
    (f_182 x2 I L).bind fun q1 =>
    if ¬ q1 = 0 then
      c_161_0 n nh x1 x2 (0 : Int32) (0 : Int32) I L
    else
      some ((-2 : Int32), nh, I, L)
set_option maxHeartbeats 1000000 in
set_option maxRecDepth 20000 in
theorem t_161 (Ls : Nat) (xs : Nat → Int32) (d : Nat) (kp : Option Nat) (tl : List (Nat × Nat)) (rl : List (List (Option Nat))) (nh : Option Nat) (rh : Option Nat) (n : Nat) (x1 : Int32) (x2 : Int32) (I : FI) (L : FL) (r : Int32 × Option Nat × FI × FL) (hf : f_161 n nh x1 x2 I L = some r) : pEN Ls xs (d + 7) 161 [.ref 0, .int x1, .int x2] (hp kp nh rh tl rl I L) = some (some (.int r.1), hp kp r.2.1 rh tl rl r.2.2.1 r.2.2.2) := by
  refine en_run (d := d + 6) (cd := cd_161) (f := (sf 11 rs_11 false 5 (some (.int)) Ls xs (d + 6))) rfl rfl (x := (0, [some (.ref 0), some (.int x1), some (.int x2), none, none], [], hp kp nh rh tl rl I L)) rfl rfl (Nat.le_of_ble_eq_true rfl) ?_
  unfold f_161 at hf
  refine bs_st 2 (x' := (2, [some (.ref 0), some (.int x1), some (.int x2), none, none], [.int x1, .ref 0], hp kp nh rh tl rl I L)) rfl ?_
  obtain ⟨q0, hq0, hf⟩ := Option.bind_eq_some_iff.mp hf
  refine bs_call (o := pEN Ls xs (d + 6) 180 [.ref 0, .int x1] (hp kp nh rh tl rl I L)) (w := some (.int q0)) (h' := hp kp nh rh tl rl I L) (pc := 5) (lo := [some (.ref 0), some (.int x1), some (.int x2), none, none]) (rest := []) rfl (t_180 Ls xs (d + 5) kp tl rl nh rh x1 I L q0 hq0) ?_
  refine bs_br (t := 15) (e := 8) (lo := [some (.ref 0), some (.int x1), some (.int x2), none, none]) (st := []) (h := hp kp nh rh tl rl I L) rfl hf (fun hc hf => ?_) (fun hc hf => ?_)
  · refine bs_st 1 (x' := (17, [some (.ref 0), some (.int x1), some (.int x2), none, none], [.int (-2 : Int32)], hp kp nh rh tl rl I L)) rfl ?_
    cases hf
    exact bs_ret rfl
  · refine bs_st 1 (x' := (9, [some (.ref 0), some (.int x1), some (.int x2), none, none], [.int x2], hp kp nh rh tl rl I L)) rfl ?_
    obtain ⟨q1, hq1, hf⟩ := Option.bind_eq_some_iff.mp hf
    refine bs_call (o := pEN Ls xs (d + 6) 182 [.int x2] (hp kp nh rh tl rl I L)) (w := some (.int q1)) (h' := hp kp nh rh tl rl I L) (pc := 12) (lo := [some (.ref 0), some (.int x1), some (.int x2), none, none]) (rest := []) rfl (t_182 Ls xs (d + 5) kp tl rl nh rh x2 I L q1 hq1) ?_
    refine bs_br (t := 18) (e := 15) (lo := [some (.ref 0), some (.int x1), some (.int x2), none, none]) (st := []) (h := hp kp nh rh tl rl I L) rfl hf (fun hc hf => ?_) (fun hc hf => ?_)
    · refine bs_st 4 (x' := (23, [some (.ref 0), some (.int x1), some (.int x2), some (.int (0 : Int32)), some (.int (0 : Int32))], [], hp kp nh rh tl rl I L)) rfl ?_
      exact tc_161_0 Ls xs d kp tl rl nh rh n x1 x2 (0 : Int32) (0 : Int32) I L r hf
    · refine bs_st 1 (x' := (17, [some (.ref 0), some (.int x1), some (.int x2), none, none], [.int (-2 : Int32)], hp kp nh rh tl rl I L)) rfl ?_
      cases hf
      exact bs_ret rfl
