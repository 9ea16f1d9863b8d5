/-- LampRoundsModel.getsBy(IIIII) on (89,) -/
def f_337 (n : Nat) (x1 : Int32) (x2 : Int32) (x3 : Int32) (x4 : Int32) (x5 : Int32) (I : FI) (L : FL) : Option (Int32 × FI × FL) :=
  (f_252 n I L).bind fun q0 =>
  (f_336 x2 x4 q0.1 q0.2).bind fun q1 =>
  if pin x2 4 = true then ((f_336 x3 x5 (u2 q0.1 104 x2.toNatClampNeg q1) q0.2).bind fun q2 =>
    if pin x3 4 = true then ((f_260 n (1 : Int32) (u2 (u2 q0.1 104 x2.toNatClampNeg q1) 104 x3.toNatClampNeg q2) q0.2).bind fun q3 =>
      (f_277 n x1 q3.1 q3.2).bind fun q4 =>
      if ¬ x1 = x2 then
        some ((q4 - ((3 : Int32) * x5)), q3.1, q3.2)
      else
        some ((q4 - ((3 : Int32) * x4)), q3.1, q3.2)) else none) else none
set_option maxHeartbeats 1000000 in
set_option maxRecDepth 20000 in
theorem t_337 (Ls : Nat) (xs : Nat → Int32) (d : Nat) (kp : Option Nat) (tl : List (Nat × Nat)) (rl : List (List (Option Nat))) (nh : Option Nat) (rh : Option Nat) (n : Nat) (x1 : Int32) (x2 : Int32) (x3 : Int32) (x4 : Int32) (x5 : Int32) (I : FI) (L : FL) (r : Int32 × FI × FL) (hf : f_337 n x1 x2 x3 x4 x5 I L = some r) : pEN Ls xs (d + 6) 337 [.ref 89, .int x1, .int x2, .int x3, .int x4, .int x5] (hp kp nh rh tl rl I L) = some (some (.int r.1), hp kp nh rh tl rl r.2.1 r.2.2) := by
  refine en_run (d := d + 5) (cd := cd_337) (f := (sf 12 rs_12 false 6 (some (.int)) Ls xs (d + 5))) rfl rfl (x := (0, [some (.ref 89), some (.int x1), some (.int x2), some (.int x3), some (.int x4), some (.int x5)], [], hp kp nh rh tl rl I L)) rfl rfl (Nat.le_of_ble_eq_true rfl) ?_
  unfold f_337 at hf
  refine bs_st 1 (x' := (1, [some (.ref 89), some (.int x1), some (.int x2), some (.int x3), some (.int x4), some (.int x5)], [.ref 89], hp kp nh rh tl rl I L)) rfl ?_
  obtain ⟨q0, hq0, hf⟩ := Option.bind_eq_some_iff.mp hf
  refine bs_call (o := pEN Ls xs (d + 5) 252 [.ref 89] (hp kp nh rh tl rl I L)) (w := none) (h' := hp kp nh rh tl rl q0.1 q0.2) (pc := 4) (lo := [some (.ref 89), some (.int x1), some (.int x2), some (.int x3), some (.int x4), some (.int x5)]) (rest := []) rfl (t_252 Ls xs (d + 3) kp tl rl nh rh n I L q0 hq0) ?_
  refine bs_st 6 (x' := (13, [some (.ref 89), some (.int x1), some (.int x2), some (.int x3), some (.int x4), some (.int x5)], [.int x4, .int x2, .ref 89, .int x2, .ref 104], hp kp nh rh tl rl q0.1 q0.2)) rfl ?_
  obtain ⟨q1, hq1, hf⟩ := Option.bind_eq_some_iff.mp hf
  refine bs_call (o := pEN Ls xs (d + 5) 336 [.ref 89, .int x2, .int x4] (hp kp nh rh tl rl q0.1 q0.2)) (w := some (.int q1)) (h' := hp kp nh rh tl rl q0.1 q0.2) (pc := 16) (lo := [some (.ref 89), some (.int x1), some (.int x2), some (.int x3), some (.int x4), some (.int x5)]) (rest := [.int x2, .ref 104]) rfl (t_336 Ls xs (d + 4) kp tl rl nh rh x2 x4 q0.1 q0.2 q1 hq1) ?_
  refine bs_gd (x' := (17, [some (.ref 89), some (.int x1), some (.int x2), some (.int x3), some (.int x4), some (.int x5)], [], hp kp nh rh tl rl (u2 q0.1 104 x2.toNatClampNeg q1) q0.2)) rfl hf (fun hc hf => ?_)
  refine bs_st 6 (x' := (26, [some (.ref 89), some (.int x1), some (.int x2), some (.int x3), some (.int x4), some (.int x5)], [.int x5, .int x3, .ref 89, .int x3, .ref 104], hp kp nh rh tl rl (u2 q0.1 104 x2.toNatClampNeg q1) q0.2)) rfl ?_
  obtain ⟨q2, hq2, hf⟩ := Option.bind_eq_some_iff.mp hf
  refine bs_call (o := pEN Ls xs (d + 5) 336 [.ref 89, .int x3, .int x5] (hp kp nh rh tl rl (u2 q0.1 104 x2.toNatClampNeg q1) q0.2)) (w := some (.int q2)) (h' := hp kp nh rh tl rl (u2 q0.1 104 x2.toNatClampNeg q1) q0.2) (pc := 29) (lo := [some (.ref 89), some (.int x1), some (.int x2), some (.int x3), some (.int x4), some (.int x5)]) (rest := [.int x3, .ref 104]) rfl (t_336 Ls xs (d + 4) kp tl rl nh rh x3 x5 (u2 q0.1 104 x2.toNatClampNeg q1) q0.2 q2 hq2) ?_
  refine bs_gd (x' := (30, [some (.ref 89), some (.int x1), some (.int x2), some (.int x3), some (.int x4), some (.int x5)], [], hp kp nh rh tl rl (u2 (u2 q0.1 104 x2.toNatClampNeg q1) 104 x3.toNatClampNeg q2) q0.2)) rfl hf (fun hc hf => ?_)
  refine bs_st 2 (x' := (32, [some (.ref 89), some (.int x1), some (.int x2), some (.int x3), some (.int x4), some (.int x5)], [.int (1 : Int32), .ref 89], hp kp nh rh tl rl (u2 (u2 q0.1 104 x2.toNatClampNeg q1) 104 x3.toNatClampNeg q2) q0.2)) rfl ?_
  obtain ⟨q3, hq3, hf⟩ := Option.bind_eq_some_iff.mp hf
  refine bs_call (o := pEN Ls xs (d + 5) 260 [.ref 89, .int (1 : Int32)] (hp kp nh rh tl rl (u2 (u2 q0.1 104 x2.toNatClampNeg q1) 104 x3.toNatClampNeg q2) q0.2)) (w := none) (h' := hp kp nh rh tl rl q3.1 q3.2) (pc := 35) (lo := [some (.ref 89), some (.int x1), some (.int x2), some (.int x3), some (.int x4), some (.int x5)]) (rest := []) rfl (t_260 Ls xs (d + 0) kp tl rl nh rh n (1 : Int32) (u2 (u2 q0.1 104 x2.toNatClampNeg q1) 104 x3.toNatClampNeg q2) q0.2 q3 hq3) ?_
  refine bs_st 2 (x' := (37, [some (.ref 89), some (.int x1), some (.int x2), some (.int x3), some (.int x4), some (.int x5)], [.int x1, .ref 89], hp kp nh rh tl rl q3.1 q3.2)) rfl ?_
  obtain ⟨q4, hq4, hf⟩ := Option.bind_eq_some_iff.mp hf
  refine bs_call (o := pEN Ls xs (d + 5) 277 [.ref 89, .int x1] (hp kp nh rh tl rl q3.1 q3.2)) (w := some (.int q4)) (h' := hp kp nh rh tl rl q3.1 q3.2) (pc := 40) (lo := [some (.ref 89), some (.int x1), some (.int x2), some (.int x3), some (.int x4), some (.int x5)]) (rest := []) rfl (t_277 Ls xs (d + 3) kp tl rl nh rh n x1 q3.1 q3.2 q4 hq4) ?_
  refine bs_st 3 (x' := (43, [some (.ref 89), some (.int x1), some (.int x2), some (.int x3), some (.int x4), some (.int x5)], [.int x2, .int x1, .int (3 : Int32), .int q4], hp kp nh rh tl rl q3.1 q3.2)) rfl ?_
  refine bs_br (t := 51) (e := 46) (lo := [some (.ref 89), some (.int x1), some (.int x2), some (.int x3), some (.int x4), some (.int x5)]) (st := [.int (3 : Int32), .int q4]) (h := hp kp nh rh tl rl q3.1 q3.2) rfl hf (fun hc hf => ?_) (fun hc hf => ?_)
  · refine bs_st 3 (x' := (55, [some (.ref 89), some (.int x1), some (.int x2), some (.int x3), some (.int x4), some (.int x5)], [.int (q4 - ((3 : Int32) * x5))], hp kp nh rh tl rl q3.1 q3.2)) rfl ?_
    cases hf
    exact bs_ret rfl
  · refine bs_st 4 (x' := (55, [some (.ref 89), some (.int x1), some (.int x2), some (.int x3), some (.int x4), some (.int x5)], [.int (q4 - ((3 : Int32) * x4))], hp kp nh rh tl rl q3.1 q3.2)) rfl ?_
    cases hf
    exact bs_ret rfl
/-- LampRoundsModel.rests(II) on (89,) -/
def c_338_3 (n : Nat) (K0 : Int32 → Int32 → Int32 → Int32 → FI → FL → Option (Int32 × FI × FL)) (x1 : Int32) (x2 : Int32) (x4 : Int32) (s0 : Int32) (s1 : Int32) (I : FI) (L : FL) : Option (Int32 × FI × FL) :=
  K0 x1 x2 (s1 ||| s0) (x4 + (1 : Int32)) I L
set_option maxHeartbeats 1000000 in
set_option maxRecDepth 20000 in
theorem tc_338_3 (Ls : Nat) (xs : Nat → Int32) (d : Nat) (kp : Option Nat) (tl : List (Nat × Nat)) (rl : List (List (Option Nat))) (nh : Option Nat) (rh : Option Nat) (n : Nat) (K0 : Int32 → Int32 → Int32 → Int32 → FI → FL → Option (Int32 × FI × FL)) (hK0 : ∀ (w5 : Option Value) (w6 : Option Value) (w7 : Option Value) (x1 : Int32) (x2 : Int32) (x3 : Int32) (x4 : Int32) (I : FI) (L : FL) (r : Int32 × FI × FL), K0 x1 x2 x3 x4 I L = some r → Bs cd_338 (sf 12 rs_12 false 8 (some (.int)) Ls xs (d + 6)) (22, [some (.ref 89), some (.int x1), some (.int x2), some (.int x3), some (.int x4), w5, w6, w7], [], hp kp nh rh tl rl I L) (some (.int r.1), hp kp nh rh tl rl r.2.1 r.2.2)) (w3 : Option Value) (w5 : Option Value) (w6 : Option Value) (w7 : Option Value) (x1 : Int32) (x2 : Int32) (x4 : Int32) (s0 : Int32) (s1 : Int32) (I : FI) (L : FL) (r : Int32 × FI × FL) (hf : c_338_3 n K0 x1 x2 x4 s0 s1 I L = some r) : Bs cd_338 (sf 12 rs_12 false 8 (some (.int)) Ls xs (d + 6)) (115, [some (.ref 89), some (.int x1), some (.int x2), w3, some (.int x4), w5, w6, w7], [.int s0, .int s1], hp kp nh rh tl rl I L) (some (.int r.1), hp kp nh rh tl rl r.2.1 r.2.2) := by
  unfold c_338_3 at hf
  refine bs_st 4 (x' := (22, [some (.ref 89), some (.int x1), some (.int x2), some (.int (s1 ||| s0)), some (.int (x4 + (1 : Int32))), w5, w6, w7], [], hp kp nh rh tl rl I L)) rfl ?_
  exact hK0 w5 w6 w7 x1 x2 (s1 ||| s0) (x4 + (1 : Int32)) I L r hf
def c_338_2 (n : Nat) (K0 : Int32 → Int32 → Int32 → Int32 → FI → FL → Option (Int32 × FI × FL)) (x1 : Int32) (x2 : Int32) (x3 : Int32) (x4 : Int32) (s0 : Int32) (I : FI) (L : FL) : Option (Int32 × FI × FL) :=
  if s0 = 0 then
    c_338_3 n K0 x1 x2 x4 (0 : Int32) x3 I L
  else
    c_338_3 n K0 x1 x2 x4 ((1 : Int32) <<< (x4 &&& 31)) x3 I L
set_option maxHeartbeats 1000000 in
set_option maxRecDepth 20000 in
theorem tc_338_2 (Ls : Nat) (xs : Nat → Int32) (d : Nat) (kp : Option Nat) (tl : List (Nat × Nat)) (rl : List (List (Option Nat))) (nh : Option Nat) (rh : Option Nat) (n : Nat) (K0 : Int32 → Int32 → Int32 → Int32 → FI → FL → Option (Int32 × FI × FL)) (hK0 : ∀ (w5 : Option Value) (w6 : Option Value) (w7 : Option Value) (x1 : Int32) (x2 : Int32) (x3 : Int32) (x4 : Int32) (I : FI) (L : FL) (r : Int32 × FI × FL), K0 x1 x2 x3 x4 I L = some r → Bs cd_338 (sf 12 rs_12 false 8 (some (.int)) Ls xs (d + 6)) (22, [some (.ref 89), some (.int x1), some (.int x2), some (.int x3), some (.int x4), w5, w6, w7], [], hp kp nh rh tl rl I L) (some (.int r.1), hp kp nh rh tl rl r.2.1 r.2.2)) (w5 : Option Value) (w6 : Option Value) (w7 : Option Value) (x1 : Int32) (x2 : Int32) (x3 : Int32) (x4 : Int32) (s0 : Int32) (I : FI) (L : FL) (r : Int32 × FI × FL) (hf : c_338_2 n K0 x1 x2 x3 x4 s0 I L = some r) : Bs cd_338 (sf 12 rs_12 false 8 (some (.int)) Ls xs (d + 6)) (99, [some (.ref 89), some (.int x1), some (.int x2), some (.int x3), some (.int x4), w5, w6, w7], [.int s0], hp kp nh rh tl rl I L) (some (.int r.1), hp kp nh rh tl rl r.2.1 r.2.2) := by
  unfold c_338_2 at hf
  refine bs_st 3 (x' := (104, [some (.ref 89), some (.int x1), some (.int x2), some (.int x3), some (.int x4), w5, (pcl w6), some (.int s0)], [.int s0, .int x3], hp kp nh rh tl rl I L)) rfl ?_
  refine bs_br (t := 114) (e := 107) (lo := [some (.ref 89), some (.int x1), some (.int x2), some (.int x3), some (.int x4), w5, (pcl w6), some (.int s0)]) (st := [.int x3]) (h := hp kp nh rh tl rl I L) rfl hf (fun hc hf => ?_) (fun hc hf => ?_)
  · refine bs_st 1 (x' := (115, [some (.ref 89), some (.int x1), some (.int x2), some (.int x3), some (.int x4), w5, (pcl w6), some (.int s0)], [.int (0 : Int32), .int x3], hp kp nh rh tl rl I L)) rfl ?_
    exact tc_338_3 Ls xs d kp tl rl nh rh n _ hK0 (some (.int x3)) w5 (pcl w6) (some (.int s0)) x1 x2 x4 (0 : Int32) x3 I L r hf
  · refine bs_st 4 (x' := (115, [some (.ref 89), some (.int x1), some (.int x2), some (.int x3), some (.int x4), w5, (pcl w6), some (.int s0)], [.int ((1 : Int32) <<< (x4 &&& 31)), .int x3], hp kp nh rh tl rl I L)) rfl ?_
    exact tc_338_3 Ls xs d kp tl rl nh rh n _ hK0 (some (.int x3)) w5 (pcl w6) (some (.int s0)) x1 x2 x4 ((1 : Int32) <<< (x4 &&& 31)) x3 I L r hf
def c_338_1 (n : Nat) (K0 : Int32 → Int32 → Int32 → Int32 → FI → FL → Option (Int32 × FI × FL)) (x1 : Int32) (x2 : Int32) (x3 : Int32) (x4 : Int32) (I : FI) (L : FL) : Option (Int32 × FI × FL) :=
  c_338_2 n K0 x1 x2 x3 x4 (0 : Int32) I L
set_option maxHeartbeats 1000000 in
set_option maxRecDepth 20000 in
theorem tc_338_1 (Ls : Nat) (xs : Nat → Int32) (d : Nat) (kp : Option Nat) (tl : List (Nat × Nat)) (rl : List (List (Option Nat))) (nh : Option Nat) (rh : Option Nat) (n : Nat) (K0 : Int32 → Int32 → Int32 → Int32 → FI → FL → Option (Int32 × FI × FL)) (hK0 : ∀ (w5 : Option Value) (w6 : Option Value) (w7 : Option Value) (x1 : Int32) (x2 : Int32) (x3 : Int32) (x4 : Int32) (I : FI) (L : FL) (r : Int32 × FI × FL), K0 x1 x2 x3 x4 I L = some r → Bs cd_338 (sf 12 rs_12 false 8 (some (.int)) Ls xs (d + 6)) (22, [some (.ref 89), some (.int x1), some (.int x2), some (.int x3), some (.int x4), w5, w6, w7], [], hp kp nh rh tl rl I L) (some (.int r.1), hp kp nh rh tl rl r.2.1 r.2.2)) (w5 : Option Value) (w6 : Option Value) (w7 : Option Value) (x1 : Int32) (x2 : Int32) (x3 : Int32) (x4 : Int32) (I : FI) (L : FL) (r : Int32 × FI × FL) (hf : c_338_1 n K0 x1 x2 x3 x4 I L = some r) : Bs cd_338 (sf 12 rs_12 false 8 (some (.int)) Ls xs (d + 6)) (98, [some (.ref 89), some (.int x1), some (.int x2), some (.int x3), some (.int x4), w5, w6, w7], [], hp kp nh rh tl rl I L) (some (.int r.1), hp kp nh rh tl rl r.2.1 r.2.2) := by
  unfold c_338_1 at hf
  refine bs_st 1 (x' := (99, [some (.ref 89), some (.int x1), some (.int x2), some (.int x3), some (.int x4), w5, w6, w7], [.int (0 : Int32)], hp kp nh rh tl rl I L)) rfl ?_
  exact tc_338_2 Ls xs d kp tl rl nh rh n _ hK0 w5 w6 w7 x1 x2 x3 x4 (0 : Int32) I L r hf
def b_338_0 (n : Nat) (K0 : Int32 → Int32 → Int32 → Int32 → FI → FL → Option (Int32 × FI × FL)) (x1 : Int32) (x2 : Int32) (x3 : Int32) (x4 : Int32) (I : FI) (L : FL) : Option (Int32 × FI × FL) :=
  if (4 : Int32) ≤ x4 then
    some (x3, I, L)
  else
    (f_337 n x1 x1 x2 ((1 : Int32) - (x4 - x4 / (2 : Int32) * (2 : Int32))) (x4 / (2 : Int32)) I L).bind fun q1 =>
    (f_337 n x1 x1 x2 (x4 - x4 / (2 : Int32) * (2 : Int32)) (x4 / (2 : Int32)) q1.2.1 q1.2.2).bind fun q2 =>
    if q2.1 < q1.1 then
      c_338_1 n K0 x1 x2 x3 x4 q2.2.1 q2.2.2
    else
      (f_337 n x2 x1 x2 (x4 - x4 / (2 : Int32) * (2 : Int32)) ((1 : Int32) - (x4 / (2 : Int32))) q2.2.1 q2.2.2).bind fun q3 =>
      (f_337 n x2 x1 x2 (x4 - x4 / (2 : Int32) * (2 : Int32)) (x4 / (2 : Int32)) q3.2.1 q3.2.2).bind fun q4 =>
      if q4.1 < q3.1 then
        c_338_1 n K0 x1 x2 x3 x4 q4.2.1 q4.2.2
      else
        c_338_2 n K0 x1 x2 x3 x4 (1 : Int32) q4.2.1 q4.2.2
def c_338_0 (n : Nat) : Nat → Int32 → Int32 → Int32 → Int32 → FI → FL → Option (Int32 × FI × FL)
  | 0, _, _, _, _, _, _ => none
  | m + 1, x1, x2, x3, x4, I, L => b_338_0 n (c_338_0 n m) x1 x2 x3 x4 I L
set_option maxHeartbeats 1000000 in
set_option maxRecDepth 20000 in
theorem tc_338_0 (Ls : Nat) (xs : Nat → Int32) (d : Nat) (kp : Option Nat) (tl : List (Nat × Nat)) (rl : List (List (Option Nat))) (nh : Option Nat) (rh : Option Nat) (n : Nat) : ∀ (m : Nat) (w5 : Option Value) (w6 : Option Value) (w7 : Option Value) (x1 : Int32) (x2 : Int32) (x3 : Int32) (x4 : Int32) (I : FI) (L : FL) (r : Int32 × FI × FL), c_338_0 n m x1 x2 x3 x4 I L = some r → Bs cd_338 (sf 12 rs_12 false 8 (some (.int)) Ls xs (d + 6)) (22, [some (.ref 89), some (.int x1), some (.int x2), some (.int x3), some (.int x4), w5, w6, w7], [], hp kp nh rh tl rl I L) (some (.int r.1), hp kp nh rh tl rl r.2.1 r.2.2)
  | 0, w5, w6, w7, x1, x2, x3, x4, I, L, r, hf => by cases hf
  | m + 1, w5, w6, w7, x1, x2, x3, x4, I, L, r, hf => by
    unfold c_338_0 b_338_0 at hf
    have hK0 := tc_338_0 Ls xs d kp tl rl nh rh n m
    refine bs_st 2 (x' := (25, [some (.ref 89), some (.int x1), some (.int x2), some (.int x3), some (.int x4), w5, w6, w7], [.int (4 : Int32), .int x4], hp kp nh rh tl rl I L)) rfl ?_
    refine bs_br (t := 123) (e := 28) (lo := [some (.ref 89), some (.int x1), some (.int x2), some (.int x3), some (.int x4), w5, w6, w7]) (st := []) (h := hp kp nh rh tl rl I L) rfl hf (fun hc hf => ?_) (fun hc hf => ?_)
    · refine bs_st 1 (x' := (124, [some (.ref 89), some (.int x1), some (.int x2), some (.int x3), some (.int x4), w5, w6, w7], [.int x3], hp kp nh rh tl rl I L)) rfl ?_
      cases hf
      exact bs_ret rfl
    · refine bs_st 16 (x' := (50, [some (.ref 89), some (.int x1), some (.int x2), some (.int x3), some (.int x4), some (.int (x4 - x4 / (2 : Int32) * (2 : Int32))), some (.int (x4 / (2 : Int32))), w7], [.int (x4 / (2 : Int32)), .int ((1 : Int32) - (x4 - x4 / (2 : Int32) * (2 : Int32))), .int x2, .int x1, .int x1, .ref 89], hp kp nh rh tl rl I L)) rfl ?_
      obtain ⟨q1, hq1, hf⟩ := Option.bind_eq_some_iff.mp hf
      refine bs_call (o := pEN Ls xs (d + 6) 337 [.ref 89, .int x1, .int x1, .int x2, .int ((1 : Int32) - (x4 - x4 / (2 : Int32) * (2 : Int32))), .int (x4 / (2 : Int32))] (hp kp nh rh tl rl I L)) (w := some (.int q1.1)) (h' := hp kp nh rh tl rl q1.2.1 q1.2.2) (pc := 53) (lo := [some (.ref 89), some (.int x1), some (.int x2), some (.int x3), some (.int x4), some (.int (x4 - x4 / (2 : Int32) * (2 : Int32))), some (.int (x4 / (2 : Int32))), w7]) (rest := []) rfl (t_337 Ls xs (d + 0) kp tl rl nh rh n x1 x1 x2 ((1 : Int32) - (x4 - x4 / (2 : Int32) * (2 : Int32))) (x4 / (2 : Int32)) I L q1 hq1) ?_
      refine bs_st 6 (x' := (61, [some (.ref 89), some (.int x1), some (.int x2), some (.int x3), some (.int x4), some (.int (x4 - x4 / (2 : Int32) * (2 : Int32))), some (.int (x4 / (2 : Int32))), w7], [.int (x4 / (2 : Int32)), .int (x4 - x4 / (2 : Int32) * (2 : Int32)), .int x2, .int x1, .int x1, .ref 89, .int q1.1], hp kp nh rh tl rl q1.2.1 q1.2.2)) rfl ?_
      obtain ⟨q2, hq2, hf⟩ := Option.bind_eq_some_iff.mp hf
      refine bs_call (o := pEN Ls xs (d + 6) 337 [.ref 89, .int x1, .int x1, .int x2, .int (x4 - x4 / (2 : Int32) * (2 : Int32)), .int (x4 / (2 : Int32))] (hp kp nh rh tl rl q1.2.1 q1.2.2)) (w := some (.int q2.1)) (h' := hp kp nh rh tl rl q2.2.1 q2.2.2) (pc := 64) (lo := [some (.ref 89), some (.int x1), some (.int x2), some (.int x3), some (.int x4), some (.int (x4 - x4 / (2 : Int32) * (2 : Int32))), some (.int (x4 / (2 : Int32))), w7]) (rest := [.int q1.1]) rfl (t_337 Ls xs (d + 0) kp tl rl nh rh n x1 x1 x2 (x4 - x4 / (2 : Int32) * (2 : Int32)) (x4 / (2 : Int32)) q1.2.1 q1.2.2 q2 hq2) ?_
      refine bs_br (t := 98) (e := 67) (lo := [some (.ref 89), some (.int x1), some (.int x2), some (.int x3), some (.int x4), some (.int (x4 - x4 / (2 : Int32) * (2 : Int32))), some (.int (x4 / (2 : Int32))), w7]) (st := []) (h := hp kp nh rh tl rl q2.2.1 q2.2.2) rfl hf (fun hc hf => ?_) (fun hc hf => ?_)
      · exact tc_338_1 Ls xs d kp tl rl nh rh n _ hK0 (some (.int (x4 - x4 / (2 : Int32) * (2 : Int32)))) (some (.int (x4 / (2 : Int32)))) w7 x1 x2 x3 x4 q2.2.1 q2.2.2 r hf
      · refine bs_st 8 (x' := (77, [some (.ref 89), some (.int x1), some (.int x2), some (.int x3), some (.int x4), some (.int (x4 - x4 / (2 : Int32) * (2 : Int32))), some (.int (x4 / (2 : Int32))), w7], [.int ((1 : Int32) - (x4 / (2 : Int32))), .int (x4 - x4 / (2 : Int32) * (2 : Int32)), .int x2, .int x1, .int x2, .ref 89], hp kp nh rh tl rl q2.2.1 q2.2.2)) rfl ?_
        obtain ⟨q3, hq3, hf⟩ := Option.bind_eq_some_iff.mp hf
        refine bs_call (o := pEN Ls xs (d + 6) 337 [.ref 89, .int x2, .int x1, .int x2, .int (x4 - x4 / (2 : Int32) * (2 : Int32)), .int ((1 : Int32) - (x4 / (2 : Int32)))] (hp kp nh rh tl rl q2.2.1 q2.2.2)) (w := some (.int q3.1)) (h' := hp kp nh rh tl rl q3.2.1 q3.2.2) (pc := 80) (lo := [some (.ref 89), some (.int x1), some (.int x2), some (.int x3), some (.int x4), some (.int (x4 - x4 / (2 : Int32) * (2 : Int32))), some (.int (x4 / (2 : Int32))), w7]) (rest := []) rfl (t_337 Ls xs (d + 0) kp tl rl nh rh n x2 x1 x2 (x4 - x4 / (2 : Int32) * (2 : Int32)) ((1 : Int32) - (x4 / (2 : Int32))) q2.2.1 q2.2.2 q3 hq3) ?_
        refine bs_st 6 (x' := (88, [some (.ref 89), some (.int x1), some (.int x2), some (.int x3), some (.int x4), some (.int (x4 - x4 / (2 : Int32) * (2 : Int32))), some (.int (x4 / (2 : Int32))), w7], [.int (x4 / (2 : Int32)), .int (x4 - x4 / (2 : Int32) * (2 : Int32)), .int x2, .int x1, .int x2, .ref 89, .int q3.1], hp kp nh rh tl rl q3.2.1 q3.2.2)) rfl ?_
        obtain ⟨q4, hq4, hf⟩ := Option.bind_eq_some_iff.mp hf
        refine bs_call (o := pEN Ls xs (d + 6) 337 [.ref 89, .int x2, .int x1, .int x2, .int (x4 - x4 / (2 : Int32) * (2 : Int32)), .int (x4 / (2 : Int32))] (hp kp nh rh tl rl q3.2.1 q3.2.2)) (w := some (.int q4.1)) (h' := hp kp nh rh tl rl q4.2.1 q4.2.2) (pc := 91) (lo := [some (.ref 89), some (.int x1), some (.int x2), some (.int x3), some (.int x4), some (.int (x4 - x4 / (2 : Int32) * (2 : Int32))), some (.int (x4 / (2 : Int32))), w7]) (rest := [.int q3.1]) rfl (t_337 Ls xs (d + 0) kp tl rl nh rh n x2 x1 x2 (x4 - x4 / (2 : Int32) * (2 : Int32)) (x4 / (2 : Int32)) q3.2.1 q3.2.2 q4 hq4) ?_
        refine bs_br (t := 98) (e := 94) (lo := [some (.ref 89), some (.int x1), some (.int x2), some (.int x3), some (.int x4), some (.int (x4 - x4 / (2 : Int32) * (2 : Int32))), some (.int (x4 / (2 : Int32))), w7]) (st := []) (h := hp kp nh rh tl rl q4.2.1 q4.2.2) rfl hf (fun hc hf => ?_) (fun hc hf => ?_)
        · exact tc_338_1 Ls xs d kp tl rl nh rh n _ hK0 (some (.int (x4 - x4 / (2 : Int32) * (2 : Int32)))) (some (.int (x4 / (2 : Int32)))) w7 x1 x2 x3 x4 q4.2.1 q4.2.2 r hf
        · refine bs_st 2 (x' := (99, [some (.ref 89), some (.int x1), some (.int x2), some (.int x3), some (.int x4), some (.int (x4 - x4 / (2 : Int32) * (2 : Int32))), some (.int (x4 / (2 : Int32))), w7], [.int (1 : Int32)], hp kp nh rh tl rl q4.2.1 q4.2.2)) rfl ?_
          exact tc_338_2 Ls xs d kp tl rl nh rh n _ hK0 (some (.int (x4 - x4 / (2 : Int32) * (2 : Int32)))) (some (.int (x4 / (2 : Int32)))) w7 x1 x2 x3 x4 (1 : Int32) q4.2.1 q4.2.2 r hf
def f_338 (n : Nat) (x1 : Int32) (x2 : Int32) (I : FI) (L : FL) : Option (Int32 × FI × FL) :=
  (f_240 x1 x2 (u2 I 89 0 (0 : Int32)) L).bind fun q0 =>
  if ¬ q0 = 0 then
    c_338_0 n n x1 x2 (0 : Int32) (0 : Int32) (u2 I 89 0 (0 : Int32)) L
  else
    some ((-2 : Int32), (u2 I 89 0 (0 : Int32)), L)
set_option maxHeartbeats 1000000 in
set_option maxRecDepth 20000 in
theorem t_338 (Ls : Nat) (xs : Nat → Int32) (d : Nat) (kp : Option Nat) (tl : List (Nat × Nat)) (rl : List (List (Option Nat))) (nh : Option Nat) (rh : Option Nat) (n : Nat) (x1 : Int32) (x2 : Int32) (I : FI) (L : FL) (r : Int32 × FI × FL) (hf : f_338 n x1 x2 I L = some r) : pEN Ls xs (d + 7) 338 [.ref 89, .int x1, .int x2] (hp kp nh rh tl rl I L) = some (some (.int r.1), hp kp nh rh tl rl r.2.1 r.2.2) := by
  refine en_run (d := d + 6) (cd := cd_338) (f := (sf 12 rs_12 false 8 (some (.int)) Ls xs (d + 6))) rfl rfl (x := (0, [some (.ref 89), some (.int x1), some (.int x2), none, none, none, none, none], [], hp kp nh rh tl rl I L)) rfl rfl (Nat.le_of_ble_eq_true rfl) ?_
  unfold f_338 at hf
  refine bs_st 6 (x' := (8, [some (.ref 89), some (.int x1), some (.int x2), none, none, none, none, none], [.int x2, .int x1, .ref 89], hp kp nh rh tl rl (u2 I 89 0 (0 : Int32)) L)) rfl ?_
  obtain ⟨q0, hq0, hf⟩ := Option.bind_eq_some_iff.mp hf
  refine bs_call (o := pEN Ls xs (d + 6) 240 [.ref 89, .int x1, .int x2] (hp kp nh rh tl rl (u2 I 89 0 (0 : Int32)) L)) (w := some (.int q0)) (h' := hp kp nh rh tl rl (u2 I 89 0 (0 : Int32)) L) (pc := 11) (lo := [some (.ref 89), some (.int x1), some (.int x2), none, none, none, none, none]) (rest := []) rfl (t_240 Ls xs (d + 3) kp tl rl nh rh x1 x2 (u2 I 89 0 (0 : Int32)) L q0 hq0) ?_
  refine bs_br (t := 17) (e := 14) (lo := [some (.ref 89), some (.int x1), some (.int x2), none, none, none, none, none]) (st := []) (h := hp kp nh rh tl rl (u2 I 89 0 (0 : Int32)) L) rfl hf (fun hc hf => ?_) (fun hc hf => ?_)
  · refine bs_st 4 (x' := (22, [some (.ref 89), some (.int x1), some (.int x2), some (.int (0 : Int32)), some (.int (0 : Int32)), none, none, none], [], hp kp nh rh tl rl (u2 I 89 0 (0 : Int32)) L)) rfl ?_
    exact tc_338_0 Ls xs d kp tl rl nh rh n n none none none x1 x2 (0 : Int32) (0 : Int32) (u2 I 89 0 (0 : Int32)) L r hf
  · refine bs_st 1 (x' := (16, [some (.ref 89), some (.int x1), some (.int x2), none, none, none, none, none], [.int (-2 : Int32)], hp kp nh rh tl rl (u2 I 89 0 (0 : Int32)) L)) rfl ?_
    cases hf
    exact bs_ret rfl
/-- LampRoundsModel.gets(IIII) on (89,) -/
def f_339 (n : Nat) (x1 : Int32) (x2 : Int32) (x3 : Int32) (x4 : Int32) (I : FI) (L : FL) : Option (Int32 × FI × FL) :=
  (f_240 x1 x2 (u2 I 89 0 (0 : Int32)) L).bind fun q0 =>
  if q0 = 0 then
    some ((-1000 : Int32), (u2 I 89 0 (0 : Int32)), L)
  else
    (f_242 x3 (u2 I 89 0 (0 : Int32)) L).bind fun q1 =>
    if q1 = 0 then
      some ((-1000 : Int32), (u2 I 89 0 (0 : Int32)), L)
    else
      (f_242 x4 (u2 I 89 0 (0 : Int32)) L).bind fun q2 =>
      if q2 = 0 then
        some ((-1000 : Int32), (u2 I 89 0 (0 : Int32)), L)
      else
        (f_337 n x1 x1 x2 x3 x4 (u2 I 89 0 (0 : Int32)) L).bind fun q3 =>
        some (q3.1, q3.2.1, q3.2.2)
set_option maxHeartbeats 1000000 in
set_option maxRecDepth 20000 in
theorem t_339 (Ls : Nat) (xs : Nat → Int32) (d : Nat) (kp : Option Nat) (tl : List (Nat × Nat)) (rl : List (List (Option Nat))) (nh : Option Nat) (rh : Option Nat) (n : Nat) (x1 : Int32) (x2 : Int32) (x3 : Int32) (x4 : Int32) (I : FI) (L : FL) (r : Int32 × FI × FL) (hf : f_339 n x1 x2 x3 x4 I L = some r) : pEN Ls xs (d + 7) 339 [.ref 89, .int x1, .int x2, .int x3, .int x4] (hp kp nh rh tl rl I L) = some (some (.int r.1), hp kp nh rh tl rl r.2.1 r.2.2) := by
  refine en_run (d := d + 6) (cd := cd_339) (f := (sf 12 rs_12 false 5 (some (.int)) Ls xs (d + 6))) rfl rfl (x := (0, [some (.ref 89), some (.int x1), some (.int x2), some (.int x3), some (.int x4)], [], hp kp nh rh tl rl I L)) rfl rfl (Nat.le_of_ble_eq_true rfl) ?_
  unfold f_339 at hf
  refine bs_st 6 (x' := (8, [some (.ref 89), some (.int x1), some (.int x2), some (.int x3), some (.int x4)], [.int x2, .int x1, .ref 89], hp kp nh rh tl rl (u2 I 89 0 (0 : Int32)) L)) rfl ?_
  obtain ⟨q0, hq0, hf⟩ := Option.bind_eq_some_iff.mp hf
  refine bs_call (o := pEN Ls xs (d + 6) 240 [.ref 89, .int x1, .int x2] (hp kp nh rh tl rl (u2 I 89 0 (0 : Int32)) L)) (w := some (.int q0)) (h' := hp kp nh rh tl rl (u2 I 89 0 (0 : Int32)) L) (pc := 11) (lo := [some (.ref 89), some (.int x1), some (.int x2), some (.int x3), some (.int x4)]) (rest := []) rfl (t_240 Ls xs (d + 3) kp tl rl nh rh x1 x2 (u2 I 89 0 (0 : Int32)) L q0 hq0) ?_
  refine bs_br (t := 42) (e := 14) (lo := [some (.ref 89), some (.int x1), some (.int x2), some (.int x3), some (.int x4)]) (st := []) (h := hp kp nh rh tl rl (u2 I 89 0 (0 : Int32)) L) rfl hf (fun hc hf => ?_) (fun hc hf => ?_)
  · refine bs_st 1 (x' := (45, [some (.ref 89), some (.int x1), some (.int x2), some (.int x3), some (.int x4)], [.int (-1000 : Int32)], hp kp nh rh tl rl (u2 I 89 0 (0 : Int32)) L)) rfl ?_
    cases hf
    exact bs_ret rfl
  · refine bs_st 1 (x' := (15, [some (.ref 89), some (.int x1), some (.int x2), some (.int x3), some (.int x4)], [.int x3], hp kp nh rh tl rl (u2 I 89 0 (0 : Int32)) L)) rfl ?_
    obtain ⟨q1, hq1, hf⟩ := Option.bind_eq_some_iff.mp hf
    refine bs_call (o := pEN Ls xs (d + 6) 242 [.int x3] (hp kp nh rh tl rl (u2 I 89 0 (0 : Int32)) L)) (w := some (.int q1)) (h' := hp kp nh rh tl rl (u2 I 89 0 (0 : Int32)) L) (pc := 18) (lo := [some (.ref 89), some (.int x1), some (.int x2), some (.int x3), some (.int x4)]) (rest := []) rfl (t_242 Ls xs (d + 4) kp tl rl nh rh x3 (u2 I 89 0 (0 : Int32)) L q1 hq1) ?_
    refine bs_br (t := 42) (e := 21) (lo := [some (.ref 89), some (.int x1), some (.int x2), some (.int x3), some (.int x4)]) (st := []) (h := hp kp nh rh tl rl (u2 I 89 0 (0 : Int32)) L) rfl hf (fun hc hf => ?_) (fun hc hf => ?_)
    · refine bs_st 1 (x' := (45, [some (.ref 89), some (.int x1), some (.int x2), some (.int x3), some (.int x4)], [.int (-1000 : Int32)], hp kp nh rh tl rl (u2 I 89 0 (0 : Int32)) L)) rfl ?_
      cases hf
      exact bs_ret rfl
    · refine bs_st 1 (x' := (23, [some (.ref 89), some (.int x1), some (.int x2), some (.int x3), some (.int x4)], [.int x4], hp kp nh rh tl rl (u2 I 89 0 (0 : Int32)) L)) rfl ?_
      obtain ⟨q2, hq2, hf⟩ := Option.bind_eq_some_iff.mp hf
      refine bs_call (o := pEN Ls xs (d + 6) 242 [.int x4] (hp kp nh rh tl rl (u2 I 89 0 (0 : Int32)) L)) (w := some (.int q2)) (h' := hp kp nh rh tl rl (u2 I 89 0 (0 : Int32)) L) (pc := 26) (lo := [some (.ref 89), some (.int x1), some (.int x2), some (.int x3), some (.int x4)]) (rest := []) rfl (t_242 Ls xs (d + 4) kp tl rl nh rh x4 (u2 I 89 0 (0 : Int32)) L q2 hq2) ?_
      refine bs_br (t := 42) (e := 29) (lo := [some (.ref 89), some (.int x1), some (.int x2), some (.int x3), some (.int x4)]) (st := []) (h := hp kp nh rh tl rl (u2 I 89 0 (0 : Int32)) L) rfl hf (fun hc hf => ?_) (fun hc hf => ?_)
      · refine bs_st 1 (x' := (45, [some (.ref 89), some (.int x1), some (.int x2), some (.int x3), some (.int x4)], [.int (-1000 : Int32)], hp kp nh rh tl rl (u2 I 89 0 (0 : Int32)) L)) rfl ?_
        cases hf
        exact bs_ret rfl
      · refine bs_st 6 (x' := (36, [some (.ref 89), some (.int x1), some (.int x2), some (.int x3), some (.int x4)], [.int x4, .int x3, .int x2, .int x1, .int x1, .ref 89], hp kp nh rh tl rl (u2 I 89 0 (0 : Int32)) L)) rfl ?_
        obtain ⟨q3, hq3, hf⟩ := Option.bind_eq_some_iff.mp hf
        refine bs_call (o := pEN Ls xs (d + 6) 337 [.ref 89, .int x1, .int x1, .int x2, .int x3, .int x4] (hp kp nh rh tl rl (u2 I 89 0 (0 : Int32)) L)) (w := some (.int q3.1)) (h' := hp kp nh rh tl rl q3.2.1 q3.2.2) (pc := 39) (lo := [some (.ref 89), some (.int x1), some (.int x2), some (.int x3), some (.int x4)]) (rest := []) rfl (t_337 Ls xs (d + 0) kp tl rl nh rh n x1 x1 x2 x3 x4 (u2 I 89 0 (0 : Int32)) L q3 hq3) ?_
        refine bs_st 1 (x' := (45, [some (.ref 89), some (.int x1), some (.int x2), some (.int x3), some (.int x4)], [.int q3.1], hp kp nh rh tl rl q3.2.1 q3.2.2)) rfl ?_
        cases hf
        exact bs_ret rfl
/-- LampRoundsModel.tens() on (89,) -/
def b_340_0 (n : Nat) (I : FI) (L : FL) (K0 : Int32 → Int32 → Option (Int32)) (x1 : Int32) (x2 : Int32) : Option (Int32) :=
  if I 96 5 ≤ x2 then
    some (x1)
  else
    K0 (x1 * (10 : Int32)) (x2 + (1 : Int32))
def c_340_0 (n : Nat) (I : FI) (L : FL) : Nat → Int32 → Int32 → Option (Int32)
  | 0, _, _ => none
  | m + 1, x1, x2 => b_340_0 n I L (c_340_0 n I L m) x1 x2
set_option maxHeartbeats 1000000 in
set_option maxRecDepth 20000 in
theorem tc_340_0 (Ls : Nat) (xs : Nat → Int32) (d : Nat) (kp : Option Nat) (tl : List (Nat × Nat)) (rl : List (List (Option Nat))) (nh : Option Nat) (rh : Option Nat) (n : Nat) (I : FI) (L : FL) : ∀ (m : Nat) (x1 : Int32) (x2 : Int32) (r : Int32), c_340_0 n I L m x1 x2 = some r → Bs cd_340 (sf 12 rs_12 false 3 (some (.int)) Ls xs (d + 0)) (4, [some (.ref 89), some (.int x1), some (.int x2)], [], hp kp nh rh tl rl I L) (some (.int r), hp kp nh rh tl rl I L)
  | 0, x1, x2, r, hf => by cases hf
  | m + 1, x1, x2, r, hf => by
    unfold c_340_0 b_340_0 at hf
    have hK0 := tc_340_0 Ls xs d kp tl rl nh rh n I L m
    refine bs_st 5 (x' := (11, [some (.ref 89), some (.int x1), some (.int x2)], [.int (I 96 5), .int x2], hp kp nh rh tl rl I L)) rfl ?_
    refine bs_br (t := 25) (e := 14) (lo := [some (.ref 89), some (.int x1), some (.int x2)]) (st := []) (h := hp kp nh rh tl rl I L) rfl hf (fun hc hf => ?_) (fun hc hf => ?_)
    · refine bs_st 1 (x' := (26, [some (.ref 89), some (.int x1), some (.int x2)], [.int x1], hp kp nh rh tl rl I L)) rfl ?_
      cases hf
      exact bs_ret rfl
    · refine bs_st 6 (x' := (4, [some (.ref 89), some (.int (x1 * (10 : Int32))), some (.int (x2 + (1 : Int32)))], [], hp kp nh rh tl rl I L)) rfl ?_
      exact hK0 (x1 * (10 : Int32)) (x2 + (1 : Int32)) r hf
def f_340 (n : Nat) (I : FI) (L : FL) : Option (Int32) :=
  c_340_0 n I L n (1 : Int32) (0 : Int32)
set_option maxHeartbeats 1000000 in
set_option maxRecDepth 20000 in
theorem t_340 (Ls : Nat) (xs : Nat → Int32) (d : Nat) (kp : Option Nat) (tl : List (Nat × Nat)) (rl : List (List (Option Nat))) (nh : Option Nat) (rh : Option Nat) (n : Nat) (I : FI) (L : FL) (r : Int32) (hf : f_340 n I L = some r) : pEN Ls xs (d + 1) 340 [.ref 89] (hp kp nh rh tl rl I L) = some (some (.int r), hp kp nh rh tl rl I L) := by
  refine en_run (d := d + 0) (cd := cd_340) (f := (sf 12 rs_12 false 3 (some (.int)) Ls xs (d + 0))) rfl rfl (x := (0, [some (.ref 89), none, none], [], hp kp nh rh tl rl I L)) rfl rfl (Nat.le_of_ble_eq_true rfl) ?_
  unfold f_340 at hf
  refine bs_st 4 (x' := (4, [some (.ref 89), some (.int (1 : Int32)), some (.int (0 : Int32))], [], hp kp nh rh tl rl I L)) rfl ?_
  exact tc_340_0 Ls xs d kp tl rl nh rh n I L n (1 : Int32) (0 : Int32) r hf
/-- LampRoundsModel.weightOf(IZ) on (89,) -/
def c_341_3 (n : Nat) (K0 : Int32 → Int32 → Int32 → Int32 → FI → FL → Option (Int32 × FI × FL)) (x1 : Int32) (x2 : Int32) (x3 : Int32) (x4 : Int32) (I : FI) (L : FL) : Option (Int32 × FI × FL) :=
  K0 x1 x2 x3 (x4 + (1 : Int32)) I L
set_option maxHeartbeats 1000000 in
set_option maxRecDepth 20000 in
theorem tc_341_3 (Ls : Nat) (xs : Nat → Int32) (d : Nat) (kp : Option Nat) (tl : List (Nat × Nat)) (rl : List (List (Option Nat))) (nh : Option Nat) (rh : Option Nat) (n : Nat) (K0 : Int32 → Int32 → Int32 → Int32 → FI → FL → Option (Int32 × FI × FL)) (hK0 : ∀ (w5 : Option Value) (w6 : Option Value) (x1 : Int32) (x2 : Int32) (x3 : Int32) (x4 : Int32) (I : FI) (L : FL) (r : Int32 × FI × FL), K0 x1 x2 x3 x4 I L = some r → Bs cd_341 (sf 12 rs_12 false 7 (some (.int)) Ls xs (d + 5)) (9, [some (.ref 89), some (.int x1), some (.int x2), some (.int x3), some (.int x4), w5, w6], [], hp kp nh rh tl rl I L) (some (.int r.1), hp kp nh rh tl rl r.2.1 r.2.2)) (w5 : Option Value) (w6 : Option Value) (x1 : Int32) (x2 : Int32) (x3 : Int32) (x4 : Int32) (I : FI) (L : FL) (r : Int32 × FI × FL) (hf : c_341_3 n K0 x1 x2 x3 x4 I L = some r) : Bs cd_341 (sf 12 rs_12 false 7 (some (.int)) Ls xs (d + 5)) (136, [some (.ref 89), some (.int x1), some (.int x2), some (.int x3), some (.int x4), w5, w6], [], hp kp nh rh tl rl I L) (some (.int r.1), hp kp nh rh tl rl r.2.1 r.2.2) := by
  unfold c_341_3 at hf
  refine bs_st 2 (x' := (9, [some (.ref 89), some (.int x1), some (.int x2), some (.int x3), some (.int (x4 + (1 : Int32))), w5, w6], [], hp kp nh rh tl rl I L)) rfl ?_
  exact hK0 w5 w6 x1 x2 x3 (x4 + (1 : Int32)) I L r hf
def c_341_2 (n : Nat) (K0 : Int32 → Int32 → Int32 → Int32 → FI → FL → Option (Int32 × FI × FL)) (x1 : Int32) (x2 : Int32) (x4 : Int32) (s0 : Int32) (s1 : Int32) (s2 : Int32) (I : FI) (L : FL) : Option (Int32 × FI × FL) :=
  c_341_3 n K0 x1 x2 (s2 + (s1 * s0)) x4 I L
set_option maxHeartbeats 1000000 in
set_option maxRecDepth 20000 in
theorem tc_341_2 (Ls : Nat) (xs : Nat → Int32) (d : Nat) (kp : Option Nat) (tl : List (Nat × Nat)) (rl : List (List (Option Nat))) (nh : Option Nat) (rh : Option Nat) (n : Nat) (K0 : Int32 → Int32 → Int32 → Int32 → FI → FL → Option (Int32 × FI × FL)) (hK0 : ∀ (w5 : Option Value) (w6 : Option Value) (x1 : Int32) (x2 : Int32) (x3 : Int32) (x4 : Int32) (I : FI) (L : FL) (r : Int32 × FI × FL), K0 x1 x2 x3 x4 I L = some r → Bs cd_341 (sf 12 rs_12 false 7 (some (.int)) Ls xs (d + 5)) (9, [some (.ref 89), some (.int x1), some (.int x2), some (.int x3), some (.int x4), w5, w6], [], hp kp nh rh tl rl I L) (some (.int r.1), hp kp nh rh tl rl r.2.1 r.2.2)) (w3 : Option Value) (w5 : Option Value) (w6 : Option Value) (x1 : Int32) (x2 : Int32) (x4 : Int32) (s0 : Int32) (s1 : Int32) (s2 : Int32) (I : FI) (L : FL) (r : Int32 × FI × FL) (hf : c_341_2 n K0 x1 x2 x4 s0 s1 s2 I L = some r) : Bs cd_341 (sf 12 rs_12 false 7 (some (.int)) Ls xs (d + 5)) (133, [some (.ref 89), some (.int x1), some (.int x2), w3, some (.int x4), w5, w6], [.int s0, .int s1, .int s2], hp kp nh rh tl rl I L) (some (.int r.1), hp kp nh rh tl rl r.2.1 r.2.2) := by
  unfold c_341_2 at hf
  refine bs_st 3 (x' := (136, [some (.ref 89), some (.int x1), some (.int x2), some (.int (s2 + (s1 * s0))), some (.int x4), w5, w6], [], hp kp nh rh tl rl I L)) rfl ?_
  exact tc_341_3 Ls xs d kp tl rl nh rh n _ hK0 w5 w6 x1 x2 (s2 + (s1 * s0)) x4 I L r hf
def c_341_4 (n : Nat) (K0 : Int32 → Int32 → Int32 → Int32 → FI → FL → Option (Int32 × FI × FL)) (K1 : Int32 → Int32 → Int32 → Int32 → Int32 → Int32 → FI → FL → Option (Int32 × FI × FL)) (x1 : Int32) (x2 : Int32) (x3 : Int32) (x4 : Int32) (x6 : Int32) (s0 : Int32) (s1 : Int32) (I : FI) (L : FL) : Option (Int32 × FI × FL) :=
  K1 x1 x2 x3 x4 (s1 * s0) (x6 + (1 : Int32)) I L
set_option maxHeartbeats 1000000 in
set_option maxRecDepth 20000 in
theorem tc_341_4 (Ls : Nat) (xs : Nat → Int32) (d : Nat) (kp : Option Nat) (tl : List (Nat × Nat)) (rl : List (List (Option Nat))) (nh : Option Nat) (rh : Option Nat) (n : Nat) (K0 : Int32 → Int32 → Int32 → Int32 → FI → FL → Option (Int32 × FI × FL)) (K1 : Int32 → Int32 → Int32 → Int32 → Int32 → Int32 → FI → FL → Option (Int32 × FI × FL)) (hK0 : ∀ (w5 : Option Value) (w6 : Option Value) (x1 : Int32) (x2 : Int32) (x3 : Int32) (x4 : Int32) (I : FI) (L : FL) (r : Int32 × FI × FL), K0 x1 x2 x3 x4 I L = some r → Bs cd_341 (sf 12 rs_12 false 7 (some (.int)) Ls xs (d + 5)) (9, [some (.ref 89), some (.int x1), some (.int x2), some (.int x3), some (.int x4), w5, w6], [], hp kp nh rh tl rl I L) (some (.int r.1), hp kp nh rh tl rl r.2.1 r.2.2)) (hK1 : ∀ (x1 : Int32) (x2 : Int32) (x3 : Int32) (x4 : Int32) (x5 : Int32) (x6 : Int32) (I : FI) (L : FL) (r : Int32 × FI × FL), K1 x1 x2 x3 x4 x5 x6 I L = some r → Bs cd_341 (sf 12 rs_12 false 7 (some (.int)) Ls xs (d + 5)) (28, [some (.ref 89), some (.int x1), some (.int x2), some (.int x3), some (.int x4), some (.int x5), some (.int x6)], [], hp kp nh rh tl rl I L) (some (.int r.1), hp kp nh rh tl rl r.2.1 r.2.2)) (w5 : Option Value) (x1 : Int32) (x2 : Int32) (x3 : Int32) (x4 : Int32) (x6 : Int32) (s0 : Int32) (s1 : Int32) (I : FI) (L : FL) (r : Int32 × FI × FL) (hf : c_341_4 n K0 K1 x1 x2 x3 x4 x6 s0 s1 I L = some r) : Bs cd_341 (sf 12 rs_12 false 7 (some (.int)) Ls xs (d + 5)) (69, [some (.ref 89), some (.int x1), some (.int x2), some (.int x3), some (.int x4), w5, some (.int x6)], [.int s0, .int s1], hp kp nh rh tl rl I L) (some (.int r.1), hp kp nh rh tl rl r.2.1 r.2.2) := by
  unfold c_341_4 at hf
  refine bs_st 4 (x' := (28, [some (.ref 89), some (.int x1), some (.int x2), some (.int x3), some (.int x4), some (.int (s1 * s0)), some (.int (x6 + (1 : Int32)))], [], hp kp nh rh tl rl I L)) rfl ?_
  exact hK1 x1 x2 x3 x4 (s1 * s0) (x6 + (1 : Int32)) I L r hf
def b_341_1 (n : Nat) (K0 : Int32 → Int32 → Int32 → Int32 → FI → FL → Option (Int32 × FI × FL)) (K1 : Int32 → Int32 → Int32 → Int32 → Int32 → Int32 → FI → FL → Option (Int32 × FI × FL)) (x1 : Int32) (x2 : Int32) (x3 : Int32) (x4 : Int32) (x5 : Int32) (x6 : Int32) (I : FI) (L : FL) : Option (Int32 × FI × FL) :=
  if I 96 5 ≤ x6 then
    if ¬ x5 = 0 then
      (f_260 n (0 : Int32) (u2 I 89 26 x4) L).bind fun q1 =>
      (f_262 n x1 q1.1 q1.2).bind fun q2 =>
      if x2 = 0 then
        (f_298 q1.1 q1.2).bind fun q3 =>
        if ¬ q2 = q3 then
          c_341_2 n K0 x1 x2 x4 (0 : Int32) x5 x3 q1.1 q1.2
        else
          c_341_2 n K0 x1 x2 x4 (1 : Int32) x5 x3 q1.1 q1.2
      else
        (f_248 n q2 q1.1 q1.2).bind fun q4 =>
        c_341_2 n K0 x1 x2 x4 q4 x5 x3 q1.1 q1.2
    else
      c_341_3 n K0 x1 x2 x3 x4 I L
  else
    (f_247 x4 x6 I L).bind fun q5 =>
    if q5 = 0 then
      c_341_4 n K0 K1 x1 x2 x3 x4 x6 (I 96 1) x5 I L
    else
      c_341_4 n K0 K1 x1 x2 x3 x4 x6 ((10 : Int32) - (I 96 1)) x5 I L
def c_341_1 (n : Nat) (K0 : Int32 → Int32 → Int32 → Int32 → FI → FL → Option (Int32 × FI × FL)) : Nat → Int32 → Int32 → Int32 → Int32 → Int32 → Int32 → FI → FL → Option (Int32 × FI × FL)
  | 0, _, _, _, _, _, _, _, _ => none
  | m + 1, x1, x2, x3, x4, x5, x6, I, L => b_341_1 n K0 (c_341_1 n K0 m) x1 x2 x3 x4 x5 x6 I L
set_option maxHeartbeats 1000000 in
set_option maxRecDepth 20000 in
theorem tc_341_1 (Ls : Nat) (xs : Nat → Int32) (d : Nat) (kp : Option Nat) (tl : List (Nat × Nat)) (rl : List (List (Option Nat))) (nh : Option Nat) (rh : Option Nat) (n : Nat) (K0 : Int32 → Int32 → Int32 → Int32 → FI → FL → Option (Int32 × FI × FL)) (hK0 : ∀ (w5 : Option Value) (w6 : Option Value) (x1 : Int32) (x2 : Int32) (x3 : Int32) (x4 : Int32) (I : FI) (L : FL) (r : Int32 × FI × FL), K0 x1 x2 x3 x4 I L = some r → Bs cd_341 (sf 12 rs_12 false 7 (some (.int)) Ls xs (d + 5)) (9, [some (.ref 89), some (.int x1), some (.int x2), some (.int x3), some (.int x4), w5, w6], [], hp kp nh rh tl rl I L) (some (.int r.1), hp kp nh rh tl rl r.2.1 r.2.2)) : ∀ (m : Nat) (x1 : Int32) (x2 : Int32) (x3 : Int32) (x4 : Int32) (x5 : Int32) (x6 : Int32) (I : FI) (L : FL) (r : Int32 × FI × FL), c_341_1 n K0 m x1 x2 x3 x4 x5 x6 I L = some r → Bs cd_341 (sf 12 rs_12 false 7 (some (.int)) Ls xs (d + 5)) (28, [some (.ref 89), some (.int x1), some (.int x2), some (.int x3), some (.int x4), some (.int x5), some (.int x6)], [], hp kp nh rh tl rl I L) (some (.int r.1), hp kp nh rh tl rl r.2.1 r.2.2)
  | 0, x1, x2, x3, x4, x5, x6, I, L, r, hf => by cases hf
  | m + 1, x1, x2, x3, x4, x5, x6, I, L, r, hf => by
    unfold c_341_1 b_341_1 at hf
    have hK1 := tc_341_1 Ls xs d kp tl rl nh rh n K0 hK0 m
    refine bs_st 5 (x' := (36, [some (.ref 89), some (.int x1), some (.int x2), some (.int x3), some (.int x4), some (.int x5), some (.int x6)], [.int (I 96 5), .int x6], hp kp nh rh tl rl I L)) rfl ?_
    refine bs_br (t := 78) (e := 39) (lo := [some (.ref 89), some (.int x1), some (.int x2), some (.int x3), some (.int x4), some (.int x5), some (.int x6)]) (st := []) (h := hp kp nh rh tl rl I L) rfl hf (fun hc hf => ?_) (fun hc hf => ?_)
    · refine bs_st 1 (x' := (80, [some (.ref 89), some (.int x1), some (.int x2), some (.int x3), some (.int x4), some (.int x5), some (.int x6)], [.int x5], hp kp nh rh tl rl I L)) rfl ?_
      refine bs_br (t := 86) (e := 83) (lo := [some (.ref 89), some (.int x1), some (.int x2), some (.int x3), some (.int x4), some (.int x5), some (.int x6)]) (st := []) (h := hp kp nh rh tl rl I L) rfl hf (fun hc hf => ?_) (fun hc hf => ?_)
      · refine bs_st 5 (x' := (94, [some (.ref 89), some (.int x1), some (.int x2), some (.int x3), some (.int x4), some (.int x5), some (.int x6)], [.int (0 : Int32), .ref 89], hp kp nh rh tl rl (u2 I 89 26 x4) L)) rfl ?_
        obtain ⟨q1, hq1, hf⟩ := Option.bind_eq_some_iff.mp hf
        refine bs_call (o := pEN Ls xs (d + 5) 260 [.ref 89, .int (0 : Int32)] (hp kp nh rh tl rl (u2 I 89 26 x4) L)) (w := none) (h' := hp kp nh rh tl rl q1.1 q1.2) (pc := 97) (lo := [some (.ref 89), some (.int x1), some (.int x2), some (.int x3), some (.int x4), some (.int x5), some (.int x6)]) (rest := []) rfl (t_260 Ls xs (d + 0) kp tl rl nh rh n (0 : Int32) (u2 I 89 26 x4) L q1 hq1) ?_
        refine bs_st 2 (x' := (99, [some (.ref 89), some (.int x1), some (.int x2), some (.int x3), some (.int x4), some (.int x5), some (.int x6)], [.int x1, .ref 89], hp kp nh rh tl rl q1.1 q1.2)) rfl ?_
        obtain ⟨q2, hq2, hf⟩ := Option.bind_eq_some_iff.mp hf
        refine bs_call (o := pEN Ls xs (d + 5) 262 [.ref 89, .int x1] (hp kp nh rh tl rl q1.1 q1.2)) (w := some (.int q2)) (h' := hp kp nh rh tl rl q1.1 q1.2) (pc := 102) (lo := [some (.ref 89), some (.int x1), some (.int x2), some (.int x3), some (.int x4), some (.int x5), some (.int x6)]) (rest := []) rfl (t_262 Ls xs (d + 3) kp tl rl nh rh n x1 q1.1 q1.2 q2 hq2) ?_
        refine bs_st 4 (x' := (108, [some (.ref 89), some (.int x1), some (.int x2), some (.int x3), some (.int x4), some (.int x5), some (.int q2)], [.int x2, .int x5, .int x3], hp kp nh rh tl rl q1.1 q1.2)) rfl ?_
        refine bs_br (t := 119) (e := 111) (lo := [some (.ref 89), some (.int x1), some (.int x2), some (.int x3), some (.int x4), some (.int x5), some (.int q2)]) (st := [.int x5, .int x3]) (h := hp kp nh rh tl rl q1.1 q1.2) rfl hf (fun hc hf => ?_) (fun hc hf => ?_)
        · refine bs_st 2 (x' := (122, [some (.ref 89), some (.int x1), some (.int x2), some (.int x3), some (.int x4), some (.int x5), some (.int q2)], [.ref 89, .int q2, .int x5, .int x3], hp kp nh rh tl rl q1.1 q1.2)) rfl ?_
          obtain ⟨q3, hq3, hf⟩ := Option.bind_eq_some_iff.mp hf
          refine bs_call (o := pEN Ls xs (d + 5) 298 [.ref 89] (hp kp nh rh tl rl q1.1 q1.2)) (w := some (.int q3)) (h' := hp kp nh rh tl rl q1.1 q1.2) (pc := 125) (lo := [some (.ref 89), some (.int x1), some (.int x2), some (.int x3), some (.int x4), some (.int x5), some (.int q2)]) (rest := [.int q2, .int x5, .int x3]) rfl (t_298 Ls xs (d + 3) kp tl rl nh rh q1.1 q1.2 q3 hq3) ?_
          refine bs_br (t := 132) (e := 128) (lo := [some (.ref 89), some (.int x1), some (.int x2), some (.int x3), some (.int x4), some (.int x5), some (.int q2)]) (st := [.int x5, .int x3]) (h := hp kp nh rh tl rl q1.1 q1.2) rfl hf (fun hc hf => ?_) (fun hc hf => ?_)
          · refine bs_st 1 (x' := (133, [some (.ref 89), some (.int x1), some (.int x2), some (.int x3), some (.int x4), some (.int x5), some (.int q2)], [.int (0 : Int32), .int x5, .int x3], hp kp nh rh tl rl q1.1 q1.2)) rfl ?_
            exact tc_341_2 Ls xs d kp tl rl nh rh n _ hK0 (some (.int x3)) (some (.int x5)) (some (.int q2)) x1 x2 x4 (0 : Int32) x5 x3 q1.1 q1.2 r hf
          · refine bs_st 2 (x' := (133, [some (.ref 89), some (.int x1), some (.int x2), some (.int x3), some (.int x4), some (.int x5), some (.int q2)], [.int (1 : Int32), .int x5, .int x3], hp kp nh rh tl rl q1.1 q1.2)) rfl ?_
            exact tc_341_2 Ls xs d kp tl rl nh rh n _ hK0 (some (.int x3)) (some (.int x5)) (some (.int q2)) x1 x2 x4 (1 : Int32) x5 x3 q1.1 q1.2 r hf
        · refine bs_st 1 (x' := (113, [some (.ref 89), some (.int x1), some (.int x2), some (.int x3), some (.int x4), some (.int x5), some (.int q2)], [.int q2, .int x5, .int x3], hp kp nh rh tl rl q1.1 q1.2)) rfl ?_
          obtain ⟨q4, hq4, hf⟩ := Option.bind_eq_some_iff.mp hf
          refine bs_call (o := pEN Ls xs (d + 5) 248 [.int q2] (hp kp nh rh tl rl q1.1 q1.2)) (w := some (.int q4)) (h' := hp kp nh rh tl rl q1.1 q1.2) (pc := 116) (lo := [some (.ref 89), some (.int x1), some (.int x2), some (.int x3), some (.int x4), some (.int x5), some (.int q2)]) (rest := [.int x5, .int x3]) rfl (t_248 Ls xs (d + 4) kp tl rl nh rh n q2 q1.1 q1.2 q4 hq4) ?_
          refine bs_st 1 (x' := (133, [some (.ref 89), some (.int x1), some (.int x2), some (.int x3), some (.int x4), some (.int x5), some (.int q2)], [.int q4, .int x5, .int x3], hp kp nh rh tl rl q1.1 q1.2)) rfl ?_
          exact tc_341_2 Ls xs d kp tl rl nh rh n _ hK0 (some (.int x3)) (some (.int x5)) (some (.int q2)) x1 x2 x4 q4 x5 x3 q1.1 q1.2 r hf
      · refine bs_st 1 (x' := (136, [some (.ref 89), some (.int x1), some (.int x2), some (.int x3), some (.int x4), some (.int x5), some (.int x6)], [], hp kp nh rh tl rl I L)) rfl ?_
        exact tc_341_3 Ls xs d kp tl rl nh rh n _ hK0 (some (.int x5)) (some (.int x6)) x1 x2 x3 x4 I L r hf
    · refine bs_st 3 (x' := (45, [some (.ref 89), some (.int x1), some (.int x2), some (.int x3), some (.int x4), some (.int x5), some (.int x6)], [.int x6, .int x4, .int x5], hp kp nh rh tl rl I L)) rfl ?_
      obtain ⟨q5, hq5, hf⟩ := Option.bind_eq_some_iff.mp hf
      refine bs_call (o := pEN Ls xs (d + 5) 247 [.int x4, .int x6] (hp kp nh rh tl rl I L)) (w := some (.int q5)) (h' := hp kp nh rh tl rl I L) (pc := 48) (lo := [some (.ref 89), some (.int x1), some (.int x2), some (.int x3), some (.int x4), some (.int x5), some (.int x6)]) (rest := [.int x5]) rfl (t_247 Ls xs (d + 4) kp tl rl nh rh x4 x6 I L q5 hq5) ?_
      refine bs_br (t := 63) (e := 51) (lo := [some (.ref 89), some (.int x1), some (.int x2), some (.int x3), some (.int x4), some (.int x5), some (.int x6)]) (st := [.int x5]) (h := hp kp nh rh tl rl I L) rfl hf (fun hc hf => ?_) (fun hc hf => ?_)
      · refine bs_st 4 (x' := (69, [some (.ref 89), some (.int x1), some (.int x2), some (.int x3), some (.int x4), some (.int x5), some (.int x6)], [.int (I 96 1), .int x5], hp kp nh rh tl rl I L)) rfl ?_
        exact tc_341_4 Ls xs d kp tl rl nh rh n _ _ hK0 hK1 (some (.int x5)) x1 x2 x3 x4 x6 (I 96 1) x5 I L r hf
      · refine bs_st 7 (x' := (69, [some (.ref 89), some (.int x1), some (.int x2), some (.int x3), some (.int x4), some (.int x5), some (.int x6)], [.int ((10 : Int32) - (I 96 1)), .int x5], hp kp nh rh tl rl I L)) rfl ?_
        exact tc_341_4 Ls xs d kp tl rl nh rh n _ _ hK0 hK1 (some (.int x5)) x1 x2 x3 x4 x6 ((10 : Int32) - (I 96 1)) x5 I L r hf
def b_341_0 (n : Nat) (K0 : Int32 → Int32 → Int32 → Int32 → FI → FL → Option (Int32 × FI × FL)) (x1 : Int32) (x2 : Int32) (x3 : Int32) (x4 : Int32) (I : FI) (L : FL) : Option (Int32 × FI × FL) :=
  if ((1 : Int32) <<< ((I 96 5) &&& 31)) ≤ x4 then
    some (x3, I, L)
  else
    c_341_1 n K0 n x1 x2 x3 x4 (1 : Int32) (0 : Int32) I L
def c_341_0 (n : Nat) : Nat → Int32 → Int32 → Int32 → Int32 → FI → FL → Option (Int32 × FI × FL)
  | 0, _, _, _, _, _, _ => none
  | m + 1, x1, x2, x3, x4, I, L => b_341_0 n (c_341_0 n m) x1 x2 x3 x4 I L
set_option maxHeartbeats 1000000 in
set_option maxRecDepth 20000 in
theorem tc_341_0 (Ls : Nat) (xs : Nat → Int32) (d : Nat) (kp : Option Nat) (tl : List (Nat × Nat)) (rl : List (List (Option Nat))) (nh : Option Nat) (rh : Option Nat) (n : Nat) : ∀ (m : Nat) (w5 : Option Value) (w6 : Option Value) (x1 : Int32) (x2 : Int32) (x3 : Int32) (x4 : Int32) (I : FI) (L : FL) (r : Int32 × FI × FL), c_341_0 n m x1 x2 x3 x4 I L = some r → Bs cd_341 (sf 12 rs_12 false 7 (some (.int)) Ls xs (d + 5)) (9, [some (.ref 89), some (.int x1), some (.int x2), some (.int x3), some (.int x4), w5, w6], [], hp kp nh rh tl rl I L) (some (.int r.1), hp kp nh rh tl rl r.2.1 r.2.2)
  | 0, w5, w6, x1, x2, x3, x4, I, L, r, hf => by cases hf
  | m + 1, w5, w6, x1, x2, x3, x4, I, L, r, hf => by
    unfold c_341_0 b_341_0 at hf
    have hK0 := tc_341_0 Ls xs d kp tl rl nh rh n m
    refine bs_st 7 (x' := (19, [some (.ref 89), some (.int x1), some (.int x2), some (.int x3), some (.int x4), w5, w6], [.int ((1 : Int32) <<< ((I 96 5) &&& 31)), .int x4], hp kp nh rh tl rl I L)) rfl ?_
    refine bs_br (t := 142) (e := 22) (lo := [some (.ref 89), some (.int x1), some (.int x2), some (.int x3), some (.int x4), w5, w6]) (st := []) (h := hp kp nh rh tl rl I L) rfl hf (fun hc hf => ?_) (fun hc hf => ?_)
    · refine bs_st 1 (x' := (143, [some (.ref 89), some (.int x1), some (.int x2), some (.int x3), some (.int x4), w5, w6], [.int x3], hp kp nh rh tl rl I L)) rfl ?_
      cases hf
      exact bs_ret rfl
    · refine bs_st 4 (x' := (28, [some (.ref 89), some (.int x1), some (.int x2), some (.int x3), some (.int x4), some (.int (1 : Int32)), some (.int (0 : Int32))], [], hp kp nh rh tl rl I L)) rfl ?_
      exact tc_341_1 Ls xs d kp tl rl nh rh n _ hK0 n x1 x2 x3 x4 (1 : Int32) (0 : Int32) I L r hf
def f_341 (n : Nat) (x1 : Int32) (x2 : Int32) (I : FI) (L : FL) : Option (Int32 × FI × FL) :=
  (f_252 n I L).bind fun q0 =>
  c_341_0 n n x1 x2 (0 : Int32) (0 : Int32) q0.1 q0.2
set_option maxHeartbeats 1000000 in
set_option maxRecDepth 20000 in
theorem t_341 (Ls : Nat) (xs : Nat → Int32) (d : Nat) (kp : Option Nat) (tl : List (Nat × Nat)) (rl : List (List (Option Nat))) (nh : Option Nat) (rh : Option Nat) (n : Nat) (x1 : Int32) (x2 : Int32) (I : FI) (L : FL) (r : Int32 × FI × FL) (hf : f_341 n x1 x2 I L = some r) : pEN Ls xs (d + 6) 341 [.ref 89, .int x1, .int x2] (hp kp nh rh tl rl I L) = some (some (.int r.1), hp kp nh rh tl rl r.2.1 r.2.2) := by
  refine en_run (d := d + 5) (cd := cd_341) (f := (sf 12 rs_12 false 7 (some (.int)) Ls xs (d + 5))) rfl rfl (x := (0, [some (.ref 89), some (.int x1), some (.int x2), none, none, none, none], [], hp kp nh rh tl rl I L)) rfl rfl (Nat.le_of_ble_eq_true rfl) ?_
  unfold f_341 at hf
  refine bs_st 1 (x' := (1, [some (.ref 89), some (.int x1), some (.int x2), none, none, none, none], [.ref 89], hp kp nh rh tl rl I L)) rfl ?_
  obtain ⟨q0, hq0, hf⟩ := Option.bind_eq_some_iff.mp hf
  refine bs_call (o := pEN Ls xs (d + 5) 252 [.ref 89] (hp kp nh rh tl rl I L)) (w := none) (h' := hp kp nh rh tl rl q0.1 q0.2) (pc := 4) (lo := [some (.ref 89), some (.int x1), some (.int x2), none, none, none, none]) (rest := []) rfl (t_252 Ls xs (d + 3) kp tl rl nh rh n I L q0 hq0) ?_
  refine bs_st 4 (x' := (9, [some (.ref 89), some (.int x1), some (.int x2), some (.int (0 : Int32)), some (.int (0 : Int32)), none, none], [], hp kp nh rh tl rl q0.1 q0.2)) rfl ?_
  exact tc_341_0 Ls xs d kp tl rl nh rh n n none none x1 x2 (0 : Int32) (0 : Int32) q0.1 q0.2 r hf
/-- LampRoundsModel.chance(II) on (89,) -/
def f_342 (n : Nat) (x1 : Int32) (x2 : Int32) (I : FI) (L : FL) : Option (Int32 × FI × FL) :=
  (f_241 x1.toInt64 (u2 I 89 0 (0 : Int32)) L).bind fun q0 =>
  if q0 = 0 then
    some ((-2 : Int32), (u2 I 89 0 (0 : Int32)), L)
  else
    (f_242 x2 (u2 I 89 0 (0 : Int32)) L).bind fun q1 =>
    if q1 = 0 then
      some ((-2 : Int32), (u2 I 89 0 (0 : Int32)), L)
    else
      (f_341 n x1 (0 : Int32) (u2 I 89 0 (0 : Int32)) L).bind fun q2 =>
      (f_340 n q2.2.1 q2.2.2).bind fun q3 =>
      (f_319 n q2.1 q3 x2 q2.2.1 q2.2.2).bind fun q4 =>
      some (q4, q2.2.1, q2.2.2)
set_option maxHeartbeats 1000000 in
set_option maxRecDepth 20000 in
theorem t_342 (Ls : Nat) (xs : Nat → Int32) (d : Nat) (kp : Option Nat) (tl : List (Nat × Nat)) (rl : List (List (Option Nat))) (nh : Option Nat) (rh : Option Nat) (n : Nat) (x1 : Int32) (x2 : Int32) (I : FI) (L : FL) (r : Int32 × FI × FL) (hf : f_342 n x1 x2 I L = some r) : pEN Ls xs (d + 67) 342 [.ref 89, .int x1, .int x2] (hp kp nh rh tl rl I L) = some (some (.int r.1), hp kp nh rh tl rl r.2.1 r.2.2) := by
  refine en_run (d := d + 66) (cd := cd_342) (f := (sf 12 rs_12 false 3 (some (.int)) Ls xs (d + 66))) rfl rfl (x := (0, [some (.ref 89), some (.int x1), some (.int x2)], [], hp kp nh rh tl rl I L)) rfl rfl (Nat.le_of_ble_eq_true rfl) ?_
  unfold f_342 at hf
  refine bs_st 6 (x' := (8, [some (.ref 89), some (.int x1), some (.int x2)], [.long x1.toInt64, .ref 89], hp kp nh rh tl rl (u2 I 89 0 (0 : Int32)) L)) rfl ?_
  obtain ⟨q0, hq0, hf⟩ := Option.bind_eq_some_iff.mp hf
  refine bs_call (o := pEN Ls xs (d + 66) 241 [.ref 89, .long x1.toInt64] (hp kp nh rh tl rl (u2 I 89 0 (0 : Int32)) L)) (w := some (.int q0)) (h' := hp kp nh rh tl rl (u2 I 89 0 (0 : Int32)) L) (pc := 11) (lo := [some (.ref 89), some (.int x1), some (.int x2)]) (rest := []) rfl (t_241 Ls xs (d + 64) kp tl rl nh rh x1.toInt64 (u2 I 89 0 (0 : Int32)) L q0 hq0) ?_
  refine bs_br (t := 38) (e := 14) (lo := [some (.ref 89), some (.int x1), some (.int x2)]) (st := []) (h := hp kp nh rh tl rl (u2 I 89 0 (0 : Int32)) L) rfl hf (fun hc hf => ?_) (fun hc hf => ?_)
  · refine bs_st 1 (x' := (40, [some (.ref 89), some (.int x1), some (.int x2)], [.int (-2 : Int32)], hp kp nh rh tl rl (u2 I 89 0 (0 : Int32)) L)) rfl ?_
    cases hf
    exact bs_ret rfl
  · refine bs_st 1 (x' := (15, [some (.ref 89), some (.int x1), some (.int x2)], [.int x2], hp kp nh rh tl rl (u2 I 89 0 (0 : Int32)) L)) rfl ?_
    obtain ⟨q1, hq1, hf⟩ := Option.bind_eq_some_iff.mp hf
    refine bs_call (o := pEN Ls xs (d + 66) 242 [.int x2] (hp kp nh rh tl rl (u2 I 89 0 (0 : Int32)) L)) (w := some (.int q1)) (h' := hp kp nh rh tl rl (u2 I 89 0 (0 : Int32)) L) (pc := 18) (lo := [some (.ref 89), some (.int x1), some (.int x2)]) (rest := []) rfl (t_242 Ls xs (d + 64) kp tl rl nh rh x2 (u2 I 89 0 (0 : Int32)) L q1 hq1) ?_
    refine bs_br (t := 38) (e := 21) (lo := [some (.ref 89), some (.int x1), some (.int x2)]) (st := []) (h := hp kp nh rh tl rl (u2 I 89 0 (0 : Int32)) L) rfl hf (fun hc hf => ?_) (fun hc hf => ?_)
    · refine bs_st 1 (x' := (40, [some (.ref 89), some (.int x1), some (.int x2)], [.int (-2 : Int32)], hp kp nh rh tl rl (u2 I 89 0 (0 : Int32)) L)) rfl ?_
      cases hf
      exact bs_ret rfl
    · refine bs_st 3 (x' := (24, [some (.ref 89), some (.int x1), some (.int x2)], [.int (0 : Int32), .int x1, .ref 89], hp kp nh rh tl rl (u2 I 89 0 (0 : Int32)) L)) rfl ?_
      obtain ⟨q2, hq2, hf⟩ := Option.bind_eq_some_iff.mp hf
      refine bs_call (o := pEN Ls xs (d + 66) 341 [.ref 89, .int x1, .int (0 : Int32)] (hp kp nh rh tl rl (u2 I 89 0 (0 : Int32)) L)) (w := some (.int q2.1)) (h' := hp kp nh rh tl rl q2.2.1 q2.2.2) (pc := 27) (lo := [some (.ref 89), some (.int x1), some (.int x2)]) (rest := []) rfl (t_341 Ls xs (d + 60) kp tl rl nh rh n x1 (0 : Int32) (u2 I 89 0 (0 : Int32)) L q2 hq2) ?_
      refine bs_st 1 (x' := (28, [some (.ref 89), some (.int x1), some (.int x2)], [.ref 89, .int q2.1], hp kp nh rh tl rl q2.2.1 q2.2.2)) rfl ?_
      obtain ⟨q3, hq3, hf⟩ := Option.bind_eq_some_iff.mp hf
      refine bs_call (o := pEN Ls xs (d + 66) 340 [.ref 89] (hp kp nh rh tl rl q2.2.1 q2.2.2)) (w := some (.int q3)) (h' := hp kp nh rh tl rl q2.2.1 q2.2.2) (pc := 31) (lo := [some (.ref 89), some (.int x1), some (.int x2)]) (rest := [.int q2.1]) rfl (t_340 Ls xs (d + 65) kp tl rl nh rh n q2.2.1 q2.2.2 q3 hq3) ?_
      refine bs_st 1 (x' := (32, [some (.ref 89), some (.int x1), some (.int x2)], [.int x2, .int q3, .int q2.1], hp kp nh rh tl rl q2.2.1 q2.2.2)) rfl ?_
      obtain ⟨q4, hq4, hf⟩ := Option.bind_eq_some_iff.mp hf
      refine bs_call (o := pEN Ls xs (d + 66) 319 [.int q2.1, .int q3, .int x2] (hp kp nh rh tl rl q2.2.1 q2.2.2)) (w := some (.int q4)) (h' := hp kp nh rh tl rl q2.2.1 q2.2.2) (pc := 35) (lo := [some (.ref 89), some (.int x1), some (.int x2)]) (rest := []) rfl (t_319 Ls xs (d + 0) kp tl rl nh rh n q2.1 q3 x2 q2.2.1 q2.2.2 q4 hq4) ?_
      refine bs_st 1 (x' := (40, [some (.ref 89), some (.int x1), some (.int x2)], [.int q4], hp kp nh rh tl rl q2.2.1 q2.2.2)) rfl ?_
      cases hf
      exact bs_ret rfl
/-- LampRoundsModel.mean(II) on (89,) -/
def f_343 (n : Nat) (x1 : Int32) (x2 : Int32) (I : FI) (L : FL) : Option (Int32 × FI × FL) :=
  (f_241 x1.toInt64 (u2 I 89 0 (0 : Int32)) L).bind fun q0 =>
  if q0 = 0 then
    some ((-2 : Int32), (u2 I 89 0 (0 : Int32)), L)
  else
    (f_242 x2 (u2 I 89 0 (0 : Int32)) L).bind fun q1 =>
    if q1 = 0 then
      some ((-2 : Int32), (u2 I 89 0 (0 : Int32)), L)
    else
      (f_341 n x1 (1 : Int32) (u2 I 89 0 (0 : Int32)) L).bind fun q2 =>
      (f_340 n q2.2.1 q2.2.2).bind fun q3 =>
      (f_319 n q2.1 q3 x2 q2.2.1 q2.2.2).bind fun q4 =>
      some (q4, q2.2.1, q2.2.2)
set_option maxHeartbeats 1000000 in
set_option maxRecDepth 20000 in
theorem t_343 (Ls : Nat) (xs : Nat → Int32) (d : Nat) (kp : Option Nat) (tl : List (Nat × Nat)) (rl : List (List (Option Nat))) (nh : Option Nat) (rh : Option Nat) (n : Nat) (x1 : Int32) (x2 : Int32) (I : FI) (L : FL) (r : Int32 × FI × FL) (hf : f_343 n x1 x2 I L = some r) : pEN Ls xs (d + 67) 343 [.ref 89, .int x1, .int x2] (hp kp nh rh tl rl I L) = some (some (.int r.1), hp kp nh rh tl rl r.2.1 r.2.2) := by
  refine en_run (d := d + 66) (cd := cd_343) (f := (sf 12 rs_12 false 3 (some (.int)) Ls xs (d + 66))) rfl rfl (x := (0, [some (.ref 89), some (.int x1), some (.int x2)], [], hp kp nh rh tl rl I L)) rfl rfl (Nat.le_of_ble_eq_true rfl) ?_
  unfold f_343 at hf
  refine bs_st 6 (x' := (8, [some (.ref 89), some (.int x1), some (.int x2)], [.long x1.toInt64, .ref 89], hp kp nh rh tl rl (u2 I 89 0 (0 : Int32)) L)) rfl ?_
  obtain ⟨q0, hq0, hf⟩ := Option.bind_eq_some_iff.mp hf
  refine bs_call (o := pEN Ls xs (d + 66) 241 [.ref 89, .long x1.toInt64] (hp kp nh rh tl rl (u2 I 89 0 (0 : Int32)) L)) (w := some (.int q0)) (h' := hp kp nh rh tl rl (u2 I 89 0 (0 : Int32)) L) (pc := 11) (lo := [some (.ref 89), some (.int x1), some (.int x2)]) (rest := []) rfl (t_241 Ls xs (d + 64) kp tl rl nh rh x1.toInt64 (u2 I 89 0 (0 : Int32)) L q0 hq0) ?_
  refine bs_br (t := 38) (e := 14) (lo := [some (.ref 89), some (.int x1), some (.int x2)]) (st := []) (h := hp kp nh rh tl rl (u2 I 89 0 (0 : Int32)) L) rfl hf (fun hc hf => ?_) (fun hc hf => ?_)
  · refine bs_st 1 (x' := (40, [some (.ref 89), some (.int x1), some (.int x2)], [.int (-2 : Int32)], hp kp nh rh tl rl (u2 I 89 0 (0 : Int32)) L)) rfl ?_
    cases hf
    exact bs_ret rfl
  · refine bs_st 1 (x' := (15, [some (.ref 89), some (.int x1), some (.int x2)], [.int x2], hp kp nh rh tl rl (u2 I 89 0 (0 : Int32)) L)) rfl ?_
    obtain ⟨q1, hq1, hf⟩ := Option.bind_eq_some_iff.mp hf
    refine bs_call (o := pEN Ls xs (d + 66) 242 [.int x2] (hp kp nh rh tl rl (u2 I 89 0 (0 : Int32)) L)) (w := some (.int q1)) (h' := hp kp nh rh tl rl (u2 I 89 0 (0 : Int32)) L) (pc := 18) (lo := [some (.ref 89), some (.int x1), some (.int x2)]) (rest := []) rfl (t_242 Ls xs (d + 64) kp tl rl nh rh x2 (u2 I 89 0 (0 : Int32)) L q1 hq1) ?_
    refine bs_br (t := 38) (e := 21) (lo := [some (.ref 89), some (.int x1), some (.int x2)]) (st := []) (h := hp kp nh rh tl rl (u2 I 89 0 (0 : Int32)) L) rfl hf (fun hc hf => ?_) (fun hc hf => ?_)
    · refine bs_st 1 (x' := (40, [some (.ref 89), some (.int x1), some (.int x2)], [.int (-2 : Int32)], hp kp nh rh tl rl (u2 I 89 0 (0 : Int32)) L)) rfl ?_
      cases hf
      exact bs_ret rfl
    · refine bs_st 3 (x' := (24, [some (.ref 89), some (.int x1), some (.int x2)], [.int (1 : Int32), .int x1, .ref 89], hp kp nh rh tl rl (u2 I 89 0 (0 : Int32)) L)) rfl ?_
      obtain ⟨q2, hq2, hf⟩ := Option.bind_eq_some_iff.mp hf
      refine bs_call (o := pEN Ls xs (d + 66) 341 [.ref 89, .int x1, .int (1 : Int32)] (hp kp nh rh tl rl (u2 I 89 0 (0 : Int32)) L)) (w := some (.int q2.1)) (h' := hp kp nh rh tl rl q2.2.1 q2.2.2) (pc := 27) (lo := [some (.ref 89), some (.int x1), some (.int x2)]) (rest := []) rfl (t_341 Ls xs (d + 60) kp tl rl nh rh n x1 (1 : Int32) (u2 I 89 0 (0 : Int32)) L q2 hq2) ?_
      refine bs_st 1 (x' := (28, [some (.ref 89), some (.int x1), some (.int x2)], [.ref 89, .int q2.1], hp kp nh rh tl rl q2.2.1 q2.2.2)) rfl ?_
      obtain ⟨q3, hq3, hf⟩ := Option.bind_eq_some_iff.mp hf
      refine bs_call (o := pEN Ls xs (d + 66) 340 [.ref 89] (hp kp nh rh tl rl q2.2.1 q2.2.2)) (w := some (.int q3)) (h' := hp kp nh rh tl rl q2.2.1 q2.2.2) (pc := 31) (lo := [some (.ref 89), some (.int x1), some (.int x2)]) (rest := [.int q2.1]) rfl (t_340 Ls xs (d + 65) kp tl rl nh rh n q2.2.1 q2.2.2 q3 hq3) ?_
      refine bs_st 1 (x' := (32, [some (.ref 89), some (.int x1), some (.int x2)], [.int x2, .int q3, .int q2.1], hp kp nh rh tl rl q2.2.1 q2.2.2)) rfl ?_
      obtain ⟨q4, hq4, hf⟩ := Option.bind_eq_some_iff.mp hf
      refine bs_call (o := pEN Ls xs (d + 66) 319 [.int q2.1, .int q3, .int x2] (hp kp nh rh tl rl q2.2.1 q2.2.2)) (w := some (.int q4)) (h' := hp kp nh rh tl rl q2.2.1 q2.2.2) (pc := 35) (lo := [some (.ref 89), some (.int x1), some (.int x2)]) (rest := []) rfl (t_319 Ls xs (d + 0) kp tl rl nh rh n q2.1 q3 x2 q2.2.1 q2.2.2 q4 hq4) ?_
      refine bs_st 1 (x' := (40, [some (.ref 89), some (.int x1), some (.int x2)], [.int q4], hp kp nh rh tl rl q2.2.1 q2.2.2)) rfl ?_
      cases hf
      exact bs_ret rfl
/-- LampRoundsModel.send() on (89,) -/
def c_344_2 (n : Nat) (K0 : Int32 → Int32 → Int32 → FI → FL → Option (Int32 × FI × FL)) (K1 : Int32 → Int32 → Int32 → Int32 → FI → FL → Option (Int32 × FI × FL)) (x1 : Int32) (x2 : Int32) (x3 : Int32) (x4 : Int32) (I : FI) (L : FL) : Option (Int32 × FI × FL) :=
  K1 x1 x2 x3 (x4 + (1 : Int32)) I L
set_option maxHeartbeats 1000000 in
set_option maxRecDepth 20000 in
theorem tc_344_2 (Ls : Nat) (xs : Nat → Int32) (d : Nat) (kp : Option Nat) (tl : List (Nat × Nat)) (rl : List (List (Option Nat))) (nh : Option Nat) (rh : Option Nat) (n : Nat) (K0 : Int32 → Int32 → Int32 → FI → FL → Option (Int32 × FI × FL)) (K1 : Int32 → Int32 → Int32 → Int32 → FI → FL → Option (Int32 × FI × FL)) (hK0 : ∀ (w4 : Option Value) (x1 : Int32) (x2 : Int32) (x3 : Int32) (I : FI) (L : FL) (r : Int32 × FI × FL), K0 x1 x2 x3 I L = some r → Bs cd_344 (sf 12 rs_12 false 5 (some (.int)) Ls xs (d + 6)) (29, [some (.ref 89), some (.int x1), some (.int x2), some (.int x3), w4], [], hp kp nh rh tl rl I L) (some (.int r.1), hp kp nh rh tl rl r.2.1 r.2.2)) (hK1 : ∀ (x1 : Int32) (x2 : Int32) (x3 : Int32) (x4 : Int32) (I : FI) (L : FL) (r : Int32 × FI × FL), K1 x1 x2 x3 x4 I L = some r → Bs cd_344 (sf 12 rs_12 false 5 (some (.int)) Ls xs (d + 6)) (40, [some (.ref 89), some (.int x1), some (.int x2), some (.int x3), some (.int x4)], [], hp kp nh rh tl rl I L) (some (.int r.1), hp kp nh rh tl rl r.2.1 r.2.2)) (x1 : Int32) (x2 : Int32) (x3 : Int32) (x4 : Int32) (I : FI) (L : FL) (r : Int32 × FI × FL) (hf : c_344_2 n K0 K1 x1 x2 x3 x4 I L = some r) : Bs cd_344 (sf 12 rs_12 false 5 (some (.int)) Ls xs (d + 6)) (93, [some (.ref 89), some (.int x1), some (.int x2), some (.int x3), some (.int x4)], [], hp kp nh rh tl rl I L) (some (.int r.1), hp kp nh rh tl rl r.2.1 r.2.2) := by
  unfold c_344_2 at hf
  refine bs_st 2 (x' := (40, [some (.ref 89), some (.int x1), some (.int x2), some (.int x3), some (.int (x4 + (1 : Int32)))], [], hp kp nh rh tl rl I L)) rfl ?_
  exact hK1 x1 x2 x3 (x4 + (1 : Int32)) I L r hf
def b_344_1 (n : Nat) (K0 : Int32 → Int32 → Int32 → FI → FL → Option (Int32 × FI × FL)) (K1 : Int32 → Int32 → Int32 → Int32 → FI → FL → Option (Int32 × FI × FL)) (x1 : Int32) (x2 : Int32) (x3 : Int32) (x4 : Int32) (I : FI) (L : FL) : Option (Int32 × FI × FL) :=
  (f_238 I L).bind fun q4 =>
  if q4 ≤ x4 then
    K0 x1 x2 (x3 + (1 : Int32)) I L
  else
    (f_252 n I L).bind fun q5 =>
    (f_260 n (0 : Int32) (u2 (u2 q5.1 89 28 x3) 89 29 x4) q5.2).bind fun q6 =>
    (f_264 n q6.1 q6.2).bind fun q7 =>
    if x2 < q7 then
      (f_264 n q6.1 q6.2).bind fun q8 =>
      c_344_2 n K0 K1 (((100 : Int32) * x3) + x4) q8 x3 x4 q6.1 q6.2
    else
      c_344_2 n K0 K1 x1 x2 x3 x4 q6.1 q6.2
def c_344_1 (n : Nat) (K0 : Int32 → Int32 → Int32 → FI → FL → Option (Int32 × FI × FL)) : Nat → Int32 → Int32 → Int32 → Int32 → FI → FL → Option (Int32 × FI × FL)
  | 0, _, _, _, _, _, _ => none
  | m + 1, x1, x2, x3, x4, I, L => b_344_1 n K0 (c_344_1 n K0 m) x1 x2 x3 x4 I L
set_option maxHeartbeats 1000000 in
set_option maxRecDepth 20000 in
theorem tc_344_1 (Ls : Nat) (xs : Nat → Int32) (d : Nat) (kp : Option Nat) (tl : List (Nat × Nat)) (rl : List (List (Option Nat))) (nh : Option Nat) (rh : Option Nat) (n : Nat) (K0 : Int32 → Int32 → Int32 → FI → FL → Option (Int32 × FI × FL)) (hK0 : ∀ (w4 : Option Value) (x1 : Int32) (x2 : Int32) (x3 : Int32) (I : FI) (L : FL) (r : Int32 × FI × FL), K0 x1 x2 x3 I L = some r → Bs cd_344 (sf 12 rs_12 false 5 (some (.int)) Ls xs (d + 6)) (29, [some (.ref 89), some (.int x1), some (.int x2), some (.int x3), w4], [], hp kp nh rh tl rl I L) (some (.int r.1), hp kp nh rh tl rl r.2.1 r.2.2)) : ∀ (m : Nat) (x1 : Int32) (x2 : Int32) (x3 : Int32) (x4 : Int32) (I : FI) (L : FL) (r : Int32 × FI × FL), c_344_1 n K0 m x1 x2 x3 x4 I L = some r → Bs cd_344 (sf 12 rs_12 false 5 (some (.int)) Ls xs (d + 6)) (40, [some (.ref 89), some (.int x1), some (.int x2), some (.int x3), some (.int x4)], [], hp kp nh rh tl rl I L) (some (.int r.1), hp kp nh rh tl rl r.2.1 r.2.2)
  | 0, x1, x2, x3, x4, I, L, r, hf => by cases hf
  | m + 1, x1, x2, x3, x4, I, L, r, hf => by
    unfold c_344_1 b_344_1 at hf
    have hK1 := tc_344_1 Ls xs d kp tl rl nh rh n K0 hK0 m
    refine bs_st 2 (x' := (43, [some (.ref 89), some (.int x1), some (.int x2), some (.int x3), some (.int x4)], [.ref 89, .int x4], hp kp nh rh tl rl I L)) rfl ?_
    obtain ⟨q4, hq4, hf⟩ := Option.bind_eq_some_iff.mp hf
    refine bs_call (o := pEN Ls xs (d + 6) 238 [.ref 89] (hp kp nh rh tl rl I L)) (w := some (.int q4)) (h' := hp kp nh rh tl rl I L) (pc := 46) (lo := [some (.ref 89), some (.int x1), some (.int x2), some (.int x3), some (.int x4)]) (rest := [.int x4]) rfl (t_238 Ls xs (d + 5) kp tl rl nh rh I L q4 hq4) ?_
    refine bs_br (t := 99) (e := 49) (lo := [some (.ref 89), some (.int x1), some (.int x2), some (.int x3), some (.int x4)]) (st := []) (h := hp kp nh rh tl rl I L) rfl hf (fun hc hf => ?_) (fun hc hf => ?_)
    · refine bs_st 2 (x' := (29, [some (.ref 89), some (.int x1), some (.int x2), some (.int (x3 + (1 : Int32))), some (.int x4)], [], hp kp nh rh tl rl I L)) rfl ?_
      exact hK0 (some (.int x4)) x1 x2 (x3 + (1 : Int32)) I L r hf
    · refine bs_st 1 (x' := (50, [some (.ref 89), some (.int x1), some (.int x2), some (.int x3), some (.int x4)], [.ref 89], hp kp nh rh tl rl I L)) rfl ?_
      obtain ⟨q5, hq5, hf⟩ := Option.bind_eq_some_iff.mp hf
      refine bs_call (o := pEN Ls xs (d + 6) 252 [.ref 89] (hp kp nh rh tl rl I L)) (w := none) (h' := hp kp nh rh tl rl q5.1 q5.2) (pc := 53) (lo := [some (.ref 89), some (.int x1), some (.int x2), some (.int x3), some (.int x4)]) (rest := []) rfl (t_252 Ls xs (d + 4) kp tl rl nh rh n I L q5 hq5) ?_
      refine bs_st 8 (x' := (66, [some (.ref 89), some (.int x1), some (.int x2), some (.int x3), some (.int x4)], [.int (0 : Int32), .ref 89], hp kp nh rh tl rl (u2 (u2 q5.1 89 28 x3) 89 29 x4) q5.2)) rfl ?_
      obtain ⟨q6, hq6, hf⟩ := Option.bind_eq_some_iff.mp hf
      refine bs_call (o := pEN Ls xs (d + 6) 260 [.ref 89, .int (0 : Int32)] (hp kp nh rh tl rl (u2 (u2 q5.1 89 28 x3) 89 29 x4) q5.2)) (w := none) (h' := hp kp nh rh tl rl q6.1 q6.2) (pc := 69) (lo := [some (.ref 89), some (.int x1), some (.int x2), some (.int x3), some (.int x4)]) (rest := []) rfl (t_260 Ls xs (d + 1) kp tl rl nh rh n (0 : Int32) (u2 (u2 q5.1 89 28 x3) 89 29 x4) q5.2 q6 hq6) ?_
      refine bs_st 1 (x' := (70, [some (.ref 89), some (.int x1), some (.int x2), some (.int x3), some (.int x4)], [.ref 89], hp kp nh rh tl rl q6.1 q6.2)) rfl ?_
      obtain ⟨q7, hq7, hf⟩ := Option.bind_eq_some_iff.mp hf
      refine bs_call (o := pEN Ls xs (d + 6) 264 [.ref 89] (hp kp nh rh tl rl q6.1 q6.2)) (w := some (.int q7)) (h' := hp kp nh rh tl rl q6.1 q6.2) (pc := 73) (lo := [some (.ref 89), some (.int x1), some (.int x2), some (.int x3), some (.int x4)]) (rest := []) rfl (t_264 Ls xs (d + 3) kp tl rl nh rh n q6.1 q6.2 q7 hq7) ?_
      refine bs_st 1 (x' := (74, [some (.ref 89), some (.int x1), some (.int x2), some (.int x3), some (.int x4)], [.int x2, .int q7], hp kp nh rh tl rl q6.1 q6.2)) rfl ?_
      refine bs_br (t := 80) (e := 77) (lo := [some (.ref 89), some (.int x1), some (.int x2), some (.int x3), some (.int x4)]) (st := []) (h := hp kp nh rh tl rl q6.1 q6.2) rfl hf (fun hc hf => ?_) (fun hc hf => ?_)
      · refine bs_st 7 (x' := (89, [some (.ref 89), some (.int (((100 : Int32) * x3) + x4)), some (.int x2), some (.int x3), some (.int x4)], [.ref 89], hp kp nh rh tl rl q6.1 q6.2)) rfl ?_
        obtain ⟨q8, hq8, hf⟩ := Option.bind_eq_some_iff.mp hf
        refine bs_call (o := pEN Ls xs (d + 6) 264 [.ref 89] (hp kp nh rh tl rl q6.1 q6.2)) (w := some (.int q8)) (h' := hp kp nh rh tl rl q6.1 q6.2) (pc := 92) (lo := [some (.ref 89), some (.int (((100 : Int32) * x3) + x4)), some (.int x2), some (.int x3), some (.int x4)]) (rest := []) rfl (t_264 Ls xs (d + 3) kp tl rl nh rh n q6.1 q6.2 q8 hq8) ?_
        refine bs_st 1 (x' := (93, [some (.ref 89), some (.int (((100 : Int32) * x3) + x4)), some (.int q8), some (.int x3), some (.int x4)], [], hp kp nh rh tl rl q6.1 q6.2)) rfl ?_
        exact tc_344_2 Ls xs d kp tl rl nh rh n _ _ hK0 hK1 (((100 : Int32) * x3) + x4) q8 x3 x4 q6.1 q6.2 r hf
      · refine bs_st 1 (x' := (93, [some (.ref 89), some (.int x1), some (.int x2), some (.int x3), some (.int x4)], [], hp kp nh rh tl rl q6.1 q6.2)) rfl ?_
        exact tc_344_2 Ls xs d kp tl rl nh rh n _ _ hK0 hK1 x1 x2 x3 x4 q6.1 q6.2 r hf
def b_344_0 (n : Nat) (K0 : Int32 → Int32 → Int32 → FI → FL → Option (Int32 × FI × FL)) (x1 : Int32) (x2 : Int32) (x3 : Int32) (I : FI) (L : FL) : Option (Int32 × FI × FL) :=
  (f_237 I L).bind fun q3 =>
  if q3 ≤ x3 then
    some (x1, I, L)
  else
    c_344_1 n K0 n x1 x2 x3 (0 : Int32) I L
def c_344_0 (n : Nat) : Nat → Int32 → Int32 → Int32 → FI → FL → Option (Int32 × FI × FL)
  | 0, _, _, _, _, _ => none
  | m + 1, x1, x2, x3, I, L => b_344_0 n (c_344_0 n m) x1 x2 x3 I L
set_option maxHeartbeats 1000000 in
set_option maxRecDepth 20000 in
theorem tc_344_0 (Ls : Nat) (xs : Nat → Int32) (d : Nat) (kp : Option Nat) (tl : List (Nat × Nat)) (rl : List (List (Option Nat))) (nh : Option Nat) (rh : Option Nat) (n : Nat) : ∀ (m : Nat) (w4 : Option Value) (x1 : Int32) (x2 : Int32) (x3 : Int32) (I : FI) (L : FL) (r : Int32 × FI × FL), c_344_0 n m x1 x2 x3 I L = some r → Bs cd_344 (sf 12 rs_12 false 5 (some (.int)) Ls xs (d + 6)) (29, [some (.ref 89), some (.int x1), some (.int x2), some (.int x3), w4], [], hp kp nh rh tl rl I L) (some (.int r.1), hp kp nh rh tl rl r.2.1 r.2.2)
  | 0, w4, x1, x2, x3, I, L, r, hf => by cases hf
  | m + 1, w4, x1, x2, x3, I, L, r, hf => by
    unfold c_344_0 b_344_0 at hf
    have hK0 := tc_344_0 Ls xs d kp tl rl nh rh n m
    refine bs_st 2 (x' := (31, [some (.ref 89), some (.int x1), some (.int x2), some (.int x3), w4], [.ref 89, .int x3], hp kp nh rh tl rl I L)) rfl ?_
    obtain ⟨q3, hq3, hf⟩ := Option.bind_eq_some_iff.mp hf
    refine bs_call (o := pEN Ls xs (d + 6) 237 [.ref 89] (hp kp nh rh tl rl I L)) (w := some (.int q3)) (h' := hp kp nh rh tl rl I L) (pc := 34) (lo := [some (.ref 89), some (.int x1), some (.int x2), some (.int x3), w4]) (rest := [.int x3]) rfl (t_237 Ls xs (d + 5) kp tl rl nh rh I L q3 hq3) ?_
    refine bs_br (t := 105) (e := 37) (lo := [some (.ref 89), some (.int x1), some (.int x2), some (.int x3), w4]) (st := []) (h := hp kp nh rh tl rl I L) rfl hf (fun hc hf => ?_) (fun hc hf => ?_)
    · refine bs_st 1 (x' := (106, [some (.ref 89), some (.int x1), some (.int x2), some (.int x3), w4], [.int x1], hp kp nh rh tl rl I L)) rfl ?_
      cases hf
      exact bs_ret rfl
    · refine bs_st 2 (x' := (40, [some (.ref 89), some (.int x1), some (.int x2), some (.int x3), some (.int (0 : Int32))], [], hp kp nh rh tl rl I L)) rfl ?_
      exact tc_344_1 Ls xs d kp tl rl nh rh n _ hK0 n x1 x2 x3 (0 : Int32) I L r hf
def f_344 (n : Nat) (I : FI) (L : FL) : Option (Int32 × FI × FL) :=
  (f_236 (u2 I 89 0 (0 : Int32)) L).bind fun q0 =>
  if ¬ q0 = 0 then
    (f_261 n (0 : Int32) (u2 I 89 0 (0 : Int32)) L).bind fun q1 =>
    (f_264 n q1.1 q1.2).bind fun q2 =>
    c_344_0 n n (-1 : Int32) q2 (0 : Int32) q1.1 q1.2
  else
    some ((-2 : Int32), (u2 I 89 0 (0 : Int32)), L)
set_option maxHeartbeats 1000000 in
set_option maxRecDepth 20000 in
theorem t_344 (Ls : Nat) (xs : Nat → Int32) (d : Nat) (kp : Option Nat) (tl : List (Nat × Nat)) (rl : List (List (Option Nat))) (nh : Option Nat) (rh : Option Nat) (n : Nat) (I : FI) (L : FL) (r : Int32 × FI × FL) (hf : f_344 n I L = some r) : pEN Ls xs (d + 7) 344 [.ref 89] (hp kp nh rh tl rl I L) = some (some (.int r.1), hp kp nh rh tl rl r.2.1 r.2.2) := by
  refine en_run (d := d + 6) (cd := cd_344) (f := (sf 12 rs_12 false 5 (some (.int)) Ls xs (d + 6))) rfl rfl (x := (0, [some (.ref 89), none, none, none, none], [], hp kp nh rh tl rl I L)) rfl rfl (Nat.le_of_ble_eq_true rfl) ?_
  unfold f_344 at hf
  refine bs_st 4 (x' := (6, [some (.ref 89), none, none, none, none], [.ref 89], hp kp nh rh tl rl (u2 I 89 0 (0 : Int32)) L)) rfl ?_
  obtain ⟨q0, hq0, hf⟩ := Option.bind_eq_some_iff.mp hf
  refine bs_call (o := pEN Ls xs (d + 6) 236 [.ref 89] (hp kp nh rh tl rl (u2 I 89 0 (0 : Int32)) L)) (w := some (.int q0)) (h' := hp kp nh rh tl rl (u2 I 89 0 (0 : Int32)) L) (pc := 9) (lo := [some (.ref 89), none, none, none, none]) (rest := []) rfl (t_236 Ls xs (d + 5) kp tl rl nh rh (u2 I 89 0 (0 : Int32)) L q0 hq0) ?_
  refine bs_br (t := 15) (e := 12) (lo := [some (.ref 89), none, none, none, none]) (st := []) (h := hp kp nh rh tl rl (u2 I 89 0 (0 : Int32)) L) rfl hf (fun hc hf => ?_) (fun hc hf => ?_)
  · refine bs_st 2 (x' := (17, [some (.ref 89), none, none, none, none], [.int (0 : Int32), .ref 89], hp kp nh rh tl rl (u2 I 89 0 (0 : Int32)) L)) rfl ?_
    obtain ⟨q1, hq1, hf⟩ := Option.bind_eq_some_iff.mp hf
    refine bs_call (o := pEN Ls xs (d + 6) 261 [.ref 89, .int (0 : Int32)] (hp kp nh rh tl rl (u2 I 89 0 (0 : Int32)) L)) (w := none) (h' := hp kp nh rh tl rl q1.1 q1.2) (pc := 20) (lo := [some (.ref 89), none, none, none, none]) (rest := []) rfl (t_261 Ls xs (d + 0) kp tl rl nh rh n (0 : Int32) (u2 I 89 0 (0 : Int32)) L q1 hq1) ?_
    refine bs_st 3 (x' := (23, [some (.ref 89), some (.int (-1 : Int32)), none, none, none], [.ref 89], hp kp nh rh tl rl q1.1 q1.2)) rfl ?_
    obtain ⟨q2, hq2, hf⟩ := Option.bind_eq_some_iff.mp hf
    refine bs_call (o := pEN Ls xs (d + 6) 264 [.ref 89] (hp kp nh rh tl rl q1.1 q1.2)) (w := some (.int q2)) (h' := hp kp nh rh tl rl q1.1 q1.2) (pc := 26) (lo := [some (.ref 89), some (.int (-1 : Int32)), none, none, none]) (rest := []) rfl (t_264 Ls xs (d + 3) kp tl rl nh rh n q1.1 q1.2 q2 hq2) ?_
    refine bs_st 3 (x' := (29, [some (.ref 89), some (.int (-1 : Int32)), some (.int q2), some (.int (0 : Int32)), none], [], hp kp nh rh tl rl q1.1 q1.2)) rfl ?_
    exact tc_344_0 Ls xs d kp tl rl nh rh n n none (-1 : Int32) q2 (0 : Int32) q1.1 q1.2 r hf
  · refine bs_st 1 (x' := (14, [some (.ref 89), none, none, none, none], [.int (-2 : Int32)], hp kp nh rh tl rl (u2 I 89 0 (0 : Int32)) L)) rfl ?_
    cases hf
    exact bs_ret rfl
/-- LampRoundsModel.draws(J) on (89,) -/
def c_345_1 (n : Nat) (K0 : Int64 → Int32 → FI → FL → Option (FI × FL)) (y3 : Int64) (x5 : Int32) (s0 : Int32) (s1 : Int32) (I : FI) (L : FL) : Option (FI × FL) :=
  K0 y3 (x5 + (1 : Int32)) (u2 I 89 26 (s1 ||| s0)) L
set_option maxHeartbeats 1000000 in
set_option maxRecDepth 20000 in
theorem tc_345_1 (Ls : Nat) (xs : Nat → Int32) (d : Nat) (kp : Option Nat) (tl : List (Nat × Nat)) (rl : List (List (Option Nat))) (nh : Option Nat) (rh : Option Nat) (n : Nat) (K0 : Int64 → Int32 → FI → FL → Option (FI × FL)) (hK0 : ∀ (w1 : Option Value) (w2 : Option Value) (y3 : Int64) (x5 : Int32) (I : FI) (L : FL) (r : FI × FL), K0 y3 x5 I L = some r → Bs cd_345 (sf 12 rs_12 false 6 none Ls xs (d + 5)) (9, [some (.ref 89), w1, w2, some (.long y3), none, some (.int x5)], [], hp kp nh rh tl rl I L) (none, hp kp nh rh tl rl r.1 r.2)) (w1 : Option Value) (w2 : Option Value) (y3 : Int64) (x5 : Int32) (s0 : Int32) (s1 : Int32) (I : FI) (L : FL) (r : FI × FL) (hf : c_345_1 n K0 y3 x5 s0 s1 I L = some r) : Bs cd_345 (sf 12 rs_12 false 6 none Ls xs (d + 5)) (67, [some (.ref 89), w1, w2, some (.long y3), none, some (.int x5)], [.int s0, .int s1, .ref 89], hp kp nh rh tl rl I L) (none, hp kp nh rh tl rl r.1 r.2) := by
  unfold c_345_1 at hf
  refine bs_st 4 (x' := (9, [some (.ref 89), w1, w2, some (.long y3), none, some (.int (x5 + (1 : Int32)))], [], hp kp nh rh tl rl (u2 I 89 26 (s1 ||| s0)) L)) rfl ?_
  exact hK0 w1 w2 y3 (x5 + (1 : Int32)) (u2 I 89 26 (s1 ||| s0)) L r hf
def b_345_0 (n : Nat) (K0 : Int64 → Int32 → FI → FL → Option (FI × FL)) (y3 : Int64) (x5 : Int32) (I : FI) (L : FL) : Option (FI × FL) :=
  if I 96 5 ≤ x5 then
    (f_260 n (0 : Int32) I L).bind fun q1 =>
    some (q1.1, q1.2)
  else
    if 0 ≤ (lg_cmp ((((((1103515245 : Int64) * y3) + (12345 : Int64)) - (((1103515245 : Int64) * y3) + (12345 : Int64)) / (2147483648 : Int64) * (2147483648 : Int64)) / (65536 : Int64)) - (((((1103515245 : Int64) * y3) + (12345 : Int64)) - (((1103515245 : Int64) * y3) + (12345 : Int64)) / (2147483648 : Int64) * (2147483648 : Int64)) / (65536 : Int64)) / (10 : Int64) * (10 : Int64)) ((I 96 1).toInt64)) then
      c_345_1 n K0 ((((1103515245 : Int64) * y3) + (12345 : Int64)) - (((1103515245 : Int64) * y3) + (12345 : Int64)) / (2147483648 : Int64) * (2147483648 : Int64)) x5 ((1 : Int32) <<< (x5 &&& 31)) (I 89 26) I L
    else
      c_345_1 n K0 ((((1103515245 : Int64) * y3) + (12345 : Int64)) - (((1103515245 : Int64) * y3) + (12345 : Int64)) / (2147483648 : Int64) * (2147483648 : Int64)) x5 (0 : Int32) (I 89 26) I L
def c_345_0 (n : Nat) : Nat → Int64 → Int32 → FI → FL → Option (FI × FL)
  | 0, _, _, _, _ => none
  | m + 1, y3, x5, I, L => b_345_0 n (c_345_0 n m) y3 x5 I L
set_option maxHeartbeats 1000000 in
set_option maxRecDepth 20000 in
theorem tc_345_0 (Ls : Nat) (xs : Nat → Int32) (d : Nat) (kp : Option Nat) (tl : List (Nat × Nat)) (rl : List (List (Option Nat))) (nh : Option Nat) (rh : Option Nat) (n : Nat) : ∀ (m : Nat) (w1 : Option Value) (w2 : Option Value) (y3 : Int64) (x5 : Int32) (I : FI) (L : FL) (r : FI × FL), c_345_0 n m y3 x5 I L = some r → Bs cd_345 (sf 12 rs_12 false 6 none Ls xs (d + 5)) (9, [some (.ref 89), w1, w2, some (.long y3), none, some (.int x5)], [], hp kp nh rh tl rl I L) (none, hp kp nh rh tl rl r.1 r.2)
  | 0, w1, w2, y3, x5, I, L, r, hf => by cases hf
  | m + 1, w1, w2, y3, x5, I, L, r, hf => by
    unfold c_345_0 b_345_0 at hf
    have hK0 := tc_345_0 Ls xs d kp tl rl nh rh n m
    refine bs_st 5 (x' := (17, [some (.ref 89), w1, w2, some (.long y3), none, some (.int x5)], [.int (I 96 5), .int x5], hp kp nh rh tl rl I L)) rfl ?_
    refine bs_br (t := 77) (e := 20) (lo := [some (.ref 89), w1, w2, some (.long y3), none, some (.int x5)]) (st := []) (h := hp kp nh rh tl rl I L) rfl hf (fun hc hf => ?_) (fun hc hf => ?_)
    · refine bs_st 2 (x' := (79, [some (.ref 89), w1, w2, some (.long y3), none, some (.int x5)], [.int (0 : Int32), .ref 89], hp kp nh rh tl rl I L)) rfl ?_
      obtain ⟨q1, hq1, hf⟩ := Option.bind_eq_some_iff.mp hf
      refine bs_call (o := pEN Ls xs (d + 5) 260 [.ref 89, .int (0 : Int32)] (hp kp nh rh tl rl I L)) (w := none) (h' := hp kp nh rh tl rl q1.1 q1.2) (pc := 82) (lo := [some (.ref 89), w1, w2, some (.long y3), none, some (.int x5)]) (rest := []) rfl (t_260 Ls xs (d + 0) kp tl rl nh rh n (0 : Int32) I L q1 hq1) ?_
      cases hf
      exact bs_ret rfl
    · refine bs_st 22 (x' := (56, [some (.ref 89), w1, (pcl w2), some (.long ((((1103515245 : Int64) * y3) + (12345 : Int64)) - (((1103515245 : Int64) * y3) + (12345 : Int64)) / (2147483648 : Int64) * (2147483648 : Int64))), none, some (.int x5)], [.int (lg_cmp ((((((1103515245 : Int64) * y3) + (12345 : Int64)) - (((1103515245 : Int64) * y3) + (12345 : Int64)) / (2147483648 : Int64) * (2147483648 : Int64)) / (65536 : Int64)) - (((((1103515245 : Int64) * y3) + (12345 : Int64)) - (((1103515245 : Int64) * y3) + (12345 : Int64)) / (2147483648 : Int64) * (2147483648 : Int64)) / (65536 : Int64)) / (10 : Int64) * (10 : Int64)) ((I 96 1).toInt64)), .int (I 89 26), .ref 89], hp kp nh rh tl rl I L)) rfl ?_
      refine bs_br (t := 63) (e := 59) (lo := [some (.ref 89), w1, (pcl w2), some (.long ((((1103515245 : Int64) * y3) + (12345 : Int64)) - (((1103515245 : Int64) * y3) + (12345 : Int64)) / (2147483648 : Int64) * (2147483648 : Int64))), none, some (.int x5)]) (st := [.int (I 89 26), .ref 89]) (h := hp kp nh rh tl rl I L) rfl hf (fun hc hf => ?_) (fun hc hf => ?_)
      · refine bs_st 3 (x' := (67, [some (.ref 89), w1, (pcl w2), some (.long ((((1103515245 : Int64) * y3) + (12345 : Int64)) - (((1103515245 : Int64) * y3) + (12345 : Int64)) / (2147483648 : Int64) * (2147483648 : Int64))), none, some (.int x5)], [.int ((1 : Int32) <<< (x5 &&& 31)), .int (I 89 26), .ref 89], hp kp nh rh tl rl I L)) rfl ?_
        exact tc_345_1 Ls xs d kp tl rl nh rh n _ hK0 w1 (pcl w2) ((((1103515245 : Int64) * y3) + (12345 : Int64)) - (((1103515245 : Int64) * y3) + (12345 : Int64)) / (2147483648 : Int64) * (2147483648 : Int64)) x5 ((1 : Int32) <<< (x5 &&& 31)) (I 89 26) I L r hf
      · refine bs_st 2 (x' := (67, [some (.ref 89), w1, (pcl w2), some (.long ((((1103515245 : Int64) * y3) + (12345 : Int64)) - (((1103515245 : Int64) * y3) + (12345 : Int64)) / (2147483648 : Int64) * (2147483648 : Int64))), none, some (.int x5)], [.int (0 : Int32), .int (I 89 26), .ref 89], hp kp nh rh tl rl I L)) rfl ?_
        exact tc_345_1 Ls xs d kp tl rl nh rh n _ hK0 w1 (pcl w2) ((((1103515245 : Int64) * y3) + (12345 : Int64)) - (((1103515245 : Int64) * y3) + (12345 : Int64)) / (2147483648 : Int64) * (2147483648 : Int64)) x5 (0 : Int32) (I 89 26) I L r hf
def f_345 (n : Nat) (y1 : Int64) (I : FI) (L : FL) : Option (FI × FL) :=
  (f_252 n I L).bind fun q0 =>
  c_345_0 n n y1 (0 : Int32) q0.1 q0.2
set_option maxHeartbeats 1000000 in
set_option maxRecDepth 20000 in
theorem t_345 (Ls : Nat) (xs : Nat → Int32) (d : Nat) (kp : Option Nat) (tl : List (Nat × Nat)) (rl : List (List (Option Nat))) (nh : Option Nat) (rh : Option Nat) (n : Nat) (y1 : Int64) (I : FI) (L : FL) (r : FI × FL) (hf : f_345 n y1 I L = some r) : pEN Ls xs (d + 6) 345 [.ref 89, .long y1] (hp kp nh rh tl rl I L) = some (none, hp kp nh rh tl rl r.1 r.2) := by
  refine en_run (d := d + 5) (cd := cd_345) (f := (sf 12 rs_12 false 6 none Ls xs (d + 5))) rfl rfl (x := (0, [some (.ref 89), some (.long y1), none, none, none, none], [], hp kp nh rh tl rl I L)) rfl rfl (Nat.le_of_ble_eq_true rfl) ?_
  unfold f_345 at hf
  refine bs_st 1 (x' := (1, [some (.ref 89), some (.long y1), none, none, none, none], [.ref 89], hp kp nh rh tl rl I L)) rfl ?_
  obtain ⟨q0, hq0, hf⟩ := Option.bind_eq_some_iff.mp hf
  refine bs_call (o := pEN Ls xs (d + 5) 252 [.ref 89] (hp kp nh rh tl rl I L)) (w := none) (h' := hp kp nh rh tl rl q0.1 q0.2) (pc := 4) (lo := [some (.ref 89), some (.long y1), none, none, none, none]) (rest := []) rfl (t_252 Ls xs (d + 3) kp tl rl nh rh n I L q0 hq0) ?_
  refine bs_st 4 (x' := (9, [some (.ref 89), some (.long y1), none, some (.long y1), none, some (.int (0 : Int32))], [], hp kp nh rh tl rl q0.1 q0.2)) rfl ?_
  exact tc_345_0 Ls xs d kp tl rl nh rh n n (some (.long y1)) none y1 (0 : Int32) q0.1 q0.2 r hf
/-- LampRoundsModel.isSeed(I) on () -/
def f_346 (x0 : Int32) (I : FI) (L : FL) : Option (Int32) :=
  (f_201 x0.toInt64 (0 : Int64) (2000000000 : Int64) I L).bind fun q0 =>
  if narrow .boolean (.int q0) = .int q0 then some (q0) else none
set_option maxHeartbeats 1000000 in
set_option maxRecDepth 20000 in
theorem t_346 (Ls : Nat) (xs : Nat → Int32) (d : Nat) (kp : Option Nat) (tl : List (Nat × Nat)) (rl : List (List (Option Nat))) (nh : Option Nat) (rh : Option Nat) (x0 : Int32) (I : FI) (L : FL) (r : Int32) (hf : f_346 x0 I L = some r) : pEN Ls xs (d + 2) 346 [.int x0] (hp kp nh rh tl rl I L) = some (some (.int r), hp kp nh rh tl rl I L) := by
  refine en_run (d := d + 1) (cd := cd_346) (f := (sf 12 rs_12 false 1 (some (.boolean)) Ls xs (d + 1))) rfl rfl (x := (0, [some (.int x0)], [], hp kp nh rh tl rl I L)) rfl rfl (Nat.le_of_ble_eq_true rfl) ?_
  unfold f_346 at hf
  refine bs_st 4 (x' := (6, [some (.int x0)], [.long (2000000000 : Int64), .long (0 : Int64), .long x0.toInt64], hp kp nh rh tl rl I L)) rfl ?_
  obtain ⟨q0, hq0, hf⟩ := Option.bind_eq_some_iff.mp hf
  refine bs_call (o := pEN Ls xs (d + 1) 201 [.long x0.toInt64, .long (0 : Int64), .long (2000000000 : Int64)] (hp kp nh rh tl rl I L)) (w := some (.int q0)) (h' := hp kp nh rh tl rl I L) (pc := 9) (lo := [some (.int x0)]) (rest := []) rfl (t_201 Ls xs (d + 0) kp tl rl nh rh x0.toInt64 (0 : Int64) (2000000000 : Int64) I L q0 hq0) ?_
  split at hf
  · rename_i hg; cases hf; exact bs_rg rfl hg
  · cases hf
/-- LampRoundsModel.drawn(II) on (89,) -/
def f_347 (n : Nat) (x1 : Int32) (x2 : Int32) (I : FI) (L : FL) : Option (Int32 × FI × FL) :=
  (f_236 (u2 I 89 0 (0 : Int32)) L).bind fun q0 =>
  if q0 = 0 then
    some ((-2 : Int32), (u2 I 89 0 (0 : Int32)), L)
  else
    (f_346 x1 (u2 I 89 0 (0 : Int32)) L).bind fun q1 =>
    if q1 = 0 then
      some ((-2 : Int32), (u2 I 89 0 (0 : Int32)), L)
    else
      (f_242 x2 (u2 I 89 0 (0 : Int32)) L).bind fun q2 =>
      if ¬ q2 = 0 then
        (f_345 n x1.toInt64 (u2 I 89 0 (0 : Int32)) L).bind fun q3 =>
        if ¬ x2 = 0 then
          (f_264 n q3.1 q3.2).bind fun q4 =>
          (f_265 q4 q3.1 q3.2).bind fun q5 =>
          some (q5, q3.1, q3.2)
        else
          some (((((1 : Int32) <<< ((q3.1 96 5) &&& 31)) - (1 : Int32)) &&& ((q3.1 89 26) ^^^ (-1 : Int32))), q3.1, q3.2)
      else
        some ((-2 : Int32), (u2 I 89 0 (0 : Int32)), L)
set_option maxHeartbeats 1000000 in
set_option maxRecDepth 20000 in
theorem t_347 (Ls : Nat) (xs : Nat → Int32) (d : Nat) (kp : Option Nat) (tl : List (Nat × Nat)) (rl : List (List (Option Nat))) (nh : Option Nat) (rh : Option Nat) (n : Nat) (x1 : Int32) (x2 : Int32) (I : FI) (L : FL) (r : Int32 × FI × FL) (hf : f_347 n x1 x2 I L = some r) : pEN Ls xs (d + 7) 347 [.ref 89, .int x1, .int x2] (hp kp nh rh tl rl I L) = some (some (.int r.1), hp kp nh rh tl rl r.2.1 r.2.2) := by
  refine en_run (d := d + 6) (cd := cd_347) (f := (sf 12 rs_12 false 3 (some (.int)) Ls xs (d + 6))) rfl rfl (x := (0, [some (.ref 89), some (.int x1), some (.int x2)], [], hp kp nh rh tl rl I L)) rfl rfl (Nat.le_of_ble_eq_true rfl) ?_
  unfold f_347 at hf
  refine bs_st 4 (x' := (6, [some (.ref 89), some (.int x1), some (.int x2)], [.ref 89], hp kp nh rh tl rl (u2 I 89 0 (0 : Int32)) L)) rfl ?_
  obtain ⟨q0, hq0, hf⟩ := Option.bind_eq_some_iff.mp hf
  refine bs_call (o := pEN Ls xs (d + 6) 236 [.ref 89] (hp kp nh rh tl rl (u2 I 89 0 (0 : Int32)) L)) (w := some (.int q0)) (h' := hp kp nh rh tl rl (u2 I 89 0 (0 : Int32)) L) (pc := 9) (lo := [some (.ref 89), some (.int x1), some (.int x2)]) (rest := []) rfl (t_236 Ls xs (d + 5) kp tl rl nh rh (u2 I 89 0 (0 : Int32)) L q0 hq0) ?_
  refine bs_br (t := 26) (e := 12) (lo := [some (.ref 89), some (.int x1), some (.int x2)]) (st := []) (h := hp kp nh rh tl rl (u2 I 89 0 (0 : Int32)) L) rfl hf (fun hc hf => ?_) (fun hc hf => ?_)
  · refine bs_st 1 (x' := (28, [some (.ref 89), some (.int x1), some (.int x2)], [.int (-2 : Int32)], hp kp nh rh tl rl (u2 I 89 0 (0 : Int32)) L)) rfl ?_
    cases hf
    exact bs_ret rfl
  · refine bs_st 1 (x' := (13, [some (.ref 89), some (.int x1), some (.int x2)], [.int x1], hp kp nh rh tl rl (u2 I 89 0 (0 : Int32)) L)) rfl ?_
    obtain ⟨q1, hq1, hf⟩ := Option.bind_eq_some_iff.mp hf
    refine bs_call (o := pEN Ls xs (d + 6) 346 [.int x1] (hp kp nh rh tl rl (u2 I 89 0 (0 : Int32)) L)) (w := some (.int q1)) (h' := hp kp nh rh tl rl (u2 I 89 0 (0 : Int32)) L) (pc := 16) (lo := [some (.ref 89), some (.int x1), some (.int x2)]) (rest := []) rfl (t_346 Ls xs (d + 4) kp tl rl nh rh x1 (u2 I 89 0 (0 : Int32)) L q1 hq1) ?_
    refine bs_br (t := 26) (e := 19) (lo := [some (.ref 89), some (.int x1), some (.int x2)]) (st := []) (h := hp kp nh rh tl rl (u2 I 89 0 (0 : Int32)) L) rfl hf (fun hc hf => ?_) (fun hc hf => ?_)
    · refine bs_st 1 (x' := (28, [some (.ref 89), some (.int x1), some (.int x2)], [.int (-2 : Int32)], hp kp nh rh tl rl (u2 I 89 0 (0 : Int32)) L)) rfl ?_
      cases hf
      exact bs_ret rfl
    · refine bs_st 1 (x' := (20, [some (.ref 89), some (.int x1), some (.int x2)], [.int x2], hp kp nh rh tl rl (u2 I 89 0 (0 : Int32)) L)) rfl ?_
      obtain ⟨q2, hq2, hf⟩ := Option.bind_eq_some_iff.mp hf
      refine bs_call (o := pEN Ls xs (d + 6) 242 [.int x2] (hp kp nh rh tl rl (u2 I 89 0 (0 : Int32)) L)) (w := some (.int q2)) (h' := hp kp nh rh tl rl (u2 I 89 0 (0 : Int32)) L) (pc := 23) (lo := [some (.ref 89), some (.int x1), some (.int x2)]) (rest := []) rfl (t_242 Ls xs (d + 4) kp tl rl nh rh x2 (u2 I 89 0 (0 : Int32)) L q2 hq2) ?_
      refine bs_br (t := 29) (e := 26) (lo := [some (.ref 89), some (.int x1), some (.int x2)]) (st := []) (h := hp kp nh rh tl rl (u2 I 89 0 (0 : Int32)) L) rfl hf (fun hc hf => ?_) (fun hc hf => ?_)
      · refine bs_st 3 (x' := (32, [some (.ref 89), some (.int x1), some (.int x2)], [.long x1.toInt64, .ref 89], hp kp nh rh tl rl (u2 I 89 0 (0 : Int32)) L)) rfl ?_
        obtain ⟨q3, hq3, hf⟩ := Option.bind_eq_some_iff.mp hf
        refine bs_call (o := pEN Ls xs (d + 6) 345 [.ref 89, .long x1.toInt64] (hp kp nh rh tl rl (u2 I 89 0 (0 : Int32)) L)) (w := none) (h' := hp kp nh rh tl rl q3.1 q3.2) (pc := 35) (lo := [some (.ref 89), some (.int x1), some (.int x2)]) (rest := []) rfl (t_345 Ls xs (d + 0) kp tl rl nh rh n x1.toInt64 (u2 I 89 0 (0 : Int32)) L q3 hq3) ?_
        refine bs_st 1 (x' := (36, [some (.ref 89), some (.int x1), some (.int x2)], [.int x2], hp kp nh rh tl rl q3.1 q3.2)) rfl ?_
        refine bs_br (t := 59) (e := 39) (lo := [some (.ref 89), some (.int x1), some (.int x2)]) (st := []) (h := hp kp nh rh tl rl q3.1 q3.2) rfl hf (fun hc hf => ?_) (fun hc hf => ?_)
        · refine bs_st 2 (x' := (61, [some (.ref 89), some (.int x1), some (.int x2)], [.ref 89, .ref 89], hp kp nh rh tl rl q3.1 q3.2)) rfl ?_
          obtain ⟨q4, hq4, hf⟩ := Option.bind_eq_some_iff.mp hf
          refine bs_call (o := pEN Ls xs (d + 6) 264 [.ref 89] (hp kp nh rh tl rl q3.1 q3.2)) (w := some (.int q4)) (h' := hp kp nh rh tl rl q3.1 q3.2) (pc := 64) (lo := [some (.ref 89), some (.int x1), some (.int x2)]) (rest := [.ref 89]) rfl (t_264 Ls xs (d + 3) kp tl rl nh rh n q3.1 q3.2 q4 hq4) ?_
          obtain ⟨q5, hq5, hf⟩ := Option.bind_eq_some_iff.mp hf
          refine bs_call (o := pEN Ls xs (d + 6) 265 [.ref 89, .int q4] (hp kp nh rh tl rl q3.1 q3.2)) (w := some (.int q5)) (h' := hp kp nh rh tl rl q3.1 q3.2) (pc := 67) (lo := [some (.ref 89), some (.int x1), some (.int x2)]) (rest := []) rfl (t_265 Ls xs (d + 4) kp tl rl nh rh q4 q3.1 q3.2 q5 hq5) ?_
          cases hf
          exact bs_ret rfl
        · refine bs_st 14 (x' := (67, [some (.ref 89), some (.int x1), some (.int x2)], [.int ((((1 : Int32) <<< ((q3.1 96 5) &&& 31)) - (1 : Int32)) &&& ((q3.1 89 26) ^^^ (-1 : Int32)))], hp kp nh rh tl rl q3.1 q3.2)) rfl ?_
          cases hf
          exact bs_ret rfl
      · refine bs_st 1 (x' := (28, [some (.ref 89), some (.int x1), some (.int x2)], [.int (-2 : Int32)], hp kp nh rh tl rl (u2 I 89 0 (0 : Int32)) L)) rfl ?_
        cases hf
        exact bs_ret rfl
/-- LampRoundsModel.luck(III) on (89,) -/
def c_348_1 (n : Nat) (K0 : Int32 → Int32 → Int32 → Int32 → Int32 → FI → FL → Option (Int32 × FI × FL)) (x1 : Int32) (x2 : Int32) (x3 : Int32) (x5 : Int32) (s0 : Int32) (s1 : Int32) (I : FI) (L : FL) : Option (Int32 × FI × FL) :=
  K0 x1 x2 x3 (s1 + s0) (x5 + (1 : Int32)) I L
set_option maxHeartbeats 1000000 in
set_option maxRecDepth 20000 in
theorem tc_348_1 (Ls : Nat) (xs : Nat → Int32) (d : Nat) (kp : Option Nat) (tl : List (Nat × Nat)) (rl : List (List (Option Nat))) (nh : Option Nat) (rh : Option Nat) (n : Nat) (K0 : Int32 → Int32 → Int32 → Int32 → Int32 → FI → FL → Option (Int32 × FI × FL)) (hK0 : ∀ (x1 : Int32) (x2 : Int32) (x3 : Int32) (x4 : Int32) (x5 : Int32) (I : FI) (L : FL) (r : Int32 × FI × FL), K0 x1 x2 x3 x4 x5 I L = some r → Bs cd_348 (sf 12 rs_12 false 6 (some (.int)) Ls xs (d + 6)) (42, [some (.ref 89), some (.int x1), some (.int x2), some (.int x3), some (.int x4), some (.int x5)], [], hp kp nh rh tl rl I L) (some (.int r.1), hp kp nh rh tl rl r.2.1 r.2.2)) (w4 : Option Value) (x1 : Int32) (x2 : Int32) (x3 : Int32) (x5 : Int32) (s0 : Int32) (s1 : Int32) (I : FI) (L : FL) (r : Int32 × FI × FL) (hf : c_348_1 n K0 x1 x2 x3 x5 s0 s1 I L = some r) : Bs cd_348 (sf 12 rs_12 false 6 (some (.int)) Ls xs (d + 6)) (77, [some (.ref 89), some (.int x1), some (.int x2), some (.int x3), w4, some (.int x5)], [.int s0, .int s1], hp kp nh rh tl rl I L) (some (.int r.1), hp kp nh rh tl rl r.2.1 r.2.2) := by
  unfold c_348_1 at hf
  refine bs_st 4 (x' := (42, [some (.ref 89), some (.int x1), some (.int x2), some (.int x3), some (.int (s1 + s0)), some (.int (x5 + (1 : Int32)))], [], hp kp nh rh tl rl I L)) rfl ?_
  exact hK0 x1 x2 x3 (s1 + s0) (x5 + (1 : Int32)) I L r hf
def b_348_0 (n : Nat) (K0 : Int32 → Int32 → Int32 → Int32 → Int32 → FI → FL → Option (Int32 × FI × FL)) (x1 : Int32) (x2 : Int32) (x3 : Int32) (x4 : Int32) (x5 : Int32) (I : FI) (L : FL) : Option (Int32 × FI × FL) :=
  if x2 ≤ x5 then
    some (x4, I, L)
  else
    (f_345 n (x1.toInt64 + x5.toInt64) I L).bind fun q3 =>
    (f_263 n x3 q3.1 q3.2).bind fun q4 =>
    (f_238 q3.1 q3.2).bind fun q5 =>
    if q5 ≤ q4 then
      c_348_1 n K0 x1 x2 x3 x5 (0 : Int32) x4 q3.1 q3.2
    else
      c_348_1 n K0 x1 x2 x3 x5 (1 : Int32) x4 q3.1 q3.2
def c_348_0 (n : Nat) : Nat → Int32 → Int32 → Int32 → Int32 → Int32 → FI → FL → Option (Int32 × FI × FL)
  | 0, _, _, _, _, _, _, _ => none
  | m + 1, x1, x2, x3, x4, x5, I, L => b_348_0 n (c_348_0 n m) x1 x2 x3 x4 x5 I L
set_option maxHeartbeats 1000000 in
set_option maxRecDepth 20000 in
theorem tc_348_0 (Ls : Nat) (xs : Nat → Int32) (d : Nat) (kp : Option Nat) (tl : List (Nat × Nat)) (rl : List (List (Option Nat))) (nh : Option Nat) (rh : Option Nat) (n : Nat) : ∀ (m : Nat) (x1 : Int32) (x2 : Int32) (x3 : Int32) (x4 : Int32) (x5 : Int32) (I : FI) (L : FL) (r : Int32 × FI × FL), c_348_0 n m x1 x2 x3 x4 x5 I L = some r → Bs cd_348 (sf 12 rs_12 false 6 (some (.int)) Ls xs (d + 6)) (42, [some (.ref 89), some (.int x1), some (.int x2), some (.int x3), some (.int x4), some (.int x5)], [], hp kp nh rh tl rl I L) (some (.int r.1), hp kp nh rh tl rl r.2.1 r.2.2)
  | 0, x1, x2, x3, x4, x5, I, L, r, hf => by cases hf
  | m + 1, x1, x2, x3, x4, x5, I, L, r, hf => by
    unfold c_348_0 b_348_0 at hf
    have hK0 := tc_348_0 Ls xs d kp tl rl nh rh n m
    refine bs_st 2 (x' := (45, [some (.ref 89), some (.int x1), some (.int x2), some (.int x3), some (.int x4), some (.int x5)], [.int x2, .int x5], hp kp nh rh tl rl I L)) rfl ?_
    refine bs_br (t := 86) (e := 48) (lo := [some (.ref 89), some (.int x1), some (.int x2), some (.int x3), some (.int x4), some (.int x5)]) (st := []) (h := hp kp nh rh tl rl I L) rfl hf (fun hc hf => ?_) (fun hc hf => ?_)
    · refine bs_st 1 (x' := (88, [some (.ref 89), some (.int x1), some (.int x2), some (.int x3), some (.int x4), some (.int x5)], [.int x4], hp kp nh rh tl rl I L)) rfl ?_
      cases hf
      exact bs_ret rfl
    · refine bs_st 6 (x' := (55, [some (.ref 89), some (.int x1), some (.int x2), some (.int x3), some (.int x4), some (.int x5)], [.long (x1.toInt64 + x5.toInt64), .ref 89], hp kp nh rh tl rl I L)) rfl ?_
      obtain ⟨q3, hq3, hf⟩ := Option.bind_eq_some_iff.mp hf
      refine bs_call (o := pEN Ls xs (d + 6) 345 [.ref 89, .long (x1.toInt64 + x5.toInt64)] (hp kp nh rh tl rl I L)) (w := none) (h' := hp kp nh rh tl rl q3.1 q3.2) (pc := 58) (lo := [some (.ref 89), some (.int x1), some (.int x2), some (.int x3), some (.int x4), some (.int x5)]) (rest := []) rfl (t_345 Ls xs (d + 0) kp tl rl nh rh n (x1.toInt64 + x5.toInt64) I L q3 hq3) ?_
      refine bs_st 3 (x' := (62, [some (.ref 89), some (.int x1), some (.int x2), some (.int x3), some (.int x4), some (.int x5)], [.int x3, .ref 89, .int x4], hp kp nh rh tl rl q3.1 q3.2)) rfl ?_
      obtain ⟨q4, hq4, hf⟩ := Option.bind_eq_some_iff.mp hf
      refine bs_call (o := pEN Ls xs (d + 6) 263 [.ref 89, .int x3] (hp kp nh rh tl rl q3.1 q3.2)) (w := some (.int q4)) (h' := hp kp nh rh tl rl q3.1 q3.2) (pc := 65) (lo := [some (.ref 89), some (.int x1), some (.int x2), some (.int x3), some (.int x4), some (.int x5)]) (rest := [.int x4]) rfl (t_263 Ls xs (d + 4) kp tl rl nh rh n x3 q3.1 q3.2 q4 hq4) ?_
      refine bs_st 1 (x' := (66, [some (.ref 89), some (.int x1), some (.int x2), some (.int x3), some (.int x4), some (.int x5)], [.ref 89, .int q4, .int x4], hp kp nh rh tl rl q3.1 q3.2)) rfl ?_
      obtain ⟨q5, hq5, hf⟩ := Option.bind_eq_some_iff.mp hf
      refine bs_call (o := pEN Ls xs (d + 6) 238 [.ref 89] (hp kp nh rh tl rl q3.1 q3.2)) (w := some (.int q5)) (h' := hp kp nh rh tl rl q3.1 q3.2) (pc := 69) (lo := [some (.ref 89), some (.int x1), some (.int x2), some (.int x3), some (.int x4), some (.int x5)]) (rest := [.int q4, .int x4]) rfl (t_238 Ls xs (d + 5) kp tl rl nh rh q3.1 q3.2 q5 hq5) ?_
      refine bs_br (t := 76) (e := 72) (lo := [some (.ref 89), some (.int x1), some (.int x2), some (.int x3), some (.int x4), some (.int x5)]) (st := [.int x4]) (h := hp kp nh rh tl rl q3.1 q3.2) rfl hf (fun hc hf => ?_) (fun hc hf => ?_)
      · refine bs_st 1 (x' := (77, [some (.ref 89), some (.int x1), some (.int x2), some (.int x3), some (.int x4), some (.int x5)], [.int (0 : Int32), .int x4], hp kp nh rh tl rl q3.1 q3.2)) rfl ?_
        exact tc_348_1 Ls xs d kp tl rl nh rh n _ hK0 (some (.int x4)) x1 x2 x3 x5 (0 : Int32) x4 q3.1 q3.2 r hf
      · refine bs_st 2 (x' := (77, [some (.ref 89), some (.int x1), some (.int x2), some (.int x3), some (.int x4), some (.int x5)], [.int (1 : Int32), .int x4], hp kp nh rh tl rl q3.1 q3.2)) rfl ?_
        exact tc_348_1 Ls xs d kp tl rl nh rh n _ hK0 (some (.int x4)) x1 x2 x3 x5 (1 : Int32) x4 q3.1 q3.2 r hf
def f_348 (n : Nat) (x1 : Int32) (x2 : Int32) (x3 : Int32) (I : FI) (L : FL) : Option (Int32 × FI × FL) :=
  (f_346 x1 (u2 I 89 0 (0 : Int32)) L).bind fun q0 =>
  if q0 = 0 then
    some ((-2 : Int32), (u2 I 89 0 (0 : Int32)), L)
  else
    (f_201 x2.toInt64 (1 : Int64) (20 : Int64) (u2 I 89 0 (0 : Int32)) L).bind fun q1 =>
    if q1 = 0 then
      some ((-2 : Int32), (u2 I 89 0 (0 : Int32)), L)
    else
      (f_239 x3.toInt64 (u2 I 89 0 (0 : Int32)) L).bind fun q2 =>
      if ¬ q2 = 0 then
        c_348_0 n n x1 x2 x3 (0 : Int32) (0 : Int32) (u2 I 89 0 (0 : Int32)) L
      else
        some ((-2 : Int32), (u2 I 89 0 (0 : Int32)), L)
set_option maxHeartbeats 1000000 in
set_option maxRecDepth 20000 in
theorem t_348 (Ls : Nat) (xs : Nat → Int32) (d : Nat) (kp : Option Nat) (tl : List (Nat × Nat)) (rl : List (List (Option Nat))) (nh : Option Nat) (rh : Option Nat) (n : Nat) (x1 : Int32) (x2 : Int32) (x3 : Int32) (I : FI) (L : FL) (r : Int32 × FI × FL) (hf : f_348 n x1 x2 x3 I L = some r) : pEN Ls xs (d + 7) 348 [.ref 89, .int x1, .int x2, .int x3] (hp kp nh rh tl rl I L) = some (some (.int r.1), hp kp nh rh tl rl r.2.1 r.2.2) := by
  refine en_run (d := d + 6) (cd := cd_348) (f := (sf 12 rs_12 false 6 (some (.int)) Ls xs (d + 6))) rfl rfl (x := (0, [some (.ref 89), some (.int x1), some (.int x2), some (.int x3), none, none], [], hp kp nh rh tl rl I L)) rfl rfl (Nat.le_of_ble_eq_true rfl) ?_
  unfold f_348 at hf
  refine bs_st 4 (x' := (6, [some (.ref 89), some (.int x1), some (.int x2), some (.int x3), none, none], [.int x1], hp kp nh rh tl rl (u2 I 89 0 (0 : Int32)) L)) rfl ?_
  obtain ⟨q0, hq0, hf⟩ := Option.bind_eq_some_iff.mp hf
  refine bs_call (o := pEN Ls xs (d + 6) 346 [.int x1] (hp kp nh rh tl rl (u2 I 89 0 (0 : Int32)) L)) (w := some (.int q0)) (h' := hp kp nh rh tl rl (u2 I 89 0 (0 : Int32)) L) (pc := 9) (lo := [some (.ref 89), some (.int x1), some (.int x2), some (.int x3), none, none]) (rest := []) rfl (t_346 Ls xs (d + 4) kp tl rl nh rh x1 (u2 I 89 0 (0 : Int32)) L q0 hq0) ?_
  refine bs_br (t := 33) (e := 12) (lo := [some (.ref 89), some (.int x1), some (.int x2), some (.int x3), none, none]) (st := []) (h := hp kp nh rh tl rl (u2 I 89 0 (0 : Int32)) L) rfl hf (fun hc hf => ?_) (fun hc hf => ?_)
  · refine bs_st 1 (x' := (35, [some (.ref 89), some (.int x1), some (.int x2), some (.int x3), none, none], [.int (-2 : Int32)], hp kp nh rh tl rl (u2 I 89 0 (0 : Int32)) L)) rfl ?_
    cases hf
    exact bs_ret rfl
  · refine bs_st 4 (x' := (18, [some (.ref 89), some (.int x1), some (.int x2), some (.int x3), none, none], [.long (20 : Int64), .long (1 : Int64), .long x2.toInt64], hp kp nh rh tl rl (u2 I 89 0 (0 : Int32)) L)) rfl ?_
    obtain ⟨q1, hq1, hf⟩ := Option.bind_eq_some_iff.mp hf
    refine bs_call (o := pEN Ls xs (d + 6) 201 [.long x2.toInt64, .long (1 : Int64), .long (20 : Int64)] (hp kp nh rh tl rl (u2 I 89 0 (0 : Int32)) L)) (w := some (.int q1)) (h' := hp kp nh rh tl rl (u2 I 89 0 (0 : Int32)) L) (pc := 21) (lo := [some (.ref 89), some (.int x1), some (.int x2), some (.int x3), none, none]) (rest := []) rfl (t_201 Ls xs (d + 5) kp tl rl nh rh x2.toInt64 (1 : Int64) (20 : Int64) (u2 I 89 0 (0 : Int32)) L q1 hq1) ?_
    refine bs_br (t := 33) (e := 24) (lo := [some (.ref 89), some (.int x1), some (.int x2), some (.int x3), none, none]) (st := []) (h := hp kp nh rh tl rl (u2 I 89 0 (0 : Int32)) L) rfl hf (fun hc hf => ?_) (fun hc hf => ?_)
    · refine bs_st 1 (x' := (35, [some (.ref 89), some (.int x1), some (.int x2), some (.int x3), none, none], [.int (-2 : Int32)], hp kp nh rh tl rl (u2 I 89 0 (0 : Int32)) L)) rfl ?_
      cases hf
      exact bs_ret rfl
    · refine bs_st 3 (x' := (27, [some (.ref 89), some (.int x1), some (.int x2), some (.int x3), none, none], [.long x3.toInt64, .ref 89], hp kp nh rh tl rl (u2 I 89 0 (0 : Int32)) L)) rfl ?_
      obtain ⟨q2, hq2, hf⟩ := Option.bind_eq_some_iff.mp hf
      refine bs_call (o := pEN Ls xs (d + 6) 239 [.ref 89, .long x3.toInt64] (hp kp nh rh tl rl (u2 I 89 0 (0 : Int32)) L)) (w := some (.int q2)) (h' := hp kp nh rh tl rl (u2 I 89 0 (0 : Int32)) L) (pc := 30) (lo := [some (.ref 89), some (.int x1), some (.int x2), some (.int x3), none, none]) (rest := []) rfl (t_239 Ls xs (d + 4) kp tl rl nh rh x3.toInt64 (u2 I 89 0 (0 : Int32)) L q2 hq2) ?_
      refine bs_br (t := 36) (e := 33) (lo := [some (.ref 89), some (.int x1), some (.int x2), some (.int x3), none, none]) (st := []) (h := hp kp nh rh tl rl (u2 I 89 0 (0 : Int32)) L) rfl hf (fun hc hf => ?_) (fun hc hf => ?_)
      · refine bs_st 4 (x' := (42, [some (.ref 89), some (.int x1), some (.int x2), some (.int x3), some (.int (0 : Int32)), some (.int (0 : Int32))], [], hp kp nh rh tl rl (u2 I 89 0 (0 : Int32)) L)) rfl ?_
        exact tc_348_0 Ls xs d kp tl rl nh rh n n x1 x2 x3 (0 : Int32) (0 : Int32) (u2 I 89 0 (0 : Int32)) L r hf
      · refine bs_st 1 (x' := (35, [some (.ref 89), some (.int x1), some (.int x2), some (.int x3), none, none], [.int (-2 : Int32)], hp kp nh rh tl rl (u2 I 89 0 (0 : Int32)) L)) rfl ?_
        cases hf
        exact bs_ret rfl
/-- LampRoundsModel.does(II) on (89,) -/
def f_349 (n : Nat) (x1 : Int32) (x2 : Int32) (I : FI) (L : FL) : Option (FI × FL) :=
  if pin ((2 : Int32) * (I 96 7)) 300 = true then (if pin (((2 : Int32) * (I 96 7)) + (1 : Int32)) 300 = true then ((f_261 n (0 : Int32) (u2 (u2 (u2 I 101 (((2 : Int32) * (I 96 7)).toNatClampNeg) x1) 101 ((((2 : Int32) * (I 96 7)) + (1 : Int32)).toNatClampNeg) x2) 96 7 ((I 96 7) + (1 : Int32))) L).bind fun q0 =>
      some (q0.1, q0.2)) else none) else none
set_option maxHeartbeats 1000000 in
set_option maxRecDepth 20000 in
theorem t_349 (Ls : Nat) (xs : Nat → Int32) (d : Nat) (kp : Option Nat) (tl : List (Nat × Nat)) (rl : List (List (Option Nat))) (nh : Option Nat) (rh : Option Nat) (n : Nat) (x1 : Int32) (x2 : Int32) (I : FI) (L : FL) (r : FI × FL) (hf : f_349 n x1 x2 I L = some r) : pEN Ls xs (d + 7) 349 [.ref 89, .int x1, .int x2] (hp kp nh rh tl rl I L) = some (none, hp kp nh rh tl rl r.1 r.2) := by
  refine en_run (d := d + 6) (cd := cd_349) (f := (sf 12 rs_12 false 3 none Ls xs (d + 6))) rfl rfl (x := (0, [some (.ref 89), some (.int x1), some (.int x2)], [], hp kp nh rh tl rl I L)) rfl rfl (Nat.le_of_ble_eq_true rfl) ?_
  unfold f_349 at hf
  refine bs_st 9 (x' := (14, [some (.ref 89), some (.int x1), some (.int x2)], [.int x1, .int ((2 : Int32) * (I 96 7)), .ref 101], hp kp nh rh tl rl I L)) rfl ?_
  refine bs_gd (x' := (15, [some (.ref 89), some (.int x1), some (.int x2)], [], hp kp nh rh tl rl (u2 I 101 (((2 : Int32) * (I 96 7)).toNatClampNeg) x1) L)) rfl hf (fun hc hf => ?_)
  refine bs_st 11 (x' := (31, [some (.ref 89), some (.int x1), some (.int x2)], [.int x2, .int (((2 : Int32) * (I 96 7)) + (1 : Int32)), .ref 101], hp kp nh rh tl rl (u2 I 101 (((2 : Int32) * (I 96 7)).toNatClampNeg) x1) L)) rfl ?_
  refine bs_gd (x' := (32, [some (.ref 89), some (.int x1), some (.int x2)], [], hp kp nh rh tl rl (u2 (u2 I 101 (((2 : Int32) * (I 96 7)).toNatClampNeg) x1) 101 ((((2 : Int32) * (I 96 7)) + (1 : Int32)).toNatClampNeg) x2) L)) rfl hf (fun hc hf => ?_)
  refine bs_st 10 (x' := (45, [some (.ref 89), some (.int x1), some (.int x2)], [.int (0 : Int32), .ref 89], hp kp nh rh tl rl (u2 (u2 (u2 I 101 (((2 : Int32) * (I 96 7)).toNatClampNeg) x1) 101 ((((2 : Int32) * (I 96 7)) + (1 : Int32)).toNatClampNeg) x2) 96 7 ((I 96 7) + (1 : Int32))) L)) rfl ?_
  obtain ⟨q0, hq0, hf⟩ := Option.bind_eq_some_iff.mp hf
  refine bs_call (o := pEN Ls xs (d + 6) 261 [.ref 89, .int (0 : Int32)] (hp kp nh rh tl rl (u2 (u2 (u2 I 101 (((2 : Int32) * (I 96 7)).toNatClampNeg) x1) 101 ((((2 : Int32) * (I 96 7)) + (1 : Int32)).toNatClampNeg) x2) 96 7 ((I 96 7) + (1 : Int32))) L)) (w := none) (h' := hp kp nh rh tl rl q0.1 q0.2) (pc := 48) (lo := [some (.ref 89), some (.int x1), some (.int x2)]) (rest := []) rfl (t_261 Ls xs (d + 0) kp tl rl nh rh n (0 : Int32) (u2 (u2 (u2 I 101 (((2 : Int32) * (I 96 7)).toNatClampNeg) x1) 101 ((((2 : Int32) * (I 96 7)) + (1 : Int32)).toNatClampNeg) x2) 96 7 ((I 96 7) + (1 : Int32))) L q0 hq0) ?_
  cases hf
  exact bs_ret rfl
/-- LampRoundsModel.visit(II) on (89,) -/
def f_350 (n : Nat) (x1 : Int32) (x2 : Int32) (I : FI) (L : FL) : Option (Int32 × FI × FL) :=
  (f_239 x1.toInt64 (u2 I 89 0 (0 : Int32)) L).bind fun q0 =>
  if q0 = 0 then
    some ((-2 : Int32), (u2 I 89 0 (0 : Int32)), L)
  else
    (f_241 x2.toInt64 (u2 I 89 0 (0 : Int32)) L).bind fun q1 =>
    if ¬ q1 = 0 then
      if ¬ I 96 7 = (30 : Int32) then
        (f_349 n x1 x2 (u2 I 89 0 (0 : Int32)) L).bind fun q2 =>
        if pin (((4 : Int32) * x2) + x1) 120 = true then some (q2.1 106 ((((4 : Int32) * x2) + x1).toNatClampNeg), q2.1, q2.2) else none
      else
        some ((-5 : Int32), (u2 I 89 0 (0 : Int32)), L)
    else
      some ((-2 : Int32), (u2 I 89 0 (0 : Int32)), L)
set_option maxHeartbeats 1000000 in
set_option maxRecDepth 20000 in
theorem t_350 (Ls : Nat) (xs : Nat → Int32) (d : Nat) (kp : Option Nat) (tl : List (Nat × Nat)) (rl : List (List (Option Nat))) (nh : Option Nat) (rh : Option Nat) (n : Nat) (x1 : Int32) (x2 : Int32) (I : FI) (L : FL) (r : Int32 × FI × FL) (hf : f_350 n x1 x2 I L = some r) : pEN Ls xs (d + 8) 350 [.ref 89, .int x1, .int x2] (hp kp nh rh tl rl I L) = some (some (.int r.1), hp kp nh rh tl rl r.2.1 r.2.2) := by
  refine en_run (d := d + 7) (cd := cd_350) (f := (sf 12 rs_12 false 3 (some (.int)) Ls xs (d + 7))) rfl rfl (x := (0, [some (.ref 89), some (.int x1), some (.int x2)], [], hp kp nh rh tl rl I L)) rfl rfl (Nat.le_of_ble_eq_true rfl) ?_
  unfold f_350 at hf
  refine bs_st 6 (x' := (8, [some (.ref 89), some (.int x1), some (.int x2)], [.long x1.toInt64, .ref 89], hp kp nh rh tl rl (u2 I 89 0 (0 : Int32)) L)) rfl ?_
  obtain ⟨q0, hq0, hf⟩ := Option.bind_eq_some_iff.mp hf
  refine bs_call (o := pEN Ls xs (d + 7) 239 [.ref 89, .long x1.toInt64] (hp kp nh rh tl rl (u2 I 89 0 (0 : Int32)) L)) (w := some (.int q0)) (h' := hp kp nh rh tl rl (u2 I 89 0 (0 : Int32)) L) (pc := 11) (lo := [some (.ref 89), some (.int x1), some (.int x2)]) (rest := []) rfl (t_239 Ls xs (d + 5) kp tl rl nh rh x1.toInt64 (u2 I 89 0 (0 : Int32)) L q0 hq0) ?_
  refine bs_br (t := 23) (e := 14) (lo := [some (.ref 89), some (.int x1), some (.int x2)]) (st := []) (h := hp kp nh rh tl rl (u2 I 89 0 (0 : Int32)) L) rfl hf (fun hc hf => ?_) (fun hc hf => ?_)
  · refine bs_st 1 (x' := (25, [some (.ref 89), some (.int x1), some (.int x2)], [.int (-2 : Int32)], hp kp nh rh tl rl (u2 I 89 0 (0 : Int32)) L)) rfl ?_
    cases hf
    exact bs_ret rfl
  · refine bs_st 3 (x' := (17, [some (.ref 89), some (.int x1), some (.int x2)], [.long x2.toInt64, .ref 89], hp kp nh rh tl rl (u2 I 89 0 (0 : Int32)) L)) rfl ?_
    obtain ⟨q1, hq1, hf⟩ := Option.bind_eq_some_iff.mp hf
    refine bs_call (o := pEN Ls xs (d + 7) 241 [.ref 89, .long x2.toInt64] (hp kp nh rh tl rl (u2 I 89 0 (0 : Int32)) L)) (w := some (.int q1)) (h' := hp kp nh rh tl rl (u2 I 89 0 (0 : Int32)) L) (pc := 20) (lo := [some (.ref 89), some (.int x1), some (.int x2)]) (rest := []) rfl (t_241 Ls xs (d + 5) kp tl rl nh rh x2.toInt64 (u2 I 89 0 (0 : Int32)) L q1 hq1) ?_
    refine bs_br (t := 26) (e := 23) (lo := [some (.ref 89), some (.int x1), some (.int x2)]) (st := []) (h := hp kp nh rh tl rl (u2 I 89 0 (0 : Int32)) L) rfl hf (fun hc hf => ?_) (fun hc hf => ?_)
    · refine bs_st 5 (x' := (35, [some (.ref 89), some (.int x1), some (.int x2)], [.int (30 : Int32), .int (I 96 7)], hp kp nh rh tl rl (u2 I 89 0 (0 : Int32)) L)) rfl ?_
      refine bs_br (t := 41) (e := 38) (lo := [some (.ref 89), some (.int x1), some (.int x2)]) (st := []) (h := hp kp nh rh tl rl (u2 I 89 0 (0 : Int32)) L) rfl hf (fun hc hf => ?_) (fun hc hf => ?_)
      · refine bs_st 3 (x' := (44, [some (.ref 89), some (.int x1), some (.int x2)], [.int x2, .int x1, .ref 89], hp kp nh rh tl rl (u2 I 89 0 (0 : Int32)) L)) rfl ?_
        obtain ⟨q2, hq2, hf⟩ := Option.bind_eq_some_iff.mp hf
        refine bs_call (o := pEN Ls xs (d + 7) 349 [.ref 89, .int x1, .int x2] (hp kp nh rh tl rl (u2 I 89 0 (0 : Int32)) L)) (w := none) (h' := hp kp nh rh tl rl q2.1 q2.2) (pc := 47) (lo := [some (.ref 89), some (.int x1), some (.int x2)]) (rest := []) rfl (t_349 Ls xs (d + 0) kp tl rl nh rh n x1 x2 (u2 I 89 0 (0 : Int32)) L q2 hq2) ?_
        refine bs_st 7 (x' := (56, [some (.ref 89), some (.int x1), some (.int x2)], [.int (((4 : Int32) * x2) + x1), .ref 106], hp kp nh rh tl rl q2.1 q2.2)) rfl ?_
        refine bs_gd (x' := (57, [some (.ref 89), some (.int x1), some (.int x2)], [.int (q2.1 106 ((((4 : Int32) * x2) + x1).toNatClampNeg))], hp kp nh rh tl rl q2.1 q2.2)) rfl hf (fun hc hf => ?_)
        cases hf
        exact bs_ret rfl
      · refine bs_st 1 (x' := (40, [some (.ref 89), some (.int x1), some (.int x2)], [.int (-5 : Int32)], hp kp nh rh tl rl (u2 I 89 0 (0 : Int32)) L)) rfl ?_
        cases hf
        exact bs_ret rfl
    · refine bs_st 1 (x' := (25, [some (.ref 89), some (.int x1), some (.int x2)], [.int (-2 : Int32)], hp kp nh rh tl rl (u2 I 89 0 (0 : Int32)) L)) rfl ?_
      cases hf
      exact bs_ret rfl
/-- LampRoundsModel.nods(I) on (89,) -/
def f_351 (n : Nat) (x1 : Int32) (I : FI) (L : FL) : Option (Int32 × FI × FL) :=
  (f_241 x1.toInt64 (u2 I 89 0 (0 : Int32)) L).bind fun q0 =>
  if ¬ q0 = 0 then
    if ¬ I 96 7 = (30 : Int32) then
      (f_349 n (-1 : Int32) x1 (u2 I 89 0 (0 : Int32)) L).bind fun q1 =>
      (f_262 n x1 q1.1 q1.2).bind fun q2 =>
      some (q2, q1.1, q1.2)
    else
      some ((-5 : Int32), (u2 I 89 0 (0 : Int32)), L)
  else
    some ((-2 : Int32), (u2 I 89 0 (0 : Int32)), L)
set_option maxHeartbeats 1000000 in
set_option maxRecDepth 20000 in
theorem t_351 (Ls : Nat) (xs : Nat → Int32) (d : Nat) (kp : Option Nat) (tl : List (Nat × Nat)) (rl : List (List (Option Nat))) (nh : Option Nat) (rh : Option Nat) (n : Nat) (x1 : Int32) (I : FI) (L : FL) (r : Int32 × FI × FL) (hf : f_351 n x1 I L = some r) : pEN Ls xs (d + 8) 351 [.ref 89, .int x1] (hp kp nh rh tl rl I L) = some (some (.int r.1), hp kp nh rh tl rl r.2.1 r.2.2) := by
  refine en_run (d := d + 7) (cd := cd_351) (f := (sf 12 rs_12 false 2 (some (.int)) Ls xs (d + 7))) rfl rfl (x := (0, [some (.ref 89), some (.int x1)], [], hp kp nh rh tl rl I L)) rfl rfl (Nat.le_of_ble_eq_true rfl) ?_
  unfold f_351 at hf
  refine bs_st 6 (x' := (8, [some (.ref 89), some (.int x1)], [.long x1.toInt64, .ref 89], hp kp nh rh tl rl (u2 I 89 0 (0 : Int32)) L)) rfl ?_
  obtain ⟨q0, hq0, hf⟩ := Option.bind_eq_some_iff.mp hf
  refine bs_call (o := pEN Ls xs (d + 7) 241 [.ref 89, .long x1.toInt64] (hp kp nh rh tl rl (u2 I 89 0 (0 : Int32)) L)) (w := some (.int q0)) (h' := hp kp nh rh tl rl (u2 I 89 0 (0 : Int32)) L) (pc := 11) (lo := [some (.ref 89), some (.int x1)]) (rest := []) rfl (t_241 Ls xs (d + 5) kp tl rl nh rh x1.toInt64 (u2 I 89 0 (0 : Int32)) L q0 hq0) ?_
  refine bs_br (t := 17) (e := 14) (lo := [some (.ref 89), some (.int x1)]) (st := []) (h := hp kp nh rh tl rl (u2 I 89 0 (0 : Int32)) L) rfl hf (fun hc hf => ?_) (fun hc hf => ?_)
  · refine bs_st 5 (x' := (26, [some (.ref 89), some (.int x1)], [.int (30 : Int32), .int (I 96 7)], hp kp nh rh tl rl (u2 I 89 0 (0 : Int32)) L)) rfl ?_
    refine bs_br (t := 32) (e := 29) (lo := [some (.ref 89), some (.int x1)]) (st := []) (h := hp kp nh rh tl rl (u2 I 89 0 (0 : Int32)) L) rfl hf (fun hc hf => ?_) (fun hc hf => ?_)
    · refine bs_st 3 (x' := (35, [some (.ref 89), some (.int x1)], [.int x1, .int (-1 : Int32), .ref 89], hp kp nh rh tl rl (u2 I 89 0 (0 : Int32)) L)) rfl ?_
      obtain ⟨q1, hq1, hf⟩ := Option.bind_eq_some_iff.mp hf
      refine bs_call (o := pEN Ls xs (d + 7) 349 [.ref 89, .int (-1 : Int32), .int x1] (hp kp nh rh tl rl (u2 I 89 0 (0 : Int32)) L)) (w := none) (h' := hp kp nh rh tl rl q1.1 q1.2) (pc := 38) (lo := [some (.ref 89), some (.int x1)]) (rest := []) rfl (t_349 Ls xs (d + 0) kp tl rl nh rh n (-1 : Int32) x1 (u2 I 89 0 (0 : Int32)) L q1 hq1) ?_
      refine bs_st 2 (x' := (40, [some (.ref 89), some (.int x1)], [.int x1, .ref 89], hp kp nh rh tl rl q1.1 q1.2)) rfl ?_
      obtain ⟨q2, hq2, hf⟩ := Option.bind_eq_some_iff.mp hf
      refine bs_call (o := pEN Ls xs (d + 7) 262 [.ref 89, .int x1] (hp kp nh rh tl rl q1.1 q1.2)) (w := some (.int q2)) (h' := hp kp nh rh tl rl q1.1 q1.2) (pc := 43) (lo := [some (.ref 89), some (.int x1)]) (rest := []) rfl (t_262 Ls xs (d + 5) kp tl rl nh rh n x1 q1.1 q1.2 q2 hq2) ?_
      cases hf
      exact bs_ret rfl
    · refine bs_st 1 (x' := (31, [some (.ref 89), some (.int x1)], [.int (-5 : Int32)], hp kp nh rh tl rl (u2 I 89 0 (0 : Int32)) L)) rfl ?_
      cases hf
      exact bs_ret rfl
  · refine bs_st 1 (x' := (16, [some (.ref 89), some (.int x1)], [.int (-2 : Int32)], hp kp nh rh tl rl (u2 I 89 0 (0 : Int32)) L)) rfl ?_
    cases hf
    exact bs_ret rfl
/-- LampRoundsModel.undo() on (89,) -/
def f_352 (I : FI) (L : FL) : Option (Int32 × FI × FL) :=
  (f_236 (u2 I 89 0 (0 : Int32)) L).bind fun q0 =>
  if ¬ q0 = 0 then
    if ¬ I 96 7 = 0 then
      some (((I 96 7) - (1 : Int32)), (u2 (u2 I 89 0 (0 : Int32)) 96 7 ((I 96 7) - (1 : Int32))), L)
    else
      some ((-5 : Int32), (u2 I 89 0 (0 : Int32)), L)
  else
    some ((-2 : Int32), (u2 I 89 0 (0 : Int32)), L)
set_option maxHeartbeats 1000000 in
set_option maxRecDepth 20000 in
theorem t_352 (Ls : Nat) (xs : Nat → Int32) (d : Nat) (kp : Option Nat) (tl : List (Nat × Nat)) (rl : List (List (Option Nat))) (nh : Option Nat) (rh : Option Nat) (I : FI) (L : FL) (r : Int32 × FI × FL) (hf : f_352 I L = some r) : pEN Ls xs (d + 2) 352 [.ref 89] (hp kp nh rh tl rl I L) = some (some (.int r.1), hp kp nh rh tl rl r.2.1 r.2.2) := by
  refine en_run (d := d + 1) (cd := cd_352) (f := (sf 12 rs_12 false 1 (some (.int)) Ls xs (d + 1))) rfl rfl (x := (0, [some (.ref 89)], [], hp kp nh rh tl rl I L)) rfl rfl (Nat.le_of_ble_eq_true rfl) ?_
  unfold f_352 at hf
  refine bs_st 4 (x' := (6, [some (.ref 89)], [.ref 89], hp kp nh rh tl rl (u2 I 89 0 (0 : Int32)) L)) rfl ?_
  obtain ⟨q0, hq0, hf⟩ := Option.bind_eq_some_iff.mp hf
  refine bs_call (o := pEN Ls xs (d + 1) 236 [.ref 89] (hp kp nh rh tl rl (u2 I 89 0 (0 : Int32)) L)) (w := some (.int q0)) (h' := hp kp nh rh tl rl (u2 I 89 0 (0 : Int32)) L) (pc := 9) (lo := [some (.ref 89)]) (rest := []) rfl (t_236 Ls xs (d + 0) kp tl rl nh rh (u2 I 89 0 (0 : Int32)) L q0 hq0) ?_
  refine bs_br (t := 15) (e := 12) (lo := [some (.ref 89)]) (st := []) (h := hp kp nh rh tl rl (u2 I 89 0 (0 : Int32)) L) rfl hf (fun hc hf => ?_) (fun hc hf => ?_)
  · refine bs_st 4 (x' := (22, [some (.ref 89)], [.int (I 96 7)], hp kp nh rh tl rl (u2 I 89 0 (0 : Int32)) L)) rfl ?_
    refine bs_br (t := 28) (e := 25) (lo := [some (.ref 89)]) (st := []) (h := hp kp nh rh tl rl (u2 I 89 0 (0 : Int32)) L) rfl hf (fun hc hf => ?_) (fun hc hf => ?_)
    · refine bs_st 12 (x' := (46, [some (.ref 89)], [.int ((I 96 7) - (1 : Int32))], hp kp nh rh tl rl (u2 (u2 I 89 0 (0 : Int32)) 96 7 ((I 96 7) - (1 : Int32))) L)) rfl ?_
      cases hf
      exact bs_ret rfl
    · refine bs_st 1 (x' := (27, [some (.ref 89)], [.int (-5 : Int32)], hp kp nh rh tl rl (u2 I 89 0 (0 : Int32)) L)) rfl ?_
      cases hf
      exact bs_ret rfl
  · refine bs_st 1 (x' := (14, [some (.ref 89)], [.int (-2 : Int32)], hp kp nh rh tl rl (u2 I 89 0 (0 : Int32)) L)) rfl ?_
    cases hf
    exact bs_ret rfl
/-- LampRoundsModel.anew() on (89,) -/
def f_353 (I : FI) (L : FL) : Option (Int32 × FI × FL) :=
  (f_236 (u2 I 89 0 (0 : Int32)) L).bind fun q0 =>
  if ¬ q0 = 0 then
    some (I 96 7, (u2 (u2 I 89 0 (0 : Int32)) 96 7 (0 : Int32)), L)
  else
    some ((-2 : Int32), (u2 I 89 0 (0 : Int32)), L)
set_option maxHeartbeats 1000000 in
set_option maxRecDepth 20000 in
theorem t_353 (Ls : Nat) (xs : Nat → Int32) (d : Nat) (kp : Option Nat) (tl : List (Nat × Nat)) (rl : List (List (Option Nat))) (nh : Option Nat) (rh : Option Nat) (I : FI) (L : FL) (r : Int32 × FI × FL) (hf : f_353 I L = some r) : pEN Ls xs (d + 2) 353 [.ref 89] (hp kp nh rh tl rl I L) = some (some (.int r.1), hp kp nh rh tl rl r.2.1 r.2.2) := by
  refine en_run (d := d + 1) (cd := cd_353) (f := (sf 12 rs_12 false 2 (some (.int)) Ls xs (d + 1))) rfl rfl (x := (0, [some (.ref 89), none], [], hp kp nh rh tl rl I L)) rfl rfl (Nat.le_of_ble_eq_true rfl) ?_
  unfold f_353 at hf
  refine bs_st 4 (x' := (6, [some (.ref 89), none], [.ref 89], hp kp nh rh tl rl (u2 I 89 0 (0 : Int32)) L)) rfl ?_
  obtain ⟨q0, hq0, hf⟩ := Option.bind_eq_some_iff.mp hf
  refine bs_call (o := pEN Ls xs (d + 1) 236 [.ref 89] (hp kp nh rh tl rl (u2 I 89 0 (0 : Int32)) L)) (w := some (.int q0)) (h' := hp kp nh rh tl rl (u2 I 89 0 (0 : Int32)) L) (pc := 9) (lo := [some (.ref 89), none]) (rest := []) rfl (t_236 Ls xs (d + 0) kp tl rl nh rh (u2 I 89 0 (0 : Int32)) L q0 hq0) ?_
  refine bs_br (t := 15) (e := 12) (lo := [some (.ref 89), none]) (st := []) (h := hp kp nh rh tl rl (u2 I 89 0 (0 : Int32)) L) rfl hf (fun hc hf => ?_) (fun hc hf => ?_)
  · refine bs_st 11 (x' := (32, [some (.ref 89), some (.int (I 96 7))], [.int (I 96 7)], hp kp nh rh tl rl (u2 (u2 I 89 0 (0 : Int32)) 96 7 (0 : Int32)) L)) rfl ?_
    cases hf
    exact bs_ret rfl
  · refine bs_st 1 (x' := (14, [some (.ref 89), none], [.int (-2 : Int32)], hp kp nh rh tl rl (u2 I 89 0 (0 : Int32)) L)) rfl ?_
    cases hf
    exact bs_ret rfl
/-- LampRoundsModel.rate(II) on (89,) -/
def f_354 (x1 : Int32) (x2 : Int32) (I : FI) (L : FL) : Option (Int32 × FI × FL) :=
  (f_239 x1.toInt64 (u2 I 89 0 (0 : Int32)) L).bind fun q0 =>
  if q0 = 0 then
    some ((-2 : Int32), (u2 I 89 0 (0 : Int32)), L)
  else
    (f_201 x2.toInt64 (0 : Int64) (99 : Int64) (u2 I 89 0 (0 : Int32)) L).bind fun q1 =>
    if ¬ q1 = 0 then
      if I 96 7 ≤ 0 then
        if pin (((2 : Int32) * x1) + (1 : Int32)) 40 = true then (if pin (((2 : Int32) * x1) + (1 : Int32)) 40 = true then some (I 97 ((((2 : Int32) * x1) + (1 : Int32)).toNatClampNeg), (u2 (u2 I 89 0 (0 : Int32)) 97 ((((2 : Int32) * x1) + (1 : Int32)).toNatClampNeg) x2), L) else none) else none
      else
        some ((-5 : Int32), (u2 I 89 0 (0 : Int32)), L)
    else
      some ((-2 : Int32), (u2 I 89 0 (0 : Int32)), L)
set_option maxHeartbeats 1000000 in
set_option maxRecDepth 20000 in
theorem t_354 (Ls : Nat) (xs : Nat → Int32) (d : Nat) (kp : Option Nat) (tl : List (Nat × Nat)) (rl : List (List (Option Nat))) (nh : Option Nat) (rh : Option Nat) (x1 : Int32) (x2 : Int32) (I : FI) (L : FL) (r : Int32 × FI × FL) (hf : f_354 x1 x2 I L = some r) : pEN Ls xs (d + 3) 354 [.ref 89, .int x1, .int x2] (hp kp nh rh tl rl I L) = some (some (.int r.1), hp kp nh rh tl rl r.2.1 r.2.2) := by
  refine en_run (d := d + 2) (cd := cd_354) (f := (sf 12 rs_12 false 4 (some (.int)) Ls xs (d + 2))) rfl rfl (x := (0, [some (.ref 89), some (.int x1), some (.int x2), none], [], hp kp nh rh tl rl I L)) rfl rfl (Nat.le_of_ble_eq_true rfl) ?_
  unfold f_354 at hf
  refine bs_st 6 (x' := (8, [some (.ref 89), some (.int x1), some (.int x2), none], [.long x1.toInt64, .ref 89], hp kp nh rh tl rl (u2 I 89 0 (0 : Int32)) L)) rfl ?_
  obtain ⟨q0, hq0, hf⟩ := Option.bind_eq_some_iff.mp hf
  refine bs_call (o := pEN Ls xs (d + 2) 239 [.ref 89, .long x1.toInt64] (hp kp nh rh tl rl (u2 I 89 0 (0 : Int32)) L)) (w := some (.int q0)) (h' := hp kp nh rh tl rl (u2 I 89 0 (0 : Int32)) L) (pc := 11) (lo := [some (.ref 89), some (.int x1), some (.int x2), none]) (rest := []) rfl (t_239 Ls xs (d + 0) kp tl rl nh rh x1.toInt64 (u2 I 89 0 (0 : Int32)) L q0 hq0) ?_
  refine bs_br (t := 26) (e := 14) (lo := [some (.ref 89), some (.int x1), some (.int x2), none]) (st := []) (h := hp kp nh rh tl rl (u2 I 89 0 (0 : Int32)) L) rfl hf (fun hc hf => ?_) (fun hc hf => ?_)
  · refine bs_st 1 (x' := (28, [some (.ref 89), some (.int x1), some (.int x2), none], [.int (-2 : Int32)], hp kp nh rh tl rl (u2 I 89 0 (0 : Int32)) L)) rfl ?_
    cases hf
    exact bs_ret rfl
  · refine bs_st 4 (x' := (20, [some (.ref 89), some (.int x1), some (.int x2), none], [.long (99 : Int64), .long (0 : Int64), .long x2.toInt64], hp kp nh rh tl rl (u2 I 89 0 (0 : Int32)) L)) rfl ?_
    obtain ⟨q1, hq1, hf⟩ := Option.bind_eq_some_iff.mp hf
    refine bs_call (o := pEN Ls xs (d + 2) 201 [.long x2.toInt64, .long (0 : Int64), .long (99 : Int64)] (hp kp nh rh tl rl (u2 I 89 0 (0 : Int32)) L)) (w := some (.int q1)) (h' := hp kp nh rh tl rl (u2 I 89 0 (0 : Int32)) L) (pc := 23) (lo := [some (.ref 89), some (.int x1), some (.int x2), none]) (rest := []) rfl (t_201 Ls xs (d + 1) kp tl rl nh rh x2.toInt64 (0 : Int64) (99 : Int64) (u2 I 89 0 (0 : Int32)) L q1 hq1) ?_
    refine bs_br (t := 29) (e := 26) (lo := [some (.ref 89), some (.int x1), some (.int x2), none]) (st := []) (h := hp kp nh rh tl rl (u2 I 89 0 (0 : Int32)) L) rfl hf (fun hc hf => ?_) (fun hc hf => ?_)
    · refine bs_st 4 (x' := (36, [some (.ref 89), some (.int x1), some (.int x2), none], [.int (I 96 7)], hp kp nh rh tl rl (u2 I 89 0 (0 : Int32)) L)) rfl ?_
      refine bs_br (t := 42) (e := 39) (lo := [some (.ref 89), some (.int x1), some (.int x2), none]) (st := []) (h := hp kp nh rh tl rl (u2 I 89 0 (0 : Int32)) L) rfl hf (fun hc hf => ?_) (fun hc hf => ?_)
      · refine bs_st 7 (x' := (51, [some (.ref 89), some (.int x1), some (.int x2), none], [.int (((2 : Int32) * x1) + (1 : Int32)), .ref 97], hp kp nh rh tl rl (u2 I 89 0 (0 : Int32)) L)) rfl ?_
        refine bs_gd (x' := (52, [some (.ref 89), some (.int x1), some (.int x2), none], [.int (I 97 ((((2 : Int32) * x1) + (1 : Int32)).toNatClampNeg))], hp kp nh rh tl rl (u2 I 89 0 (0 : Int32)) L)) rfl hf (fun hc hf => ?_)
        refine bs_st 9 (x' := (63, [some (.ref 89), some (.int x1), some (.int x2), some (.int (I 97 ((((2 : Int32) * x1) + (1 : Int32)).toNatClampNeg)))], [.int x2, .int (((2 : Int32) * x1) + (1 : Int32)), .ref 97], hp kp nh rh tl rl (u2 I 89 0 (0 : Int32)) L)) rfl ?_
        refine bs_gd (x' := (64, [some (.ref 89), some (.int x1), some (.int x2), some (.int (I 97 ((((2 : Int32) * x1) + (1 : Int32)).toNatClampNeg)))], [], hp kp nh rh tl rl (u2 (u2 I 89 0 (0 : Int32)) 97 ((((2 : Int32) * x1) + (1 : Int32)).toNatClampNeg) x2) L)) rfl hf (fun hc hf => ?_)
        refine bs_st 1 (x' := (65, [some (.ref 89), some (.int x1), some (.int x2), some (.int (I 97 ((((2 : Int32) * x1) + (1 : Int32)).toNatClampNeg)))], [.int (I 97 ((((2 : Int32) * x1) + (1 : Int32)).toNatClampNeg))], hp kp nh rh tl rl (u2 (u2 I 89 0 (0 : Int32)) 97 ((((2 : Int32) * x1) + (1 : Int32)).toNatClampNeg) x2) L)) rfl ?_
        cases hf
        exact bs_ret rfl
      · refine bs_st 1 (x' := (41, [some (.ref 89), some (.int x1), some (.int x2), none], [.int (-5 : Int32)], hp kp nh rh tl rl (u2 I 89 0 (0 : Int32)) L)) rfl ?_
        cases hf
        exact bs_ret rfl
    · refine bs_st 1 (x' := (28, [some (.ref 89), some (.int x1), some (.int x2), none], [.int (-2 : Int32)], hp kp nh rh tl rl (u2 I 89 0 (0 : Int32)) L)) rfl ?_
      cases hf
      exact bs_ret rfl
/-- LampRoundsModel.count(I) on (89,) -/
def c_355_1 (n : Nat) (K0 : Int32 → Int32 → FI → FL → Option (Int32 × FI × FL)) (x3 : Int32) (s0 : Int32) (s1 : Int32) (I : FI) (L : FL) : Option (Int32 × FI × FL) :=
  K0 (s1 + s0) (x3 + (1 : Int32)) I L
set_option maxHeartbeats 1000000 in
set_option maxRecDepth 20000 in
theorem tc_355_1 (Ls : Nat) (xs : Nat → Int32) (d : Nat) (kp : Option Nat) (tl : List (Nat × Nat)) (rl : List (List (Option Nat))) (nh : Option Nat) (rh : Option Nat) (n : Nat) (K0 : Int32 → Int32 → FI → FL → Option (Int32 × FI × FL)) (hK0 : ∀ (w1 : Option Value) (x2 : Int32) (x3 : Int32) (I : FI) (L : FL) (r : Int32 × FI × FL), K0 x2 x3 I L = some r → Bs cd_355 (sf 12 rs_12 false 4 (some (.int)) Ls xs (d + 1)) (66, [some (.ref 89), w1, some (.int x2), some (.int x3)], [], hp kp nh rh tl rl I L) (some (.int r.1), hp kp nh rh tl rl r.2.1 r.2.2)) (w1 : Option Value) (w2 : Option Value) (x3 : Int32) (s0 : Int32) (s1 : Int32) (I : FI) (L : FL) (r : Int32 × FI × FL) (hf : c_355_1 n K0 x3 s0 s1 I L = some r) : Bs cd_355 (sf 12 rs_12 false 4 (some (.int)) Ls xs (d + 1)) (87, [some (.ref 89), w1, w2, some (.int x3)], [.int s0, .int s1], hp kp nh rh tl rl I L) (some (.int r.1), hp kp nh rh tl rl r.2.1 r.2.2) := by
  unfold c_355_1 at hf
  refine bs_st 4 (x' := (66, [some (.ref 89), (pcl w1), some (.int (s1 + s0)), some (.int (x3 + (1 : Int32)))], [], hp kp nh rh tl rl I L)) rfl ?_
  exact hK0 (pcl w1) (s1 + s0) (x3 + (1 : Int32)) I L r hf
def b_355_0 (n : Nat) (K0 : Int32 → Int32 → FI → FL → Option (Int32 × FI × FL)) (x2 : Int32) (x3 : Int32) (I : FI) (L : FL) : Option (Int32 × FI × FL) :=
  if (4 : Int32) ≤ x3 then
    some (x2, I, L)
  else
    if pin x3 4 = true then (if ¬ I 90 x3.toNatClampNeg = (-1 : Int32) then
        c_355_1 n K0 x3 (1 : Int32) x2 I L
      else
        c_355_1 n K0 x3 (0 : Int32) x2 I L) else none
def c_355_0 (n : Nat) : Nat → Int32 → Int32 → FI → FL → Option (Int32 × FI × FL)
  | 0, _, _, _, _ => none
  | m + 1, x2, x3, I, L => b_355_0 n (c_355_0 n m) x2 x3 I L
set_option maxHeartbeats 1000000 in
set_option maxRecDepth 20000 in
theorem tc_355_0 (Ls : Nat) (xs : Nat → Int32) (d : Nat) (kp : Option Nat) (tl : List (Nat × Nat)) (rl : List (List (Option Nat))) (nh : Option Nat) (rh : Option Nat) (n : Nat) : ∀ (m : Nat) (w1 : Option Value) (x2 : Int32) (x3 : Int32) (I : FI) (L : FL) (r : Int32 × FI × FL), c_355_0 n m x2 x3 I L = some r → Bs cd_355 (sf 12 rs_12 false 4 (some (.int)) Ls xs (d + 1)) (66, [some (.ref 89), w1, some (.int x2), some (.int x3)], [], hp kp nh rh tl rl I L) (some (.int r.1), hp kp nh rh tl rl r.2.1 r.2.2)
  | 0, w1, x2, x3, I, L, r, hf => by cases hf
  | m + 1, w1, x2, x3, I, L, r, hf => by
    unfold c_355_0 b_355_0 at hf
    have hK0 := tc_355_0 Ls xs d kp tl rl nh rh n m
    refine bs_st 2 (x' := (68, [some (.ref 89), w1, some (.int x2), some (.int x3)], [.int (4 : Int32), .int x3], hp kp nh rh tl rl I L)) rfl ?_
    refine bs_br (t := 95) (e := 71) (lo := [some (.ref 89), w1, some (.int x2), some (.int x3)]) (st := []) (h := hp kp nh rh tl rl I L) rfl hf (fun hc hf => ?_) (fun hc hf => ?_)
    · refine bs_st 1 (x' := (96, [some (.ref 89), w1, some (.int x2), some (.int x3)], [.int x2], hp kp nh rh tl rl I L)) rfl ?_
      cases hf
      exact bs_ret rfl
    · refine bs_st 4 (x' := (77, [some (.ref 89), w1, some (.int x2), some (.int x3)], [.int x3, .ref 90, .int x2], hp kp nh rh tl rl I L)) rfl ?_
      refine bs_gd (x' := (78, [some (.ref 89), w1, some (.int x2), some (.int x3)], [.int (I 90 x3.toNatClampNeg), .int x2], hp kp nh rh tl rl I L)) rfl hf (fun hc hf => ?_)
      refine bs_st 1 (x' := (79, [some (.ref 89), w1, some (.int x2), some (.int x3)], [.int (-1 : Int32), .int (I 90 x3.toNatClampNeg), .int x2], hp kp nh rh tl rl I L)) rfl ?_
      refine bs_br (t := 86) (e := 82) (lo := [some (.ref 89), w1, some (.int x2), some (.int x3)]) (st := [.int x2]) (h := hp kp nh rh tl rl I L) rfl hf (fun hc hf => ?_) (fun hc hf => ?_)
      · refine bs_st 1 (x' := (87, [some (.ref 89), w1, some (.int x2), some (.int x3)], [.int (1 : Int32), .int x2], hp kp nh rh tl rl I L)) rfl ?_
        exact tc_355_1 Ls xs d kp tl rl nh rh n _ hK0 w1 (some (.int x2)) x3 (1 : Int32) x2 I L r hf
      · refine bs_st 2 (x' := (87, [some (.ref 89), w1, some (.int x2), some (.int x3)], [.int (0 : Int32), .int x2], hp kp nh rh tl rl I L)) rfl ?_
        exact tc_355_1 Ls xs d kp tl rl nh rh n _ hK0 w1 (some (.int x2)) x3 (0 : Int32) x2 I L r hf
def f_355 (n : Nat) (x1 : Int32) (I : FI) (L : FL) : Option (Int32 × FI × FL) :=
  (f_201 x1.toInt64 (0 : Int64) (7 : Int64) (u2 I 89 0 (0 : Int32)) L).bind fun q0 =>
  if q0 = 0 then
    if x1.toInt < 8 ∨ 10 < x1.toInt then some ((-1 : Int32), (u2 I 89 0 (0 : Int32)), L) else if x1 = (8 : Int32) then some (I 95 0, (u2 I 89 0 (0 : Int32)), L) else if x1 = (9 : Int32) then some (I 89 6, (u2 I 89 0 (0 : Int32)), L) else if x1 = (10 : Int32) then c_355_0 n n (0 : Int32) (0 : Int32) (u2 I 89 0 (0 : Int32)) L else none
  else
    if pin x1 45 = true then some (I 96 x1.toNatClampNeg, (u2 I 89 0 (0 : Int32)), L) else none
set_option maxHeartbeats 1000000 in
set_option maxRecDepth 20000 in
theorem t_355 (Ls : Nat) (xs : Nat → Int32) (d : Nat) (kp : Option Nat) (tl : List (Nat × Nat)) (rl : List (List (Option Nat))) (nh : Option Nat) (rh : Option Nat) (n : Nat) (x1 : Int32) (I : FI) (L : FL) (r : Int32 × FI × FL) (hf : f_355 n x1 I L = some r) : pEN Ls xs (d + 2) 355 [.ref 89, .int x1] (hp kp nh rh tl rl I L) = some (some (.int r.1), hp kp nh rh tl rl r.2.1 r.2.2) := by
  refine en_run (d := d + 1) (cd := cd_355) (f := (sf 12 rs_12 false 4 (some (.int)) Ls xs (d + 1))) rfl rfl (x := (0, [some (.ref 89), some (.int x1), none, none], [], hp kp nh rh tl rl I L)) rfl rfl (Nat.le_of_ble_eq_true rfl) ?_
  unfold f_355 at hf
  refine bs_st 7 (x' := (11, [some (.ref 89), some (.int x1), none, none], [.long (7 : Int64), .long (0 : Int64), .long x1.toInt64], hp kp nh rh tl rl (u2 I 89 0 (0 : Int32)) L)) rfl ?_
  obtain ⟨q0, hq0, hf⟩ := Option.bind_eq_some_iff.mp hf
  refine bs_call (o := pEN Ls xs (d + 1) 201 [.long x1.toInt64, .long (0 : Int64), .long (7 : Int64)] (hp kp nh rh tl rl (u2 I 89 0 (0 : Int32)) L)) (w := some (.int q0)) (h' := hp kp nh rh tl rl (u2 I 89 0 (0 : Int32)) L) (pc := 14) (lo := [some (.ref 89), some (.int x1), none, none]) (rest := []) rfl (t_201 Ls xs (d + 0) kp tl rl nh rh x1.toInt64 (0 : Int64) (7 : Int64) (u2 I 89 0 (0 : Int32)) L q0 hq0) ?_
  refine bs_br (t := 24) (e := 17) (lo := [some (.ref 89), some (.int x1), none, none]) (st := []) (h := hp kp nh rh tl rl (u2 I 89 0 (0 : Int32)) L) rfl hf (fun hc hf => ?_) (fun hc hf => ?_)
  · refine bs_st 3 (x' := (27, [some (.ref 89), some (.int x1), some (.int (0 : Int32)), none], [.int x1], hp kp nh rh tl rl (u2 I 89 0 (0 : Int32)) L)) rfl ?_
    refine bs_sw (x' := (97, [some (.ref 89), some (.int x1), some (.int (0 : Int32)), none], [], hp kp nh rh tl rl (u2 I 89 0 (0 : Int32)) L)) rfl hf (fun hc hf => ?_) (fun hc hf => ?_)
    · refine bs_st 1 (x' := (98, [some (.ref 89), some (.int x1), some (.int (0 : Int32)), none], [.int (-1 : Int32)], hp kp nh rh tl rl (u2 I 89 0 (0 : Int32)) L)) rfl ?_
      cases hf
      exact bs_ret rfl
    refine bs_cs hf (fun hc hf => ?_) (fun hc0 hf => ?_)
    · refine bs_val hc (x' := (52, [some (.ref 89), some (.int x1), some (.int (0 : Int32)), none], [], hp kp nh rh tl rl (u2 I 89 0 (0 : Int32)) L)) rfl ?_
      refine bs_st 4 (x' := (58, [some (.ref 89), some (.int x1), some (.int (0 : Int32)), none], [.int (I 95 0)], hp kp nh rh tl rl (u2 I 89 0 (0 : Int32)) L)) rfl ?_
      cases hf
      exact bs_ret rfl
    refine bs_cs hf (fun hc hf => ?_) (fun hc1 hf => ?_)
    · refine bs_val hc (x' := (59, [some (.ref 89), some (.int x1), some (.int (0 : Int32)), none], [], hp kp nh rh tl rl (u2 I 89 0 (0 : Int32)) L)) rfl ?_
      refine bs_st 2 (x' := (63, [some (.ref 89), some (.int x1), some (.int (0 : Int32)), none], [.int (I 89 6)], hp kp nh rh tl rl (u2 I 89 0 (0 : Int32)) L)) rfl ?_
      cases hf
      exact bs_ret rfl
    refine bs_cs hf (fun hc hf => ?_) (fun hc2 hf => ?_)
    · refine bs_val hc (x' := (64, [some (.ref 89), some (.int x1), some (.int (0 : Int32)), none], [], hp kp nh rh tl rl (u2 I 89 0 (0 : Int32)) L)) rfl ?_
      refine bs_st 2 (x' := (66, [some (.ref 89), some (.int x1), some (.int (0 : Int32)), some (.int (0 : Int32))], [], hp kp nh rh tl rl (u2 I 89 0 (0 : Int32)) L)) rfl ?_
      exact tc_355_0 Ls xs d kp tl rl nh rh n n (some (.int x1)) (0 : Int32) (0 : Int32) (u2 I 89 0 (0 : Int32)) L r hf
    cases hf
  · refine bs_st 3 (x' := (22, [some (.ref 89), some (.int x1), none, none], [.int x1, .ref 96], hp kp nh rh tl rl (u2 I 89 0 (0 : Int32)) L)) rfl ?_
    refine bs_gd (x' := (23, [some (.ref 89), some (.int x1), none, none], [.int (I 96 x1.toNatClampNeg)], hp kp nh rh tl rl (u2 I 89 0 (0 : Int32)) L)) rfl hf (fun hc hf => ?_)
    cases hf
    exact bs_ret rfl
/-- LampRoundsModel.image(I) on (89,) -/
def f_356 (n : Nat) (x1 : Int32) (I : FI) (L : FL) : Option (Int32 × FI × FL) :=
  (f_201 x1.toInt64 (0 : Int64) (2 : Int64) (u2 I 89 0 (0 : Int32)) L).bind fun q0 =>
  if ¬ q0 = 0 then
    (f_235 n (0 : Int32) ((1 : Int32) + x1) (u2 I 89 0 (0 : Int32)) L).bind fun q1 =>
    if pin x1 3 = true then some ((0 : Int32), (u2 q1.1 102 x1.toNatClampNeg (vp_nar .boolean (1 : Int32))), q1.2) else none
  else
    some ((-2 : Int32), (u2 I 89 0 (0 : Int32)), L)
set_option maxHeartbeats 1000000 in
set_option maxRecDepth 20000 in
theorem t_356 (Ls : Nat) (xs : Nat → Int32) (d : Nat) (kp : Option Nat) (tl : List (Nat × Nat)) (rl : List (List (Option Nat))) (nh : Option Nat) (rh : Option Nat) (n : Nat) (x1 : Int32) (I : FI) (L : FL) (r : Int32 × FI × FL) (hf : f_356 n x1 I L = some r) : pEN Ls xs (d + 3) 356 [.ref 89, .int x1] (hp kp nh rh tl rl I L) = some (some (.int r.1), hp kp nh rh tl rl r.2.1 r.2.2) := by
  refine en_run (d := d + 2) (cd := cd_356) (f := (sf 12 rs_12 false 2 (some (.int)) Ls xs (d + 2))) rfl rfl (x := (0, [some (.ref 89), some (.int x1)], [], hp kp nh rh tl rl I L)) rfl rfl (Nat.le_of_ble_eq_true rfl) ?_
  unfold f_356 at hf
  refine bs_st 7 (x' := (11, [some (.ref 89), some (.int x1)], [.long (2 : Int64), .long (0 : Int64), .long x1.toInt64], hp kp nh rh tl rl (u2 I 89 0 (0 : Int32)) L)) rfl ?_
  obtain ⟨q0, hq0, hf⟩ := Option.bind_eq_some_iff.mp hf
  refine bs_call (o := pEN Ls xs (d + 2) 201 [.long x1.toInt64, .long (0 : Int64), .long (2 : Int64)] (hp kp nh rh tl rl (u2 I 89 0 (0 : Int32)) L)) (w := some (.int q0)) (h' := hp kp nh rh tl rl (u2 I 89 0 (0 : Int32)) L) (pc := 14) (lo := [some (.ref 89), some (.int x1)]) (rest := []) rfl (t_201 Ls xs (d + 1) kp tl rl nh rh x1.toInt64 (0 : Int64) (2 : Int64) (u2 I 89 0 (0 : Int32)) L q0 hq0) ?_
  refine bs_br (t := 20) (e := 17) (lo := [some (.ref 89), some (.int x1)]) (st := []) (h := hp kp nh rh tl rl (u2 I 89 0 (0 : Int32)) L) rfl hf (fun hc hf => ?_) (fun hc hf => ?_)
  · refine bs_st 5 (x' := (25, [some (.ref 89), some (.int x1)], [.int ((1 : Int32) + x1), .int (0 : Int32), .ref 89], hp kp nh rh tl rl (u2 I 89 0 (0 : Int32)) L)) rfl ?_
    obtain ⟨q1, hq1, hf⟩ := Option.bind_eq_some_iff.mp hf
    refine bs_call (o := pEN Ls xs (d + 2) 235 [.ref 89, .int (0 : Int32), .int ((1 : Int32) + x1)] (hp kp nh rh tl rl (u2 I 89 0 (0 : Int32)) L)) (w := none) (h' := hp kp nh rh tl rl q1.1 q1.2) (pc := 28) (lo := [some (.ref 89), some (.int x1)]) (rest := []) rfl (t_235 Ls xs (d + 0) kp tl rl nh rh n (0 : Int32) ((1 : Int32) + x1) (u2 I 89 0 (0 : Int32)) L q1 hq1) ?_
    refine bs_st 4 (x' := (34, [some (.ref 89), some (.int x1)], [.int (1 : Int32), .int x1, .ref 102], hp kp nh rh tl rl q1.1 q1.2)) rfl ?_
    refine bs_gd (x' := (35, [some (.ref 89), some (.int x1)], [], hp kp nh rh tl rl (u2 q1.1 102 x1.toNatClampNeg (vp_nar .boolean (1 : Int32))) q1.2)) rfl hf (fun hc hf => ?_)
    refine bs_st 1 (x' := (36, [some (.ref 89), some (.int x1)], [.int (0 : Int32)], hp kp nh rh tl rl (u2 q1.1 102 x1.toNatClampNeg (vp_nar .boolean (1 : Int32))) q1.2)) rfl ?_
    cases hf
    exact bs_ret rfl
  · refine bs_st 1 (x' := (19, [some (.ref 89), some (.int x1)], [.int (-2 : Int32)], hp kp nh rh tl rl (u2 I 89 0 (0 : Int32)) L)) rfl ?_
    cases hf
    exact bs_ret rfl
/-- LampRoundsModel.back(I) on (89,) -/
def f_357 (n : Nat) (x1 : Int32) (I : FI) (L : FL) : Option (Int32 × FI × FL) :=
  (f_201 x1.toInt64 (0 : Int64) (2 : Int64) (u2 I 89 0 (0 : Int32)) L).bind fun q0 =>
  if ¬ q0 = 0 then
    if pin x1 3 = true then (if ¬ I 102 x1.toNatClampNeg = 0 then
        (f_235 n ((1 : Int32) + x1) (0 : Int32) (u2 I 89 0 (0 : Int32)) L).bind fun q1 =>
        some ((0 : Int32), q1.1, q1.2)
      else
        some ((-6 : Int32), (u2 I 89 0 (0 : Int32)), L)) else none
  else
    some ((-2 : Int32), (u2 I 89 0 (0 : Int32)), L)
set_option maxHeartbeats 1000000 in
set_option maxRecDepth 20000 in
theorem t_357 (Ls : Nat) (xs : Nat → Int32) (d : Nat) (kp : Option Nat) (tl : List (Nat × Nat)) (rl : List (List (Option Nat))) (nh : Option Nat) (rh : Option Nat) (n : Nat) (x1 : Int32) (I : FI) (L : FL) (r : Int32 × FI × FL) (hf : f_357 n x1 I L = some r) : pEN Ls xs (d + 3) 357 [.ref 89, .int x1] (hp kp nh rh tl rl I L) = some (some (.int r.1), hp kp nh rh tl rl r.2.1 r.2.2) := by
  refine en_run (d := d + 2) (cd := cd_357) (f := (sf 12 rs_12 false 2 (some (.int)) Ls xs (d + 2))) rfl rfl (x := (0, [some (.ref 89), some (.int x1)], [], hp kp nh rh tl rl I L)) rfl rfl (Nat.le_of_ble_eq_true rfl) ?_
  unfold f_357 at hf
  refine bs_st 7 (x' := (11, [some (.ref 89), some (.int x1)], [.long (2 : Int64), .long (0 : Int64), .long x1.toInt64], hp kp nh rh tl rl (u2 I 89 0 (0 : Int32)) L)) rfl ?_
  obtain ⟨q0, hq0, hf⟩ := Option.bind_eq_some_iff.mp hf
  refine bs_call (o := pEN Ls xs (d + 2) 201 [.long x1.toInt64, .long (0 : Int64), .long (2 : Int64)] (hp kp nh rh tl rl (u2 I 89 0 (0 : Int32)) L)) (w := some (.int q0)) (h' := hp kp nh rh tl rl (u2 I 89 0 (0 : Int32)) L) (pc := 14) (lo := [some (.ref 89), some (.int x1)]) (rest := []) rfl (t_201 Ls xs (d + 1) kp tl rl nh rh x1.toInt64 (0 : Int64) (2 : Int64) (u2 I 89 0 (0 : Int32)) L q0 hq0) ?_
  refine bs_br (t := 20) (e := 17) (lo := [some (.ref 89), some (.int x1)]) (st := []) (h := hp kp nh rh tl rl (u2 I 89 0 (0 : Int32)) L) rfl hf (fun hc hf => ?_) (fun hc hf => ?_)
  · refine bs_st 3 (x' := (25, [some (.ref 89), some (.int x1)], [.int x1, .ref 102], hp kp nh rh tl rl (u2 I 89 0 (0 : Int32)) L)) rfl ?_
    refine bs_gd (x' := (26, [some (.ref 89), some (.int x1)], [.int (I 102 x1.toNatClampNeg)], hp kp nh rh tl rl (u2 I 89 0 (0 : Int32)) L)) rfl hf (fun hc hf => ?_)
    refine bs_br (t := 32) (e := 29) (lo := [some (.ref 89), some (.int x1)]) (st := []) (h := hp kp nh rh tl rl (u2 I 89 0 (0 : Int32)) L) rfl hf (fun hc hf => ?_) (fun hc hf => ?_)
    · refine bs_st 5 (x' := (37, [some (.ref 89), some (.int x1)], [.int (0 : Int32), .int ((1 : Int32) + x1), .ref 89], hp kp nh rh tl rl (u2 I 89 0 (0 : Int32)) L)) rfl ?_
      obtain ⟨q1, hq1, hf⟩ := Option.bind_eq_some_iff.mp hf
      refine bs_call (o := pEN Ls xs (d + 2) 235 [.ref 89, .int ((1 : Int32) + x1), .int (0 : Int32)] (hp kp nh rh tl rl (u2 I 89 0 (0 : Int32)) L)) (w := none) (h' := hp kp nh rh tl rl q1.1 q1.2) (pc := 40) (lo := [some (.ref 89), some (.int x1)]) (rest := []) rfl (t_235 Ls xs (d + 0) kp tl rl nh rh n ((1 : Int32) + x1) (0 : Int32) (u2 I 89 0 (0 : Int32)) L q1 hq1) ?_
      refine bs_st 1 (x' := (41, [some (.ref 89), some (.int x1)], [.int (0 : Int32)], hp kp nh rh tl rl q1.1 q1.2)) rfl ?_
      cases hf
      exact bs_ret rfl
    · refine bs_st 1 (x' := (31, [some (.ref 89), some (.int x1)], [.int (-6 : Int32)], hp kp nh rh tl rl (u2 I 89 0 (0 : Int32)) L)) rfl ?_
      cases hf
      exact bs_ret rfl
  · refine bs_st 1 (x' := (19, [some (.ref 89), some (.int x1)], [.int (-2 : Int32)], hp kp nh rh tl rl (u2 I 89 0 (0 : Int32)) L)) rfl ?_
    cases hf
    exact bs_ret rfl
