/-- LampRoundsModel.ageOf(I) on (89,) -/
def b_288_0 (n : Nat) (K0 : Int32 → Int32 → FI → FL → Option (FI × FL)) (x2 : Int32) (x3 : Int32) (I : FI) (L : FL) : Option (FI × FL) :=
  if x3 < 0 then
    some (I, L)
  else
    if pin x3 4 = true then K0 (x2 / (8 : Int32)) (x3 + (-1 : Int32)) (u2 I 105 x3.toNatClampNeg (x2 - x2 / (8 : Int32) * (8 : Int32))) L else none
def c_288_0 (n : Nat) : Nat → Int32 → Int32 → FI → FL → Option (FI × FL)
  | 0, _, _, _, _ => none
  | m + 1, x2, x3, I, L => b_288_0 n (c_288_0 n m) x2 x3 I L
set_option maxHeartbeats 1000000 in
set_option maxRecDepth 20000 in
theorem tc_288_0 (Ls : Nat) (xs : Nat → Int32) (d : Nat) (kp : Option Nat) (tl : List (Nat × Nat)) (rl : List (List (Option Nat))) (nh : Option Nat) (rh : Option Nat) (n : Nat) : ∀ (m : Nat) (w1 : Option Value) (x2 : Int32) (x3 : Int32) (I : FI) (L : FL) (r : FI × FL), c_288_0 n m x2 x3 I L = some r → Bs cd_288 (sf 12 rs_12 false 4 none Ls xs (d + 1)) (9, [some (.ref 89), w1, some (.int x2), some (.int x3)], [], hp kp nh rh tl rl I L) (none, hp kp nh rh tl rl r.1 r.2)
  | 0, w1, x2, x3, I, L, r, hf => by cases hf
  | m + 1, w1, x2, x3, I, L, r, hf => by
    unfold c_288_0 b_288_0 at hf
    have hK0 := tc_288_0 Ls xs d kp tl rl nh rh n m
    refine bs_st 1 (x' := (10, [some (.ref 89), w1, some (.int x2), some (.int x3)], [.int x3], hp kp nh rh tl rl I L)) rfl ?_
    refine bs_br (t := 34) (e := 13) (lo := [some (.ref 89), w1, some (.int x2), some (.int x3)]) (st := []) (h := hp kp nh rh tl rl I L) rfl hf (fun hc hf => ?_) (fun hc hf => ?_)
    · cases hf
      exact bs_ret rfl
    · refine bs_st 6 (x' := (22, [some (.ref 89), w1, some (.int x2), some (.int x3)], [.int (x2 - x2 / (8 : Int32) * (8 : Int32)), .int x3, .ref 105], hp kp nh rh tl rl I L)) rfl ?_
      refine bs_gd (x' := (23, [some (.ref 89), w1, some (.int x2), some (.int x3)], [], hp kp nh rh tl rl (u2 I 105 x3.toNatClampNeg (x2 - x2 / (8 : Int32) * (8 : Int32))) L)) rfl hf (fun hc hf => ?_)
      refine bs_st 6 (x' := (9, [some (.ref 89), (pcl w1), some (.int (x2 / (8 : Int32))), some (.int (x3 + (-1 : Int32)))], [], hp kp nh rh tl rl (u2 I 105 x3.toNatClampNeg (x2 - x2 / (8 : Int32) * (8 : Int32))) L)) rfl ?_
      exact hK0 (pcl w1) (x2 / (8 : Int32)) (x3 + (-1 : Int32)) (u2 I 105 x3.toNatClampNeg (x2 - x2 / (8 : Int32) * (8 : Int32))) L r hf
def f_288 (n : Nat) (x1 : Int32) (I : FI) (L : FL) : Option (FI × FL) :=
  (f_237 I L).bind fun q0 =>
  c_288_0 n n x1 (q0 - (1 : Int32)) I L
set_option maxHeartbeats 1000000 in
set_option maxRecDepth 20000 in
theorem t_288 (Ls : Nat) (xs : Nat → Int32) (d : Nat) (kp : Option Nat) (tl : List (Nat × Nat)) (rl : List (List (Option Nat))) (nh : Option Nat) (rh : Option Nat) (n : Nat) (x1 : Int32) (I : FI) (L : FL) (r : FI × FL) (hf : f_288 n x1 I L = some r) : pEN Ls xs (d + 2) 288 [.ref 89, .int x1] (hp kp nh rh tl rl I L) = some (none, hp kp nh rh tl rl r.1 r.2) := by
  refine en_run (d := d + 1) (cd := cd_288) (f := (sf 12 rs_12 false 4 none Ls xs (d + 1))) rfl rfl (x := (0, [some (.ref 89), some (.int x1), none, none], [], hp kp nh rh tl rl I L)) rfl rfl (Nat.le_of_ble_eq_true rfl) ?_
  unfold f_288 at hf
  refine bs_st 3 (x' := (3, [some (.ref 89), some (.int x1), some (.int x1), none], [.ref 89], hp kp nh rh tl rl I L)) rfl ?_
  obtain ⟨q0, hq0, hf⟩ := Option.bind_eq_some_iff.mp hf
  refine bs_call (o := pEN Ls xs (d + 1) 237 [.ref 89] (hp kp nh rh tl rl I L)) (w := some (.int q0)) (h' := hp kp nh rh tl rl I L) (pc := 6) (lo := [some (.ref 89), some (.int x1), some (.int x1), none]) (rest := []) rfl (t_237 Ls xs (d + 0) kp tl rl nh rh I L q0 hq0) ?_
  refine bs_st 3 (x' := (9, [some (.ref 89), some (.int x1), some (.int x1), some (.int (q0 - (1 : Int32)))], [], hp kp nh rh tl rl I L)) rfl ?_
  exact tc_288_0 Ls xs d kp tl rl nh rh n n (some (.int x1)) x1 (q0 - (1 : Int32)) I L r hf
/-- LampRoundsModel.heOf(I) on (89,) -/
def b_289_0 (n : Nat) (I : FI) (L : FL) (K0 : Int32 → Int32 → Option (Int32)) (x2 : Int32) (x3 : Int32) : Option (Int32) :=
  (f_237 I L).bind fun q0 =>
  if q0 ≤ x3 then
    some (x2)
  else
    K0 (x2 / (8 : Int32)) (x3 + (1 : Int32))
def c_289_0 (n : Nat) (I : FI) (L : FL) : Nat → Int32 → Int32 → Option (Int32)
  | 0, _, _ => none
  | m + 1, x2, x3 => b_289_0 n I L (c_289_0 n I L m) x2 x3
set_option maxHeartbeats 1000000 in
set_option maxRecDepth 20000 in
theorem tc_289_0 (Ls : Nat) (xs : Nat → Int32) (d : Nat) (kp : Option Nat) (tl : List (Nat × Nat)) (rl : List (List (Option Nat))) (nh : Option Nat) (rh : Option Nat) (n : Nat) (I : FI) (L : FL) : ∀ (m : Nat) (w1 : Option Value) (x2 : Int32) (x3 : Int32) (r : Int32), c_289_0 n I L m x2 x3 = some r → Bs cd_289 (sf 12 rs_12 false 4 (some (.int)) Ls xs (d + 1)) (4, [some (.ref 89), w1, some (.int x2), some (.int x3)], [], hp kp nh rh tl rl I L) (some (.int r), hp kp nh rh tl rl I L)
  | 0, w1, x2, x3, r, hf => by cases hf
  | m + 1, w1, x2, x3, r, hf => by
    unfold c_289_0 b_289_0 at hf
    have hK0 := tc_289_0 Ls xs d kp tl rl nh rh n I L m
    refine bs_st 2 (x' := (6, [some (.ref 89), w1, some (.int x2), some (.int x3)], [.ref 89, .int x3], hp kp nh rh tl rl I L)) rfl ?_
    obtain ⟨q0, hq0, hf⟩ := Option.bind_eq_some_iff.mp hf
    refine bs_call (o := pEN Ls xs (d + 1) 237 [.ref 89] (hp kp nh rh tl rl I L)) (w := some (.int q0)) (h' := hp kp nh rh tl rl I L) (pc := 9) (lo := [some (.ref 89), w1, some (.int x2), some (.int x3)]) (rest := [.int x3]) rfl (t_237 Ls xs (d + 0) kp tl rl nh rh I L q0 hq0) ?_
    refine bs_br (t := 23) (e := 12) (lo := [some (.ref 89), w1, some (.int x2), some (.int x3)]) (st := []) (h := hp kp nh rh tl rl I L) rfl hf (fun hc hf => ?_) (fun hc hf => ?_)
    · refine bs_st 1 (x' := (24, [some (.ref 89), w1, some (.int x2), some (.int x3)], [.int x2], hp kp nh rh tl rl I L)) rfl ?_
      cases hf
      exact bs_ret rfl
    · refine bs_st 6 (x' := (4, [some (.ref 89), (pcl w1), some (.int (x2 / (8 : Int32))), some (.int (x3 + (1 : Int32)))], [], hp kp nh rh tl rl I L)) rfl ?_
      exact hK0 (pcl w1) (x2 / (8 : Int32)) (x3 + (1 : Int32)) r hf
def f_289 (n : Nat) (x1 : Int32) (I : FI) (L : FL) : Option (Int32) :=
  c_289_0 n I L n x1 (0 : Int32)
set_option maxHeartbeats 1000000 in
set_option maxRecDepth 20000 in
theorem t_289 (Ls : Nat) (xs : Nat → Int32) (d : Nat) (kp : Option Nat) (tl : List (Nat × Nat)) (rl : List (List (Option Nat))) (nh : Option Nat) (rh : Option Nat) (n : Nat) (x1 : Int32) (I : FI) (L : FL) (r : Int32) (hf : f_289 n x1 I L = some r) : pEN Ls xs (d + 2) 289 [.ref 89, .int x1] (hp kp nh rh tl rl I L) = some (some (.int r), hp kp nh rh tl rl I L) := by
  refine en_run (d := d + 1) (cd := cd_289) (f := (sf 12 rs_12 false 4 (some (.int)) Ls xs (d + 1))) rfl rfl (x := (0, [some (.ref 89), some (.int x1), none, none], [], hp kp nh rh tl rl I L)) rfl rfl (Nat.le_of_ble_eq_true rfl) ?_
  unfold f_289 at hf
  refine bs_st 4 (x' := (4, [some (.ref 89), some (.int x1), some (.int x1), some (.int (0 : Int32))], [], hp kp nh rh tl rl I L)) rfl ?_
  exact tc_289_0 Ls xs d kp tl rl nh rh n I L n (some (.int x1)) x1 (0 : Int32) r hf
/-- LampRoundsModel.allBurn(I) on (89,) -/
def c_290_1 (n : Nat) (I : FI) (L : FL) (K0 : Int32 → Int32 → Option (Int32)) (x1 : Int32) (x2 : Int32) : Option (Int32) :=
  K0 x1 (x2 + (1 : Int32))
set_option maxHeartbeats 1000000 in
set_option maxRecDepth 20000 in
theorem tc_290_1 (Ls : Nat) (xs : Nat → Int32) (d : Nat) (kp : Option Nat) (tl : List (Nat × Nat)) (rl : List (List (Option Nat))) (nh : Option Nat) (rh : Option Nat) (n : Nat) (I : FI) (L : FL) (K0 : Int32 → Int32 → Option (Int32)) (hK0 : ∀ (x1 : Int32) (x2 : Int32) (r : Int32), K0 x1 x2 = some r → Bs cd_290 (sf 12 rs_12 false 3 (some (.boolean)) Ls xs (d + 1)) (2, [some (.ref 89), some (.int x1), some (.int x2)], [], hp kp nh rh tl rl I L) (some (.int r), hp kp nh rh tl rl I L)) (x1 : Int32) (x2 : Int32) (r : Int32) (hf : c_290_1 n I L K0 x1 x2 = some r) : Bs cd_290 (sf 12 rs_12 false 3 (some (.boolean)) Ls xs (d + 1)) (35, [some (.ref 89), some (.int x1), some (.int x2)], [], hp kp nh rh tl rl I L) (some (.int r), hp kp nh rh tl rl I L) := by
  unfold c_290_1 at hf
  refine bs_st 2 (x' := (2, [some (.ref 89), some (.int x1), some (.int (x2 + (1 : Int32)))], [], hp kp nh rh tl rl I L)) rfl ?_
  exact hK0 x1 (x2 + (1 : Int32)) r hf
def b_290_0 (n : Nat) (I : FI) (L : FL) (K0 : Int32 → Int32 → Option (Int32)) (x1 : Int32) (x2 : Int32) : Option (Int32) :=
  (f_237 I L).bind fun q0 =>
  if q0 ≤ x2 then
    some ((1 : Int32))
  else
    (f_247 x1 x2 I L).bind fun q1 =>
    if q1 = 0 then
      c_290_1 n I L K0 x1 x2
    else
      if pin x2 4 = true then (if pin x2 4 = true then (if I 105 x2.toNatClampNeg ≤ I 104 x2.toNatClampNeg then
            c_290_1 n I L K0 x1 x2
          else
            some ((0 : Int32))) else none) else none
def c_290_0 (n : Nat) (I : FI) (L : FL) : Nat → Int32 → Int32 → Option (Int32)
  | 0, _, _ => none
  | m + 1, x1, x2 => b_290_0 n I L (c_290_0 n I L m) x1 x2
set_option maxHeartbeats 1000000 in
set_option maxRecDepth 20000 in
theorem tc_290_0 (Ls : Nat) (xs : Nat → Int32) (d : Nat) (kp : Option Nat) (tl : List (Nat × Nat)) (rl : List (List (Option Nat))) (nh : Option Nat) (rh : Option Nat) (n : Nat) (I : FI) (L : FL) : ∀ (m : Nat) (x1 : Int32) (x2 : Int32) (r : Int32), c_290_0 n I L m x1 x2 = some r → Bs cd_290 (sf 12 rs_12 false 3 (some (.boolean)) Ls xs (d + 1)) (2, [some (.ref 89), some (.int x1), some (.int x2)], [], hp kp nh rh tl rl I L) (some (.int r), hp kp nh rh tl rl I L)
  | 0, x1, x2, r, hf => by cases hf
  | m + 1, x1, x2, r, hf => by
    unfold c_290_0 b_290_0 at hf
    have hK0 := tc_290_0 Ls xs d kp tl rl nh rh n I L m
    refine bs_st 2 (x' := (4, [some (.ref 89), some (.int x1), some (.int x2)], [.ref 89, .int x2], hp kp nh rh tl rl I L)) rfl ?_
    obtain ⟨q0, hq0, hf⟩ := Option.bind_eq_some_iff.mp hf
    refine bs_call (o := pEN Ls xs (d + 1) 237 [.ref 89] (hp kp nh rh tl rl I L)) (w := some (.int q0)) (h' := hp kp nh rh tl rl I L) (pc := 7) (lo := [some (.ref 89), some (.int x1), some (.int x2)]) (rest := [.int x2]) rfl (t_237 Ls xs (d + 0) kp tl rl nh rh I L q0 hq0) ?_
    refine bs_br (t := 41) (e := 10) (lo := [some (.ref 89), some (.int x1), some (.int x2)]) (st := []) (h := hp kp nh rh tl rl I L) rfl hf (fun hc hf => ?_) (fun hc hf => ?_)
    · refine bs_st 1 (x' := (42, [some (.ref 89), some (.int x1), some (.int x2)], [.int (1 : Int32)], hp kp nh rh tl rl I L)) rfl ?_
      cases hf
      exact bs_ret rfl
    · refine bs_st 2 (x' := (12, [some (.ref 89), some (.int x1), some (.int x2)], [.int x2, .int x1], hp kp nh rh tl rl I L)) rfl ?_
      obtain ⟨q1, hq1, hf⟩ := Option.bind_eq_some_iff.mp hf
      refine bs_call (o := pEN Ls xs (d + 1) 247 [.int x1, .int x2] (hp kp nh rh tl rl I L)) (w := some (.int q1)) (h' := hp kp nh rh tl rl I L) (pc := 15) (lo := [some (.ref 89), some (.int x1), some (.int x2)]) (rest := []) rfl (t_247 Ls xs (d + 0) kp tl rl nh rh x1 x2 I L q1 hq1) ?_
      refine bs_br (t := 35) (e := 18) (lo := [some (.ref 89), some (.int x1), some (.int x2)]) (st := []) (h := hp kp nh rh tl rl I L) rfl hf (fun hc hf => ?_) (fun hc hf => ?_)
      · exact tc_290_1 Ls xs d kp tl rl nh rh n I L _ hK0 x1 x2 r hf
      · refine bs_st 3 (x' := (23, [some (.ref 89), some (.int x1), some (.int x2)], [.int x2, .ref 105], hp kp nh rh tl rl I L)) rfl ?_
        refine bs_gd (x' := (24, [some (.ref 89), some (.int x1), some (.int x2)], [.int (I 105 x2.toNatClampNeg)], hp kp nh rh tl rl I L)) rfl hf (fun hc hf => ?_)
        refine bs_st 3 (x' := (29, [some (.ref 89), some (.int x1), some (.int x2)], [.int x2, .ref 104, .int (I 105 x2.toNatClampNeg)], hp kp nh rh tl rl I L)) rfl ?_
        refine bs_gd (x' := (30, [some (.ref 89), some (.int x1), some (.int x2)], [.int (I 104 x2.toNatClampNeg), .int (I 105 x2.toNatClampNeg)], hp kp nh rh tl rl I L)) rfl hf (fun hc hf => ?_)
        refine bs_br (t := 35) (e := 33) (lo := [some (.ref 89), some (.int x1), some (.int x2)]) (st := []) (h := hp kp nh rh tl rl I L) rfl hf (fun hc hf => ?_) (fun hc hf => ?_)
        · exact tc_290_1 Ls xs d kp tl rl nh rh n I L _ hK0 x1 x2 r hf
        · refine bs_st 1 (x' := (34, [some (.ref 89), some (.int x1), some (.int x2)], [.int (0 : Int32)], hp kp nh rh tl rl I L)) rfl ?_
          cases hf
          exact bs_ret rfl
def f_290 (n : Nat) (x1 : Int32) (I : FI) (L : FL) : Option (Int32) :=
  c_290_0 n I L n x1 (0 : Int32)
set_option maxHeartbeats 1000000 in
set_option maxRecDepth 20000 in
theorem t_290 (Ls : Nat) (xs : Nat → Int32) (d : Nat) (kp : Option Nat) (tl : List (Nat × Nat)) (rl : List (List (Option Nat))) (nh : Option Nat) (rh : Option Nat) (n : Nat) (x1 : Int32) (I : FI) (L : FL) (r : Int32) (hf : f_290 n x1 I L = some r) : pEN Ls xs (d + 2) 290 [.ref 89, .int x1] (hp kp nh rh tl rl I L) = some (some (.int r), hp kp nh rh tl rl I L) := by
  refine en_run (d := d + 1) (cd := cd_290) (f := (sf 12 rs_12 false 3 (some (.boolean)) Ls xs (d + 1))) rfl rfl (x := (0, [some (.ref 89), some (.int x1), none], [], hp kp nh rh tl rl I L)) rfl rfl (Nat.le_of_ble_eq_true rfl) ?_
  unfold f_290 at hf
  refine bs_st 2 (x' := (2, [some (.ref 89), some (.int x1), some (.int (0 : Int32))], [], hp kp nh rh tl rl I L)) rfl ?_
  exact tc_290_0 Ls xs d kp tl rl nh rh n I L n x1 (0 : Int32) r hf
/-- LampRoundsModel.isGoing(III) on (89,) -/
def f_291 (n : Nat) (x1 : Int32) (x2 : Int32) (x3 : Int32) (I : FI) (L : FL) : Option (Int32 × FI × FL) :=
  (f_289 n x1 I L).bind fun q0 =>
  (f_250 n q0 x2 I L).bind fun q1 =>
  if ¬ q1 = 0 then
    (f_288 n x1 I L).bind fun q2 =>
    (f_253 n x2 q0 (0 : Int32) q2.1 q2.2).bind fun q3 =>
    (f_290 n x3 q3.1 q3.2).bind fun q4 =>
    if q4 = 0 then
      some ((0 : Int32), q3.1, q3.2)
    else
      (f_287 n x2 x3 q3.1 q3.2).bind fun q5 =>
      if pin q5 16384 = true then (if q3.1 109 q5.toNatClampNeg = 0 then
          some ((0 : Int32), q3.1, q3.2)
        else
          some ((1 : Int32), q3.1, q3.2)) else none
  else
    some ((0 : Int32), I, L)
set_option maxHeartbeats 1000000 in
set_option maxRecDepth 20000 in
theorem t_291 (Ls : Nat) (xs : Nat → Int32) (d : Nat) (kp : Option Nat) (tl : List (Nat × Nat)) (rl : List (List (Option Nat))) (nh : Option Nat) (rh : Option Nat) (n : Nat) (x1 : Int32) (x2 : Int32) (x3 : Int32) (I : FI) (L : FL) (r : Int32 × FI × FL) (hf : f_291 n x1 x2 x3 I L = some r) : pEN Ls xs (d + 3) 291 [.ref 89, .int x1, .int x2, .int x3] (hp kp nh rh tl rl I L) = some (some (.int r.1), hp kp nh rh tl rl r.2.1 r.2.2) := by
  refine en_run (d := d + 2) (cd := cd_291) (f := (sf 12 rs_12 false 5 (some (.boolean)) Ls xs (d + 2))) rfl rfl (x := (0, [some (.ref 89), some (.int x1), some (.int x2), some (.int x3), none], [], hp kp nh rh tl rl I L)) rfl rfl (Nat.le_of_ble_eq_true rfl) ?_
  unfold f_291 at hf
  refine bs_st 2 (x' := (2, [some (.ref 89), some (.int x1), some (.int x2), some (.int x3), none], [.int x1, .ref 89], hp kp nh rh tl rl I L)) rfl ?_
  obtain ⟨q0, hq0, hf⟩ := Option.bind_eq_some_iff.mp hf
  refine bs_call (o := pEN Ls xs (d + 2) 289 [.ref 89, .int x1] (hp kp nh rh tl rl I L)) (w := some (.int q0)) (h' := hp kp nh rh tl rl I L) (pc := 5) (lo := [some (.ref 89), some (.int x1), some (.int x2), some (.int x3), none]) (rest := []) rfl (t_289 Ls xs (d + 0) kp tl rl nh rh n x1 I L q0 hq0) ?_
  refine bs_st 4 (x' := (11, [some (.ref 89), some (.int x1), some (.int x2), some (.int x3), some (.int q0)], [.int x2, .int q0, .ref 89], hp kp nh rh tl rl I L)) rfl ?_
  obtain ⟨q1, hq1, hf⟩ := Option.bind_eq_some_iff.mp hf
  refine bs_call (o := pEN Ls xs (d + 2) 250 [.ref 89, .int q0, .int x2] (hp kp nh rh tl rl I L)) (w := some (.int q1)) (h' := hp kp nh rh tl rl I L) (pc := 14) (lo := [some (.ref 89), some (.int x1), some (.int x2), some (.int x3), some (.int q0)]) (rest := []) rfl (t_250 Ls xs (d + 0) kp tl rl nh rh n q0 x2 I L q1 hq1) ?_
  refine bs_br (t := 19) (e := 17) (lo := [some (.ref 89), some (.int x1), some (.int x2), some (.int x3), some (.int q0)]) (st := []) (h := hp kp nh rh tl rl I L) rfl hf (fun hc hf => ?_) (fun hc hf => ?_)
  · refine bs_st 2 (x' := (21, [some (.ref 89), some (.int x1), some (.int x2), some (.int x3), some (.int q0)], [.int x1, .ref 89], hp kp nh rh tl rl I L)) rfl ?_
    obtain ⟨q2, hq2, hf⟩ := Option.bind_eq_some_iff.mp hf
    refine bs_call (o := pEN Ls xs (d + 2) 288 [.ref 89, .int x1] (hp kp nh rh tl rl I L)) (w := none) (h' := hp kp nh rh tl rl q2.1 q2.2) (pc := 24) (lo := [some (.ref 89), some (.int x1), some (.int x2), some (.int x3), some (.int q0)]) (rest := []) rfl (t_288 Ls xs (d + 0) kp tl rl nh rh n x1 I L q2 hq2) ?_
    refine bs_st 4 (x' := (29, [some (.ref 89), some (.int x1), some (.int x2), some (.int x3), some (.int q0)], [.int (0 : Int32), .int q0, .int x2, .ref 89], hp kp nh rh tl rl q2.1 q2.2)) rfl ?_
    obtain ⟨q3, hq3, hf⟩ := Option.bind_eq_some_iff.mp hf
    refine bs_call (o := pEN Ls xs (d + 2) 253 [.ref 89, .int x2, .int q0, .int (0 : Int32)] (hp kp nh rh tl rl q2.1 q2.2)) (w := none) (h' := hp kp nh rh tl rl q3.1 q3.2) (pc := 32) (lo := [some (.ref 89), some (.int x1), some (.int x2), some (.int x3), some (.int q0)]) (rest := []) rfl (t_253 Ls xs (d + 0) kp tl rl nh rh n x2 q0 (0 : Int32) q2.1 q2.2 q3 hq3) ?_
    refine bs_st 2 (x' := (34, [some (.ref 89), some (.int x1), some (.int x2), some (.int x3), some (.int q0)], [.int x3, .ref 89], hp kp nh rh tl rl q3.1 q3.2)) rfl ?_
    obtain ⟨q4, hq4, hf⟩ := Option.bind_eq_some_iff.mp hf
    refine bs_call (o := pEN Ls xs (d + 2) 290 [.ref 89, .int x3] (hp kp nh rh tl rl q3.1 q3.2)) (w := some (.int q4)) (h' := hp kp nh rh tl rl q3.1 q3.2) (pc := 37) (lo := [some (.ref 89), some (.int x1), some (.int x2), some (.int x3), some (.int q0)]) (rest := []) rfl (t_290 Ls xs (d + 0) kp tl rl nh rh n x3 q3.1 q3.2 q4 hq4) ?_
    refine bs_br (t := 58) (e := 40) (lo := [some (.ref 89), some (.int x1), some (.int x2), some (.int x3), some (.int q0)]) (st := []) (h := hp kp nh rh tl rl q3.1 q3.2) rfl hf (fun hc hf => ?_) (fun hc hf => ?_)
    · refine bs_st 1 (x' := (59, [some (.ref 89), some (.int x1), some (.int x2), some (.int x3), some (.int q0)], [.int (0 : Int32)], hp kp nh rh tl rl q3.1 q3.2)) rfl ?_
      cases hf
      exact bs_ret rfl
    · refine bs_st 5 (x' := (47, [some (.ref 89), some (.int x1), some (.int x2), some (.int x3), some (.int q0)], [.int x3, .int x2, .ref 89, .ref 109], hp kp nh rh tl rl q3.1 q3.2)) rfl ?_
      obtain ⟨q5, hq5, hf⟩ := Option.bind_eq_some_iff.mp hf
      refine bs_call (o := pEN Ls xs (d + 2) 287 [.ref 89, .int x2, .int x3] (hp kp nh rh tl rl q3.1 q3.2)) (w := some (.int q5)) (h' := hp kp nh rh tl rl q3.1 q3.2) (pc := 50) (lo := [some (.ref 89), some (.int x1), some (.int x2), some (.int x3), some (.int q0)]) (rest := [.ref 109]) rfl (t_287 Ls xs (d + 0) kp tl rl nh rh n x2 x3 q3.1 q3.2 q5 hq5) ?_
      refine bs_gd (x' := (51, [some (.ref 89), some (.int x1), some (.int x2), some (.int x3), some (.int q0)], [.int (q3.1 109 q5.toNatClampNeg)], hp kp nh rh tl rl q3.1 q3.2)) rfl hf (fun hc hf => ?_)
      refine bs_br (t := 58) (e := 54) (lo := [some (.ref 89), some (.int x1), some (.int x2), some (.int x3), some (.int q0)]) (st := []) (h := hp kp nh rh tl rl q3.1 q3.2) rfl hf (fun hc hf => ?_) (fun hc hf => ?_)
      · refine bs_st 1 (x' := (59, [some (.ref 89), some (.int x1), some (.int x2), some (.int x3), some (.int q0)], [.int (0 : Int32)], hp kp nh rh tl rl q3.1 q3.2)) rfl ?_
        cases hf
        exact bs_ret rfl
      · refine bs_st 2 (x' := (59, [some (.ref 89), some (.int x1), some (.int x2), some (.int x3), some (.int q0)], [.int (1 : Int32)], hp kp nh rh tl rl q3.1 q3.2)) rfl ?_
        cases hf
        exact bs_ret rfl
  · refine bs_st 1 (x' := (18, [some (.ref 89), some (.int x1), some (.int x2), some (.int x3), some (.int q0)], [.int (0 : Int32)], hp kp nh rh tl rl I L)) rfl ?_
    cases hf
    exact bs_ret rfl
/-- LampRoundsModel.isLiving(II) on (89,) -/
def b_292_0 (n : Nat) (K0 : Int32 → Int32 → Int32 → FI → FL → Option (Int32 × FI × FL)) (x1 : Int32) (x2 : Int32) (x3 : Int32) (I : FI) (L : FL) : Option (Int32 × FI × FL) :=
  (f_237 I L).bind fun q0 =>
  if q0 ≤ x3 then
    some ((0 : Int32), I, L)
  else
    (f_291 n x1 x3 x2 I L).bind fun q1 =>
    if q1.1 = 0 then
      K0 x1 x2 (x3 + (1 : Int32)) q1.2.1 q1.2.2
    else
      some ((1 : Int32), q1.2.1, q1.2.2)
def c_292_0 (n : Nat) : Nat → Int32 → Int32 → Int32 → FI → FL → Option (Int32 × FI × FL)
  | 0, _, _, _, _, _ => none
  | m + 1, x1, x2, x3, I, L => b_292_0 n (c_292_0 n m) x1 x2 x3 I L
set_option maxHeartbeats 1000000 in
set_option maxRecDepth 20000 in
theorem tc_292_0 (Ls : Nat) (xs : Nat → Int32) (d : Nat) (kp : Option Nat) (tl : List (Nat × Nat)) (rl : List (List (Option Nat))) (nh : Option Nat) (rh : Option Nat) (n : Nat) : ∀ (m : Nat) (x1 : Int32) (x2 : Int32) (x3 : Int32) (I : FI) (L : FL) (r : Int32 × FI × FL), c_292_0 n m x1 x2 x3 I L = some r → Bs cd_292 (sf 12 rs_12 false 4 (some (.boolean)) Ls xs (d + 3)) (2, [some (.ref 89), some (.int x1), some (.int x2), some (.int x3)], [], hp kp nh rh tl rl I L) (some (.int r.1), hp kp nh rh tl rl r.2.1 r.2.2)
  | 0, x1, x2, x3, I, L, r, hf => by cases hf
  | m + 1, x1, x2, x3, I, L, r, hf => by
    unfold c_292_0 b_292_0 at hf
    have hK0 := tc_292_0 Ls xs d kp tl rl nh rh n m
    refine bs_st 2 (x' := (4, [some (.ref 89), some (.int x1), some (.int x2), some (.int x3)], [.ref 89, .int x3], hp kp nh rh tl rl I L)) rfl ?_
    obtain ⟨q0, hq0, hf⟩ := Option.bind_eq_some_iff.mp hf
    refine bs_call (o := pEN Ls xs (d + 3) 237 [.ref 89] (hp kp nh rh tl rl I L)) (w := some (.int q0)) (h' := hp kp nh rh tl rl I L) (pc := 7) (lo := [some (.ref 89), some (.int x1), some (.int x2), some (.int x3)]) (rest := [.int x3]) rfl (t_237 Ls xs (d + 2) kp tl rl nh rh I L q0 hq0) ?_
    refine bs_br (t := 28) (e := 10) (lo := [some (.ref 89), some (.int x1), some (.int x2), some (.int x3)]) (st := []) (h := hp kp nh rh tl rl I L) rfl hf (fun hc hf => ?_) (fun hc hf => ?_)
    · refine bs_st 1 (x' := (29, [some (.ref 89), some (.int x1), some (.int x2), some (.int x3)], [.int (0 : Int32)], hp kp nh rh tl rl I L)) rfl ?_
      cases hf
      exact bs_ret rfl
    · refine bs_st 4 (x' := (14, [some (.ref 89), some (.int x1), some (.int x2), some (.int x3)], [.int x2, .int x3, .int x1, .ref 89], hp kp nh rh tl rl I L)) rfl ?_
      obtain ⟨q1, hq1, hf⟩ := Option.bind_eq_some_iff.mp hf
      refine bs_call (o := pEN Ls xs (d + 3) 291 [.ref 89, .int x1, .int x3, .int x2] (hp kp nh rh tl rl I L)) (w := some (.int q1.1)) (h' := hp kp nh rh tl rl q1.2.1 q1.2.2) (pc := 17) (lo := [some (.ref 89), some (.int x1), some (.int x2), some (.int x3)]) (rest := []) rfl (t_291 Ls xs (d + 0) kp tl rl nh rh n x1 x3 x2 I L q1 hq1) ?_
      refine bs_br (t := 22) (e := 20) (lo := [some (.ref 89), some (.int x1), some (.int x2), some (.int x3)]) (st := []) (h := hp kp nh rh tl rl q1.2.1 q1.2.2) rfl hf (fun hc hf => ?_) (fun hc hf => ?_)
      · refine bs_st 2 (x' := (2, [some (.ref 89), some (.int x1), some (.int x2), some (.int (x3 + (1 : Int32)))], [], hp kp nh rh tl rl q1.2.1 q1.2.2)) rfl ?_
        exact hK0 x1 x2 (x3 + (1 : Int32)) q1.2.1 q1.2.2 r hf
      · refine bs_st 1 (x' := (21, [some (.ref 89), some (.int x1), some (.int x2), some (.int x3)], [.int (1 : Int32)], hp kp nh rh tl rl q1.2.1 q1.2.2)) rfl ?_
        cases hf
        exact bs_ret rfl
def f_292 (n : Nat) (x1 : Int32) (x2 : Int32) (I : FI) (L : FL) : Option (Int32 × FI × FL) :=
  c_292_0 n n x1 x2 (0 : Int32) I L
set_option maxHeartbeats 1000000 in
set_option maxRecDepth 20000 in
theorem t_292 (Ls : Nat) (xs : Nat → Int32) (d : Nat) (kp : Option Nat) (tl : List (Nat × Nat)) (rl : List (List (Option Nat))) (nh : Option Nat) (rh : Option Nat) (n : Nat) (x1 : Int32) (x2 : Int32) (I : FI) (L : FL) (r : Int32 × FI × FL) (hf : f_292 n x1 x2 I L = some r) : pEN Ls xs (d + 4) 292 [.ref 89, .int x1, .int x2] (hp kp nh rh tl rl I L) = some (some (.int r.1), hp kp nh rh tl rl r.2.1 r.2.2) := by
  refine en_run (d := d + 3) (cd := cd_292) (f := (sf 12 rs_12 false 4 (some (.boolean)) Ls xs (d + 3))) rfl rfl (x := (0, [some (.ref 89), some (.int x1), some (.int x2), none], [], hp kp nh rh tl rl I L)) rfl rfl (Nat.le_of_ble_eq_true rfl) ?_
  unfold f_292 at hf
  refine bs_st 2 (x' := (2, [some (.ref 89), some (.int x1), some (.int x2), some (.int (0 : Int32))], [], hp kp nh rh tl rl I L)) rfl ?_
  exact tc_292_0 Ls xs d kp tl rl nh rh n n x1 x2 (0 : Int32) I L r hf
/-- LampRoundsModel.statesAll() on (89,) -/
def b_293_0 (n : Nat) (I : FI) (L : FL) (K0 : Int32 → Int32 → Option (Int32)) (x1 : Int32) (x2 : Int32) : Option (Int32) :=
  (f_237 I L).bind fun q1 =>
  if q1 ≤ x2 then
    some (x1)
  else
    K0 (x1 * (8 : Int32)) (x2 + (1 : Int32))
def c_293_0 (n : Nat) (I : FI) (L : FL) : Nat → Int32 → Int32 → Option (Int32)
  | 0, _, _ => none
  | m + 1, x1, x2 => b_293_0 n I L (c_293_0 n I L m) x1 x2
set_option maxHeartbeats 1000000 in
set_option maxRecDepth 20000 in
theorem tc_293_0 (Ls : Nat) (xs : Nat → Int32) (d : Nat) (kp : Option Nat) (tl : List (Nat × Nat)) (rl : List (List (Option Nat))) (nh : Option Nat) (rh : Option Nat) (n : Nat) (I : FI) (L : FL) : ∀ (m : Nat) (x1 : Int32) (x2 : Int32) (r : Int32), c_293_0 n I L m x1 x2 = some r → Bs cd_293 (sf 12 rs_12 false 3 (some (.int)) Ls xs (d + 1)) (7, [some (.ref 89), some (.int x1), some (.int x2)], [], hp kp nh rh tl rl I L) (some (.int r), hp kp nh rh tl rl I L)
  | 0, x1, x2, r, hf => by cases hf
  | m + 1, x1, x2, r, hf => by
    unfold c_293_0 b_293_0 at hf
    have hK0 := tc_293_0 Ls xs d kp tl rl nh rh n I L m
    refine bs_st 2 (x' := (9, [some (.ref 89), some (.int x1), some (.int x2)], [.ref 89, .int x2], hp kp nh rh tl rl I L)) rfl ?_
    obtain ⟨q1, hq1, hf⟩ := Option.bind_eq_some_iff.mp hf
    refine bs_call (o := pEN Ls xs (d + 1) 237 [.ref 89] (hp kp nh rh tl rl I L)) (w := some (.int q1)) (h' := hp kp nh rh tl rl I L) (pc := 12) (lo := [some (.ref 89), some (.int x1), some (.int x2)]) (rest := [.int x2]) rfl (t_237 Ls xs (d + 0) kp tl rl nh rh I L q1 hq1) ?_
    refine bs_br (t := 26) (e := 15) (lo := [some (.ref 89), some (.int x1), some (.int x2)]) (st := []) (h := hp kp nh rh tl rl I L) rfl hf (fun hc hf => ?_) (fun hc hf => ?_)
    · refine bs_st 1 (x' := (27, [some (.ref 89), some (.int x1), some (.int x2)], [.int x1], hp kp nh rh tl rl I L)) rfl ?_
      cases hf
      exact bs_ret rfl
    · refine bs_st 6 (x' := (7, [some (.ref 89), some (.int (x1 * (8 : Int32))), some (.int (x2 + (1 : Int32)))], [], hp kp nh rh tl rl I L)) rfl ?_
      exact hK0 (x1 * (8 : Int32)) (x2 + (1 : Int32)) r hf
def f_293 (n : Nat) (I : FI) (L : FL) : Option (Int32) :=
  (f_237 I L).bind fun q0 =>
  c_293_0 n I L n q0 (0 : Int32)
set_option maxHeartbeats 1000000 in
set_option maxRecDepth 20000 in
theorem t_293 (Ls : Nat) (xs : Nat → Int32) (d : Nat) (kp : Option Nat) (tl : List (Nat × Nat)) (rl : List (List (Option Nat))) (nh : Option Nat) (rh : Option Nat) (n : Nat) (I : FI) (L : FL) (r : Int32) (hf : f_293 n I L = some r) : pEN Ls xs (d + 2) 293 [.ref 89] (hp kp nh rh tl rl I L) = some (some (.int r), hp kp nh rh tl rl I L) := by
  refine en_run (d := d + 1) (cd := cd_293) (f := (sf 12 rs_12 false 3 (some (.int)) Ls xs (d + 1))) rfl rfl (x := (0, [some (.ref 89), none, none], [], hp kp nh rh tl rl I L)) rfl rfl (Nat.le_of_ble_eq_true rfl) ?_
  unfold f_293 at hf
  refine bs_st 1 (x' := (1, [some (.ref 89), none, none], [.ref 89], hp kp nh rh tl rl I L)) rfl ?_
  obtain ⟨q0, hq0, hf⟩ := Option.bind_eq_some_iff.mp hf
  refine bs_call (o := pEN Ls xs (d + 1) 237 [.ref 89] (hp kp nh rh tl rl I L)) (w := some (.int q0)) (h' := hp kp nh rh tl rl I L) (pc := 4) (lo := [some (.ref 89), none, none]) (rest := []) rfl (t_237 Ls xs (d + 0) kp tl rl nh rh I L q0 hq0) ?_
  refine bs_st 3 (x' := (7, [some (.ref 89), some (.int q0), some (.int (0 : Int32))], [], hp kp nh rh tl rl I L)) rfl ?_
  exact tc_293_0 Ls xs d kp tl rl nh rh n I L n q0 (0 : Int32) r hf
/-- LampRoundsModel.isState(II) on (89,) -/
def c_294_1 (n : Nat) (K0 : Int32 → Int32 → FI → FL → Option (Int32 × FI × FL)) (x2 : Int32) (x3 : Int32) (s0 : Int32) (s1 : Int32) (I : FI) (L : FL) : Option (Int32 × FI × FL) :=
  if s1 ≤ s0 then
    K0 x2 (x3 + (1 : Int32)) I L
  else
    some ((0 : Int32), I, L)
set_option maxHeartbeats 1000000 in
set_option maxRecDepth 20000 in
theorem tc_294_1 (Ls : Nat) (xs : Nat → Int32) (d : Nat) (kp : Option Nat) (tl : List (Nat × Nat)) (rl : List (List (Option Nat))) (nh : Option Nat) (rh : Option Nat) (n : Nat) (K0 : Int32 → Int32 → FI → FL → Option (Int32 × FI × FL)) (hK0 : ∀ (w1 : Option Value) (x2 : Int32) (x3 : Int32) (I : FI) (L : FL) (r : Int32 × FI × FL), K0 x2 x3 I L = some r → Bs cd_294 (sf 12 rs_12 false 4 (some (.boolean)) Ls xs (d + 2)) (7, [some (.ref 89), w1, some (.int x2), some (.int x3)], [], hp kp nh rh tl rl I L) (some (.int r.1), hp kp nh rh tl rl r.2.1 r.2.2)) (w1 : Option Value) (x2 : Int32) (x3 : Int32) (s0 : Int32) (s1 : Int32) (I : FI) (L : FL) (r : Int32 × FI × FL) (hf : c_294_1 n K0 x2 x3 s0 s1 I L = some r) : Bs cd_294 (sf 12 rs_12 false 4 (some (.boolean)) Ls xs (d + 2)) (39, [some (.ref 89), w1, some (.int x2), some (.int x3)], [.int s0, .int s1], hp kp nh rh tl rl I L) (some (.int r.1), hp kp nh rh tl rl r.2.1 r.2.2) := by
  unfold c_294_1 at hf
  refine bs_br (t := 44) (e := 42) (lo := [some (.ref 89), w1, some (.int x2), some (.int x3)]) (st := []) (h := hp kp nh rh tl rl I L) rfl hf (fun hc hf => ?_) (fun hc hf => ?_)
  · refine bs_st 2 (x' := (7, [some (.ref 89), w1, some (.int x2), some (.int (x3 + (1 : Int32)))], [], hp kp nh rh tl rl I L)) rfl ?_
    exact hK0 w1 x2 (x3 + (1 : Int32)) I L r hf
  · refine bs_st 1 (x' := (43, [some (.ref 89), w1, some (.int x2), some (.int x3)], [.int (0 : Int32)], hp kp nh rh tl rl I L)) rfl ?_
    cases hf
    exact bs_ret rfl
def b_294_0 (n : Nat) (K0 : Int32 → Int32 → FI → FL → Option (Int32 × FI × FL)) (x2 : Int32) (x3 : Int32) (I : FI) (L : FL) : Option (Int32 × FI × FL) :=
  (f_237 I L).bind fun q1 =>
  if q1 ≤ x3 then
    some ((1 : Int32), I, L)
  else
    if pin x3 4 = true then ((f_247 x2 x3 I L).bind fun q2 =>
      if q2 = 0 then
        c_294_1 n K0 x2 x3 (0 : Int32) (I 105 x3.toNatClampNeg) I L
      else
        if pin x3 4 = true then c_294_1 n K0 x2 x3 (I 104 x3.toNatClampNeg) (I 105 x3.toNatClampNeg) I L else none) else none
def c_294_0 (n : Nat) : Nat → Int32 → Int32 → FI → FL → Option (Int32 × FI × FL)
  | 0, _, _, _, _ => none
  | m + 1, x2, x3, I, L => b_294_0 n (c_294_0 n m) x2 x3 I L
set_option maxHeartbeats 1000000 in
set_option maxRecDepth 20000 in
theorem tc_294_0 (Ls : Nat) (xs : Nat → Int32) (d : Nat) (kp : Option Nat) (tl : List (Nat × Nat)) (rl : List (List (Option Nat))) (nh : Option Nat) (rh : Option Nat) (n : Nat) : ∀ (m : Nat) (w1 : Option Value) (x2 : Int32) (x3 : Int32) (I : FI) (L : FL) (r : Int32 × FI × FL), c_294_0 n m x2 x3 I L = some r → Bs cd_294 (sf 12 rs_12 false 4 (some (.boolean)) Ls xs (d + 2)) (7, [some (.ref 89), w1, some (.int x2), some (.int x3)], [], hp kp nh rh tl rl I L) (some (.int r.1), hp kp nh rh tl rl r.2.1 r.2.2)
  | 0, w1, x2, x3, I, L, r, hf => by cases hf
  | m + 1, w1, x2, x3, I, L, r, hf => by
    unfold c_294_0 b_294_0 at hf
    have hK0 := tc_294_0 Ls xs d kp tl rl nh rh n m
    refine bs_st 2 (x' := (9, [some (.ref 89), w1, some (.int x2), some (.int x3)], [.ref 89, .int x3], hp kp nh rh tl rl I L)) rfl ?_
    obtain ⟨q1, hq1, hf⟩ := Option.bind_eq_some_iff.mp hf
    refine bs_call (o := pEN Ls xs (d + 2) 237 [.ref 89] (hp kp nh rh tl rl I L)) (w := some (.int q1)) (h' := hp kp nh rh tl rl I L) (pc := 12) (lo := [some (.ref 89), w1, some (.int x2), some (.int x3)]) (rest := [.int x3]) rfl (t_237 Ls xs (d + 1) kp tl rl nh rh I L q1 hq1) ?_
    refine bs_br (t := 50) (e := 15) (lo := [some (.ref 89), w1, some (.int x2), some (.int x3)]) (st := []) (h := hp kp nh rh tl rl I L) rfl hf (fun hc hf => ?_) (fun hc hf => ?_)
    · refine bs_st 1 (x' := (51, [some (.ref 89), w1, some (.int x2), some (.int x3)], [.int (1 : Int32)], hp kp nh rh tl rl I L)) rfl ?_
      cases hf
      exact bs_ret rfl
    · refine bs_st 3 (x' := (20, [some (.ref 89), w1, some (.int x2), some (.int x3)], [.int x3, .ref 105], hp kp nh rh tl rl I L)) rfl ?_
      refine bs_gd (x' := (21, [some (.ref 89), w1, some (.int x2), some (.int x3)], [.int (I 105 x3.toNatClampNeg)], hp kp nh rh tl rl I L)) rfl hf (fun hc hf => ?_)
      refine bs_st 2 (x' := (23, [some (.ref 89), w1, some (.int x2), some (.int x3)], [.int x3, .int x2, .int (I 105 x3.toNatClampNeg)], hp kp nh rh tl rl I L)) rfl ?_
      obtain ⟨q2, hq2, hf⟩ := Option.bind_eq_some_iff.mp hf
      refine bs_call (o := pEN Ls xs (d + 2) 247 [.int x2, .int x3] (hp kp nh rh tl rl I L)) (w := some (.int q2)) (h' := hp kp nh rh tl rl I L) (pc := 26) (lo := [some (.ref 89), w1, some (.int x2), some (.int x3)]) (rest := [.int (I 105 x3.toNatClampNeg)]) rfl (t_247 Ls xs (d + 1) kp tl rl nh rh x2 x3 I L q2 hq2) ?_
      refine bs_br (t := 38) (e := 29) (lo := [some (.ref 89), w1, some (.int x2), some (.int x3)]) (st := [.int (I 105 x3.toNatClampNeg)]) (h := hp kp nh rh tl rl I L) rfl hf (fun hc hf => ?_) (fun hc hf => ?_)
      · refine bs_st 1 (x' := (39, [some (.ref 89), w1, some (.int x2), some (.int x3)], [.int (0 : Int32), .int (I 105 x3.toNatClampNeg)], hp kp nh rh tl rl I L)) rfl ?_
        exact tc_294_1 Ls xs d kp tl rl nh rh n _ hK0 w1 x2 x3 (0 : Int32) (I 105 x3.toNatClampNeg) I L r hf
      · refine bs_st 3 (x' := (34, [some (.ref 89), w1, some (.int x2), some (.int x3)], [.int x3, .ref 104, .int (I 105 x3.toNatClampNeg)], hp kp nh rh tl rl I L)) rfl ?_
        refine bs_gd (x' := (35, [some (.ref 89), w1, some (.int x2), some (.int x3)], [.int (I 104 x3.toNatClampNeg), .int (I 105 x3.toNatClampNeg)], hp kp nh rh tl rl I L)) rfl hf (fun hc hf => ?_)
        refine bs_st 1 (x' := (39, [some (.ref 89), w1, some (.int x2), some (.int x3)], [.int (I 104 x3.toNatClampNeg), .int (I 105 x3.toNatClampNeg)], hp kp nh rh tl rl I L)) rfl ?_
        exact tc_294_1 Ls xs d kp tl rl nh rh n _ hK0 w1 x2 x3 (I 104 x3.toNatClampNeg) (I 105 x3.toNatClampNeg) I L r hf
def f_294 (n : Nat) (x1 : Int32) (x2 : Int32) (I : FI) (L : FL) : Option (Int32 × FI × FL) :=
  (f_288 n x1 I L).bind fun q0 =>
  c_294_0 n n x2 (0 : Int32) q0.1 q0.2
set_option maxHeartbeats 1000000 in
set_option maxRecDepth 20000 in
theorem t_294 (Ls : Nat) (xs : Nat → Int32) (d : Nat) (kp : Option Nat) (tl : List (Nat × Nat)) (rl : List (List (Option Nat))) (nh : Option Nat) (rh : Option Nat) (n : Nat) (x1 : Int32) (x2 : Int32) (I : FI) (L : FL) (r : Int32 × FI × FL) (hf : f_294 n x1 x2 I L = some r) : pEN Ls xs (d + 3) 294 [.ref 89, .int x1, .int x2] (hp kp nh rh tl rl I L) = some (some (.int r.1), hp kp nh rh tl rl r.2.1 r.2.2) := by
  refine en_run (d := d + 2) (cd := cd_294) (f := (sf 12 rs_12 false 4 (some (.boolean)) Ls xs (d + 2))) rfl rfl (x := (0, [some (.ref 89), some (.int x1), some (.int x2), none], [], hp kp nh rh tl rl I L)) rfl rfl (Nat.le_of_ble_eq_true rfl) ?_
  unfold f_294 at hf
  refine bs_st 2 (x' := (2, [some (.ref 89), some (.int x1), some (.int x2), none], [.int x1, .ref 89], hp kp nh rh tl rl I L)) rfl ?_
  obtain ⟨q0, hq0, hf⟩ := Option.bind_eq_some_iff.mp hf
  refine bs_call (o := pEN Ls xs (d + 2) 288 [.ref 89, .int x1] (hp kp nh rh tl rl I L)) (w := none) (h' := hp kp nh rh tl rl q0.1 q0.2) (pc := 5) (lo := [some (.ref 89), some (.int x1), some (.int x2), none]) (rest := []) rfl (t_288 Ls xs (d + 0) kp tl rl nh rh n x1 I L q0 hq0) ?_
  refine bs_st 2 (x' := (7, [some (.ref 89), some (.int x1), some (.int x2), some (.int (0 : Int32))], [], hp kp nh rh tl rl q0.1 q0.2)) rfl ?_
  exact tc_294_0 Ls xs d kp tl rl nh rh n n (some (.int x1)) x2 (0 : Int32) q0.1 q0.2 r hf
/-- LampRoundsModel.laysLives(I) on (89,) -/
def c_295_3 (n : Nat) (K1 : Int32 → Int32 → FI → FL → Option (FI × FL)) (K2 : Int32 → Int32 → Int32 → FI → FL → Option (FI × FL)) (x1 : Int32) (x2 : Int32) (x3 : Int32) (I : FI) (L : FL) : Option (FI × FL) :=
  K2 x1 x2 (x3 + (1 : Int32)) I L
set_option maxHeartbeats 1000000 in
set_option maxRecDepth 20000 in
theorem tc_295_3 (Ls : Nat) (xs : Nat → Int32) (d : Nat) (kp : Option Nat) (tl : List (Nat × Nat)) (rl : List (List (Option Nat))) (nh : Option Nat) (rh : Option Nat) (n : Nat) (K1 : Int32 → Int32 → FI → FL → Option (FI × FL)) (K2 : Int32 → Int32 → Int32 → FI → FL → Option (FI × FL)) (hK1 : ∀ (w3 : Option Value) (x1 : Int32) (x2 : Int32) (I : FI) (L : FL) (r : FI × FL), K1 x1 x2 I L = some r → Bs cd_295 (sf 12 rs_12 false 4 none Ls xs (d + 4)) (30, [some (.ref 89), some (.int x1), some (.int x2), w3], [], hp kp nh rh tl rl I L) (none, hp kp nh rh tl rl r.1 r.2)) (hK2 : ∀ (x1 : Int32) (x2 : Int32) (x3 : Int32) (I : FI) (L : FL) (r : FI × FL), K2 x1 x2 x3 I L = some r → Bs cd_295 (sf 12 rs_12 false 4 none Ls xs (d + 4)) (38, [some (.ref 89), some (.int x1), some (.int x2), some (.int x3)], [], hp kp nh rh tl rl I L) (none, hp kp nh rh tl rl r.1 r.2)) (x1 : Int32) (x2 : Int32) (x3 : Int32) (I : FI) (L : FL) (r : FI × FL) (hf : c_295_3 n K1 K2 x1 x2 x3 I L = some r) : Bs cd_295 (sf 12 rs_12 false 4 none Ls xs (d + 4)) (76, [some (.ref 89), some (.int x1), some (.int x2), some (.int x3)], [], hp kp nh rh tl rl I L) (none, hp kp nh rh tl rl r.1 r.2) := by
  unfold c_295_3 at hf
  refine bs_st 2 (x' := (38, [some (.ref 89), some (.int x1), some (.int x2), some (.int (x3 + (1 : Int32)))], [], hp kp nh rh tl rl I L)) rfl ?_
  exact hK2 x1 x2 (x3 + (1 : Int32)) I L r hf
def b_295_2 (n : Nat) (K1 : Int32 → Int32 → FI → FL → Option (FI × FL)) (K2 : Int32 → Int32 → Int32 → FI → FL → Option (FI × FL)) (x1 : Int32) (x2 : Int32) (x3 : Int32) (I : FI) (L : FL) : Option (FI × FL) :=
  (f_293 n I L).bind fun q1 =>
  if q1 ≤ x3 then
    K1 x1 x2 I L
  else
    if pin x3 16384 = true then (if I 109 x3.toNatClampNeg = 0 then
        c_295_3 n K1 K2 x1 x2 x3 I L
      else
        (f_292 n x3 x1 I L).bind fun q2 =>
        if q2.1 = 0 then
          if pin x3 16384 = true then c_295_3 n K1 K2 x1 (1 : Int32) x3 (u2 q2.2.1 109 x3.toNatClampNeg (vp_nar .boolean (0 : Int32))) q2.2.2 else none
        else
          c_295_3 n K1 K2 x1 x2 x3 q2.2.1 q2.2.2) else none
def c_295_2 (n : Nat) (K1 : Int32 → Int32 → FI → FL → Option (FI × FL)) : Nat → Int32 → Int32 → Int32 → FI → FL → Option (FI × FL)
  | 0, _, _, _, _, _ => none
  | m + 1, x1, x2, x3, I, L => b_295_2 n K1 (c_295_2 n K1 m) x1 x2 x3 I L
set_option maxHeartbeats 1000000 in
set_option maxRecDepth 20000 in
theorem tc_295_2 (Ls : Nat) (xs : Nat → Int32) (d : Nat) (kp : Option Nat) (tl : List (Nat × Nat)) (rl : List (List (Option Nat))) (nh : Option Nat) (rh : Option Nat) (n : Nat) (K1 : Int32 → Int32 → FI → FL → Option (FI × FL)) (hK1 : ∀ (w3 : Option Value) (x1 : Int32) (x2 : Int32) (I : FI) (L : FL) (r : FI × FL), K1 x1 x2 I L = some r → Bs cd_295 (sf 12 rs_12 false 4 none Ls xs (d + 4)) (30, [some (.ref 89), some (.int x1), some (.int x2), w3], [], hp kp nh rh tl rl I L) (none, hp kp nh rh tl rl r.1 r.2)) : ∀ (m : Nat) (x1 : Int32) (x2 : Int32) (x3 : Int32) (I : FI) (L : FL) (r : FI × FL), c_295_2 n K1 m x1 x2 x3 I L = some r → Bs cd_295 (sf 12 rs_12 false 4 none Ls xs (d + 4)) (38, [some (.ref 89), some (.int x1), some (.int x2), some (.int x3)], [], hp kp nh rh tl rl I L) (none, hp kp nh rh tl rl r.1 r.2)
  | 0, x1, x2, x3, I, L, r, hf => by cases hf
  | m + 1, x1, x2, x3, I, L, r, hf => by
    unfold c_295_2 b_295_2 at hf
    have hK2 := tc_295_2 Ls xs d kp tl rl nh rh n K1 hK1 m
    refine bs_st 2 (x' := (40, [some (.ref 89), some (.int x1), some (.int x2), some (.int x3)], [.ref 89, .int x3], hp kp nh rh tl rl I L)) rfl ?_
    obtain ⟨q1, hq1, hf⟩ := Option.bind_eq_some_iff.mp hf
    refine bs_call (o := pEN Ls xs (d + 4) 293 [.ref 89] (hp kp nh rh tl rl I L)) (w := some (.int q1)) (h' := hp kp nh rh tl rl I L) (pc := 43) (lo := [some (.ref 89), some (.int x1), some (.int x2), some (.int x3)]) (rest := [.int x3]) rfl (t_293 Ls xs (d + 2) kp tl rl nh rh n I L q1 hq1) ?_
    refine bs_br (t := 82) (e := 46) (lo := [some (.ref 89), some (.int x1), some (.int x2), some (.int x3)]) (st := []) (h := hp kp nh rh tl rl I L) rfl hf (fun hc hf => ?_) (fun hc hf => ?_)
    · refine bs_st 1 (x' := (30, [some (.ref 89), some (.int x1), some (.int x2), some (.int x3)], [], hp kp nh rh tl rl I L)) rfl ?_
      exact hK1 (some (.int x3)) x1 x2 I L r hf
    · refine bs_st 3 (x' := (51, [some (.ref 89), some (.int x1), some (.int x2), some (.int x3)], [.int x3, .ref 109], hp kp nh rh tl rl I L)) rfl ?_
      refine bs_gd (x' := (52, [some (.ref 89), some (.int x1), some (.int x2), some (.int x3)], [.int (I 109 x3.toNatClampNeg)], hp kp nh rh tl rl I L)) rfl hf (fun hc hf => ?_)
      refine bs_br (t := 76) (e := 55) (lo := [some (.ref 89), some (.int x1), some (.int x2), some (.int x3)]) (st := []) (h := hp kp nh rh tl rl I L) rfl hf (fun hc hf => ?_) (fun hc hf => ?_)
      · exact tc_295_3 Ls xs d kp tl rl nh rh n _ _ hK1 hK2 x1 x2 x3 I L r hf
      · refine bs_st 3 (x' := (58, [some (.ref 89), some (.int x1), some (.int x2), some (.int x3)], [.int x1, .int x3, .ref 89], hp kp nh rh tl rl I L)) rfl ?_
        obtain ⟨q2, hq2, hf⟩ := Option.bind_eq_some_iff.mp hf
        refine bs_call (o := pEN Ls xs (d + 4) 292 [.ref 89, .int x3, .int x1] (hp kp nh rh tl rl I L)) (w := some (.int q2.1)) (h' := hp kp nh rh tl rl q2.2.1 q2.2.2) (pc := 61) (lo := [some (.ref 89), some (.int x1), some (.int x2), some (.int x3)]) (rest := []) rfl (t_292 Ls xs (d + 0) kp tl rl nh rh n x3 x1 I L q2 hq2) ?_
        refine bs_br (t := 67) (e := 64) (lo := [some (.ref 89), some (.int x1), some (.int x2), some (.int x3)]) (st := []) (h := hp kp nh rh tl rl q2.2.1 q2.2.2) rfl hf (fun hc hf => ?_) (fun hc hf => ?_)
        · refine bs_st 4 (x' := (73, [some (.ref 89), some (.int x1), some (.int x2), some (.int x3)], [.int (0 : Int32), .int x3, .ref 109], hp kp nh rh tl rl q2.2.1 q2.2.2)) rfl ?_
          refine bs_gd (x' := (74, [some (.ref 89), some (.int x1), some (.int x2), some (.int x3)], [], hp kp nh rh tl rl (u2 q2.2.1 109 x3.toNatClampNeg (vp_nar .boolean (0 : Int32))) q2.2.2)) rfl hf (fun hc hf => ?_)
          refine bs_st 2 (x' := (76, [some (.ref 89), some (.int x1), some (.int (1 : Int32)), some (.int x3)], [], hp kp nh rh tl rl (u2 q2.2.1 109 x3.toNatClampNeg (vp_nar .boolean (0 : Int32))) q2.2.2)) rfl ?_
          exact tc_295_3 Ls xs d kp tl rl nh rh n _ _ hK1 hK2 x1 (1 : Int32) x3 (u2 q2.2.1 109 x3.toNatClampNeg (vp_nar .boolean (0 : Int32))) q2.2.2 r hf
        · refine bs_st 1 (x' := (76, [some (.ref 89), some (.int x1), some (.int x2), some (.int x3)], [], hp kp nh rh tl rl q2.2.1 q2.2.2)) rfl ?_
          exact tc_295_3 Ls xs d kp tl rl nh rh n _ _ hK1 hK2 x1 x2 x3 q2.2.1 q2.2.2 r hf
def b_295_1 (n : Nat) (K1 : Int32 → Int32 → FI → FL → Option (FI × FL)) (x1 : Int32) (x2 : Int32) (I : FI) (L : FL) : Option (FI × FL) :=
  if x2 = 0 then
    some (I, L)
  else
    c_295_2 n K1 n x1 (0 : Int32) (0 : Int32) I L
def c_295_1 (n : Nat) : Nat → Int32 → Int32 → FI → FL → Option (FI × FL)
  | 0, _, _, _, _ => none
  | m + 1, x1, x2, I, L => b_295_1 n (c_295_1 n m) x1 x2 I L
set_option maxHeartbeats 1000000 in
set_option maxRecDepth 20000 in
theorem tc_295_1 (Ls : Nat) (xs : Nat → Int32) (d : Nat) (kp : Option Nat) (tl : List (Nat × Nat)) (rl : List (List (Option Nat))) (nh : Option Nat) (rh : Option Nat) (n : Nat) : ∀ (m : Nat) (w3 : Option Value) (x1 : Int32) (x2 : Int32) (I : FI) (L : FL) (r : FI × FL), c_295_1 n m x1 x2 I L = some r → Bs cd_295 (sf 12 rs_12 false 4 none Ls xs (d + 4)) (30, [some (.ref 89), some (.int x1), some (.int x2), w3], [], hp kp nh rh tl rl I L) (none, hp kp nh rh tl rl r.1 r.2)
  | 0, w3, x1, x2, I, L, r, hf => by cases hf
  | m + 1, w3, x1, x2, I, L, r, hf => by
    unfold c_295_1 b_295_1 at hf
    have hK1 := tc_295_1 Ls xs d kp tl rl nh rh n m
    refine bs_st 1 (x' := (31, [some (.ref 89), some (.int x1), some (.int x2), w3], [.int x2], hp kp nh rh tl rl I L)) rfl ?_
    refine bs_br (t := 85) (e := 34) (lo := [some (.ref 89), some (.int x1), some (.int x2), w3]) (st := []) (h := hp kp nh rh tl rl I L) rfl hf (fun hc hf => ?_) (fun hc hf => ?_)
    · cases hf
      exact bs_ret rfl
    · refine bs_st 4 (x' := (38, [some (.ref 89), some (.int x1), some (.int (0 : Int32)), some (.int (0 : Int32))], [], hp kp nh rh tl rl I L)) rfl ?_
      exact tc_295_2 Ls xs d kp tl rl nh rh n _ hK1 n x1 (0 : Int32) (0 : Int32) I L r hf
def b_295_0 (n : Nat) (K0 : Int32 → Int32 → FI → FL → Option (FI × FL)) (x1 : Int32) (x2 : Int32) (I : FI) (L : FL) : Option (FI × FL) :=
  (f_293 n I L).bind fun q0 =>
  if q0 ≤ x2 then
    c_295_1 n n x1 (1 : Int32) I L
  else
    (f_294 n x2 x1 I L).bind fun q3 =>
    if pin x2 16384 = true then K0 x1 (x2 + (1 : Int32)) (u2 q3.2.1 109 x2.toNatClampNeg (vp_nar .boolean q3.1)) q3.2.2 else none
def c_295_0 (n : Nat) : Nat → Int32 → Int32 → FI → FL → Option (FI × FL)
  | 0, _, _, _, _ => none
  | m + 1, x1, x2, I, L => b_295_0 n (c_295_0 n m) x1 x2 I L
set_option maxHeartbeats 1000000 in
set_option maxRecDepth 20000 in
theorem tc_295_0 (Ls : Nat) (xs : Nat → Int32) (d : Nat) (kp : Option Nat) (tl : List (Nat × Nat)) (rl : List (List (Option Nat))) (nh : Option Nat) (rh : Option Nat) (n : Nat) : ∀ (m : Nat) (w3 : Option Value) (x1 : Int32) (x2 : Int32) (I : FI) (L : FL) (r : FI × FL), c_295_0 n m x1 x2 I L = some r → Bs cd_295 (sf 12 rs_12 false 4 none Ls xs (d + 4)) (2, [some (.ref 89), some (.int x1), some (.int x2), w3], [], hp kp nh rh tl rl I L) (none, hp kp nh rh tl rl r.1 r.2)
  | 0, w3, x1, x2, I, L, r, hf => by cases hf
  | m + 1, w3, x1, x2, I, L, r, hf => by
    unfold c_295_0 b_295_0 at hf
    have hK0 := tc_295_0 Ls xs d kp tl rl nh rh n m
    refine bs_st 2 (x' := (4, [some (.ref 89), some (.int x1), some (.int x2), w3], [.ref 89, .int x2], hp kp nh rh tl rl I L)) rfl ?_
    obtain ⟨q0, hq0, hf⟩ := Option.bind_eq_some_iff.mp hf
    refine bs_call (o := pEN Ls xs (d + 4) 293 [.ref 89] (hp kp nh rh tl rl I L)) (w := some (.int q0)) (h' := hp kp nh rh tl rl I L) (pc := 7) (lo := [some (.ref 89), some (.int x1), some (.int x2), w3]) (rest := [.int x2]) rfl (t_293 Ls xs (d + 2) kp tl rl nh rh n I L q0 hq0) ?_
    refine bs_br (t := 28) (e := 10) (lo := [some (.ref 89), some (.int x1), some (.int x2), w3]) (st := []) (h := hp kp nh rh tl rl I L) rfl hf (fun hc hf => ?_) (fun hc hf => ?_)
    · refine bs_st 2 (x' := (30, [some (.ref 89), some (.int x1), some (.int (1 : Int32)), w3], [], hp kp nh rh tl rl I L)) rfl ?_
      exact tc_295_1 Ls xs d kp tl rl nh rh n n w3 x1 (1 : Int32) I L r hf
    · refine bs_st 6 (x' := (18, [some (.ref 89), some (.int x1), some (.int x2), w3], [.int x1, .int x2, .ref 89, .int x2, .ref 109], hp kp nh rh tl rl I L)) rfl ?_
      obtain ⟨q3, hq3, hf⟩ := Option.bind_eq_some_iff.mp hf
      refine bs_call (o := pEN Ls xs (d + 4) 294 [.ref 89, .int x2, .int x1] (hp kp nh rh tl rl I L)) (w := some (.int q3.1)) (h' := hp kp nh rh tl rl q3.2.1 q3.2.2) (pc := 21) (lo := [some (.ref 89), some (.int x1), some (.int x2), w3]) (rest := [.int x2, .ref 109]) rfl (t_294 Ls xs (d + 1) kp tl rl nh rh n x2 x1 I L q3 hq3) ?_
      refine bs_gd (x' := (22, [some (.ref 89), some (.int x1), some (.int x2), w3], [], hp kp nh rh tl rl (u2 q3.2.1 109 x2.toNatClampNeg (vp_nar .boolean q3.1)) q3.2.2)) rfl hf (fun hc hf => ?_)
      refine bs_st 2 (x' := (2, [some (.ref 89), some (.int x1), some (.int (x2 + (1 : Int32))), w3], [], hp kp nh rh tl rl (u2 q3.2.1 109 x2.toNatClampNeg (vp_nar .boolean q3.1)) q3.2.2)) rfl ?_
      exact hK0 w3 x1 (x2 + (1 : Int32)) (u2 q3.2.1 109 x2.toNatClampNeg (vp_nar .boolean q3.1)) q3.2.2 r hf
def f_295 (n : Nat) (x1 : Int32) (I : FI) (L : FL) : Option (FI × FL) :=
  c_295_0 n n x1 (0 : Int32) I L
set_option maxHeartbeats 1000000 in
set_option maxRecDepth 20000 in
theorem t_295 (Ls : Nat) (xs : Nat → Int32) (d : Nat) (kp : Option Nat) (tl : List (Nat × Nat)) (rl : List (List (Option Nat))) (nh : Option Nat) (rh : Option Nat) (n : Nat) (x1 : Int32) (I : FI) (L : FL) (r : FI × FL) (hf : f_295 n x1 I L = some r) : pEN Ls xs (d + 5) 295 [.ref 89, .int x1] (hp kp nh rh tl rl I L) = some (none, hp kp nh rh tl rl r.1 r.2) := by
  refine en_run (d := d + 4) (cd := cd_295) (f := (sf 12 rs_12 false 4 none Ls xs (d + 4))) rfl rfl (x := (0, [some (.ref 89), some (.int x1), none, none], [], hp kp nh rh tl rl I L)) rfl rfl (Nat.le_of_ble_eq_true rfl) ?_
  unfold f_295 at hf
  refine bs_st 2 (x' := (2, [some (.ref 89), some (.int x1), some (.int (0 : Int32)), none], [], hp kp nh rh tl rl I L)) rfl ?_
  exact tc_295_0 Ls xs d kp tl rl nh rh n n none x1 (0 : Int32) I L r hf
/-- LampRoundsModel.firstState(II) on (89,) -/
def b_296_0 (n : Nat) (K0 : Int32 → Int32 → Int32 → FI → FL → Option (Int32 × FI × FL)) (x1 : Int32) (x2 : Int32) (x3 : Int32) (I : FI) (L : FL) : Option (Int32 × FI × FL) :=
  (f_237 I L).bind fun q0 =>
  if q0 ≤ x3 then
    (f_253 n x1 x1 (0 : Int32) I L).bind fun q1 =>
    (f_287 n x1 x2 q1.1 q1.2).bind fun q2 =>
    some (q2, q1.1, q1.2)
  else
    if pin x3 4 = true then K0 x1 x2 (x3 + (1 : Int32)) (u2 I 105 x3.toNatClampNeg (0 : Int32)) L else none
def c_296_0 (n : Nat) : Nat → Int32 → Int32 → Int32 → FI → FL → Option (Int32 × FI × FL)
  | 0, _, _, _, _, _ => none
  | m + 1, x1, x2, x3, I, L => b_296_0 n (c_296_0 n m) x1 x2 x3 I L
set_option maxHeartbeats 1000000 in
set_option maxRecDepth 20000 in
theorem tc_296_0 (Ls : Nat) (xs : Nat → Int32) (d : Nat) (kp : Option Nat) (tl : List (Nat × Nat)) (rl : List (List (Option Nat))) (nh : Option Nat) (rh : Option Nat) (n : Nat) : ∀ (m : Nat) (x1 : Int32) (x2 : Int32) (x3 : Int32) (I : FI) (L : FL) (r : Int32 × FI × FL), c_296_0 n m x1 x2 x3 I L = some r → Bs cd_296 (sf 12 rs_12 false 4 (some (.int)) Ls xs (d + 2)) (2, [some (.ref 89), some (.int x1), some (.int x2), some (.int x3)], [], hp kp nh rh tl rl I L) (some (.int r.1), hp kp nh rh tl rl r.2.1 r.2.2)
  | 0, x1, x2, x3, I, L, r, hf => by cases hf
  | m + 1, x1, x2, x3, I, L, r, hf => by
    unfold c_296_0 b_296_0 at hf
    have hK0 := tc_296_0 Ls xs d kp tl rl nh rh n m
    refine bs_st 2 (x' := (4, [some (.ref 89), some (.int x1), some (.int x2), some (.int x3)], [.ref 89, .int x3], hp kp nh rh tl rl I L)) rfl ?_
    obtain ⟨q0, hq0, hf⟩ := Option.bind_eq_some_iff.mp hf
    refine bs_call (o := pEN Ls xs (d + 2) 237 [.ref 89] (hp kp nh rh tl rl I L)) (w := some (.int q0)) (h' := hp kp nh rh tl rl I L) (pc := 7) (lo := [some (.ref 89), some (.int x1), some (.int x2), some (.int x3)]) (rest := [.int x3]) rfl (t_237 Ls xs (d + 1) kp tl rl nh rh I L q0 hq0) ?_
    refine bs_br (t := 23) (e := 10) (lo := [some (.ref 89), some (.int x1), some (.int x2), some (.int x3)]) (st := []) (h := hp kp nh rh tl rl I L) rfl hf (fun hc hf => ?_) (fun hc hf => ?_)
    · refine bs_st 4 (x' := (27, [some (.ref 89), some (.int x1), some (.int x2), some (.int x3)], [.int (0 : Int32), .int x1, .int x1, .ref 89], hp kp nh rh tl rl I L)) rfl ?_
      obtain ⟨q1, hq1, hf⟩ := Option.bind_eq_some_iff.mp hf
      refine bs_call (o := pEN Ls xs (d + 2) 253 [.ref 89, .int x1, .int x1, .int (0 : Int32)] (hp kp nh rh tl rl I L)) (w := none) (h' := hp kp nh rh tl rl q1.1 q1.2) (pc := 30) (lo := [some (.ref 89), some (.int x1), some (.int x2), some (.int x3)]) (rest := []) rfl (t_253 Ls xs (d + 0) kp tl rl nh rh n x1 x1 (0 : Int32) I L q1 hq1) ?_
      refine bs_st 3 (x' := (33, [some (.ref 89), some (.int x1), some (.int x2), some (.int x3)], [.int x2, .int x1, .ref 89], hp kp nh rh tl rl q1.1 q1.2)) rfl ?_
      obtain ⟨q2, hq2, hf⟩ := Option.bind_eq_some_iff.mp hf
      refine bs_call (o := pEN Ls xs (d + 2) 287 [.ref 89, .int x1, .int x2] (hp kp nh rh tl rl q1.1 q1.2)) (w := some (.int q2)) (h' := hp kp nh rh tl rl q1.1 q1.2) (pc := 36) (lo := [some (.ref 89), some (.int x1), some (.int x2), some (.int x3)]) (rest := []) rfl (t_287 Ls xs (d + 0) kp tl rl nh rh n x1 x2 q1.1 q1.2 q2 hq2) ?_
      cases hf
      exact bs_ret rfl
    · refine bs_st 4 (x' := (16, [some (.ref 89), some (.int x1), some (.int x2), some (.int x3)], [.int (0 : Int32), .int x3, .ref 105], hp kp nh rh tl rl I L)) rfl ?_
      refine bs_gd (x' := (17, [some (.ref 89), some (.int x1), some (.int x2), some (.int x3)], [], hp kp nh rh tl rl (u2 I 105 x3.toNatClampNeg (0 : Int32)) L)) rfl hf (fun hc hf => ?_)
      refine bs_st 2 (x' := (2, [some (.ref 89), some (.int x1), some (.int x2), some (.int (x3 + (1 : Int32)))], [], hp kp nh rh tl rl (u2 I 105 x3.toNatClampNeg (0 : Int32)) L)) rfl ?_
      exact hK0 x1 x2 (x3 + (1 : Int32)) (u2 I 105 x3.toNatClampNeg (0 : Int32)) L r hf
def f_296 (n : Nat) (x1 : Int32) (x2 : Int32) (I : FI) (L : FL) : Option (Int32 × FI × FL) :=
  c_296_0 n n x1 x2 (0 : Int32) I L
set_option maxHeartbeats 1000000 in
set_option maxRecDepth 20000 in
theorem t_296 (Ls : Nat) (xs : Nat → Int32) (d : Nat) (kp : Option Nat) (tl : List (Nat × Nat)) (rl : List (List (Option Nat))) (nh : Option Nat) (rh : Option Nat) (n : Nat) (x1 : Int32) (x2 : Int32) (I : FI) (L : FL) (r : Int32 × FI × FL) (hf : f_296 n x1 x2 I L = some r) : pEN Ls xs (d + 3) 296 [.ref 89, .int x1, .int x2] (hp kp nh rh tl rl I L) = some (some (.int r.1), hp kp nh rh tl rl r.2.1 r.2.2) := by
  refine en_run (d := d + 2) (cd := cd_296) (f := (sf 12 rs_12 false 4 (some (.int)) Ls xs (d + 2))) rfl rfl (x := (0, [some (.ref 89), some (.int x1), some (.int x2), none], [], hp kp nh rh tl rl I L)) rfl rfl (Nat.le_of_ble_eq_true rfl) ?_
  unfold f_296 at hf
  refine bs_st 2 (x' := (2, [some (.ref 89), some (.int x1), some (.int x2), some (.int (0 : Int32))], [], hp kp nh rh tl rl I L)) rfl ?_
  exact tc_296_0 Ls xs d kp tl rl nh rh n n x1 x2 (0 : Int32) I L r hf
/-- LampRoundsModel.keepsFrom(II) on (89,) -/
def f_297 (n : Nat) (x1 : Int32) (x2 : Int32) (I : FI) (L : FL) : Option (Int32 × FI × FL) :=
  (f_237 I L).bind fun q0 =>
  if ¬ q0 = 0 then
    (f_295 n x2 I L).bind fun q1 =>
    (f_296 n x1 x2 q1.1 q1.2).bind fun q2 =>
    if pin q2.1 16384 = true then (if narrow .boolean (.int (q2.2.1 109 q2.1.toNatClampNeg)) = .int (q2.2.1 109 q2.1.toNatClampNeg) then some (q2.2.1 109 q2.1.toNatClampNeg, q2.2.1, q2.2.2) else none) else none
  else
    some ((1 : Int32), I, L)
set_option maxHeartbeats 1000000 in
set_option maxRecDepth 20000 in
theorem t_297 (Ls : Nat) (xs : Nat → Int32) (d : Nat) (kp : Option Nat) (tl : List (Nat × Nat)) (rl : List (List (Option Nat))) (nh : Option Nat) (rh : Option Nat) (n : Nat) (x1 : Int32) (x2 : Int32) (I : FI) (L : FL) (r : Int32 × FI × FL) (hf : f_297 n x1 x2 I L = some r) : pEN Ls xs (d + 6) 297 [.ref 89, .int x1, .int x2] (hp kp nh rh tl rl I L) = some (some (.int r.1), hp kp nh rh tl rl r.2.1 r.2.2) := by
  refine en_run (d := d + 5) (cd := cd_297) (f := (sf 12 rs_12 false 3 (some (.boolean)) Ls xs (d + 5))) rfl rfl (x := (0, [some (.ref 89), some (.int x1), some (.int x2)], [], hp kp nh rh tl rl I L)) rfl rfl (Nat.le_of_ble_eq_true rfl) ?_
  unfold f_297 at hf
  refine bs_st 1 (x' := (1, [some (.ref 89), some (.int x1), some (.int x2)], [.ref 89], hp kp nh rh tl rl I L)) rfl ?_
  obtain ⟨q0, hq0, hf⟩ := Option.bind_eq_some_iff.mp hf
  refine bs_call (o := pEN Ls xs (d + 5) 237 [.ref 89] (hp kp nh rh tl rl I L)) (w := some (.int q0)) (h' := hp kp nh rh tl rl I L) (pc := 4) (lo := [some (.ref 89), some (.int x1), some (.int x2)]) (rest := []) rfl (t_237 Ls xs (d + 4) kp tl rl nh rh I L q0 hq0) ?_
  refine bs_br (t := 9) (e := 7) (lo := [some (.ref 89), some (.int x1), some (.int x2)]) (st := []) (h := hp kp nh rh tl rl I L) rfl hf (fun hc hf => ?_) (fun hc hf => ?_)
  · refine bs_st 2 (x' := (11, [some (.ref 89), some (.int x1), some (.int x2)], [.int x2, .ref 89], hp kp nh rh tl rl I L)) rfl ?_
    obtain ⟨q1, hq1, hf⟩ := Option.bind_eq_some_iff.mp hf
    refine bs_call (o := pEN Ls xs (d + 5) 295 [.ref 89, .int x2] (hp kp nh rh tl rl I L)) (w := none) (h' := hp kp nh rh tl rl q1.1 q1.2) (pc := 14) (lo := [some (.ref 89), some (.int x1), some (.int x2)]) (rest := []) rfl (t_295 Ls xs (d + 0) kp tl rl nh rh n x2 I L q1 hq1) ?_
    refine bs_st 5 (x' := (21, [some (.ref 89), some (.int x1), some (.int x2)], [.int x2, .int x1, .ref 89, .ref 109], hp kp nh rh tl rl q1.1 q1.2)) rfl ?_
    obtain ⟨q2, hq2, hf⟩ := Option.bind_eq_some_iff.mp hf
    refine bs_call (o := pEN Ls xs (d + 5) 296 [.ref 89, .int x1, .int x2] (hp kp nh rh tl rl q1.1 q1.2)) (w := some (.int q2.1)) (h' := hp kp nh rh tl rl q2.2.1 q2.2.2) (pc := 24) (lo := [some (.ref 89), some (.int x1), some (.int x2)]) (rest := [.ref 109]) rfl (t_296 Ls xs (d + 2) kp tl rl nh rh n x1 x2 q1.1 q1.2 q2 hq2) ?_
    refine bs_gd (x' := (25, [some (.ref 89), some (.int x1), some (.int x2)], [.int (q2.2.1 109 q2.1.toNatClampNeg)], hp kp nh rh tl rl q2.2.1 q2.2.2)) rfl hf (fun hc hf => ?_)
    split at hf
    · rename_i hg; cases hf; exact bs_rg rfl hg
    · cases hf
  · refine bs_st 1 (x' := (8, [some (.ref 89), some (.int x1), some (.int x2)], [.int (1 : Int32)], hp kp nh rh tl rl I L)) rfl ?_
    cases hf
    exact bs_ret rfl
/-- LampRoundsModel.all() on (89,) -/
def f_298 (I : FI) (L : FL) : Option (Int32) :=
  (f_237 I L).bind fun q0 =>
  some ((((1 : Int32) <<< (q0 &&& 31)) - (1 : Int32)))
set_option maxHeartbeats 1000000 in
set_option maxRecDepth 20000 in
theorem t_298 (Ls : Nat) (xs : Nat → Int32) (d : Nat) (kp : Option Nat) (tl : List (Nat × Nat)) (rl : List (List (Option Nat))) (nh : Option Nat) (rh : Option Nat) (I : FI) (L : FL) (r : Int32) (hf : f_298 I L = some r) : pEN Ls xs (d + 2) 298 [.ref 89] (hp kp nh rh tl rl I L) = some (some (.int r), hp kp nh rh tl rl I L) := by
  refine en_run (d := d + 1) (cd := cd_298) (f := (sf 12 rs_12 false 1 (some (.int)) Ls xs (d + 1))) rfl rfl (x := (0, [some (.ref 89)], [], hp kp nh rh tl rl I L)) rfl rfl (Nat.le_of_ble_eq_true rfl) ?_
  unfold f_298 at hf
  refine bs_st 2 (x' := (2, [some (.ref 89)], [.ref 89, .int (1 : Int32)], hp kp nh rh tl rl I L)) rfl ?_
  obtain ⟨q0, hq0, hf⟩ := Option.bind_eq_some_iff.mp hf
  refine bs_call (o := pEN Ls xs (d + 1) 237 [.ref 89] (hp kp nh rh tl rl I L)) (w := some (.int q0)) (h' := hp kp nh rh tl rl I L) (pc := 5) (lo := [some (.ref 89)]) (rest := [.int (1 : Int32)]) rfl (t_237 Ls xs (d + 0) kp tl rl nh rh I L q0 hq0) ?_
  refine bs_st 3 (x' := (8, [some (.ref 89)], [.int (((1 : Int32) <<< (q0 &&& 31)) - (1 : Int32))], hp kp nh rh tl rl I L)) rfl ?_
  cases hf
  exact bs_ret rfl
/-- LampRoundsModel.keeps(I) on (89,) -/
def f_299 (n : Nat) (x1 : Int32) (I : FI) (L : FL) : Option (Int32 × FI × FL) :=
  (f_246 x1 (u2 I 89 0 (0 : Int32)) L).bind fun q0 =>
  if ¬ q0 = 0 then
    (f_252 n (u2 I 89 0 (0 : Int32)) L).bind fun q1 =>
    (f_256 q1.1 q1.2).bind fun q2 =>
    (f_297 n q2 x1 q1.1 q1.2).bind fun q3 =>
    if q3.1 = 0 then
      some ((0 : Int32), q3.2.1, q3.2.2)
    else
      some ((1 : Int32), q3.2.1, q3.2.2)
  else
    some ((-2 : Int32), (u2 I 89 0 (0 : Int32)), L)
set_option maxHeartbeats 1000000 in
set_option maxRecDepth 20000 in
theorem t_299 (Ls : Nat) (xs : Nat → Int32) (d : Nat) (kp : Option Nat) (tl : List (Nat × Nat)) (rl : List (List (Option Nat))) (nh : Option Nat) (rh : Option Nat) (n : Nat) (x1 : Int32) (I : FI) (L : FL) (r : Int32 × FI × FL) (hf : f_299 n x1 I L = some r) : pEN Ls xs (d + 7) 299 [.ref 89, .int x1] (hp kp nh rh tl rl I L) = some (some (.int r.1), hp kp nh rh tl rl r.2.1 r.2.2) := by
  refine en_run (d := d + 6) (cd := cd_299) (f := (sf 12 rs_12 false 2 (some (.int)) Ls xs (d + 6))) rfl rfl (x := (0, [some (.ref 89), some (.int x1)], [], hp kp nh rh tl rl I L)) rfl rfl (Nat.le_of_ble_eq_true rfl) ?_
  unfold f_299 at hf
  refine bs_st 5 (x' := (7, [some (.ref 89), some (.int x1)], [.int x1, .ref 89], hp kp nh rh tl rl (u2 I 89 0 (0 : Int32)) L)) rfl ?_
  obtain ⟨q0, hq0, hf⟩ := Option.bind_eq_some_iff.mp hf
  refine bs_call (o := pEN Ls xs (d + 6) 246 [.ref 89, .int x1] (hp kp nh rh tl rl (u2 I 89 0 (0 : Int32)) L)) (w := some (.int q0)) (h' := hp kp nh rh tl rl (u2 I 89 0 (0 : Int32)) L) (pc := 10) (lo := [some (.ref 89), some (.int x1)]) (rest := []) rfl (t_246 Ls xs (d + 4) kp tl rl nh rh x1 (u2 I 89 0 (0 : Int32)) L q0 hq0) ?_
  refine bs_br (t := 16) (e := 13) (lo := [some (.ref 89), some (.int x1)]) (st := []) (h := hp kp nh rh tl rl (u2 I 89 0 (0 : Int32)) L) rfl hf (fun hc hf => ?_) (fun hc hf => ?_)
  · refine bs_st 1 (x' := (17, [some (.ref 89), some (.int x1)], [.ref 89], hp kp nh rh tl rl (u2 I 89 0 (0 : Int32)) L)) rfl ?_
    obtain ⟨q1, hq1, hf⟩ := Option.bind_eq_some_iff.mp hf
    refine bs_call (o := pEN Ls xs (d + 6) 252 [.ref 89] (hp kp nh rh tl rl (u2 I 89 0 (0 : Int32)) L)) (w := none) (h' := hp kp nh rh tl rl q1.1 q1.2) (pc := 20) (lo := [some (.ref 89), some (.int x1)]) (rest := []) rfl (t_252 Ls xs (d + 4) kp tl rl nh rh n (u2 I 89 0 (0 : Int32)) L q1 hq1) ?_
    refine bs_st 2 (x' := (22, [some (.ref 89), some (.int x1)], [.ref 89, .ref 89], hp kp nh rh tl rl q1.1 q1.2)) rfl ?_
    obtain ⟨q2, hq2, hf⟩ := Option.bind_eq_some_iff.mp hf
    refine bs_call (o := pEN Ls xs (d + 6) 256 [.ref 89] (hp kp nh rh tl rl q1.1 q1.2)) (w := some (.int q2)) (h' := hp kp nh rh tl rl q1.1 q1.2) (pc := 25) (lo := [some (.ref 89), some (.int x1)]) (rest := [.ref 89]) rfl (t_256 Ls xs (d + 4) kp tl rl nh rh q1.1 q1.2 q2 hq2) ?_
    refine bs_st 1 (x' := (26, [some (.ref 89), some (.int x1)], [.int x1, .int q2, .ref 89], hp kp nh rh tl rl q1.1 q1.2)) rfl ?_
    obtain ⟨q3, hq3, hf⟩ := Option.bind_eq_some_iff.mp hf
    refine bs_call (o := pEN Ls xs (d + 6) 297 [.ref 89, .int q2, .int x1] (hp kp nh rh tl rl q1.1 q1.2)) (w := some (.int q3.1)) (h' := hp kp nh rh tl rl q3.2.1 q3.2.2) (pc := 29) (lo := [some (.ref 89), some (.int x1)]) (rest := []) rfl (t_297 Ls xs (d + 0) kp tl rl nh rh n q2 x1 q1.1 q1.2 q3 hq3) ?_
    refine bs_br (t := 36) (e := 32) (lo := [some (.ref 89), some (.int x1)]) (st := []) (h := hp kp nh rh tl rl q3.2.1 q3.2.2) rfl hf (fun hc hf => ?_) (fun hc hf => ?_)
    · refine bs_st 1 (x' := (37, [some (.ref 89), some (.int x1)], [.int (0 : Int32)], hp kp nh rh tl rl q3.2.1 q3.2.2)) rfl ?_
      cases hf
      exact bs_ret rfl
    · refine bs_st 2 (x' := (37, [some (.ref 89), some (.int x1)], [.int (1 : Int32)], hp kp nh rh tl rl q3.2.1 q3.2.2)) rfl ?_
      cases hf
      exact bs_ret rfl
  · refine bs_st 1 (x' := (15, [some (.ref 89), some (.int x1)], [.int (-2 : Int32)], hp kp nh rh tl rl (u2 I 89 0 (0 : Int32)) L)) rfl ?_
    cases hf
    exact bs_ret rfl
/-- LampRoundsModel.states() on (89,) -/
def c_300_1 (n : Nat) (K0 : Int32 → Int32 → FI → FL → Option (Int32 × FI × FL)) (x2 : Int32) (s0 : Int32) (s1 : Int32) (I : FI) (L : FL) : Option (Int32 × FI × FL) :=
  K0 (s1 + s0) (x2 + (1 : Int32)) I L
set_option maxHeartbeats 1000000 in
set_option maxRecDepth 20000 in
theorem tc_300_1 (Ls : Nat) (xs : Nat → Int32) (d : Nat) (kp : Option Nat) (tl : List (Nat × Nat)) (rl : List (List (Option Nat))) (nh : Option Nat) (rh : Option Nat) (n : Nat) (K0 : Int32 → Int32 → FI → FL → Option (Int32 × FI × FL)) (hK0 : ∀ (x1 : Int32) (x2 : Int32) (I : FI) (L : FL) (r : Int32 × FI × FL), K0 x1 x2 I L = some r → Bs cd_300 (sf 12 rs_12 false 3 (some (.int)) Ls xs (d + 5)) (40, [some (.ref 89), some (.int x1), some (.int x2)], [], hp kp nh rh tl rl I L) (some (.int r.1), hp kp nh rh tl rl r.2.1 r.2.2)) (w1 : Option Value) (x2 : Int32) (s0 : Int32) (s1 : Int32) (I : FI) (L : FL) (r : Int32 × FI × FL) (hf : c_300_1 n K0 x2 s0 s1 I L = some r) : Bs cd_300 (sf 12 rs_12 false 3 (some (.int)) Ls xs (d + 5)) (63, [some (.ref 89), w1, some (.int x2)], [.int s0, .int s1], hp kp nh rh tl rl I L) (some (.int r.1), hp kp nh rh tl rl r.2.1 r.2.2) := by
  unfold c_300_1 at hf
  refine bs_st 4 (x' := (40, [some (.ref 89), some (.int (s1 + s0)), some (.int (x2 + (1 : Int32)))], [], hp kp nh rh tl rl I L)) rfl ?_
  exact hK0 (s1 + s0) (x2 + (1 : Int32)) I L r hf
def b_300_0 (n : Nat) (K0 : Int32 → Int32 → FI → FL → Option (Int32 × FI × FL)) (x1 : Int32) (x2 : Int32) (I : FI) (L : FL) : Option (Int32 × FI × FL) :=
  (f_293 n I L).bind fun q5 =>
  if q5 ≤ x2 then
    some (x1, I, L)
  else
    if pin x2 16384 = true then (if I 109 x2.toNatClampNeg = 0 then
        c_300_1 n K0 x2 (0 : Int32) x1 I L
      else
        c_300_1 n K0 x2 (1 : Int32) x1 I L) else none
def c_300_0 (n : Nat) : Nat → Int32 → Int32 → FI → FL → Option (Int32 × FI × FL)
  | 0, _, _, _, _ => none
  | m + 1, x1, x2, I, L => b_300_0 n (c_300_0 n m) x1 x2 I L
set_option maxHeartbeats 1000000 in
set_option maxRecDepth 20000 in
theorem tc_300_0 (Ls : Nat) (xs : Nat → Int32) (d : Nat) (kp : Option Nat) (tl : List (Nat × Nat)) (rl : List (List (Option Nat))) (nh : Option Nat) (rh : Option Nat) (n : Nat) : ∀ (m : Nat) (x1 : Int32) (x2 : Int32) (I : FI) (L : FL) (r : Int32 × FI × FL), c_300_0 n m x1 x2 I L = some r → Bs cd_300 (sf 12 rs_12 false 3 (some (.int)) Ls xs (d + 5)) (40, [some (.ref 89), some (.int x1), some (.int x2)], [], hp kp nh rh tl rl I L) (some (.int r.1), hp kp nh rh tl rl r.2.1 r.2.2)
  | 0, x1, x2, I, L, r, hf => by cases hf
  | m + 1, x1, x2, I, L, r, hf => by
    unfold c_300_0 b_300_0 at hf
    have hK0 := tc_300_0 Ls xs d kp tl rl nh rh n m
    refine bs_st 2 (x' := (42, [some (.ref 89), some (.int x1), some (.int x2)], [.ref 89, .int x2], hp kp nh rh tl rl I L)) rfl ?_
    obtain ⟨q5, hq5, hf⟩ := Option.bind_eq_some_iff.mp hf
    refine bs_call (o := pEN Ls xs (d + 5) 293 [.ref 89] (hp kp nh rh tl rl I L)) (w := some (.int q5)) (h' := hp kp nh rh tl rl I L) (pc := 45) (lo := [some (.ref 89), some (.int x1), some (.int x2)]) (rest := [.int x2]) rfl (t_293 Ls xs (d + 3) kp tl rl nh rh n I L q5 hq5) ?_
    refine bs_br (t := 71) (e := 48) (lo := [some (.ref 89), some (.int x1), some (.int x2)]) (st := []) (h := hp kp nh rh tl rl I L) rfl hf (fun hc hf => ?_) (fun hc hf => ?_)
    · refine bs_st 1 (x' := (72, [some (.ref 89), some (.int x1), some (.int x2)], [.int x1], hp kp nh rh tl rl I L)) rfl ?_
      cases hf
      exact bs_ret rfl
    · refine bs_st 4 (x' := (54, [some (.ref 89), some (.int x1), some (.int x2)], [.int x2, .ref 109, .int x1], hp kp nh rh tl rl I L)) rfl ?_
      refine bs_gd (x' := (55, [some (.ref 89), some (.int x1), some (.int x2)], [.int (I 109 x2.toNatClampNeg), .int x1], hp kp nh rh tl rl I L)) rfl hf (fun hc hf => ?_)
      refine bs_br (t := 62) (e := 58) (lo := [some (.ref 89), some (.int x1), some (.int x2)]) (st := [.int x1]) (h := hp kp nh rh tl rl I L) rfl hf (fun hc hf => ?_) (fun hc hf => ?_)
      · refine bs_st 1 (x' := (63, [some (.ref 89), some (.int x1), some (.int x2)], [.int (0 : Int32), .int x1], hp kp nh rh tl rl I L)) rfl ?_
        exact tc_300_1 Ls xs d kp tl rl nh rh n _ hK0 (some (.int x1)) x2 (0 : Int32) x1 I L r hf
      · refine bs_st 2 (x' := (63, [some (.ref 89), some (.int x1), some (.int x2)], [.int (1 : Int32), .int x1], hp kp nh rh tl rl I L)) rfl ?_
        exact tc_300_1 Ls xs d kp tl rl nh rh n _ hK0 (some (.int x1)) x2 (1 : Int32) x1 I L r hf
def f_300 (n : Nat) (I : FI) (L : FL) : Option (Int32 × FI × FL) :=
  (f_236 (u2 I 89 0 (0 : Int32)) L).bind fun q0 =>
  if ¬ q0 = 0 then
    (f_237 (u2 I 89 0 (0 : Int32)) L).bind fun q1 =>
    if ¬ q1 = 0 then
      (f_252 n (u2 I 89 0 (0 : Int32)) L).bind fun q2 =>
      (f_298 q2.1 q2.2).bind fun q3 =>
      (f_295 n q3 q2.1 q2.2).bind fun q4 =>
      c_300_0 n n (0 : Int32) (0 : Int32) q4.1 q4.2
    else
      some ((0 : Int32), (u2 I 89 0 (0 : Int32)), L)
  else
    some ((-2 : Int32), (u2 I 89 0 (0 : Int32)), L)
set_option maxHeartbeats 1000000 in
set_option maxRecDepth 20000 in
theorem t_300 (Ls : Nat) (xs : Nat → Int32) (d : Nat) (kp : Option Nat) (tl : List (Nat × Nat)) (rl : List (List (Option Nat))) (nh : Option Nat) (rh : Option Nat) (n : Nat) (I : FI) (L : FL) (r : Int32 × FI × FL) (hf : f_300 n I L = some r) : pEN Ls xs (d + 6) 300 [.ref 89] (hp kp nh rh tl rl I L) = some (some (.int r.1), hp kp nh rh tl rl r.2.1 r.2.2) := by
  refine en_run (d := d + 5) (cd := cd_300) (f := (sf 12 rs_12 false 3 (some (.int)) Ls xs (d + 5))) rfl rfl (x := (0, [some (.ref 89), none, none], [], hp kp nh rh tl rl I L)) rfl rfl (Nat.le_of_ble_eq_true rfl) ?_
  unfold f_300 at hf
  refine bs_st 4 (x' := (6, [some (.ref 89), none, none], [.ref 89], hp kp nh rh tl rl (u2 I 89 0 (0 : Int32)) L)) rfl ?_
  obtain ⟨q0, hq0, hf⟩ := Option.bind_eq_some_iff.mp hf
  refine bs_call (o := pEN Ls xs (d + 5) 236 [.ref 89] (hp kp nh rh tl rl (u2 I 89 0 (0 : Int32)) L)) (w := some (.int q0)) (h' := hp kp nh rh tl rl (u2 I 89 0 (0 : Int32)) L) (pc := 9) (lo := [some (.ref 89), none, none]) (rest := []) rfl (t_236 Ls xs (d + 4) kp tl rl nh rh (u2 I 89 0 (0 : Int32)) L q0 hq0) ?_
  refine bs_br (t := 15) (e := 12) (lo := [some (.ref 89), none, none]) (st := []) (h := hp kp nh rh tl rl (u2 I 89 0 (0 : Int32)) L) rfl hf (fun hc hf => ?_) (fun hc hf => ?_)
  · refine bs_st 1 (x' := (16, [some (.ref 89), none, none], [.ref 89], hp kp nh rh tl rl (u2 I 89 0 (0 : Int32)) L)) rfl ?_
    obtain ⟨q1, hq1, hf⟩ := Option.bind_eq_some_iff.mp hf
    refine bs_call (o := pEN Ls xs (d + 5) 237 [.ref 89] (hp kp nh rh tl rl (u2 I 89 0 (0 : Int32)) L)) (w := some (.int q1)) (h' := hp kp nh rh tl rl (u2 I 89 0 (0 : Int32)) L) (pc := 19) (lo := [some (.ref 89), none, none]) (rest := []) rfl (t_237 Ls xs (d + 4) kp tl rl nh rh (u2 I 89 0 (0 : Int32)) L q1 hq1) ?_
    refine bs_br (t := 24) (e := 22) (lo := [some (.ref 89), none, none]) (st := []) (h := hp kp nh rh tl rl (u2 I 89 0 (0 : Int32)) L) rfl hf (fun hc hf => ?_) (fun hc hf => ?_)
    · refine bs_st 1 (x' := (25, [some (.ref 89), none, none], [.ref 89], hp kp nh rh tl rl (u2 I 89 0 (0 : Int32)) L)) rfl ?_
      obtain ⟨q2, hq2, hf⟩ := Option.bind_eq_some_iff.mp hf
      refine bs_call (o := pEN Ls xs (d + 5) 252 [.ref 89] (hp kp nh rh tl rl (u2 I 89 0 (0 : Int32)) L)) (w := none) (h' := hp kp nh rh tl rl q2.1 q2.2) (pc := 28) (lo := [some (.ref 89), none, none]) (rest := []) rfl (t_252 Ls xs (d + 3) kp tl rl nh rh n (u2 I 89 0 (0 : Int32)) L q2 hq2) ?_
      refine bs_st 2 (x' := (30, [some (.ref 89), none, none], [.ref 89, .ref 89], hp kp nh rh tl rl q2.1 q2.2)) rfl ?_
      obtain ⟨q3, hq3, hf⟩ := Option.bind_eq_some_iff.mp hf
      refine bs_call (o := pEN Ls xs (d + 5) 298 [.ref 89] (hp kp nh rh tl rl q2.1 q2.2)) (w := some (.int q3)) (h' := hp kp nh rh tl rl q2.1 q2.2) (pc := 33) (lo := [some (.ref 89), none, none]) (rest := [.ref 89]) rfl (t_298 Ls xs (d + 3) kp tl rl nh rh q2.1 q2.2 q3 hq3) ?_
      obtain ⟨q4, hq4, hf⟩ := Option.bind_eq_some_iff.mp hf
      refine bs_call (o := pEN Ls xs (d + 5) 295 [.ref 89, .int q3] (hp kp nh rh tl rl q2.1 q2.2)) (w := none) (h' := hp kp nh rh tl rl q4.1 q4.2) (pc := 36) (lo := [some (.ref 89), none, none]) (rest := []) rfl (t_295 Ls xs (d + 0) kp tl rl nh rh n q3 q2.1 q2.2 q4 hq4) ?_
      refine bs_st 4 (x' := (40, [some (.ref 89), some (.int (0 : Int32)), some (.int (0 : Int32))], [], hp kp nh rh tl rl q4.1 q4.2)) rfl ?_
      exact tc_300_0 Ls xs d kp tl rl nh rh n n (0 : Int32) (0 : Int32) q4.1 q4.2 r hf
    · refine bs_st 1 (x' := (23, [some (.ref 89), none, none], [.int (0 : Int32)], hp kp nh rh tl rl (u2 I 89 0 (0 : Int32)) L)) rfl ?_
      cases hf
      exact bs_ret rfl
  · refine bs_st 1 (x' := (14, [some (.ref 89), none, none], [.int (-2 : Int32)], hp kp nh rh tl rl (u2 I 89 0 (0 : Int32)) L)) rfl ?_
    cases hf
    exact bs_ret rfl
/-- LampRoundsModel.next() on (89,) -/
def b_301_0 (n : Nat) (K0 : Int32 → Int32 → FI → FL → Option (Int32 × FI × FL)) (x1 : Int32) (x2 : Int32) (I : FI) (L : FL) : Option (Int32 × FI × FL) :=
  (f_237 I L).bind fun q8 =>
  if q8 ≤ x2 then
    some ((-1 : Int32), I, L)
  else
    (f_298 I L).bind fun q9 =>
    (f_291 n x1 x2 q9 I L).bind fun q10 =>
    if q10.1 = 0 then
      K0 x1 (x2 + (1 : Int32)) q10.2.1 q10.2.2
    else
      some (x2, q10.2.1, q10.2.2)
def c_301_0 (n : Nat) : Nat → Int32 → Int32 → FI → FL → Option (Int32 × FI × FL)
  | 0, _, _, _, _ => none
  | m + 1, x1, x2, I, L => b_301_0 n (c_301_0 n m) x1 x2 I L
set_option maxHeartbeats 1000000 in
set_option maxRecDepth 20000 in
theorem tc_301_0 (Ls : Nat) (xs : Nat → Int32) (d : Nat) (kp : Option Nat) (tl : List (Nat × Nat)) (rl : List (List (Option Nat))) (nh : Option Nat) (rh : Option Nat) (n : Nat) : ∀ (m : Nat) (x1 : Int32) (x2 : Int32) (I : FI) (L : FL) (r : Int32 × FI × FL), c_301_0 n m x1 x2 I L = some r → Bs cd_301 (sf 12 rs_12 false 3 (some (.int)) Ls xs (d + 5)) (51, [some (.ref 89), some (.int x1), some (.int x2)], [], hp kp nh rh tl rl I L) (some (.int r.1), hp kp nh rh tl rl r.2.1 r.2.2)
  | 0, x1, x2, I, L, r, hf => by cases hf
  | m + 1, x1, x2, I, L, r, hf => by
    unfold c_301_0 b_301_0 at hf
    have hK0 := tc_301_0 Ls xs d kp tl rl nh rh n m
    refine bs_st 2 (x' := (53, [some (.ref 89), some (.int x1), some (.int x2)], [.ref 89, .int x2], hp kp nh rh tl rl I L)) rfl ?_
    obtain ⟨q8, hq8, hf⟩ := Option.bind_eq_some_iff.mp hf
    refine bs_call (o := pEN Ls xs (d + 5) 237 [.ref 89] (hp kp nh rh tl rl I L)) (w := some (.int q8)) (h' := hp kp nh rh tl rl I L) (pc := 56) (lo := [some (.ref 89), some (.int x1), some (.int x2)]) (rest := [.int x2]) rfl (t_237 Ls xs (d + 4) kp tl rl nh rh I L q8 hq8) ?_
    refine bs_br (t := 80) (e := 59) (lo := [some (.ref 89), some (.int x1), some (.int x2)]) (st := []) (h := hp kp nh rh tl rl I L) rfl hf (fun hc hf => ?_) (fun hc hf => ?_)
    · refine bs_st 1 (x' := (81, [some (.ref 89), some (.int x1), some (.int x2)], [.int (-1 : Int32)], hp kp nh rh tl rl I L)) rfl ?_
      cases hf
      exact bs_ret rfl
    · refine bs_st 4 (x' := (63, [some (.ref 89), some (.int x1), some (.int x2)], [.ref 89, .int x2, .int x1, .ref 89], hp kp nh rh tl rl I L)) rfl ?_
      obtain ⟨q9, hq9, hf⟩ := Option.bind_eq_some_iff.mp hf
      refine bs_call (o := pEN Ls xs (d + 5) 298 [.ref 89] (hp kp nh rh tl rl I L)) (w := some (.int q9)) (h' := hp kp nh rh tl rl I L) (pc := 66) (lo := [some (.ref 89), some (.int x1), some (.int x2)]) (rest := [.int x2, .int x1, .ref 89]) rfl (t_298 Ls xs (d + 3) kp tl rl nh rh I L q9 hq9) ?_
      obtain ⟨q10, hq10, hf⟩ := Option.bind_eq_some_iff.mp hf
      refine bs_call (o := pEN Ls xs (d + 5) 291 [.ref 89, .int x1, .int x2, .int q9] (hp kp nh rh tl rl I L)) (w := some (.int q10.1)) (h' := hp kp nh rh tl rl q10.2.1 q10.2.2) (pc := 69) (lo := [some (.ref 89), some (.int x1), some (.int x2)]) (rest := []) rfl (t_291 Ls xs (d + 2) kp tl rl nh rh n x1 x2 q9 I L q10 hq10) ?_
      refine bs_br (t := 74) (e := 72) (lo := [some (.ref 89), some (.int x1), some (.int x2)]) (st := []) (h := hp kp nh rh tl rl q10.2.1 q10.2.2) rfl hf (fun hc hf => ?_) (fun hc hf => ?_)
      · refine bs_st 2 (x' := (51, [some (.ref 89), some (.int x1), some (.int (x2 + (1 : Int32)))], [], hp kp nh rh tl rl q10.2.1 q10.2.2)) rfl ?_
        exact hK0 x1 (x2 + (1 : Int32)) q10.2.1 q10.2.2 r hf
      · refine bs_st 1 (x' := (73, [some (.ref 89), some (.int x1), some (.int x2)], [.int x2], hp kp nh rh tl rl q10.2.1 q10.2.2)) rfl ?_
        cases hf
        exact bs_ret rfl
def f_301 (n : Nat) (I : FI) (L : FL) : Option (Int32 × FI × FL) :=
  (f_236 (u2 I 89 0 (0 : Int32)) L).bind fun q0 =>
  if ¬ q0 = 0 then
    (f_252 n (u2 I 89 0 (0 : Int32)) L).bind fun q1 =>
    (f_237 q1.1 q1.2).bind fun q2 =>
    if ¬ q2 = 0 then
      (f_298 q1.1 q1.2).bind fun q3 =>
      (f_295 n q3 q1.1 q1.2).bind fun q4 =>
      (f_256 q4.1 q4.2).bind fun q5 =>
      (f_298 q4.1 q4.2).bind fun q6 =>
      (f_296 n q5 q6 q4.1 q4.2).bind fun q7 =>
      c_301_0 n n q7.1 (0 : Int32) q7.2.1 q7.2.2
    else
      some ((-1 : Int32), q1.1, q1.2)
  else
    some ((-2 : Int32), (u2 I 89 0 (0 : Int32)), L)
set_option maxHeartbeats 1000000 in
set_option maxRecDepth 20000 in
theorem t_301 (Ls : Nat) (xs : Nat → Int32) (d : Nat) (kp : Option Nat) (tl : List (Nat × Nat)) (rl : List (List (Option Nat))) (nh : Option Nat) (rh : Option Nat) (n : Nat) (I : FI) (L : FL) (r : Int32 × FI × FL) (hf : f_301 n I L = some r) : pEN Ls xs (d + 6) 301 [.ref 89] (hp kp nh rh tl rl I L) = some (some (.int r.1), hp kp nh rh tl rl r.2.1 r.2.2) := by
  refine en_run (d := d + 5) (cd := cd_301) (f := (sf 12 rs_12 false 3 (some (.int)) Ls xs (d + 5))) rfl rfl (x := (0, [some (.ref 89), none, none], [], hp kp nh rh tl rl I L)) rfl rfl (Nat.le_of_ble_eq_true rfl) ?_
  unfold f_301 at hf
  refine bs_st 4 (x' := (6, [some (.ref 89), none, none], [.ref 89], hp kp nh rh tl rl (u2 I 89 0 (0 : Int32)) L)) rfl ?_
  obtain ⟨q0, hq0, hf⟩ := Option.bind_eq_some_iff.mp hf
  refine bs_call (o := pEN Ls xs (d + 5) 236 [.ref 89] (hp kp nh rh tl rl (u2 I 89 0 (0 : Int32)) L)) (w := some (.int q0)) (h' := hp kp nh rh tl rl (u2 I 89 0 (0 : Int32)) L) (pc := 9) (lo := [some (.ref 89), none, none]) (rest := []) rfl (t_236 Ls xs (d + 4) kp tl rl nh rh (u2 I 89 0 (0 : Int32)) L q0 hq0) ?_
  refine bs_br (t := 15) (e := 12) (lo := [some (.ref 89), none, none]) (st := []) (h := hp kp nh rh tl rl (u2 I 89 0 (0 : Int32)) L) rfl hf (fun hc hf => ?_) (fun hc hf => ?_)
  · refine bs_st 1 (x' := (16, [some (.ref 89), none, none], [.ref 89], hp kp nh rh tl rl (u2 I 89 0 (0 : Int32)) L)) rfl ?_
    obtain ⟨q1, hq1, hf⟩ := Option.bind_eq_some_iff.mp hf
    refine bs_call (o := pEN Ls xs (d + 5) 252 [.ref 89] (hp kp nh rh tl rl (u2 I 89 0 (0 : Int32)) L)) (w := none) (h' := hp kp nh rh tl rl q1.1 q1.2) (pc := 19) (lo := [some (.ref 89), none, none]) (rest := []) rfl (t_252 Ls xs (d + 3) kp tl rl nh rh n (u2 I 89 0 (0 : Int32)) L q1 hq1) ?_
    refine bs_st 1 (x' := (20, [some (.ref 89), none, none], [.ref 89], hp kp nh rh tl rl q1.1 q1.2)) rfl ?_
    obtain ⟨q2, hq2, hf⟩ := Option.bind_eq_some_iff.mp hf
    refine bs_call (o := pEN Ls xs (d + 5) 237 [.ref 89] (hp kp nh rh tl rl q1.1 q1.2)) (w := some (.int q2)) (h' := hp kp nh rh tl rl q1.1 q1.2) (pc := 23) (lo := [some (.ref 89), none, none]) (rest := []) rfl (t_237 Ls xs (d + 4) kp tl rl nh rh q1.1 q1.2 q2 hq2) ?_
    refine bs_br (t := 28) (e := 26) (lo := [some (.ref 89), none, none]) (st := []) (h := hp kp nh rh tl rl q1.1 q1.2) rfl hf (fun hc hf => ?_) (fun hc hf => ?_)
    · refine bs_st 2 (x' := (30, [some (.ref 89), none, none], [.ref 89, .ref 89], hp kp nh rh tl rl q1.1 q1.2)) rfl ?_
      obtain ⟨q3, hq3, hf⟩ := Option.bind_eq_some_iff.mp hf
      refine bs_call (o := pEN Ls xs (d + 5) 298 [.ref 89] (hp kp nh rh tl rl q1.1 q1.2)) (w := some (.int q3)) (h' := hp kp nh rh tl rl q1.1 q1.2) (pc := 33) (lo := [some (.ref 89), none, none]) (rest := [.ref 89]) rfl (t_298 Ls xs (d + 3) kp tl rl nh rh q1.1 q1.2 q3 hq3) ?_
      obtain ⟨q4, hq4, hf⟩ := Option.bind_eq_some_iff.mp hf
      refine bs_call (o := pEN Ls xs (d + 5) 295 [.ref 89, .int q3] (hp kp nh rh tl rl q1.1 q1.2)) (w := none) (h' := hp kp nh rh tl rl q4.1 q4.2) (pc := 36) (lo := [some (.ref 89), none, none]) (rest := []) rfl (t_295 Ls xs (d + 0) kp tl rl nh rh n q3 q1.1 q1.2 q4 hq4) ?_
      refine bs_st 2 (x' := (38, [some (.ref 89), none, none], [.ref 89, .ref 89], hp kp nh rh tl rl q4.1 q4.2)) rfl ?_
      obtain ⟨q5, hq5, hf⟩ := Option.bind_eq_some_iff.mp hf
      refine bs_call (o := pEN Ls xs (d + 5) 256 [.ref 89] (hp kp nh rh tl rl q4.1 q4.2)) (w := some (.int q5)) (h' := hp kp nh rh tl rl q4.1 q4.2) (pc := 41) (lo := [some (.ref 89), none, none]) (rest := [.ref 89]) rfl (t_256 Ls xs (d + 3) kp tl rl nh rh q4.1 q4.2 q5 hq5) ?_
      refine bs_st 1 (x' := (42, [some (.ref 89), none, none], [.ref 89, .int q5, .ref 89], hp kp nh rh tl rl q4.1 q4.2)) rfl ?_
      obtain ⟨q6, hq6, hf⟩ := Option.bind_eq_some_iff.mp hf
      refine bs_call (o := pEN Ls xs (d + 5) 298 [.ref 89] (hp kp nh rh tl rl q4.1 q4.2)) (w := some (.int q6)) (h' := hp kp nh rh tl rl q4.1 q4.2) (pc := 45) (lo := [some (.ref 89), none, none]) (rest := [.int q5, .ref 89]) rfl (t_298 Ls xs (d + 3) kp tl rl nh rh q4.1 q4.2 q6 hq6) ?_
      obtain ⟨q7, hq7, hf⟩ := Option.bind_eq_some_iff.mp hf
      refine bs_call (o := pEN Ls xs (d + 5) 296 [.ref 89, .int q5, .int q6] (hp kp nh rh tl rl q4.1 q4.2)) (w := some (.int q7.1)) (h' := hp kp nh rh tl rl q7.2.1 q7.2.2) (pc := 48) (lo := [some (.ref 89), none, none]) (rest := []) rfl (t_296 Ls xs (d + 2) kp tl rl nh rh n q5 q6 q4.1 q4.2 q7 hq7) ?_
      refine bs_st 3 (x' := (51, [some (.ref 89), some (.int q7.1), some (.int (0 : Int32))], [], hp kp nh rh tl rl q7.2.1 q7.2.2)) rfl ?_
      exact tc_301_0 Ls xs d kp tl rl nh rh n n q7.1 (0 : Int32) q7.2.1 q7.2.2 r hf
    · refine bs_st 1 (x' := (27, [some (.ref 89), none, none], [.int (-1 : Int32)], hp kp nh rh tl rl q1.1 q1.2)) rfl ?_
      cases hf
      exact bs_ret rfl
  · refine bs_st 1 (x' := (14, [some (.ref 89), none, none], [.int (-2 : Int32)], hp kp nh rh tl rl (u2 I 89 0 (0 : Int32)) L)) rfl ?_
    cases hf
    exact bs_ret rfl
/-- LampRoundsModel.goesOn() on (89,) -/
def b_303_2 (n : Nat) (K2 : Int32 → Int32 → FI → FL → Option (Int32 × FI × FL)) (x1 : Int32) (x2 : Int32) (I : FI) (L : FL) : Option (Int32 × FI × FL) :=
  (f_293 n I L).bind fun q2 =>
  if q2 ≤ x2 then
    if narrow .boolean (.int x1) = .int x1 then some (x1, I, L) else none
  else
    if pin x2 16384 = true then (if pin x2 16384 = true then K2 x1 (x2 + (1 : Int32)) (u2 I 109 x2.toNatClampNeg (vp_nar .boolean (I 110 x2.toNatClampNeg))) L else none) else none
def c_303_2 (n : Nat) : Nat → Int32 → Int32 → FI → FL → Option (Int32 × FI × FL)
  | 0, _, _, _, _ => none
  | m + 1, x1, x2, I, L => b_303_2 n (c_303_2 n m) x1 x2 I L
set_option maxHeartbeats 1000000 in
set_option maxRecDepth 20000 in
theorem tc_303_2 (Ls : Nat) (xs : Nat → Int32) (d : Nat) (kp : Option Nat) (tl : List (Nat × Nat)) (rl : List (List (Option Nat))) (nh : Option Nat) (rh : Option Nat) (n : Nat) : ∀ (m : Nat) (w3 : Option Value) (x1 : Int32) (x2 : Int32) (I : FI) (L : FL) (r : Int32 × FI × FL), c_303_2 n m x1 x2 I L = some r → Bs cd_303 (sf 12 rs_12 false 4 (some (.boolean)) Ls xs (d + 2)) (131, [some (.ref 89), some (.int x1), some (.int x2), w3], [], hp kp nh rh tl rl I L) (some (.int r.1), hp kp nh rh tl rl r.2.1 r.2.2)
  | 0, w3, x1, x2, I, L, r, hf => by cases hf
  | m + 1, w3, x1, x2, I, L, r, hf => by
    unfold c_303_2 b_303_2 at hf
    have hK2 := tc_303_2 Ls xs d kp tl rl nh rh n m
    refine bs_st 2 (x' := (133, [some (.ref 89), some (.int x1), some (.int x2), w3], [.ref 89, .int x2], hp kp nh rh tl rl I L)) rfl ?_
    obtain ⟨q2, hq2, hf⟩ := Option.bind_eq_some_iff.mp hf
    refine bs_call (o := pEN Ls xs (d + 2) 293 [.ref 89] (hp kp nh rh tl rl I L)) (w := some (.int q2)) (h' := hp kp nh rh tl rl I L) (pc := 136) (lo := [some (.ref 89), some (.int x1), some (.int x2), w3]) (rest := [.int x2]) rfl (t_293 Ls xs (d + 0) kp tl rl nh rh n I L q2 hq2) ?_
    refine bs_br (t := 157) (e := 139) (lo := [some (.ref 89), some (.int x1), some (.int x2), w3]) (st := []) (h := hp kp nh rh tl rl I L) rfl hf (fun hc hf => ?_) (fun hc hf => ?_)
    · refine bs_st 1 (x' := (158, [some (.ref 89), some (.int x1), some (.int x2), w3], [.int x1], hp kp nh rh tl rl I L)) rfl ?_
      split at hf
      · rename_i hg; cases hf; exact bs_rg rfl hg
      · cases hf
    · refine bs_st 6 (x' := (149, [some (.ref 89), some (.int x1), some (.int x2), w3], [.int x2, .ref 110, .int x2, .ref 109], hp kp nh rh tl rl I L)) rfl ?_
      refine bs_gd (x' := (150, [some (.ref 89), some (.int x1), some (.int x2), w3], [.int (I 110 x2.toNatClampNeg), .int x2, .ref 109], hp kp nh rh tl rl I L)) rfl hf (fun hc hf => ?_)
      refine bs_gd (x' := (151, [some (.ref 89), some (.int x1), some (.int x2), w3], [], hp kp nh rh tl rl (u2 I 109 x2.toNatClampNeg (vp_nar .boolean (I 110 x2.toNatClampNeg))) L)) rfl hf (fun hc hf => ?_)
      refine bs_st 2 (x' := (131, [some (.ref 89), some (.int x1), some (.int (x2 + (1 : Int32))), w3], [], hp kp nh rh tl rl (u2 I 109 x2.toNatClampNeg (vp_nar .boolean (I 110 x2.toNatClampNeg))) L)) rfl ?_
      exact hK2 w3 x1 (x2 + (1 : Int32)) (u2 I 109 x2.toNatClampNeg (vp_nar .boolean (I 110 x2.toNatClampNeg))) L r hf
def c_303_4 (n : Nat) (K1 : Int32 → Int32 → FI → FL → Option (Int32 × FI × FL)) (x1 : Int32) (x2 : Int32) (I : FI) (L : FL) : Option (Int32 × FI × FL) :=
  K1 x1 (x2 + (1 : Int32)) I L
set_option maxHeartbeats 1000000 in
set_option maxRecDepth 20000 in
theorem tc_303_4 (Ls : Nat) (xs : Nat → Int32) (d : Nat) (kp : Option Nat) (tl : List (Nat × Nat)) (rl : List (List (Option Nat))) (nh : Option Nat) (rh : Option Nat) (n : Nat) (K1 : Int32 → Int32 → FI → FL → Option (Int32 × FI × FL)) (hK1 : ∀ (w3 : Option Value) (x1 : Int32) (x2 : Int32) (I : FI) (L : FL) (r : Int32 × FI × FL), K1 x1 x2 I L = some r → Bs cd_303 (sf 12 rs_12 false 4 (some (.boolean)) Ls xs (d + 2)) (27, [some (.ref 89), some (.int x1), some (.int x2), w3], [], hp kp nh rh tl rl I L) (some (.int r.1), hp kp nh rh tl rl r.2.1 r.2.2)) (w3 : Option Value) (x1 : Int32) (x2 : Int32) (I : FI) (L : FL) (r : Int32 × FI × FL) (hf : c_303_4 n K1 x1 x2 I L = some r) : Bs cd_303 (sf 12 rs_12 false 4 (some (.boolean)) Ls xs (d + 2)) (123, [some (.ref 89), some (.int x1), some (.int x2), w3], [], hp kp nh rh tl rl I L) (some (.int r.1), hp kp nh rh tl rl r.2.1 r.2.2) := by
  unfold c_303_4 at hf
  refine bs_st 2 (x' := (27, [some (.ref 89), some (.int x1), some (.int (x2 + (1 : Int32))), w3], [], hp kp nh rh tl rl I L)) rfl ?_
  exact hK1 w3 x1 (x2 + (1 : Int32)) I L r hf
def c_303_5 (n : Nat) (K1 : Int32 → Int32 → FI → FL → Option (Int32 × FI × FL)) (K3 : Int32 → Int32 → Int32 → FI → FL → Option (Int32 × FI × FL)) (x1 : Int32) (x2 : Int32) (x3 : Int32) (I : FI) (L : FL) : Option (Int32 × FI × FL) :=
  K3 x1 x2 (x3 + (1 : Int32)) I L
set_option maxHeartbeats 1000000 in
set_option maxRecDepth 20000 in
theorem tc_303_5 (Ls : Nat) (xs : Nat → Int32) (d : Nat) (kp : Option Nat) (tl : List (Nat × Nat)) (rl : List (List (Option Nat))) (nh : Option Nat) (rh : Option Nat) (n : Nat) (K1 : Int32 → Int32 → FI → FL → Option (Int32 × FI × FL)) (K3 : Int32 → Int32 → Int32 → FI → FL → Option (Int32 × FI × FL)) (hK1 : ∀ (w3 : Option Value) (x1 : Int32) (x2 : Int32) (I : FI) (L : FL) (r : Int32 × FI × FL), K1 x1 x2 I L = some r → Bs cd_303 (sf 12 rs_12 false 4 (some (.boolean)) Ls xs (d + 2)) (27, [some (.ref 89), some (.int x1), some (.int x2), w3], [], hp kp nh rh tl rl I L) (some (.int r.1), hp kp nh rh tl rl r.2.1 r.2.2)) (hK3 : ∀ (x1 : Int32) (x2 : Int32) (x3 : Int32) (I : FI) (L : FL) (r : Int32 × FI × FL), K3 x1 x2 x3 I L = some r → Bs cd_303 (sf 12 rs_12 false 4 (some (.boolean)) Ls xs (d + 2)) (37, [some (.ref 89), some (.int x1), some (.int x2), some (.int x3)], [], hp kp nh rh tl rl I L) (some (.int r.1), hp kp nh rh tl rl r.2.1 r.2.2)) (x1 : Int32) (x2 : Int32) (x3 : Int32) (I : FI) (L : FL) (r : Int32 × FI × FL) (hf : c_303_5 n K1 K3 x1 x2 x3 I L = some r) : Bs cd_303 (sf 12 rs_12 false 4 (some (.boolean)) Ls xs (d + 2)) (117, [some (.ref 89), some (.int x1), some (.int x2), some (.int x3)], [], hp kp nh rh tl rl I L) (some (.int r.1), hp kp nh rh tl rl r.2.1 r.2.2) := by
  unfold c_303_5 at hf
  refine bs_st 2 (x' := (37, [some (.ref 89), some (.int x1), some (.int x2), some (.int (x3 + (1 : Int32)))], [], hp kp nh rh tl rl I L)) rfl ?_
  exact hK3 x1 x2 (x3 + (1 : Int32)) I L r hf
def b_303_3 (n : Nat) (K1 : Int32 → Int32 → FI → FL → Option (Int32 × FI × FL)) (K3 : Int32 → Int32 → Int32 → FI → FL → Option (Int32 × FI × FL)) (x1 : Int32) (x2 : Int32) (x3 : Int32) (I : FI) (L : FL) : Option (Int32 × FI × FL) :=
  (f_237 I L).bind fun q3 =>
  if q3 ≤ x3 then
    c_303_4 n K1 x1 x2 I L
  else
    if pin x2 16384 = true then (if I 109 x2.toNatClampNeg = 0 then
        c_303_4 n K1 x1 x2 I L
      else
        (f_289 n x2 I L).bind fun q4 =>
        (f_250 n q4 x3 I L).bind fun q5 =>
        if ¬ q5 = 0 then
          (f_288 n x2 I L).bind fun q6 =>
          (f_289 n x2 q6.1 q6.2).bind fun q7 =>
          (f_253 n x3 q7 (0 : Int32) q6.1 q6.2).bind fun q8 =>
          (f_298 q8.1 q8.2).bind fun q9 =>
          (f_290 n q9 q8.1 q8.2).bind fun q10 =>
          if ¬ q10 = 0 then
            (f_298 q8.1 q8.2).bind fun q11 =>
            (f_287 n x3 q11 q8.1 q8.2).bind fun q12 =>
            if pin q12 16384 = true then c_303_5 n K1 K3 (1 : Int32) x2 x3 (u2 q8.1 110 q12.toNatClampNeg (vp_nar .boolean (1 : Int32))) q8.2 else none
          else
            c_303_5 n K1 K3 x1 x2 x3 q8.1 q8.2
        else
          c_303_5 n K1 K3 x1 x2 x3 I L) else none
def c_303_3 (n : Nat) (K1 : Int32 → Int32 → FI → FL → Option (Int32 × FI × FL)) : Nat → Int32 → Int32 → Int32 → FI → FL → Option (Int32 × FI × FL)
  | 0, _, _, _, _, _ => none
  | m + 1, x1, x2, x3, I, L => b_303_3 n K1 (c_303_3 n K1 m) x1 x2 x3 I L
set_option maxHeartbeats 1000000 in
set_option maxRecDepth 20000 in
theorem tc_303_3 (Ls : Nat) (xs : Nat → Int32) (d : Nat) (kp : Option Nat) (tl : List (Nat × Nat)) (rl : List (List (Option Nat))) (nh : Option Nat) (rh : Option Nat) (n : Nat) (K1 : Int32 → Int32 → FI → FL → Option (Int32 × FI × FL)) (hK1 : ∀ (w3 : Option Value) (x1 : Int32) (x2 : Int32) (I : FI) (L : FL) (r : Int32 × FI × FL), K1 x1 x2 I L = some r → Bs cd_303 (sf 12 rs_12 false 4 (some (.boolean)) Ls xs (d + 2)) (27, [some (.ref 89), some (.int x1), some (.int x2), w3], [], hp kp nh rh tl rl I L) (some (.int r.1), hp kp nh rh tl rl r.2.1 r.2.2)) : ∀ (m : Nat) (x1 : Int32) (x2 : Int32) (x3 : Int32) (I : FI) (L : FL) (r : Int32 × FI × FL), c_303_3 n K1 m x1 x2 x3 I L = some r → Bs cd_303 (sf 12 rs_12 false 4 (some (.boolean)) Ls xs (d + 2)) (37, [some (.ref 89), some (.int x1), some (.int x2), some (.int x3)], [], hp kp nh rh tl rl I L) (some (.int r.1), hp kp nh rh tl rl r.2.1 r.2.2)
  | 0, x1, x2, x3, I, L, r, hf => by cases hf
  | m + 1, x1, x2, x3, I, L, r, hf => by
    unfold c_303_3 b_303_3 at hf
    have hK3 := tc_303_3 Ls xs d kp tl rl nh rh n K1 hK1 m
    refine bs_st 2 (x' := (39, [some (.ref 89), some (.int x1), some (.int x2), some (.int x3)], [.ref 89, .int x3], hp kp nh rh tl rl I L)) rfl ?_
    obtain ⟨q3, hq3, hf⟩ := Option.bind_eq_some_iff.mp hf
    refine bs_call (o := pEN Ls xs (d + 2) 237 [.ref 89] (hp kp nh rh tl rl I L)) (w := some (.int q3)) (h' := hp kp nh rh tl rl I L) (pc := 42) (lo := [some (.ref 89), some (.int x1), some (.int x2), some (.int x3)]) (rest := [.int x3]) rfl (t_237 Ls xs (d + 1) kp tl rl nh rh I L q3 hq3) ?_
    refine bs_br (t := 123) (e := 45) (lo := [some (.ref 89), some (.int x1), some (.int x2), some (.int x3)]) (st := []) (h := hp kp nh rh tl rl I L) rfl hf (fun hc hf => ?_) (fun hc hf => ?_)
    · exact tc_303_4 Ls xs d kp tl rl nh rh n _ hK1 (some (.int x3)) x1 x2 I L r hf
    · refine bs_st 3 (x' := (50, [some (.ref 89), some (.int x1), some (.int x2), some (.int x3)], [.int x2, .ref 109], hp kp nh rh tl rl I L)) rfl ?_
      refine bs_gd (x' := (51, [some (.ref 89), some (.int x1), some (.int x2), some (.int x3)], [.int (I 109 x2.toNatClampNeg)], hp kp nh rh tl rl I L)) rfl hf (fun hc hf => ?_)
      refine bs_br (t := 123) (e := 54) (lo := [some (.ref 89), some (.int x1), some (.int x2), some (.int x3)]) (st := []) (h := hp kp nh rh tl rl I L) rfl hf (fun hc hf => ?_) (fun hc hf => ?_)
      · exact tc_303_4 Ls xs d kp tl rl nh rh n _ hK1 (some (.int x3)) x1 x2 I L r hf
      · refine bs_st 3 (x' := (57, [some (.ref 89), some (.int x1), some (.int x2), some (.int x3)], [.int x2, .ref 89, .ref 89], hp kp nh rh tl rl I L)) rfl ?_
        obtain ⟨q4, hq4, hf⟩ := Option.bind_eq_some_iff.mp hf
        refine bs_call (o := pEN Ls xs (d + 2) 289 [.ref 89, .int x2] (hp kp nh rh tl rl I L)) (w := some (.int q4)) (h' := hp kp nh rh tl rl I L) (pc := 60) (lo := [some (.ref 89), some (.int x1), some (.int x2), some (.int x3)]) (rest := [.ref 89]) rfl (t_289 Ls xs (d + 0) kp tl rl nh rh n x2 I L q4 hq4) ?_
        refine bs_st 1 (x' := (61, [some (.ref 89), some (.int x1), some (.int x2), some (.int x3)], [.int x3, .int q4, .ref 89], hp kp nh rh tl rl I L)) rfl ?_
        obtain ⟨q5, hq5, hf⟩ := Option.bind_eq_some_iff.mp hf
        refine bs_call (o := pEN Ls xs (d + 2) 250 [.ref 89, .int q4, .int x3] (hp kp nh rh tl rl I L)) (w := some (.int q5)) (h' := hp kp nh rh tl rl I L) (pc := 64) (lo := [some (.ref 89), some (.int x1), some (.int x2), some (.int x3)]) (rest := []) rfl (t_250 Ls xs (d + 0) kp tl rl nh rh n q4 x3 I L q5 hq5) ?_
        refine bs_br (t := 70) (e := 67) (lo := [some (.ref 89), some (.int x1), some (.int x2), some (.int x3)]) (st := []) (h := hp kp nh rh tl rl I L) rfl hf (fun hc hf => ?_) (fun hc hf => ?_)
        · refine bs_st 2 (x' := (72, [some (.ref 89), some (.int x1), some (.int x2), some (.int x3)], [.int x2, .ref 89], hp kp nh rh tl rl I L)) rfl ?_
          obtain ⟨q6, hq6, hf⟩ := Option.bind_eq_some_iff.mp hf
          refine bs_call (o := pEN Ls xs (d + 2) 288 [.ref 89, .int x2] (hp kp nh rh tl rl I L)) (w := none) (h' := hp kp nh rh tl rl q6.1 q6.2) (pc := 75) (lo := [some (.ref 89), some (.int x1), some (.int x2), some (.int x3)]) (rest := []) rfl (t_288 Ls xs (d + 0) kp tl rl nh rh n x2 I L q6 hq6) ?_
          refine bs_st 4 (x' := (79, [some (.ref 89), some (.int x1), some (.int x2), some (.int x3)], [.int x2, .ref 89, .int x3, .ref 89], hp kp nh rh tl rl q6.1 q6.2)) rfl ?_
          obtain ⟨q7, hq7, hf⟩ := Option.bind_eq_some_iff.mp hf
          refine bs_call (o := pEN Ls xs (d + 2) 289 [.ref 89, .int x2] (hp kp nh rh tl rl q6.1 q6.2)) (w := some (.int q7)) (h' := hp kp nh rh tl rl q6.1 q6.2) (pc := 82) (lo := [some (.ref 89), some (.int x1), some (.int x2), some (.int x3)]) (rest := [.int x3, .ref 89]) rfl (t_289 Ls xs (d + 0) kp tl rl nh rh n x2 q6.1 q6.2 q7 hq7) ?_
          refine bs_st 1 (x' := (83, [some (.ref 89), some (.int x1), some (.int x2), some (.int x3)], [.int (0 : Int32), .int q7, .int x3, .ref 89], hp kp nh rh tl rl q6.1 q6.2)) rfl ?_
          obtain ⟨q8, hq8, hf⟩ := Option.bind_eq_some_iff.mp hf
          refine bs_call (o := pEN Ls xs (d + 2) 253 [.ref 89, .int x3, .int q7, .int (0 : Int32)] (hp kp nh rh tl rl q6.1 q6.2)) (w := none) (h' := hp kp nh rh tl rl q8.1 q8.2) (pc := 86) (lo := [some (.ref 89), some (.int x1), some (.int x2), some (.int x3)]) (rest := []) rfl (t_253 Ls xs (d + 0) kp tl rl nh rh n x3 q7 (0 : Int32) q6.1 q6.2 q8 hq8) ?_
          refine bs_st 2 (x' := (88, [some (.ref 89), some (.int x1), some (.int x2), some (.int x3)], [.ref 89, .ref 89], hp kp nh rh tl rl q8.1 q8.2)) rfl ?_
          obtain ⟨q9, hq9, hf⟩ := Option.bind_eq_some_iff.mp hf
          refine bs_call (o := pEN Ls xs (d + 2) 298 [.ref 89] (hp kp nh rh tl rl q8.1 q8.2)) (w := some (.int q9)) (h' := hp kp nh rh tl rl q8.1 q8.2) (pc := 91) (lo := [some (.ref 89), some (.int x1), some (.int x2), some (.int x3)]) (rest := [.ref 89]) rfl (t_298 Ls xs (d + 0) kp tl rl nh rh q8.1 q8.2 q9 hq9) ?_
          obtain ⟨q10, hq10, hf⟩ := Option.bind_eq_some_iff.mp hf
          refine bs_call (o := pEN Ls xs (d + 2) 290 [.ref 89, .int q9] (hp kp nh rh tl rl q8.1 q8.2)) (w := some (.int q10)) (h' := hp kp nh rh tl rl q8.1 q8.2) (pc := 94) (lo := [some (.ref 89), some (.int x1), some (.int x2), some (.int x3)]) (rest := []) rfl (t_290 Ls xs (d + 0) kp tl rl nh rh n q9 q8.1 q8.2 q10 hq10) ?_
          refine bs_br (t := 100) (e := 97) (lo := [some (.ref 89), some (.int x1), some (.int x2), some (.int x3)]) (st := []) (h := hp kp nh rh tl rl q8.1 q8.2) rfl hf (fun hc hf => ?_) (fun hc hf => ?_)
          · refine bs_st 5 (x' := (107, [some (.ref 89), some (.int x1), some (.int x2), some (.int x3)], [.ref 89, .int x3, .ref 89, .ref 110], hp kp nh rh tl rl q8.1 q8.2)) rfl ?_
            obtain ⟨q11, hq11, hf⟩ := Option.bind_eq_some_iff.mp hf
            refine bs_call (o := pEN Ls xs (d + 2) 298 [.ref 89] (hp kp nh rh tl rl q8.1 q8.2)) (w := some (.int q11)) (h' := hp kp nh rh tl rl q8.1 q8.2) (pc := 110) (lo := [some (.ref 89), some (.int x1), some (.int x2), some (.int x3)]) (rest := [.int x3, .ref 89, .ref 110]) rfl (t_298 Ls xs (d + 0) kp tl rl nh rh q8.1 q8.2 q11 hq11) ?_
            obtain ⟨q12, hq12, hf⟩ := Option.bind_eq_some_iff.mp hf
            refine bs_call (o := pEN Ls xs (d + 2) 287 [.ref 89, .int x3, .int q11] (hp kp nh rh tl rl q8.1 q8.2)) (w := some (.int q12)) (h' := hp kp nh rh tl rl q8.1 q8.2) (pc := 113) (lo := [some (.ref 89), some (.int x1), some (.int x2), some (.int x3)]) (rest := [.ref 110]) rfl (t_287 Ls xs (d + 0) kp tl rl nh rh n x3 q11 q8.1 q8.2 q12 hq12) ?_
            refine bs_st 1 (x' := (114, [some (.ref 89), some (.int x1), some (.int x2), some (.int x3)], [.int (1 : Int32), .int q12, .ref 110], hp kp nh rh tl rl q8.1 q8.2)) rfl ?_
            refine bs_gd (x' := (115, [some (.ref 89), some (.int x1), some (.int x2), some (.int x3)], [], hp kp nh rh tl rl (u2 q8.1 110 q12.toNatClampNeg (vp_nar .boolean (1 : Int32))) q8.2)) rfl hf (fun hc hf => ?_)
            refine bs_st 2 (x' := (117, [some (.ref 89), some (.int (1 : Int32)), some (.int x2), some (.int x3)], [], hp kp nh rh tl rl (u2 q8.1 110 q12.toNatClampNeg (vp_nar .boolean (1 : Int32))) q8.2)) rfl ?_
            exact tc_303_5 Ls xs d kp tl rl nh rh n _ _ hK1 hK3 (1 : Int32) x2 x3 (u2 q8.1 110 q12.toNatClampNeg (vp_nar .boolean (1 : Int32))) q8.2 r hf
          · refine bs_st 1 (x' := (117, [some (.ref 89), some (.int x1), some (.int x2), some (.int x3)], [], hp kp nh rh tl rl q8.1 q8.2)) rfl ?_
            exact tc_303_5 Ls xs d kp tl rl nh rh n _ _ hK1 hK3 x1 x2 x3 q8.1 q8.2 r hf
        · refine bs_st 1 (x' := (117, [some (.ref 89), some (.int x1), some (.int x2), some (.int x3)], [], hp kp nh rh tl rl I L)) rfl ?_
          exact tc_303_5 Ls xs d kp tl rl nh rh n _ _ hK1 hK3 x1 x2 x3 I L r hf
def b_303_1 (n : Nat) (K1 : Int32 → Int32 → FI → FL → Option (Int32 × FI × FL)) (x1 : Int32) (x2 : Int32) (I : FI) (L : FL) : Option (Int32 × FI × FL) :=
  (f_293 n I L).bind fun q1 =>
  if q1 ≤ x2 then
    c_303_2 n n x1 (0 : Int32) I L
  else
    c_303_3 n K1 n x1 x2 (0 : Int32) I L
def c_303_1 (n : Nat) : Nat → Int32 → Int32 → FI → FL → Option (Int32 × FI × FL)
  | 0, _, _, _, _ => none
  | m + 1, x1, x2, I, L => b_303_1 n (c_303_1 n m) x1 x2 I L
set_option maxHeartbeats 1000000 in
set_option maxRecDepth 20000 in
theorem tc_303_1 (Ls : Nat) (xs : Nat → Int32) (d : Nat) (kp : Option Nat) (tl : List (Nat × Nat)) (rl : List (List (Option Nat))) (nh : Option Nat) (rh : Option Nat) (n : Nat) : ∀ (m : Nat) (w3 : Option Value) (x1 : Int32) (x2 : Int32) (I : FI) (L : FL) (r : Int32 × FI × FL), c_303_1 n m x1 x2 I L = some r → Bs cd_303 (sf 12 rs_12 false 4 (some (.boolean)) Ls xs (d + 2)) (27, [some (.ref 89), some (.int x1), some (.int x2), w3], [], hp kp nh rh tl rl I L) (some (.int r.1), hp kp nh rh tl rl r.2.1 r.2.2)
  | 0, w3, x1, x2, I, L, r, hf => by cases hf
  | m + 1, w3, x1, x2, I, L, r, hf => by
    unfold c_303_1 b_303_1 at hf
    have hK1 := tc_303_1 Ls xs d kp tl rl nh rh n m
    refine bs_st 2 (x' := (29, [some (.ref 89), some (.int x1), some (.int x2), w3], [.ref 89, .int x2], hp kp nh rh tl rl I L)) rfl ?_
    obtain ⟨q1, hq1, hf⟩ := Option.bind_eq_some_iff.mp hf
    refine bs_call (o := pEN Ls xs (d + 2) 293 [.ref 89] (hp kp nh rh tl rl I L)) (w := some (.int q1)) (h' := hp kp nh rh tl rl I L) (pc := 32) (lo := [some (.ref 89), some (.int x1), some (.int x2), w3]) (rest := [.int x2]) rfl (t_293 Ls xs (d + 0) kp tl rl nh rh n I L q1 hq1) ?_
    refine bs_br (t := 129) (e := 35) (lo := [some (.ref 89), some (.int x1), some (.int x2), w3]) (st := []) (h := hp kp nh rh tl rl I L) rfl hf (fun hc hf => ?_) (fun hc hf => ?_)
    · refine bs_st 2 (x' := (131, [some (.ref 89), some (.int x1), some (.int (0 : Int32)), w3], [], hp kp nh rh tl rl I L)) rfl ?_
      exact tc_303_2 Ls xs d kp tl rl nh rh n n w3 x1 (0 : Int32) I L r hf
    · refine bs_st 2 (x' := (37, [some (.ref 89), some (.int x1), some (.int x2), some (.int (0 : Int32))], [], hp kp nh rh tl rl I L)) rfl ?_
      exact tc_303_3 Ls xs d kp tl rl nh rh n _ hK1 n x1 x2 (0 : Int32) I L r hf
def b_303_0 (n : Nat) (K0 : Int32 → Int32 → FI → FL → Option (Int32 × FI × FL)) (x1 : Int32) (x2 : Int32) (I : FI) (L : FL) : Option (Int32 × FI × FL) :=
  (f_293 n I L).bind fun q0 =>
  if q0 ≤ x2 then
    c_303_1 n n x1 (0 : Int32) I L
  else
    if pin x2 16384 = true then K0 x1 (x2 + (1 : Int32)) (u2 I 110 x2.toNatClampNeg (vp_nar .boolean (0 : Int32))) L else none
def c_303_0 (n : Nat) : Nat → Int32 → Int32 → FI → FL → Option (Int32 × FI × FL)
  | 0, _, _, _, _ => none
  | m + 1, x1, x2, I, L => b_303_0 n (c_303_0 n m) x1 x2 I L
set_option maxHeartbeats 1000000 in
set_option maxRecDepth 20000 in
theorem tc_303_0 (Ls : Nat) (xs : Nat → Int32) (d : Nat) (kp : Option Nat) (tl : List (Nat × Nat)) (rl : List (List (Option Nat))) (nh : Option Nat) (rh : Option Nat) (n : Nat) : ∀ (m : Nat) (w3 : Option Value) (x1 : Int32) (x2 : Int32) (I : FI) (L : FL) (r : Int32 × FI × FL), c_303_0 n m x1 x2 I L = some r → Bs cd_303 (sf 12 rs_12 false 4 (some (.boolean)) Ls xs (d + 2)) (4, [some (.ref 89), some (.int x1), some (.int x2), w3], [], hp kp nh rh tl rl I L) (some (.int r.1), hp kp nh rh tl rl r.2.1 r.2.2)
  | 0, w3, x1, x2, I, L, r, hf => by cases hf
  | m + 1, w3, x1, x2, I, L, r, hf => by
    unfold c_303_0 b_303_0 at hf
    have hK0 := tc_303_0 Ls xs d kp tl rl nh rh n m
    refine bs_st 2 (x' := (6, [some (.ref 89), some (.int x1), some (.int x2), w3], [.ref 89, .int x2], hp kp nh rh tl rl I L)) rfl ?_
    obtain ⟨q0, hq0, hf⟩ := Option.bind_eq_some_iff.mp hf
    refine bs_call (o := pEN Ls xs (d + 2) 293 [.ref 89] (hp kp nh rh tl rl I L)) (w := some (.int q0)) (h' := hp kp nh rh tl rl I L) (pc := 9) (lo := [some (.ref 89), some (.int x1), some (.int x2), w3]) (rest := [.int x2]) rfl (t_293 Ls xs (d + 0) kp tl rl nh rh n I L q0 hq0) ?_
    refine bs_br (t := 25) (e := 12) (lo := [some (.ref 89), some (.int x1), some (.int x2), w3]) (st := []) (h := hp kp nh rh tl rl I L) rfl hf (fun hc hf => ?_) (fun hc hf => ?_)
    · refine bs_st 2 (x' := (27, [some (.ref 89), some (.int x1), some (.int (0 : Int32)), w3], [], hp kp nh rh tl rl I L)) rfl ?_
      exact tc_303_1 Ls xs d kp tl rl nh rh n n w3 x1 (0 : Int32) I L r hf
    · refine bs_st 4 (x' := (18, [some (.ref 89), some (.int x1), some (.int x2), w3], [.int (0 : Int32), .int x2, .ref 110], hp kp nh rh tl rl I L)) rfl ?_
      refine bs_gd (x' := (19, [some (.ref 89), some (.int x1), some (.int x2), w3], [], hp kp nh rh tl rl (u2 I 110 x2.toNatClampNeg (vp_nar .boolean (0 : Int32))) L)) rfl hf (fun hc hf => ?_)
      refine bs_st 2 (x' := (4, [some (.ref 89), some (.int x1), some (.int (x2 + (1 : Int32))), w3], [], hp kp nh rh tl rl (u2 I 110 x2.toNatClampNeg (vp_nar .boolean (0 : Int32))) L)) rfl ?_
      exact hK0 w3 x1 (x2 + (1 : Int32)) (u2 I 110 x2.toNatClampNeg (vp_nar .boolean (0 : Int32))) L r hf
def f_303 (n : Nat) (I : FI) (L : FL) : Option (Int32 × FI × FL) :=
  c_303_0 n n (0 : Int32) (0 : Int32) I L
set_option maxHeartbeats 1000000 in
set_option maxRecDepth 20000 in
theorem t_303 (Ls : Nat) (xs : Nat → Int32) (d : Nat) (kp : Option Nat) (tl : List (Nat × Nat)) (rl : List (List (Option Nat))) (nh : Option Nat) (rh : Option Nat) (n : Nat) (I : FI) (L : FL) (r : Int32 × FI × FL) (hf : f_303 n I L = some r) : pEN Ls xs (d + 3) 303 [.ref 89] (hp kp nh rh tl rl I L) = some (some (.int r.1), hp kp nh rh tl rl r.2.1 r.2.2) := by
  refine en_run (d := d + 2) (cd := cd_303) (f := (sf 12 rs_12 false 4 (some (.boolean)) Ls xs (d + 2))) rfl rfl (x := (0, [some (.ref 89), none, none, none], [], hp kp nh rh tl rl I L)) rfl rfl (Nat.le_of_ble_eq_true rfl) ?_
  unfold f_303 at hf
  refine bs_st 4 (x' := (4, [some (.ref 89), some (.int (0 : Int32)), some (.int (0 : Int32)), none], [], hp kp nh rh tl rl I L)) rfl ?_
  exact tc_303_0 Ls xs d kp tl rl nh rh n n none (0 : Int32) (0 : Int32) I L r hf
/-- LampRoundsModel.longest() on (89,) -/
def b_302_1 (n : Nat) (K1 : Int32 → FI → FL → Option (Int32 × FI × FL)) (x1 : Int32) (I : FI) (L : FL) : Option (Int32 × FI × FL) :=
  if (100 : Int32) ≤ x1 then
    some (x1, I, L)
  else
    (f_303 n I L).bind fun q7 =>
    if q7.1 = 0 then
      some (x1, q7.2.1, q7.2.2)
    else
      K1 (x1 + (1 : Int32)) q7.2.1 q7.2.2
def c_302_1 (n : Nat) : Nat → Int32 → FI → FL → Option (Int32 × FI × FL)
  | 0, _, _, _ => none
  | m + 1, x1, I, L => b_302_1 n (c_302_1 n m) x1 I L
set_option maxHeartbeats 1000000 in
set_option maxRecDepth 20000 in
theorem tc_302_1 (Ls : Nat) (xs : Nat → Int32) (d : Nat) (kp : Option Nat) (tl : List (Nat × Nat)) (rl : List (List (Option Nat))) (nh : Option Nat) (rh : Option Nat) (n : Nat) : ∀ (m : Nat) (x1 : Int32) (I : FI) (L : FL) (r : Int32 × FI × FL), c_302_1 n m x1 I L = some r → Bs cd_302 (sf 12 rs_12 false 2 (some (.int)) Ls xs (d + 3)) (72, [some (.ref 89), some (.int x1)], [], hp kp nh rh tl rl I L) (some (.int r.1), hp kp nh rh tl rl r.2.1 r.2.2)
  | 0, x1, I, L, r, hf => by cases hf
  | m + 1, x1, I, L, r, hf => by
    unfold c_302_1 b_302_1 at hf
    have hK1 := tc_302_1 Ls xs d kp tl rl nh rh n m
    refine bs_st 2 (x' := (75, [some (.ref 89), some (.int x1)], [.int (100 : Int32), .int x1], hp kp nh rh tl rl I L)) rfl ?_
    refine bs_br (t := 91) (e := 78) (lo := [some (.ref 89), some (.int x1)]) (st := []) (h := hp kp nh rh tl rl I L) rfl hf (fun hc hf => ?_) (fun hc hf => ?_)
    · refine bs_st 1 (x' := (92, [some (.ref 89), some (.int x1)], [.int x1], hp kp nh rh tl rl I L)) rfl ?_
      cases hf
      exact bs_ret rfl
    · refine bs_st 1 (x' := (79, [some (.ref 89), some (.int x1)], [.ref 89], hp kp nh rh tl rl I L)) rfl ?_
      obtain ⟨q7, hq7, hf⟩ := Option.bind_eq_some_iff.mp hf
      refine bs_call (o := pEN Ls xs (d + 3) 303 [.ref 89] (hp kp nh rh tl rl I L)) (w := some (.int q7.1)) (h' := hp kp nh rh tl rl q7.2.1 q7.2.2) (pc := 82) (lo := [some (.ref 89), some (.int x1)]) (rest := []) rfl (t_303 Ls xs (d + 0) kp tl rl nh rh n I L q7 hq7) ?_
      refine bs_br (t := 91) (e := 85) (lo := [some (.ref 89), some (.int x1)]) (st := []) (h := hp kp nh rh tl rl q7.2.1 q7.2.2) rfl hf (fun hc hf => ?_) (fun hc hf => ?_)
      · refine bs_st 1 (x' := (92, [some (.ref 89), some (.int x1)], [.int x1], hp kp nh rh tl rl q7.2.1 q7.2.2)) rfl ?_
        cases hf
        exact bs_ret rfl
      · refine bs_st 2 (x' := (72, [some (.ref 89), some (.int (x1 + (1 : Int32)))], [], hp kp nh rh tl rl q7.2.1 q7.2.2)) rfl ?_
        exact hK1 (x1 + (1 : Int32)) q7.2.1 q7.2.2 r hf
def b_302_0 (n : Nat) (K0 : Int32 → FI → FL → Option (Int32 × FI × FL)) (x1 : Int32) (I : FI) (L : FL) : Option (Int32 × FI × FL) :=
  (f_293 n I L).bind fun q3 =>
  if q3 ≤ x1 then
    (f_256 I L).bind fun q4 =>
    (f_298 I L).bind fun q5 =>
    (f_296 n q4 q5 I L).bind fun q6 =>
    if pin q6.1 16384 = true then c_302_1 n n (1 : Int32) (u2 q6.2.1 109 q6.1.toNatClampNeg (vp_nar .boolean (1 : Int32))) q6.2.2 else none
  else
    if pin x1 16384 = true then K0 (x1 + (1 : Int32)) (u2 I 109 x1.toNatClampNeg (vp_nar .boolean (0 : Int32))) L else none
def c_302_0 (n : Nat) : Nat → Int32 → FI → FL → Option (Int32 × FI × FL)
  | 0, _, _, _ => none
  | m + 1, x1, I, L => b_302_0 n (c_302_0 n m) x1 I L
set_option maxHeartbeats 1000000 in
set_option maxRecDepth 20000 in
theorem tc_302_0 (Ls : Nat) (xs : Nat → Int32) (d : Nat) (kp : Option Nat) (tl : List (Nat × Nat)) (rl : List (List (Option Nat))) (nh : Option Nat) (rh : Option Nat) (n : Nat) : ∀ (m : Nat) (x1 : Int32) (I : FI) (L : FL) (r : Int32 × FI × FL), c_302_0 n m x1 I L = some r → Bs cd_302 (sf 12 rs_12 false 2 (some (.int)) Ls xs (d + 3)) (31, [some (.ref 89), some (.int x1)], [], hp kp nh rh tl rl I L) (some (.int r.1), hp kp nh rh tl rl r.2.1 r.2.2)
  | 0, x1, I, L, r, hf => by cases hf
  | m + 1, x1, I, L, r, hf => by
    unfold c_302_0 b_302_0 at hf
    have hK0 := tc_302_0 Ls xs d kp tl rl nh rh n m
    refine bs_st 2 (x' := (33, [some (.ref 89), some (.int x1)], [.ref 89, .int x1], hp kp nh rh tl rl I L)) rfl ?_
    obtain ⟨q3, hq3, hf⟩ := Option.bind_eq_some_iff.mp hf
    refine bs_call (o := pEN Ls xs (d + 3) 293 [.ref 89] (hp kp nh rh tl rl I L)) (w := some (.int q3)) (h' := hp kp nh rh tl rl I L) (pc := 36) (lo := [some (.ref 89), some (.int x1)]) (rest := [.int x1]) rfl (t_293 Ls xs (d + 1) kp tl rl nh rh n I L q3 hq3) ?_
    refine bs_br (t := 52) (e := 39) (lo := [some (.ref 89), some (.int x1)]) (st := []) (h := hp kp nh rh tl rl I L) rfl hf (fun hc hf => ?_) (fun hc hf => ?_)
    · refine bs_st 4 (x' := (58, [some (.ref 89), some (.int x1)], [.ref 89, .ref 89, .ref 109], hp kp nh rh tl rl I L)) rfl ?_
      obtain ⟨q4, hq4, hf⟩ := Option.bind_eq_some_iff.mp hf
      refine bs_call (o := pEN Ls xs (d + 3) 256 [.ref 89] (hp kp nh rh tl rl I L)) (w := some (.int q4)) (h' := hp kp nh rh tl rl I L) (pc := 61) (lo := [some (.ref 89), some (.int x1)]) (rest := [.ref 89, .ref 109]) rfl (t_256 Ls xs (d + 1) kp tl rl nh rh I L q4 hq4) ?_
      refine bs_st 1 (x' := (62, [some (.ref 89), some (.int x1)], [.ref 89, .int q4, .ref 89, .ref 109], hp kp nh rh tl rl I L)) rfl ?_
      obtain ⟨q5, hq5, hf⟩ := Option.bind_eq_some_iff.mp hf
      refine bs_call (o := pEN Ls xs (d + 3) 298 [.ref 89] (hp kp nh rh tl rl I L)) (w := some (.int q5)) (h' := hp kp nh rh tl rl I L) (pc := 65) (lo := [some (.ref 89), some (.int x1)]) (rest := [.int q4, .ref 89, .ref 109]) rfl (t_298 Ls xs (d + 1) kp tl rl nh rh I L q5 hq5) ?_
      obtain ⟨q6, hq6, hf⟩ := Option.bind_eq_some_iff.mp hf
      refine bs_call (o := pEN Ls xs (d + 3) 296 [.ref 89, .int q4, .int q5] (hp kp nh rh tl rl I L)) (w := some (.int q6.1)) (h' := hp kp nh rh tl rl q6.2.1 q6.2.2) (pc := 68) (lo := [some (.ref 89), some (.int x1)]) (rest := [.ref 109]) rfl (t_296 Ls xs (d + 0) kp tl rl nh rh n q4 q5 I L q6 hq6) ?_
      refine bs_st 1 (x' := (69, [some (.ref 89), some (.int x1)], [.int (1 : Int32), .int q6.1, .ref 109], hp kp nh rh tl rl q6.2.1 q6.2.2)) rfl ?_
      refine bs_gd (x' := (70, [some (.ref 89), some (.int x1)], [], hp kp nh rh tl rl (u2 q6.2.1 109 q6.1.toNatClampNeg (vp_nar .boolean (1 : Int32))) q6.2.2)) rfl hf (fun hc hf => ?_)
      refine bs_st 2 (x' := (72, [some (.ref 89), some (.int (1 : Int32))], [], hp kp nh rh tl rl (u2 q6.2.1 109 q6.1.toNatClampNeg (vp_nar .boolean (1 : Int32))) q6.2.2)) rfl ?_
      exact tc_302_1 Ls xs d kp tl rl nh rh n n (1 : Int32) (u2 q6.2.1 109 q6.1.toNatClampNeg (vp_nar .boolean (1 : Int32))) q6.2.2 r hf
    · refine bs_st 4 (x' := (45, [some (.ref 89), some (.int x1)], [.int (0 : Int32), .int x1, .ref 109], hp kp nh rh tl rl I L)) rfl ?_
      refine bs_gd (x' := (46, [some (.ref 89), some (.int x1)], [], hp kp nh rh tl rl (u2 I 109 x1.toNatClampNeg (vp_nar .boolean (0 : Int32))) L)) rfl hf (fun hc hf => ?_)
      refine bs_st 2 (x' := (31, [some (.ref 89), some (.int (x1 + (1 : Int32)))], [], hp kp nh rh tl rl (u2 I 109 x1.toNatClampNeg (vp_nar .boolean (0 : Int32))) L)) rfl ?_
      exact hK0 (x1 + (1 : Int32)) (u2 I 109 x1.toNatClampNeg (vp_nar .boolean (0 : Int32))) L r hf
def f_302 (n : Nat) (I : FI) (L : FL) : Option (Int32 × FI × FL) :=
  (f_236 (u2 I 89 0 (0 : Int32)) L).bind fun q0 =>
  if ¬ q0 = 0 then
    (f_252 n (u2 I 89 0 (0 : Int32)) L).bind fun q1 =>
    (f_237 q1.1 q1.2).bind fun q2 =>
    if ¬ q2 = 0 then
      c_302_0 n n (0 : Int32) q1.1 q1.2
    else
      some ((100 : Int32), q1.1, q1.2)
  else
    some ((-2 : Int32), (u2 I 89 0 (0 : Int32)), L)
set_option maxHeartbeats 1000000 in
set_option maxRecDepth 20000 in
theorem t_302 (Ls : Nat) (xs : Nat → Int32) (d : Nat) (kp : Option Nat) (tl : List (Nat × Nat)) (rl : List (List (Option Nat))) (nh : Option Nat) (rh : Option Nat) (n : Nat) (I : FI) (L : FL) (r : Int32 × FI × FL) (hf : f_302 n I L = some r) : pEN Ls xs (d + 4) 302 [.ref 89] (hp kp nh rh tl rl I L) = some (some (.int r.1), hp kp nh rh tl rl r.2.1 r.2.2) := by
  refine en_run (d := d + 3) (cd := cd_302) (f := (sf 12 rs_12 false 2 (some (.int)) Ls xs (d + 3))) rfl rfl (x := (0, [some (.ref 89), none], [], hp kp nh rh tl rl I L)) rfl rfl (Nat.le_of_ble_eq_true rfl) ?_
  unfold f_302 at hf
  refine bs_st 4 (x' := (6, [some (.ref 89), none], [.ref 89], hp kp nh rh tl rl (u2 I 89 0 (0 : Int32)) L)) rfl ?_
  obtain ⟨q0, hq0, hf⟩ := Option.bind_eq_some_iff.mp hf
  refine bs_call (o := pEN Ls xs (d + 3) 236 [.ref 89] (hp kp nh rh tl rl (u2 I 89 0 (0 : Int32)) L)) (w := some (.int q0)) (h' := hp kp nh rh tl rl (u2 I 89 0 (0 : Int32)) L) (pc := 9) (lo := [some (.ref 89), none]) (rest := []) rfl (t_236 Ls xs (d + 2) kp tl rl nh rh (u2 I 89 0 (0 : Int32)) L q0 hq0) ?_
  refine bs_br (t := 15) (e := 12) (lo := [some (.ref 89), none]) (st := []) (h := hp kp nh rh tl rl (u2 I 89 0 (0 : Int32)) L) rfl hf (fun hc hf => ?_) (fun hc hf => ?_)
  · refine bs_st 1 (x' := (16, [some (.ref 89), none], [.ref 89], hp kp nh rh tl rl (u2 I 89 0 (0 : Int32)) L)) rfl ?_
    obtain ⟨q1, hq1, hf⟩ := Option.bind_eq_some_iff.mp hf
    refine bs_call (o := pEN Ls xs (d + 3) 252 [.ref 89] (hp kp nh rh tl rl (u2 I 89 0 (0 : Int32)) L)) (w := none) (h' := hp kp nh rh tl rl q1.1 q1.2) (pc := 19) (lo := [some (.ref 89), none]) (rest := []) rfl (t_252 Ls xs (d + 1) kp tl rl nh rh n (u2 I 89 0 (0 : Int32)) L q1 hq1) ?_
    refine bs_st 1 (x' := (20, [some (.ref 89), none], [.ref 89], hp kp nh rh tl rl q1.1 q1.2)) rfl ?_
    obtain ⟨q2, hq2, hf⟩ := Option.bind_eq_some_iff.mp hf
    refine bs_call (o := pEN Ls xs (d + 3) 237 [.ref 89] (hp kp nh rh tl rl q1.1 q1.2)) (w := some (.int q2)) (h' := hp kp nh rh tl rl q1.1 q1.2) (pc := 23) (lo := [some (.ref 89), none]) (rest := []) rfl (t_237 Ls xs (d + 2) kp tl rl nh rh q1.1 q1.2 q2 hq2) ?_
    refine bs_br (t := 29) (e := 26) (lo := [some (.ref 89), none]) (st := []) (h := hp kp nh rh tl rl q1.1 q1.2) rfl hf (fun hc hf => ?_) (fun hc hf => ?_)
    · refine bs_st 2 (x' := (31, [some (.ref 89), some (.int (0 : Int32))], [], hp kp nh rh tl rl q1.1 q1.2)) rfl ?_
      exact tc_302_0 Ls xs d kp tl rl nh rh n n (0 : Int32) q1.1 q1.2 r hf
    · refine bs_st 1 (x' := (28, [some (.ref 89), none], [.int (100 : Int32)], hp kp nh rh tl rl q1.1 q1.2)) rfl ?_
      cases hf
      exact bs_ret rfl
  · refine bs_st 1 (x' := (14, [some (.ref 89), none], [.int (-2 : Int32)], hp kp nh rh tl rl (u2 I 89 0 (0 : Int32)) L)) rfl ?_
    cases hf
    exact bs_ret rfl
/-- LampRoundsModel.goesRound(II) on (89,) -/
def b_304_0 (n : Nat) (K0 : Int32 → Int32 → Int32 → FI → FL → Option (Int32 × FI × FL)) (x1 : Int32) (x3 : Int32) (x4 : Int32) (I : FI) (L : FL) : Option (Int32 × FI × FL) :=
  if x1 ≤ x4 then
    some ((1 : Int32), I, L)
  else
    if pin x4 12 = true then ((f_253 n (I 111 x4.toNatClampNeg) x3 (0 : Int32) I L).bind fun q0 =>
      (f_298 q0.1 q0.2).bind fun q1 =>
      (f_290 n q1 q0.1 q0.2).bind fun q2 =>
      if ¬ q2 = 0 then
        if pin x4 12 = true then K0 x1 (q0.1 111 x4.toNatClampNeg) (x4 + (1 : Int32)) q0.1 q0.2 else none
      else
        some ((0 : Int32), q0.1, q0.2)) else none
def c_304_0 (n : Nat) : Nat → Int32 → Int32 → Int32 → FI → FL → Option (Int32 × FI × FL)
  | 0, _, _, _, _, _ => none
  | m + 1, x1, x3, x4, I, L => b_304_0 n (c_304_0 n m) x1 x3 x4 I L
set_option maxHeartbeats 1000000 in
set_option maxRecDepth 20000 in
theorem tc_304_0 (Ls : Nat) (xs : Nat → Int32) (d : Nat) (kp : Option Nat) (tl : List (Nat × Nat)) (rl : List (List (Option Nat))) (nh : Option Nat) (rh : Option Nat) (n : Nat) : ∀ (m : Nat) (w2 : Option Value) (x1 : Int32) (x3 : Int32) (x4 : Int32) (I : FI) (L : FL) (r : Int32 × FI × FL), c_304_0 n m x1 x3 x4 I L = some r → Bs cd_304 (sf 12 rs_12 false 5 (some (.boolean)) Ls xs (d + 2)) (5, [some (.ref 89), some (.int x1), w2, some (.int x3), some (.int x4)], [], hp kp nh rh tl rl I L) (some (.int r.1), hp kp nh rh tl rl r.2.1 r.2.2)
  | 0, w2, x1, x3, x4, I, L, r, hf => by cases hf
  | m + 1, w2, x1, x3, x4, I, L, r, hf => by
    unfold c_304_0 b_304_0 at hf
    have hK0 := tc_304_0 Ls xs d kp tl rl nh rh n m
    refine bs_st 2 (x' := (8, [some (.ref 89), some (.int x1), w2, some (.int x3), some (.int x4)], [.int x1, .int x4], hp kp nh rh tl rl I L)) rfl ?_
    refine bs_br (t := 51) (e := 11) (lo := [some (.ref 89), some (.int x1), w2, some (.int x3), some (.int x4)]) (st := []) (h := hp kp nh rh tl rl I L) rfl hf (fun hc hf => ?_) (fun hc hf => ?_)
    · refine bs_st 1 (x' := (52, [some (.ref 89), some (.int x1), w2, some (.int x3), some (.int x4)], [.int (1 : Int32)], hp kp nh rh tl rl I L)) rfl ?_
      cases hf
      exact bs_ret rfl
    · refine bs_st 4 (x' := (18, [some (.ref 89), some (.int x1), w2, some (.int x3), some (.int x4)], [.int x4, .ref 111, .ref 89], hp kp nh rh tl rl I L)) rfl ?_
      refine bs_gd (x' := (19, [some (.ref 89), some (.int x1), w2, some (.int x3), some (.int x4)], [.int (I 111 x4.toNatClampNeg), .ref 89], hp kp nh rh tl rl I L)) rfl hf (fun hc hf => ?_)
      refine bs_st 2 (x' := (21, [some (.ref 89), some (.int x1), w2, some (.int x3), some (.int x4)], [.int (0 : Int32), .int x3, .int (I 111 x4.toNatClampNeg), .ref 89], hp kp nh rh tl rl I L)) rfl ?_
      obtain ⟨q0, hq0, hf⟩ := Option.bind_eq_some_iff.mp hf
      refine bs_call (o := pEN Ls xs (d + 2) 253 [.ref 89, .int (I 111 x4.toNatClampNeg), .int x3, .int (0 : Int32)] (hp kp nh rh tl rl I L)) (w := none) (h' := hp kp nh rh tl rl q0.1 q0.2) (pc := 24) (lo := [some (.ref 89), some (.int x1), w2, some (.int x3), some (.int x4)]) (rest := []) rfl (t_253 Ls xs (d + 0) kp tl rl nh rh n (I 111 x4.toNatClampNeg) x3 (0 : Int32) I L q0 hq0) ?_
      refine bs_st 2 (x' := (26, [some (.ref 89), some (.int x1), w2, some (.int x3), some (.int x4)], [.ref 89, .ref 89], hp kp nh rh tl rl q0.1 q0.2)) rfl ?_
      obtain ⟨q1, hq1, hf⟩ := Option.bind_eq_some_iff.mp hf
      refine bs_call (o := pEN Ls xs (d + 2) 298 [.ref 89] (hp kp nh rh tl rl q0.1 q0.2)) (w := some (.int q1)) (h' := hp kp nh rh tl rl q0.1 q0.2) (pc := 29) (lo := [some (.ref 89), some (.int x1), w2, some (.int x3), some (.int x4)]) (rest := [.ref 89]) rfl (t_298 Ls xs (d + 0) kp tl rl nh rh q0.1 q0.2 q1 hq1) ?_
      obtain ⟨q2, hq2, hf⟩ := Option.bind_eq_some_iff.mp hf
      refine bs_call (o := pEN Ls xs (d + 2) 290 [.ref 89, .int q1] (hp kp nh rh tl rl q0.1 q0.2)) (w := some (.int q2)) (h' := hp kp nh rh tl rl q0.1 q0.2) (pc := 32) (lo := [some (.ref 89), some (.int x1), w2, some (.int x3), some (.int x4)]) (rest := []) rfl (t_290 Ls xs (d + 0) kp tl rl nh rh n q1 q0.1 q0.2 q2 hq2) ?_
      refine bs_br (t := 37) (e := 35) (lo := [some (.ref 89), some (.int x1), w2, some (.int x3), some (.int x4)]) (st := []) (h := hp kp nh rh tl rl q0.1 q0.2) rfl hf (fun hc hf => ?_) (fun hc hf => ?_)
      · refine bs_st 3 (x' := (43, [some (.ref 89), some (.int x1), w2, some (.int x3), some (.int x4)], [.int x4, .ref 111], hp kp nh rh tl rl q0.1 q0.2)) rfl ?_
        refine bs_gd (x' := (44, [some (.ref 89), some (.int x1), w2, some (.int x3), some (.int x4)], [.int (q0.1 111 x4.toNatClampNeg)], hp kp nh rh tl rl q0.1 q0.2)) rfl hf (fun hc hf => ?_)
        refine bs_st 3 (x' := (5, [some (.ref 89), some (.int x1), (pcl w2), some (.int (q0.1 111 x4.toNatClampNeg)), some (.int (x4 + (1 : Int32)))], [], hp kp nh rh tl rl q0.1 q0.2)) rfl ?_
        exact hK0 (pcl w2) x1 (q0.1 111 x4.toNatClampNeg) (x4 + (1 : Int32)) q0.1 q0.2 r hf
      · refine bs_st 1 (x' := (36, [some (.ref 89), some (.int x1), w2, some (.int x3), some (.int x4)], [.int (0 : Int32)], hp kp nh rh tl rl q0.1 q0.2)) rfl ?_
        cases hf
        exact bs_ret rfl
def f_304 (n : Nat) (x1 : Int32) (x2 : Int32) (I : FI) (L : FL) : Option (Int32 × FI × FL) :=
  c_304_0 n n x1 x2 (0 : Int32) I L
set_option maxHeartbeats 1000000 in
set_option maxRecDepth 20000 in
theorem t_304 (Ls : Nat) (xs : Nat → Int32) (d : Nat) (kp : Option Nat) (tl : List (Nat × Nat)) (rl : List (List (Option Nat))) (nh : Option Nat) (rh : Option Nat) (n : Nat) (x1 : Int32) (x2 : Int32) (I : FI) (L : FL) (r : Int32 × FI × FL) (hf : f_304 n x1 x2 I L = some r) : pEN Ls xs (d + 3) 304 [.ref 89, .int x1, .int x2] (hp kp nh rh tl rl I L) = some (some (.int r.1), hp kp nh rh tl rl r.2.1 r.2.2) := by
  refine en_run (d := d + 2) (cd := cd_304) (f := (sf 12 rs_12 false 5 (some (.boolean)) Ls xs (d + 2))) rfl rfl (x := (0, [some (.ref 89), some (.int x1), some (.int x2), none, none], [], hp kp nh rh tl rl I L)) rfl rfl (Nat.le_of_ble_eq_true rfl) ?_
  unfold f_304 at hf
  refine bs_st 4 (x' := (5, [some (.ref 89), some (.int x1), some (.int x2), some (.int x2), some (.int (0 : Int32))], [], hp kp nh rh tl rl I L)) rfl ?_
  exact tc_304_0 Ls xs d kp tl rl nh rh n n (some (.int x2)) x1 x2 (0 : Int32) I L r hf
/-- LampRoundsModel.isRinging(I) on (89,) -/
def b_305_2 (n : Nat) (K2 : Int32 → Int32 → Int32 → FI → FL → Option (Int32 × FI × FL)) (x1 : Int32) (x2 : Int32) (x3 : Int32) (I : FI) (L : FL) : Option (Int32 × FI × FL) :=
  if x3 = x2 then
    some ((1 : Int32), I, L)
  else
    if pin (x1 - (1 : Int32)) 12 = true then ((f_304 n x1 (I 111 ((x1 - (1 : Int32)).toNatClampNeg)) I L).bind fun q4 =>
      if ¬ q4.1 = 0 then
        (f_298 q4.2.1 q4.2.2).bind fun q5 =>
        (f_287 n (0 : Int32) q5 q4.2.1 q4.2.2).bind fun q6 =>
        K2 x1 x3 q6 q4.2.1 q4.2.2
      else
        some ((0 : Int32), q4.2.1, q4.2.2)) else none
def c_305_2 (n : Nat) : Nat → Int32 → Int32 → Int32 → FI → FL → Option (Int32 × FI × FL)
  | 0, _, _, _, _, _ => none
  | m + 1, x1, x2, x3, I, L => b_305_2 n (c_305_2 n m) x1 x2 x3 I L
set_option maxHeartbeats 1000000 in
set_option maxRecDepth 20000 in
theorem tc_305_2 (Ls : Nat) (xs : Nat → Int32) (d : Nat) (kp : Option Nat) (tl : List (Nat × Nat)) (rl : List (List (Option Nat))) (nh : Option Nat) (rh : Option Nat) (n : Nat) : ∀ (m : Nat) (x1 : Int32) (x2 : Int32) (x3 : Int32) (I : FI) (L : FL) (r : Int32 × FI × FL), c_305_2 n m x1 x2 x3 I L = some r → Bs cd_305 (sf 12 rs_12 false 4 (some (.boolean)) Ls xs (d + 3)) (89, [some (.ref 89), some (.int x1), some (.int x2), some (.int x3)], [], hp kp nh rh tl rl I L) (some (.int r.1), hp kp nh rh tl rl r.2.1 r.2.2)
  | 0, x1, x2, x3, I, L, r, hf => by cases hf
  | m + 1, x1, x2, x3, I, L, r, hf => by
    unfold c_305_2 b_305_2 at hf
    have hK2 := tc_305_2 Ls xs d kp tl rl nh rh n m
    refine bs_st 2 (x' := (91, [some (.ref 89), some (.int x1), some (.int x2), some (.int x3)], [.int x2, .int x3], hp kp nh rh tl rl I L)) rfl ?_
    refine bs_br (t := 127) (e := 94) (lo := [some (.ref 89), some (.int x1), some (.int x2), some (.int x3)]) (st := []) (h := hp kp nh rh tl rl I L) rfl hf (fun hc hf => ?_) (fun hc hf => ?_)
    · refine bs_st 1 (x' := (128, [some (.ref 89), some (.int x1), some (.int x2), some (.int x3)], [.int (1 : Int32)], hp kp nh rh tl rl I L)) rfl ?_
      cases hf
      exact bs_ret rfl
    · refine bs_st 7 (x' := (103, [some (.ref 89), some (.int x1), some (.int x2), some (.int x3)], [.int (x1 - (1 : Int32)), .ref 111, .int x1, .ref 89], hp kp nh rh tl rl I L)) rfl ?_
      refine bs_gd (x' := (104, [some (.ref 89), some (.int x1), some (.int x2), some (.int x3)], [.int (I 111 ((x1 - (1 : Int32)).toNatClampNeg)), .int x1, .ref 89], hp kp nh rh tl rl I L)) rfl hf (fun hc hf => ?_)
      obtain ⟨q4, hq4, hf⟩ := Option.bind_eq_some_iff.mp hf
      refine bs_call (o := pEN Ls xs (d + 3) 304 [.ref 89, .int x1, .int (I 111 ((x1 - (1 : Int32)).toNatClampNeg))] (hp kp nh rh tl rl I L)) (w := some (.int q4.1)) (h' := hp kp nh rh tl rl q4.2.1 q4.2.2) (pc := 107) (lo := [some (.ref 89), some (.int x1), some (.int x2), some (.int x3)]) (rest := []) rfl (t_304 Ls xs (d + 0) kp tl rl nh rh n x1 (I 111 ((x1 - (1 : Int32)).toNatClampNeg)) I L q4 hq4) ?_
      refine bs_br (t := 112) (e := 110) (lo := [some (.ref 89), some (.int x1), some (.int x2), some (.int x3)]) (st := []) (h := hp kp nh rh tl rl q4.2.1 q4.2.2) rfl hf (fun hc hf => ?_) (fun hc hf => ?_)
      · refine bs_st 5 (x' := (117, [some (.ref 89), some (.int x1), some (.int x3), some (.int x3)], [.ref 89, .int (0 : Int32), .ref 89], hp kp nh rh tl rl q4.2.1 q4.2.2)) rfl ?_
        obtain ⟨q5, hq5, hf⟩ := Option.bind_eq_some_iff.mp hf
        refine bs_call (o := pEN Ls xs (d + 3) 298 [.ref 89] (hp kp nh rh tl rl q4.2.1 q4.2.2)) (w := some (.int q5)) (h' := hp kp nh rh tl rl q4.2.1 q4.2.2) (pc := 120) (lo := [some (.ref 89), some (.int x1), some (.int x3), some (.int x3)]) (rest := [.int (0 : Int32), .ref 89]) rfl (t_298 Ls xs (d + 1) kp tl rl nh rh q4.2.1 q4.2.2 q5 hq5) ?_
        obtain ⟨q6, hq6, hf⟩ := Option.bind_eq_some_iff.mp hf
        refine bs_call (o := pEN Ls xs (d + 3) 287 [.ref 89, .int (0 : Int32), .int q5] (hp kp nh rh tl rl q4.2.1 q4.2.2)) (w := some (.int q6)) (h' := hp kp nh rh tl rl q4.2.1 q4.2.2) (pc := 123) (lo := [some (.ref 89), some (.int x1), some (.int x3), some (.int x3)]) (rest := []) rfl (t_287 Ls xs (d + 1) kp tl rl nh rh n (0 : Int32) q5 q4.2.1 q4.2.2 q6 hq6) ?_
        refine bs_st 2 (x' := (89, [some (.ref 89), some (.int x1), some (.int x3), some (.int q6)], [], hp kp nh rh tl rl q4.2.1 q4.2.2)) rfl ?_
        exact hK2 x1 x3 q6 q4.2.1 q4.2.2 r hf
      · refine bs_st 1 (x' := (111, [some (.ref 89), some (.int x1), some (.int x2), some (.int x3)], [.int (0 : Int32)], hp kp nh rh tl rl q4.2.1 q4.2.2)) rfl ?_
        cases hf
        exact bs_ret rfl
def b_305_1 (n : Nat) (K1 : Int32 → Int32 → FI → FL → Option (Int32 × FI × FL)) (x1 : Int32) (x2 : Int32) (I : FI) (L : FL) : Option (Int32 × FI × FL) :=
  (f_237 I L).bind fun q0 =>
  if q0 ≤ x2 then
    (f_304 n x1 (I 111 0) I L).bind fun q1 =>
    if ¬ q1.1 = 0 then
      (f_298 q1.2.1 q1.2.2).bind fun q2 =>
      (f_287 n (0 : Int32) q2 q1.2.1 q1.2.2).bind fun q3 =>
      c_305_2 n n x1 (-1 : Int32) q3 q1.2.1 q1.2.2
    else
      some ((0 : Int32), q1.2.1, q1.2.2)
  else
    if pin x2 4 = true then K1 x1 (x2 + (1 : Int32)) (u2 I 105 x2.toNatClampNeg (0 : Int32)) L else none
def c_305_1 (n : Nat) : Nat → Int32 → Int32 → FI → FL → Option (Int32 × FI × FL)
  | 0, _, _, _, _ => none
  | m + 1, x1, x2, I, L => b_305_1 n (c_305_1 n m) x1 x2 I L
set_option maxHeartbeats 1000000 in
set_option maxRecDepth 20000 in
theorem tc_305_1 (Ls : Nat) (xs : Nat → Int32) (d : Nat) (kp : Option Nat) (tl : List (Nat × Nat)) (rl : List (List (Option Nat))) (nh : Option Nat) (rh : Option Nat) (n : Nat) : ∀ (m : Nat) (w3 : Option Value) (x1 : Int32) (x2 : Int32) (I : FI) (L : FL) (r : Int32 × FI × FL), c_305_1 n m x1 x2 I L = some r → Bs cd_305 (sf 12 rs_12 false 4 (some (.boolean)) Ls xs (d + 3)) (40, [some (.ref 89), some (.int x1), some (.int x2), w3], [], hp kp nh rh tl rl I L) (some (.int r.1), hp kp nh rh tl rl r.2.1 r.2.2)
  | 0, w3, x1, x2, I, L, r, hf => by cases hf
  | m + 1, w3, x1, x2, I, L, r, hf => by
    unfold c_305_1 b_305_1 at hf
    have hK1 := tc_305_1 Ls xs d kp tl rl nh rh n m
    refine bs_st 2 (x' := (42, [some (.ref 89), some (.int x1), some (.int x2), w3], [.ref 89, .int x2], hp kp nh rh tl rl I L)) rfl ?_
    obtain ⟨q0, hq0, hf⟩ := Option.bind_eq_some_iff.mp hf
    refine bs_call (o := pEN Ls xs (d + 3) 237 [.ref 89] (hp kp nh rh tl rl I L)) (w := some (.int q0)) (h' := hp kp nh rh tl rl I L) (pc := 45) (lo := [some (.ref 89), some (.int x1), some (.int x2), w3]) (rest := [.int x2]) rfl (t_237 Ls xs (d + 2) kp tl rl nh rh I L q0 hq0) ?_
    refine bs_br (t := 61) (e := 48) (lo := [some (.ref 89), some (.int x1), some (.int x2), w3]) (st := []) (h := hp kp nh rh tl rl I L) rfl hf (fun hc hf => ?_) (fun hc hf => ?_)
    · refine bs_st 6 (x' := (69, [some (.ref 89), some (.int x1), some (.int x2), w3], [.int (I 111 0), .int x1, .ref 89], hp kp nh rh tl rl I L)) rfl ?_
      obtain ⟨q1, hq1, hf⟩ := Option.bind_eq_some_iff.mp hf
      refine bs_call (o := pEN Ls xs (d + 3) 304 [.ref 89, .int x1, .int (I 111 0)] (hp kp nh rh tl rl I L)) (w := some (.int q1.1)) (h' := hp kp nh rh tl rl q1.2.1 q1.2.2) (pc := 72) (lo := [some (.ref 89), some (.int x1), some (.int x2), w3]) (rest := []) rfl (t_304 Ls xs (d + 0) kp tl rl nh rh n x1 (I 111 0) I L q1 hq1) ?_
      refine bs_br (t := 77) (e := 75) (lo := [some (.ref 89), some (.int x1), some (.int x2), w3]) (st := []) (h := hp kp nh rh tl rl q1.2.1 q1.2.2) rfl hf (fun hc hf => ?_) (fun hc hf => ?_)
      · refine bs_st 5 (x' := (82, [some (.ref 89), some (.int x1), some (.int (-1 : Int32)), w3], [.ref 89, .int (0 : Int32), .ref 89], hp kp nh rh tl rl q1.2.1 q1.2.2)) rfl ?_
        obtain ⟨q2, hq2, hf⟩ := Option.bind_eq_some_iff.mp hf
        refine bs_call (o := pEN Ls xs (d + 3) 298 [.ref 89] (hp kp nh rh tl rl q1.2.1 q1.2.2)) (w := some (.int q2)) (h' := hp kp nh rh tl rl q1.2.1 q1.2.2) (pc := 85) (lo := [some (.ref 89), some (.int x1), some (.int (-1 : Int32)), w3]) (rest := [.int (0 : Int32), .ref 89]) rfl (t_298 Ls xs (d + 1) kp tl rl nh rh q1.2.1 q1.2.2 q2 hq2) ?_
        obtain ⟨q3, hq3, hf⟩ := Option.bind_eq_some_iff.mp hf
        refine bs_call (o := pEN Ls xs (d + 3) 287 [.ref 89, .int (0 : Int32), .int q2] (hp kp nh rh tl rl q1.2.1 q1.2.2)) (w := some (.int q3)) (h' := hp kp nh rh tl rl q1.2.1 q1.2.2) (pc := 88) (lo := [some (.ref 89), some (.int x1), some (.int (-1 : Int32)), w3]) (rest := []) rfl (t_287 Ls xs (d + 1) kp tl rl nh rh n (0 : Int32) q2 q1.2.1 q1.2.2 q3 hq3) ?_
        refine bs_st 1 (x' := (89, [some (.ref 89), some (.int x1), some (.int (-1 : Int32)), some (.int q3)], [], hp kp nh rh tl rl q1.2.1 q1.2.2)) rfl ?_
        exact tc_305_2 Ls xs d kp tl rl nh rh n n x1 (-1 : Int32) q3 q1.2.1 q1.2.2 r hf
      · refine bs_st 1 (x' := (76, [some (.ref 89), some (.int x1), some (.int x2), w3], [.int (0 : Int32)], hp kp nh rh tl rl q1.2.1 q1.2.2)) rfl ?_
        cases hf
        exact bs_ret rfl
    · refine bs_st 4 (x' := (54, [some (.ref 89), some (.int x1), some (.int x2), w3], [.int (0 : Int32), .int x2, .ref 105], hp kp nh rh tl rl I L)) rfl ?_
      refine bs_gd (x' := (55, [some (.ref 89), some (.int x1), some (.int x2), w3], [], hp kp nh rh tl rl (u2 I 105 x2.toNatClampNeg (0 : Int32)) L)) rfl hf (fun hc hf => ?_)
      refine bs_st 2 (x' := (40, [some (.ref 89), some (.int x1), some (.int (x2 + (1 : Int32))), w3], [], hp kp nh rh tl rl (u2 I 105 x2.toNatClampNeg (0 : Int32)) L)) rfl ?_
      exact hK1 w3 x1 (x2 + (1 : Int32)) (u2 I 105 x2.toNatClampNeg (0 : Int32)) L r hf
def b_305_0 (n : Nat) (K0 : Int32 → Int32 → FI → FL → Option (Int32 × FI × FL)) (x1 : Int32) (x2 : Int32) (I : FI) (L : FL) : Option (Int32 × FI × FL) :=
  if x1 ≤ x2 then
    c_305_1 n n x1 (0 : Int32) I L
  else
    if pin x2 12 = true then (if x1 = 0 then none else (if pin ((x2 + (1 : Int32)) - (x2 + (1 : Int32)) / x1 * x1) 12 = true then ((f_250 n (I 111 x2.toNatClampNeg) (I 111 (((x2 + (1 : Int32)) - (x2 + (1 : Int32)) / x1 * x1).toNatClampNeg)) I L).bind fun q7 =>
          if ¬ q7 = 0 then
            K0 x1 (x2 + (1 : Int32)) I L
          else
            some ((0 : Int32), I, L)) else none)) else none
def c_305_0 (n : Nat) : Nat → Int32 → Int32 → FI → FL → Option (Int32 × FI × FL)
  | 0, _, _, _, _ => none
  | m + 1, x1, x2, I, L => b_305_0 n (c_305_0 n m) x1 x2 I L
set_option maxHeartbeats 1000000 in
set_option maxRecDepth 20000 in
theorem tc_305_0 (Ls : Nat) (xs : Nat → Int32) (d : Nat) (kp : Option Nat) (tl : List (Nat × Nat)) (rl : List (List (Option Nat))) (nh : Option Nat) (rh : Option Nat) (n : Nat) : ∀ (m : Nat) (w3 : Option Value) (x1 : Int32) (x2 : Int32) (I : FI) (L : FL) (r : Int32 × FI × FL), c_305_0 n m x1 x2 I L = some r → Bs cd_305 (sf 12 rs_12 false 4 (some (.boolean)) Ls xs (d + 3)) (2, [some (.ref 89), some (.int x1), some (.int x2), w3], [], hp kp nh rh tl rl I L) (some (.int r.1), hp kp nh rh tl rl r.2.1 r.2.2)
  | 0, w3, x1, x2, I, L, r, hf => by cases hf
  | m + 1, w3, x1, x2, I, L, r, hf => by
    unfold c_305_0 b_305_0 at hf
    have hK0 := tc_305_0 Ls xs d kp tl rl nh rh n m
    refine bs_st 2 (x' := (4, [some (.ref 89), some (.int x1), some (.int x2), w3], [.int x1, .int x2], hp kp nh rh tl rl I L)) rfl ?_
    refine bs_br (t := 38) (e := 7) (lo := [some (.ref 89), some (.int x1), some (.int x2), w3]) (st := []) (h := hp kp nh rh tl rl I L) rfl hf (fun hc hf => ?_) (fun hc hf => ?_)
    · refine bs_st 2 (x' := (40, [some (.ref 89), some (.int x1), some (.int (0 : Int32)), w3], [], hp kp nh rh tl rl I L)) rfl ?_
      exact tc_305_1 Ls xs d kp tl rl nh rh n n w3 x1 (0 : Int32) I L r hf
    · refine bs_st 4 (x' := (13, [some (.ref 89), some (.int x1), some (.int x2), w3], [.int x2, .ref 111, .ref 89], hp kp nh rh tl rl I L)) rfl ?_
      refine bs_gd (x' := (14, [some (.ref 89), some (.int x1), some (.int x2), w3], [.int (I 111 x2.toNatClampNeg), .ref 89], hp kp nh rh tl rl I L)) rfl hf (fun hc hf => ?_)
      refine bs_st 6 (x' := (22, [some (.ref 89), some (.int x1), some (.int x2), w3], [.int x1, .int (x2 + (1 : Int32)), .ref 111, .int (I 111 x2.toNatClampNeg), .ref 89], hp kp nh rh tl rl I L)) rfl ?_
      refine bs_dv (x' := (23, [some (.ref 89), some (.int x1), some (.int x2), w3], [.int ((x2 + (1 : Int32)) - (x2 + (1 : Int32)) / x1 * x1), .ref 111, .int (I 111 x2.toNatClampNeg), .ref 89], hp kp nh rh tl rl I L)) rfl hf (fun hc hf => ?_)
      refine bs_gd (x' := (24, [some (.ref 89), some (.int x1), some (.int x2), w3], [.int (I 111 (((x2 + (1 : Int32)) - (x2 + (1 : Int32)) / x1 * x1).toNatClampNeg)), .int (I 111 x2.toNatClampNeg), .ref 89], hp kp nh rh tl rl I L)) rfl hf (fun hc hf => ?_)
      obtain ⟨q7, hq7, hf⟩ := Option.bind_eq_some_iff.mp hf
      refine bs_call (o := pEN Ls xs (d + 3) 250 [.ref 89, .int (I 111 x2.toNatClampNeg), .int (I 111 (((x2 + (1 : Int32)) - (x2 + (1 : Int32)) / x1 * x1).toNatClampNeg))] (hp kp nh rh tl rl I L)) (w := some (.int q7)) (h' := hp kp nh rh tl rl I L) (pc := 27) (lo := [some (.ref 89), some (.int x1), some (.int x2), w3]) (rest := []) rfl (t_250 Ls xs (d + 1) kp tl rl nh rh n (I 111 x2.toNatClampNeg) (I 111 (((x2 + (1 : Int32)) - (x2 + (1 : Int32)) / x1 * x1).toNatClampNeg)) I L q7 hq7) ?_
      refine bs_br (t := 32) (e := 30) (lo := [some (.ref 89), some (.int x1), some (.int x2), w3]) (st := []) (h := hp kp nh rh tl rl I L) rfl hf (fun hc hf => ?_) (fun hc hf => ?_)
      · refine bs_st 2 (x' := (2, [some (.ref 89), some (.int x1), some (.int (x2 + (1 : Int32))), w3], [], hp kp nh rh tl rl I L)) rfl ?_
        exact hK0 w3 x1 (x2 + (1 : Int32)) I L r hf
      · refine bs_st 1 (x' := (31, [some (.ref 89), some (.int x1), some (.int x2), w3], [.int (0 : Int32)], hp kp nh rh tl rl I L)) rfl ?_
        cases hf
        exact bs_ret rfl
def f_305 (n : Nat) (x1 : Int32) (I : FI) (L : FL) : Option (Int32 × FI × FL) :=
  c_305_0 n n x1 (0 : Int32) I L
set_option maxHeartbeats 1000000 in
set_option maxRecDepth 20000 in
theorem t_305 (Ls : Nat) (xs : Nat → Int32) (d : Nat) (kp : Option Nat) (tl : List (Nat × Nat)) (rl : List (List (Option Nat))) (nh : Option Nat) (rh : Option Nat) (n : Nat) (x1 : Int32) (I : FI) (L : FL) (r : Int32 × FI × FL) (hf : f_305 n x1 I L = some r) : pEN Ls xs (d + 4) 305 [.ref 89, .int x1] (hp kp nh rh tl rl I L) = some (some (.int r.1), hp kp nh rh tl rl r.2.1 r.2.2) := by
  refine en_run (d := d + 3) (cd := cd_305) (f := (sf 12 rs_12 false 4 (some (.boolean)) Ls xs (d + 3))) rfl rfl (x := (0, [some (.ref 89), some (.int x1), none, none], [], hp kp nh rh tl rl I L)) rfl rfl (Nat.le_of_ble_eq_true rfl) ?_
  unfold f_305 at hf
  refine bs_st 2 (x' := (2, [some (.ref 89), some (.int x1), some (.int (0 : Int32)), none], [], hp kp nh rh tl rl I L)) rfl ?_
  exact tc_305_0 Ls xs d kp tl rl nh rh n n none x1 (0 : Int32) I L r hf
/-- LampRoundsModel.ringsFrom(II) on (89,) -/
def c_306_3 (n : Nat) (F : Int32 → Int32 → FI → FL → Option (FI × FL)) (K0 : Int32 → Int32 → Int32 → FI → FL → Option (FI × FL)) (x1 : Int32) (x2 : Int32) (x3 : Int32) (I : FI) (L : FL) : Option (FI × FL) :=
  K0 x1 x2 (x3 + (1 : Int32)) I L
set_option maxHeartbeats 1000000 in
set_option maxRecDepth 20000 in
theorem tc_306_3 (Ls : Nat) (xs : Nat → Int32) (d : Nat) (kp : Option Nat) (tl : List (Nat × Nat)) (rl : List (List (Option Nat))) (nh : Option Nat) (rh : Option Nat) (n : Nat) (F : Int32 → Int32 → FI → FL → Option (FI × FL)) (K0 : Int32 → Int32 → Int32 → FI → FL → Option (FI × FL)) (hF : ∀ (x1 : Int32) (x2 : Int32) (I : FI) (L : FL) (r : FI × FL), F x1 x2 I L = some r → pEN Ls xs (d + 4) 306 [.ref 89, .int x1, .int x2] (hp kp nh rh tl rl I L) = some (none, hp kp nh rh tl rl r.1 r.2)) (hK0 : ∀ (w4 : Option Value) (x1 : Int32) (x2 : Int32) (x3 : Int32) (I : FI) (L : FL) (r : FI × FL), K0 x1 x2 x3 I L = some r → Bs cd_306 (sf 12 rs_12 false 5 none Ls xs (d + 4)) (59, [some (.ref 89), some (.int x1), some (.int x2), some (.int x3), w4], [], hp kp nh rh tl rl I L) (none, hp kp nh rh tl rl r.1 r.2)) (w4 : Option Value) (x1 : Int32) (x2 : Int32) (x3 : Int32) (I : FI) (L : FL) (r : FI × FL) (hf : c_306_3 n F K0 x1 x2 x3 I L = some r) : Bs cd_306 (sf 12 rs_12 false 5 none Ls xs (d + 4)) (147, [some (.ref 89), some (.int x1), some (.int x2), some (.int x3), w4], [], hp kp nh rh tl rl I L) (none, hp kp nh rh tl rl r.1 r.2) := by
  unfold c_306_3 at hf
  refine bs_st 2 (x' := (59, [some (.ref 89), some (.int x1), some (.int x2), some (.int (x3 + (1 : Int32))), w4], [], hp kp nh rh tl rl I L)) rfl ?_
  exact hK0 w4 x1 x2 (x3 + (1 : Int32)) I L r hf
def b_306_2 (n : Nat) (F : Int32 → Int32 → FI → FL → Option (FI × FL)) (K0 : Int32 → Int32 → Int32 → FI → FL → Option (FI × FL)) (K2 : Int32 → Int32 → Int32 → Int32 → FI → FL → Option (FI × FL)) (x1 : Int32) (x2 : Int32) (x3 : Int32) (x4 : Int32) (I : FI) (L : FL) : Option (FI × FL) :=
  (f_237 I L).bind fun q1 =>
  if q1 ≤ x4 then
    (f_304 n (x1 + (1 : Int32)) (I 111 0) I L).bind fun q2 =>
    if q2.1 = 0 then
      c_306_3 n F K0 x1 x2 x3 q2.2.1 q2.2.2
    else
      (F (x1 + (1 : Int32)) x2 q2.2.1 q2.2.2).bind fun q3 =>
      c_306_3 n F K0 x1 x2 x3 q3.1 q3.2
  else
    if pin x4 4 = true then K2 x1 x2 x3 (x4 + (1 : Int32)) (u2 I 105 x4.toNatClampNeg (0 : Int32)) L else none
def c_306_2 (n : Nat) (F : Int32 → Int32 → FI → FL → Option (FI × FL)) (K0 : Int32 → Int32 → Int32 → FI → FL → Option (FI × FL)) : Nat → Int32 → Int32 → Int32 → Int32 → FI → FL → Option (FI × FL)
  | 0, _, _, _, _, _, _ => none
  | m + 1, x1, x2, x3, x4, I, L => b_306_2 n F K0 (c_306_2 n F K0 m) x1 x2 x3 x4 I L
set_option maxHeartbeats 1000000 in
set_option maxRecDepth 20000 in
theorem tc_306_2 (Ls : Nat) (xs : Nat → Int32) (d : Nat) (kp : Option Nat) (tl : List (Nat × Nat)) (rl : List (List (Option Nat))) (nh : Option Nat) (rh : Option Nat) (n : Nat) (F : Int32 → Int32 → FI → FL → Option (FI × FL)) (K0 : Int32 → Int32 → Int32 → FI → FL → Option (FI × FL)) (hF : ∀ (x1 : Int32) (x2 : Int32) (I : FI) (L : FL) (r : FI × FL), F x1 x2 I L = some r → pEN Ls xs (d + 4) 306 [.ref 89, .int x1, .int x2] (hp kp nh rh tl rl I L) = some (none, hp kp nh rh tl rl r.1 r.2)) (hK0 : ∀ (w4 : Option Value) (x1 : Int32) (x2 : Int32) (x3 : Int32) (I : FI) (L : FL) (r : FI × FL), K0 x1 x2 x3 I L = some r → Bs cd_306 (sf 12 rs_12 false 5 none Ls xs (d + 4)) (59, [some (.ref 89), some (.int x1), some (.int x2), some (.int x3), w4], [], hp kp nh rh tl rl I L) (none, hp kp nh rh tl rl r.1 r.2)) : ∀ (m : Nat) (x1 : Int32) (x2 : Int32) (x3 : Int32) (x4 : Int32) (I : FI) (L : FL) (r : FI × FL), c_306_2 n F K0 m x1 x2 x3 x4 I L = some r → Bs cd_306 (sf 12 rs_12 false 5 none Ls xs (d + 4)) (100, [some (.ref 89), some (.int x1), some (.int x2), some (.int x3), some (.int x4)], [], hp kp nh rh tl rl I L) (none, hp kp nh rh tl rl r.1 r.2)
  | 0, x1, x2, x3, x4, I, L, r, hf => by cases hf
  | m + 1, x1, x2, x3, x4, I, L, r, hf => by
    unfold c_306_2 b_306_2 at hf
    have hK2 := tc_306_2 Ls xs d kp tl rl nh rh n F K0 hF hK0 m
    refine bs_st 2 (x' := (103, [some (.ref 89), some (.int x1), some (.int x2), some (.int x3), some (.int x4)], [.ref 89, .int x4], hp kp nh rh tl rl I L)) rfl ?_
    obtain ⟨q1, hq1, hf⟩ := Option.bind_eq_some_iff.mp hf
    refine bs_call (o := pEN Ls xs (d + 4) 237 [.ref 89] (hp kp nh rh tl rl I L)) (w := some (.int q1)) (h' := hp kp nh rh tl rl I L) (pc := 106) (lo := [some (.ref 89), some (.int x1), some (.int x2), some (.int x3), some (.int x4)]) (rest := [.int x4]) rfl (t_237 Ls xs (d + 3) kp tl rl nh rh I L q1 hq1) ?_
    refine bs_br (t := 123) (e := 109) (lo := [some (.ref 89), some (.int x1), some (.int x2), some (.int x3), some (.int x4)]) (st := []) (h := hp kp nh rh tl rl I L) rfl hf (fun hc hf => ?_) (fun hc hf => ?_)
    · refine bs_st 8 (x' := (133, [some (.ref 89), some (.int x1), some (.int x2), some (.int x3), some (.int x4)], [.int (I 111 0), .int (x1 + (1 : Int32)), .ref 89], hp kp nh rh tl rl I L)) rfl ?_
      obtain ⟨q2, hq2, hf⟩ := Option.bind_eq_some_iff.mp hf
      refine bs_call (o := pEN Ls xs (d + 4) 304 [.ref 89, .int (x1 + (1 : Int32)), .int (I 111 0)] (hp kp nh rh tl rl I L)) (w := some (.int q2.1)) (h' := hp kp nh rh tl rl q2.2.1 q2.2.2) (pc := 136) (lo := [some (.ref 89), some (.int x1), some (.int x2), some (.int x3), some (.int x4)]) (rest := []) rfl (t_304 Ls xs (d + 1) kp tl rl nh rh n (x1 + (1 : Int32)) (I 111 0) I L q2 hq2) ?_
      refine bs_br (t := 147) (e := 139) (lo := [some (.ref 89), some (.int x1), some (.int x2), some (.int x3), some (.int x4)]) (st := []) (h := hp kp nh rh tl rl q2.2.1 q2.2.2) rfl hf (fun hc hf => ?_) (fun hc hf => ?_)
      · exact tc_306_3 Ls xs d kp tl rl nh rh n _ _ hF hK0 (some (.int x4)) x1 x2 x3 q2.2.1 q2.2.2 r hf
      · refine bs_st 5 (x' := (144, [some (.ref 89), some (.int x1), some (.int x2), some (.int x3), some (.int x4)], [.int x2, .int (x1 + (1 : Int32)), .ref 89], hp kp nh rh tl rl q2.2.1 q2.2.2)) rfl ?_
        obtain ⟨q3, hq3, hf⟩ := Option.bind_eq_some_iff.mp hf
        refine bs_call (o := pEN Ls xs (d + 4) 306 [.ref 89, .int (x1 + (1 : Int32)), .int x2] (hp kp nh rh tl rl q2.2.1 q2.2.2)) (w := none) (h' := hp kp nh rh tl rl q3.1 q3.2) (pc := 147) (lo := [some (.ref 89), some (.int x1), some (.int x2), some (.int x3), some (.int x4)]) (rest := []) rfl (hF (x1 + (1 : Int32)) x2 q2.2.1 q2.2.2 q3 hq3) ?_
        exact tc_306_3 Ls xs d kp tl rl nh rh n _ _ hF hK0 (some (.int x4)) x1 x2 x3 q3.1 q3.2 r hf
    · refine bs_st 4 (x' := (116, [some (.ref 89), some (.int x1), some (.int x2), some (.int x3), some (.int x4)], [.int (0 : Int32), .int x4, .ref 105], hp kp nh rh tl rl I L)) rfl ?_
      refine bs_gd (x' := (117, [some (.ref 89), some (.int x1), some (.int x2), some (.int x3), some (.int x4)], [], hp kp nh rh tl rl (u2 I 105 x4.toNatClampNeg (0 : Int32)) L)) rfl hf (fun hc hf => ?_)
      refine bs_st 2 (x' := (100, [some (.ref 89), some (.int x1), some (.int x2), some (.int x3), some (.int (x4 + (1 : Int32)))], [], hp kp nh rh tl rl (u2 I 105 x4.toNatClampNeg (0 : Int32)) L)) rfl ?_
      exact hK2 x1 x2 x3 (x4 + (1 : Int32)) (u2 I 105 x4.toNatClampNeg (0 : Int32)) L r hf
def c_306_1 (n : Nat) (F : Int32 → Int32 → FI → FL → Option (FI × FL)) (K0 : Int32 → Int32 → Int32 → FI → FL → Option (FI × FL)) (x1 : Int32) (x2 : Int32) (x3 : Int32) (I : FI) (L : FL) : Option (FI × FL) :=
  if pin x1 12 = true then c_306_2 n F K0 n x1 x2 x3 (0 : Int32) (u2 I 111 x1.toNatClampNeg x3) L else none
set_option maxHeartbeats 1000000 in
set_option maxRecDepth 20000 in
theorem tc_306_1 (Ls : Nat) (xs : Nat → Int32) (d : Nat) (kp : Option Nat) (tl : List (Nat × Nat)) (rl : List (List (Option Nat))) (nh : Option Nat) (rh : Option Nat) (n : Nat) (F : Int32 → Int32 → FI → FL → Option (FI × FL)) (K0 : Int32 → Int32 → Int32 → FI → FL → Option (FI × FL)) (hF : ∀ (x1 : Int32) (x2 : Int32) (I : FI) (L : FL) (r : FI × FL), F x1 x2 I L = some r → pEN Ls xs (d + 4) 306 [.ref 89, .int x1, .int x2] (hp kp nh rh tl rl I L) = some (none, hp kp nh rh tl rl r.1 r.2)) (hK0 : ∀ (w4 : Option Value) (x1 : Int32) (x2 : Int32) (x3 : Int32) (I : FI) (L : FL) (r : FI × FL), K0 x1 x2 x3 I L = some r → Bs cd_306 (sf 12 rs_12 false 5 none Ls xs (d + 4)) (59, [some (.ref 89), some (.int x1), some (.int x2), some (.int x3), w4], [], hp kp nh rh tl rl I L) (none, hp kp nh rh tl rl r.1 r.2)) (w4 : Option Value) (x1 : Int32) (x2 : Int32) (x3 : Int32) (I : FI) (L : FL) (r : FI × FL) (hf : c_306_1 n F K0 x1 x2 x3 I L = some r) : Bs cd_306 (sf 12 rs_12 false 5 none Ls xs (d + 4)) (90, [some (.ref 89), some (.int x1), some (.int x2), some (.int x3), w4], [], hp kp nh rh tl rl I L) (none, hp kp nh rh tl rl r.1 r.2) := by
  unfold c_306_1 at hf
  refine bs_st 4 (x' := (96, [some (.ref 89), some (.int x1), some (.int x2), some (.int x3), w4], [.int x3, .int x1, .ref 111], hp kp nh rh tl rl I L)) rfl ?_
  refine bs_gd (x' := (97, [some (.ref 89), some (.int x1), some (.int x2), some (.int x3), w4], [], hp kp nh rh tl rl (u2 I 111 x1.toNatClampNeg x3) L)) rfl hf (fun hc hf => ?_)
  refine bs_st 2 (x' := (100, [some (.ref 89), some (.int x1), some (.int x2), some (.int x3), some (.int (0 : Int32))], [], hp kp nh rh tl rl (u2 I 111 x1.toNatClampNeg x3) L)) rfl ?_
  exact tc_306_2 Ls xs d kp tl rl nh rh n _ _ hF hK0 n x1 x2 x3 (0 : Int32) (u2 I 111 x1.toNatClampNeg x3) L r hf
def b_306_0 (n : Nat) (F : Int32 → Int32 → FI → FL → Option (FI × FL)) (K0 : Int32 → Int32 → Int32 → FI → FL → Option (FI × FL)) (x1 : Int32) (x2 : Int32) (x3 : Int32) (I : FI) (L : FL) : Option (FI × FL) :=
  (f_237 I L).bind fun q0 =>
  if q0 ≤ x3 then
    some (I, L)
  else
    if x1 ≤ 0 then
      c_306_1 n F K0 x1 x2 x3 I L
    else
      if pin (x1 - (1 : Int32)) 12 = true then ((f_250 n (I 111 ((x1 - (1 : Int32)).toNatClampNeg)) x3 I L).bind fun q4 =>
        if ¬ q4 = 0 then
          c_306_1 n F K0 x1 x2 x3 I L
        else
          c_306_3 n F K0 x1 x2 x3 I L) else none
def c_306_0 (n : Nat) (F : Int32 → Int32 → FI → FL → Option (FI × FL)) : Nat → Int32 → Int32 → Int32 → FI → FL → Option (FI × FL)
  | 0, _, _, _, _, _ => none
  | m + 1, x1, x2, x3, I, L => b_306_0 n F (c_306_0 n F m) x1 x2 x3 I L
set_option maxHeartbeats 1000000 in
set_option maxRecDepth 20000 in
theorem tc_306_0 (Ls : Nat) (xs : Nat → Int32) (d : Nat) (kp : Option Nat) (tl : List (Nat × Nat)) (rl : List (List (Option Nat))) (nh : Option Nat) (rh : Option Nat) (n : Nat) (F : Int32 → Int32 → FI → FL → Option (FI × FL)) (hF : ∀ (x1 : Int32) (x2 : Int32) (I : FI) (L : FL) (r : FI × FL), F x1 x2 I L = some r → pEN Ls xs (d + 4) 306 [.ref 89, .int x1, .int x2] (hp kp nh rh tl rl I L) = some (none, hp kp nh rh tl rl r.1 r.2)) : ∀ (m : Nat) (w4 : Option Value) (x1 : Int32) (x2 : Int32) (x3 : Int32) (I : FI) (L : FL) (r : FI × FL), c_306_0 n F m x1 x2 x3 I L = some r → Bs cd_306 (sf 12 rs_12 false 5 none Ls xs (d + 4)) (59, [some (.ref 89), some (.int x1), some (.int x2), some (.int x3), w4], [], hp kp nh rh tl rl I L) (none, hp kp nh rh tl rl r.1 r.2)
  | 0, w4, x1, x2, x3, I, L, r, hf => by cases hf
  | m + 1, w4, x1, x2, x3, I, L, r, hf => by
    unfold c_306_0 b_306_0 at hf
    have hK0 := tc_306_0 Ls xs d kp tl rl nh rh n F hF m
    refine bs_st 2 (x' := (61, [some (.ref 89), some (.int x1), some (.int x2), some (.int x3), w4], [.ref 89, .int x3], hp kp nh rh tl rl I L)) rfl ?_
    obtain ⟨q0, hq0, hf⟩ := Option.bind_eq_some_iff.mp hf
    refine bs_call (o := pEN Ls xs (d + 4) 237 [.ref 89] (hp kp nh rh tl rl I L)) (w := some (.int q0)) (h' := hp kp nh rh tl rl I L) (pc := 64) (lo := [some (.ref 89), some (.int x1), some (.int x2), some (.int x3), w4]) (rest := [.int x3]) rfl (t_237 Ls xs (d + 3) kp tl rl nh rh I L q0 hq0) ?_
    refine bs_br (t := 153) (e := 67) (lo := [some (.ref 89), some (.int x1), some (.int x2), some (.int x3), w4]) (st := []) (h := hp kp nh rh tl rl I L) rfl hf (fun hc hf => ?_) (fun hc hf => ?_)
    · cases hf
      exact bs_ret rfl
    · refine bs_st 1 (x' := (68, [some (.ref 89), some (.int x1), some (.int x2), some (.int x3), w4], [.int x1], hp kp nh rh tl rl I L)) rfl ?_
      refine bs_br (t := 90) (e := 71) (lo := [some (.ref 89), some (.int x1), some (.int x2), some (.int x3), w4]) (st := []) (h := hp kp nh rh tl rl I L) rfl hf (fun hc hf => ?_) (fun hc hf => ?_)
      · exact tc_306_1 Ls xs d kp tl rl nh rh n _ _ hF hK0 w4 x1 x2 x3 I L r hf
      · refine bs_st 6 (x' := (79, [some (.ref 89), some (.int x1), some (.int x2), some (.int x3), w4], [.int (x1 - (1 : Int32)), .ref 111, .ref 89], hp kp nh rh tl rl I L)) rfl ?_
        refine bs_gd (x' := (80, [some (.ref 89), some (.int x1), some (.int x2), some (.int x3), w4], [.int (I 111 ((x1 - (1 : Int32)).toNatClampNeg)), .ref 89], hp kp nh rh tl rl I L)) rfl hf (fun hc hf => ?_)
        refine bs_st 1 (x' := (81, [some (.ref 89), some (.int x1), some (.int x2), some (.int x3), w4], [.int x3, .int (I 111 ((x1 - (1 : Int32)).toNatClampNeg)), .ref 89], hp kp nh rh tl rl I L)) rfl ?_
        obtain ⟨q4, hq4, hf⟩ := Option.bind_eq_some_iff.mp hf
        refine bs_call (o := pEN Ls xs (d + 4) 250 [.ref 89, .int (I 111 ((x1 - (1 : Int32)).toNatClampNeg)), .int x3] (hp kp nh rh tl rl I L)) (w := some (.int q4)) (h' := hp kp nh rh tl rl I L) (pc := 84) (lo := [some (.ref 89), some (.int x1), some (.int x2), some (.int x3), w4]) (rest := []) rfl (t_250 Ls xs (d + 2) kp tl rl nh rh n (I 111 ((x1 - (1 : Int32)).toNatClampNeg)) x3 I L q4 hq4) ?_
        refine bs_br (t := 90) (e := 87) (lo := [some (.ref 89), some (.int x1), some (.int x2), some (.int x3), w4]) (st := []) (h := hp kp nh rh tl rl I L) rfl hf (fun hc hf => ?_) (fun hc hf => ?_)
        · exact tc_306_1 Ls xs d kp tl rl nh rh n _ _ hF hK0 w4 x1 x2 x3 I L r hf
        · refine bs_st 1 (x' := (147, [some (.ref 89), some (.int x1), some (.int x2), some (.int x3), w4], [], hp kp nh rh tl rl I L)) rfl ?_
          exact tc_306_3 Ls xs d kp tl rl nh rh n _ _ hF hK0 w4 x1 x2 x3 I L r hf
def b_306_4 (n : Nat) (F : Int32 → Int32 → FI → FL → Option (FI × FL)) (K4 : Int32 → Int32 → FI → FL → Option (FI × FL)) (x2 : Int32) (x3 : Int32) (I : FI) (L : FL) : Option (FI × FL) :=
  if x2 ≤ x3 then
    some ((u2 I 89 39 ((I 89 39) + (1 : Int32))), L)
  else
    if ¬ I 89 39 = 0 then
      some ((u2 I 89 39 ((I 89 39) + (1 : Int32))), L)
    else
      if pin x3 12 = true then (if pin x3 12 = true then K4 x2 (x3 + (1 : Int32)) (u2 I 112 x3.toNatClampNeg (I 111 x3.toNatClampNeg)) L else none) else none
def c_306_4 (n : Nat) (F : Int32 → Int32 → FI → FL → Option (FI × FL)) : Nat → Int32 → Int32 → FI → FL → Option (FI × FL)
  | 0, _, _, _, _ => none
  | m + 1, x2, x3, I, L => b_306_4 n F (c_306_4 n F m) x2 x3 I L
set_option maxHeartbeats 1000000 in
set_option maxRecDepth 20000 in
theorem tc_306_4 (Ls : Nat) (xs : Nat → Int32) (d : Nat) (kp : Option Nat) (tl : List (Nat × Nat)) (rl : List (List (Option Nat))) (nh : Option Nat) (rh : Option Nat) (n : Nat) (F : Int32 → Int32 → FI → FL → Option (FI × FL)) (hF : ∀ (x1 : Int32) (x2 : Int32) (I : FI) (L : FL) (r : FI × FL), F x1 x2 I L = some r → pEN Ls xs (d + 4) 306 [.ref 89, .int x1, .int x2] (hp kp nh rh tl rl I L) = some (none, hp kp nh rh tl rl r.1 r.2)) : ∀ (m : Nat) (w1 : Option Value) (w4 : Option Value) (x2 : Int32) (x3 : Int32) (I : FI) (L : FL) (r : FI × FL), c_306_4 n F m x2 x3 I L = some r → Bs cd_306 (sf 12 rs_12 false 5 none Ls xs (d + 4)) (16, [some (.ref 89), w1, some (.int x2), some (.int x3), w4], [], hp kp nh rh tl rl I L) (none, hp kp nh rh tl rl r.1 r.2)
  | 0, w1, w4, x2, x3, I, L, r, hf => by cases hf
  | m + 1, w1, w4, x2, x3, I, L, r, hf => by
    unfold c_306_4 b_306_4 at hf
    have hK4 := tc_306_4 Ls xs d kp tl rl nh rh n F hF m
    refine bs_st 2 (x' := (18, [some (.ref 89), w1, some (.int x2), some (.int x3), w4], [.int x2, .int x3], hp kp nh rh tl rl I L)) rfl ?_
    refine bs_br (t := 46) (e := 21) (lo := [some (.ref 89), w1, some (.int x2), some (.int x3), w4]) (st := []) (h := hp kp nh rh tl rl I L) rfl hf (fun hc hf => ?_) (fun hc hf => ?_)
    · refine bs_st 6 (x' := (56, [some (.ref 89), w1, some (.int x2), some (.int x3), w4], [], hp kp nh rh tl rl (u2 I 89 39 ((I 89 39) + (1 : Int32))) L)) rfl ?_
      cases hf
      exact bs_ret rfl
    · refine bs_st 2 (x' := (25, [some (.ref 89), w1, some (.int x2), some (.int x3), w4], [.int (I 89 39)], hp kp nh rh tl rl I L)) rfl ?_
      refine bs_br (t := 46) (e := 28) (lo := [some (.ref 89), w1, some (.int x2), some (.int x3), w4]) (st := []) (h := hp kp nh rh tl rl I L) rfl hf (fun hc hf => ?_) (fun hc hf => ?_)
      · refine bs_st 6 (x' := (56, [some (.ref 89), w1, some (.int x2), some (.int x3), w4], [], hp kp nh rh tl rl (u2 I 89 39 ((I 89 39) + (1 : Int32))) L)) rfl ?_
        cases hf
        exact bs_ret rfl
      · refine bs_st 6 (x' := (38, [some (.ref 89), w1, some (.int x2), some (.int x3), w4], [.int x3, .ref 111, .int x3, .ref 112], hp kp nh rh tl rl I L)) rfl ?_
        refine bs_gd (x' := (39, [some (.ref 89), w1, some (.int x2), some (.int x3), w4], [.int (I 111 x3.toNatClampNeg), .int x3, .ref 112], hp kp nh rh tl rl I L)) rfl hf (fun hc hf => ?_)
        refine bs_gd (x' := (40, [some (.ref 89), w1, some (.int x2), some (.int x3), w4], [], hp kp nh rh tl rl (u2 I 112 x3.toNatClampNeg (I 111 x3.toNatClampNeg)) L)) rfl hf (fun hc hf => ?_)
        refine bs_st 2 (x' := (16, [some (.ref 89), w1, some (.int x2), some (.int (x3 + (1 : Int32))), w4], [], hp kp nh rh tl rl (u2 I 112 x3.toNatClampNeg (I 111 x3.toNatClampNeg)) L)) rfl ?_
        exact hK4 w1 w4 x2 (x3 + (1 : Int32)) (u2 I 112 x3.toNatClampNeg (I 111 x3.toNatClampNeg)) L r hf
def g_306 (n : Nat) (F : Int32 → Int32 → FI → FL → Option (FI × FL)) (x1 : Int32) (x2 : Int32) (I : FI) (L : FL) : Option (FI × FL) :=
  if ¬ x1 = x2 then
    c_306_0 n F n x1 x2 (0 : Int32) I L
  else
    (f_305 n x2 I L).bind fun q5 =>
    if ¬ q5.1 = 0 then
      c_306_4 n F n x2 (0 : Int32) q5.2.1 q5.2.2
    else
      some (q5.2.1, q5.2.2)
def f_306 (n : Nat) : Nat → Int32 → Int32 → FI → FL → Option (FI × FL)
  | 0, _, _, _, _ => none
  | m + 1, x1, x2, I, L => g_306 n (f_306 n m) x1 x2 I L
set_option maxHeartbeats 1000000 in
set_option maxRecDepth 20000 in
theorem t_306 (Ls : Nat) (xs : Nat → Int32) : ∀ (m d : Nat) (kp : Option Nat) (tl : List (Nat × Nat)) (rl : List (List (Option Nat))) (nh : Option Nat) (rh : Option Nat) (n : Nat) (x1 : Int32) (x2 : Int32) (I : FI) (L : FL) (r : FI × FL), f_306 n m x1 x2 I L = some r → pEN Ls xs (d + m + 5) 306 [.ref 89, .int x1, .int x2] (hp kp nh rh tl rl I L) = some (none, hp kp nh rh tl rl r.1 r.2)
  | 0, d, kp, tl, rl, nh, rh, n, x1, x2, I, L, r, hf => by cases hf
  | m + 1, d0, kp, tl, rl, nh, rh, n, x1, x2, I, L, r, hf => by
    have hF := fun x1 x2 I L r h => t_306 Ls xs m d0 kp tl rl nh rh n x1 x2 I L r h
    generalize hd : d0 + m + 1 = d
    have hF : ∀ (x1 : Int32) (x2 : Int32) (I : FI) (L : FL) (r : FI × FL), f_306 n m x1 x2 I L = some r → pEN Ls xs (d + 4) 306 [.ref 89, .int x1, .int x2] (hp kp nh rh tl rl I L) = some (none, hp kp nh rh tl rl r.1 r.2) := fun x1 x2 I L r h => by rw [← hd]; exact hF x1 x2 I L r h
    have e1 : d0 + (m + 1) + 5 = d + 5 := by omega
    try rw [e1]
    refine en_run (d := d + 4) (cd := cd_306) (f := (sf 12 rs_12 false 5 none Ls xs (d + 4))) rfl rfl (x := (0, [some (.ref 89), some (.int x1), some (.int x2), none, none], [], hp kp nh rh tl rl I L)) rfl rfl (Nat.le_of_ble_eq_true rfl) ?_
    unfold f_306 g_306 at hf
    refine bs_st 2 (x' := (2, [some (.ref 89), some (.int x1), some (.int x2), none, none], [.int x2, .int x1], hp kp nh rh tl rl I L)) rfl ?_
    refine bs_br (t := 57) (e := 5) (lo := [some (.ref 89), some (.int x1), some (.int x2), none, none]) (st := []) (h := hp kp nh rh tl rl I L) rfl hf (fun hc hf => ?_) (fun hc hf => ?_)
    · refine bs_st 2 (x' := (59, [some (.ref 89), some (.int x1), some (.int x2), some (.int (0 : Int32)), none], [], hp kp nh rh tl rl I L)) rfl ?_
      exact tc_306_0 Ls xs d kp tl rl nh rh n _ hF n none x1 x2 (0 : Int32) I L r hf
    · refine bs_st 2 (x' := (7, [some (.ref 89), some (.int x1), some (.int x2), none, none], [.int x2, .ref 89], hp kp nh rh tl rl I L)) rfl ?_
      obtain ⟨q5, hq5, hf⟩ := Option.bind_eq_some_iff.mp hf
      refine bs_call (o := pEN Ls xs (d + 4) 305 [.ref 89, .int x2] (hp kp nh rh tl rl I L)) (w := some (.int q5.1)) (h' := hp kp nh rh tl rl q5.2.1 q5.2.2) (pc := 10) (lo := [some (.ref 89), some (.int x1), some (.int x2), none, none]) (rest := []) rfl (t_305 Ls xs (d + 0) kp tl rl nh rh n x2 I L q5 hq5) ?_
      refine bs_br (t := 14) (e := 13) (lo := [some (.ref 89), some (.int x1), some (.int x2), none, none]) (st := []) (h := hp kp nh rh tl rl q5.2.1 q5.2.2) rfl hf (fun hc hf => ?_) (fun hc hf => ?_)
      · refine bs_st 2 (x' := (16, [some (.ref 89), some (.int x1), some (.int x2), some (.int (0 : Int32)), none], [], hp kp nh rh tl rl q5.2.1 q5.2.2)) rfl ?_
        exact tc_306_4 Ls xs d kp tl rl nh rh n _ hF n (some (.int x1)) none x2 (0 : Int32) q5.2.1 q5.2.2 r hf
      · cases hf
        exact bs_ret rfl
/-- LampRoundsModel.ringsOf(I) on (89,) -/
def f_307 (n : Nat) (x1 : Int32) (I : FI) (L : FL) : Option (Int32 × FI × FL) :=
  (f_252 n I L).bind fun q0 =>
  (f_237 (u2 q0.1 89 39 (0 : Int32)) q0.2).bind fun q1 =>
  if q1 ≤ 0 then
    some ((0 : Int32), (u2 q0.1 89 39 (0 : Int32)), q0.2)
  else
    (f_306 n 64 (0 : Int32) x1 (u2 q0.1 89 39 (0 : Int32)) q0.2).bind fun q2 =>
    some (q2.1 89 39, q2.1, q2.2)
set_option maxHeartbeats 1000000 in
set_option maxRecDepth 20000 in
theorem t_307 (Ls : Nat) (xs : Nat → Int32) (d : Nat) (kp : Option Nat) (tl : List (Nat × Nat)) (rl : List (List (Option Nat))) (nh : Option Nat) (rh : Option Nat) (n : Nat) (x1 : Int32) (I : FI) (L : FL) (r : Int32 × FI × FL) (hf : f_307 n x1 I L = some r) : pEN Ls xs (d + 70) 307 [.ref 89, .int x1] (hp kp nh rh tl rl I L) = some (some (.int r.1), hp kp nh rh tl rl r.2.1 r.2.2) := by
  refine en_run (d := d + 69) (cd := cd_307) (f := (sf 12 rs_12 false 2 (some (.int)) Ls xs (d + 69))) rfl rfl (x := (0, [some (.ref 89), some (.int x1)], [], hp kp nh rh tl rl I L)) rfl rfl (Nat.le_of_ble_eq_true rfl) ?_
  unfold f_307 at hf
  refine bs_st 1 (x' := (1, [some (.ref 89), some (.int x1)], [.ref 89], hp kp nh rh tl rl I L)) rfl ?_
  obtain ⟨q0, hq0, hf⟩ := Option.bind_eq_some_iff.mp hf
  refine bs_call (o := pEN Ls xs (d + 69) 252 [.ref 89] (hp kp nh rh tl rl I L)) (w := none) (h' := hp kp nh rh tl rl q0.1 q0.2) (pc := 4) (lo := [some (.ref 89), some (.int x1)]) (rest := []) rfl (t_252 Ls xs (d + 67) kp tl rl nh rh n I L q0 hq0) ?_
  refine bs_st 4 (x' := (10, [some (.ref 89), some (.int x1)], [.ref 89], hp kp nh rh tl rl (u2 q0.1 89 39 (0 : Int32)) q0.2)) rfl ?_
  obtain ⟨q1, hq1, hf⟩ := Option.bind_eq_some_iff.mp hf
  refine bs_call (o := pEN Ls xs (d + 69) 237 [.ref 89] (hp kp nh rh tl rl (u2 q0.1 89 39 (0 : Int32)) q0.2)) (w := some (.int q1)) (h' := hp kp nh rh tl rl (u2 q0.1 89 39 (0 : Int32)) q0.2) (pc := 13) (lo := [some (.ref 89), some (.int x1)]) (rest := []) rfl (t_237 Ls xs (d + 68) kp tl rl nh rh (u2 q0.1 89 39 (0 : Int32)) q0.2 q1 hq1) ?_
  refine bs_br (t := 22) (e := 16) (lo := [some (.ref 89), some (.int x1)]) (st := []) (h := hp kp nh rh tl rl (u2 q0.1 89 39 (0 : Int32)) q0.2) rfl hf (fun hc hf => ?_) (fun hc hf => ?_)
  · refine bs_st 2 (x' := (26, [some (.ref 89), some (.int x1)], [.int (0 : Int32)], hp kp nh rh tl rl (u2 q0.1 89 39 (0 : Int32)) q0.2)) rfl ?_
    cases hf
    exact bs_ret rfl
  · refine bs_st 3 (x' := (19, [some (.ref 89), some (.int x1)], [.int x1, .int (0 : Int32), .ref 89], hp kp nh rh tl rl (u2 q0.1 89 39 (0 : Int32)) q0.2)) rfl ?_
    obtain ⟨q2, hq2, hf⟩ := Option.bind_eq_some_iff.mp hf
    refine bs_call (o := pEN Ls xs (d + 69) 306 [.ref 89, .int (0 : Int32), .int x1] (hp kp nh rh tl rl (u2 q0.1 89 39 (0 : Int32)) q0.2)) (w := none) (h' := hp kp nh rh tl rl q2.1 q2.2) (pc := 22) (lo := [some (.ref 89), some (.int x1)]) (rest := []) rfl (t_306 Ls xs 64 (d + 0) kp tl rl nh rh n (0 : Int32) x1 (u2 q0.1 89 39 (0 : Int32)) q0.2 q2 hq2) ?_
    refine bs_st 2 (x' := (26, [some (.ref 89), some (.int x1)], [.int (q2.1 89 39)], hp kp nh rh tl rl q2.1 q2.2)) rfl ?_
    cases hf
    exact bs_ret rfl
/-- LampRoundsModel.ringOf() on (89,) -/
def b_308_0 (n : Nat) (K0 : Int32 → FI → FL → Option (Int32 × FI × FL)) (x1 : Int32) (I : FI) (L : FL) : Option (Int32 × FI × FL) :=
  if (10 : Int32) < x1 then
    some ((-1 : Int32), I, L)
  else
    (f_307 n x1 I L).bind fun q0 =>
    if q0.1 ≤ 0 then
      K0 (x1 + (1 : Int32)) q0.2.1 q0.2.2
    else
      some (x1, q0.2.1, q0.2.2)
def c_308_0 (n : Nat) : Nat → Int32 → FI → FL → Option (Int32 × FI × FL)
  | 0, _, _, _ => none
  | m + 1, x1, I, L => b_308_0 n (c_308_0 n m) x1 I L
set_option maxHeartbeats 1000000 in
set_option maxRecDepth 20000 in
theorem tc_308_0 (Ls : Nat) (xs : Nat → Int32) (d : Nat) (kp : Option Nat) (tl : List (Nat × Nat)) (rl : List (List (Option Nat))) (nh : Option Nat) (rh : Option Nat) (n : Nat) : ∀ (m : Nat) (x1 : Int32) (I : FI) (L : FL) (r : Int32 × FI × FL), c_308_0 n m x1 I L = some r → Bs cd_308 (sf 12 rs_12 false 2 (some (.int)) Ls xs (d + 70)) (2, [some (.ref 89), some (.int x1)], [], hp kp nh rh tl rl I L) (some (.int r.1), hp kp nh rh tl rl r.2.1 r.2.2)
  | 0, x1, I, L, r, hf => by cases hf
  | m + 1, x1, I, L, r, hf => by
    unfold c_308_0 b_308_0 at hf
    have hK0 := tc_308_0 Ls xs d kp tl rl nh rh n m
    refine bs_st 2 (x' := (5, [some (.ref 89), some (.int x1)], [.int (10 : Int32), .int x1], hp kp nh rh tl rl I L)) rfl ?_
    refine bs_br (t := 24) (e := 8) (lo := [some (.ref 89), some (.int x1)]) (st := []) (h := hp kp nh rh tl rl I L) rfl hf (fun hc hf => ?_) (fun hc hf => ?_)
    · refine bs_st 1 (x' := (25, [some (.ref 89), some (.int x1)], [.int (-1 : Int32)], hp kp nh rh tl rl I L)) rfl ?_
      cases hf
      exact bs_ret rfl
    · refine bs_st 2 (x' := (10, [some (.ref 89), some (.int x1)], [.int x1, .ref 89], hp kp nh rh tl rl I L)) rfl ?_
      obtain ⟨q0, hq0, hf⟩ := Option.bind_eq_some_iff.mp hf
      refine bs_call (o := pEN Ls xs (d + 70) 307 [.ref 89, .int x1] (hp kp nh rh tl rl I L)) (w := some (.int q0.1)) (h' := hp kp nh rh tl rl q0.2.1 q0.2.2) (pc := 13) (lo := [some (.ref 89), some (.int x1)]) (rest := []) rfl (t_307 Ls xs (d + 0) kp tl rl nh rh n x1 I L q0 hq0) ?_
      refine bs_br (t := 18) (e := 16) (lo := [some (.ref 89), some (.int x1)]) (st := []) (h := hp kp nh rh tl rl q0.2.1 q0.2.2) rfl hf (fun hc hf => ?_) (fun hc hf => ?_)
      · refine bs_st 2 (x' := (2, [some (.ref 89), some (.int (x1 + (1 : Int32)))], [], hp kp nh rh tl rl q0.2.1 q0.2.2)) rfl ?_
        exact hK0 (x1 + (1 : Int32)) q0.2.1 q0.2.2 r hf
      · refine bs_st 1 (x' := (17, [some (.ref 89), some (.int x1)], [.int x1], hp kp nh rh tl rl q0.2.1 q0.2.2)) rfl ?_
        cases hf
        exact bs_ret rfl
def f_308 (n : Nat) (I : FI) (L : FL) : Option (Int32 × FI × FL) :=
  c_308_0 n n (1 : Int32) I L
set_option maxHeartbeats 1000000 in
set_option maxRecDepth 20000 in
theorem t_308 (Ls : Nat) (xs : Nat → Int32) (d : Nat) (kp : Option Nat) (tl : List (Nat × Nat)) (rl : List (List (Option Nat))) (nh : Option Nat) (rh : Option Nat) (n : Nat) (I : FI) (L : FL) (r : Int32 × FI × FL) (hf : f_308 n I L = some r) : pEN Ls xs (d + 71) 308 [.ref 89] (hp kp nh rh tl rl I L) = some (some (.int r.1), hp kp nh rh tl rl r.2.1 r.2.2) := by
  refine en_run (d := d + 70) (cd := cd_308) (f := (sf 12 rs_12 false 2 (some (.int)) Ls xs (d + 70))) rfl rfl (x := (0, [some (.ref 89), none], [], hp kp nh rh tl rl I L)) rfl rfl (Nat.le_of_ble_eq_true rfl) ?_
  unfold f_308 at hf
  refine bs_st 2 (x' := (2, [some (.ref 89), some (.int (1 : Int32))], [], hp kp nh rh tl rl I L)) rfl ?_
  exact tc_308_0 Ls xs d kp tl rl nh rh n n (1 : Int32) I L r hf
/-- LampRoundsModel.ring() on (89,) -/
def f_309 (n : Nat) (I : FI) (L : FL) : Option (Int32 × FI × FL) :=
  (f_236 (u2 I 89 0 (0 : Int32)) L).bind fun q0 =>
  if q0 = 0 then
    some ((-2 : Int32), (u2 I 89 0 (0 : Int32)), L)
  else
    (f_308 n (u2 I 89 0 (0 : Int32)) L).bind fun q1 =>
    some (q1.1, q1.2.1, q1.2.2)
set_option maxHeartbeats 1000000 in
set_option maxRecDepth 20000 in
theorem t_309 (Ls : Nat) (xs : Nat → Int32) (d : Nat) (kp : Option Nat) (tl : List (Nat × Nat)) (rl : List (List (Option Nat))) (nh : Option Nat) (rh : Option Nat) (n : Nat) (I : FI) (L : FL) (r : Int32 × FI × FL) (hf : f_309 n I L = some r) : pEN Ls xs (d + 72) 309 [.ref 89] (hp kp nh rh tl rl I L) = some (some (.int r.1), hp kp nh rh tl rl r.2.1 r.2.2) := by
  refine en_run (d := d + 71) (cd := cd_309) (f := (sf 12 rs_12 false 1 (some (.int)) Ls xs (d + 71))) rfl rfl (x := (0, [some (.ref 89)], [], hp kp nh rh tl rl I L)) rfl rfl (Nat.le_of_ble_eq_true rfl) ?_
  unfold f_309 at hf
  refine bs_st 4 (x' := (6, [some (.ref 89)], [.ref 89], hp kp nh rh tl rl (u2 I 89 0 (0 : Int32)) L)) rfl ?_
  obtain ⟨q0, hq0, hf⟩ := Option.bind_eq_some_iff.mp hf
  refine bs_call (o := pEN Ls xs (d + 71) 236 [.ref 89] (hp kp nh rh tl rl (u2 I 89 0 (0 : Int32)) L)) (w := some (.int q0)) (h' := hp kp nh rh tl rl (u2 I 89 0 (0 : Int32)) L) (pc := 9) (lo := [some (.ref 89)]) (rest := []) rfl (t_236 Ls xs (d + 70) kp tl rl nh rh (u2 I 89 0 (0 : Int32)) L q0 hq0) ?_
  refine bs_br (t := 19) (e := 12) (lo := [some (.ref 89)]) (st := []) (h := hp kp nh rh tl rl (u2 I 89 0 (0 : Int32)) L) rfl hf (fun hc hf => ?_) (fun hc hf => ?_)
  · refine bs_st 1 (x' := (21, [some (.ref 89)], [.int (-2 : Int32)], hp kp nh rh tl rl (u2 I 89 0 (0 : Int32)) L)) rfl ?_
    cases hf
    exact bs_ret rfl
  · refine bs_st 1 (x' := (13, [some (.ref 89)], [.ref 89], hp kp nh rh tl rl (u2 I 89 0 (0 : Int32)) L)) rfl ?_
    obtain ⟨q1, hq1, hf⟩ := Option.bind_eq_some_iff.mp hf
    refine bs_call (o := pEN Ls xs (d + 71) 308 [.ref 89] (hp kp nh rh tl rl (u2 I 89 0 (0 : Int32)) L)) (w := some (.int q1.1)) (h' := hp kp nh rh tl rl q1.2.1 q1.2.2) (pc := 16) (lo := [some (.ref 89)]) (rest := []) rfl (t_308 Ls xs (d + 0) kp tl rl nh rh n (u2 I 89 0 (0 : Int32)) L q1 hq1) ?_
    refine bs_st 1 (x' := (21, [some (.ref 89)], [.int q1.1], hp kp nh rh tl rl q1.2.1 q1.2.2)) rfl ?_
    cases hf
    exact bs_ret rfl
/-- LampRoundsModel.ringed(I) on (89,) -/
def f_310 (n : Nat) (x1 : Int32) (I : FI) (L : FL) : Option (Int32 × FI × FL) :=
  (f_236 (u2 I 89 0 (0 : Int32)) L).bind fun q0 =>
  if q0 = 0 then
    some ((-2 : Int32), (u2 I 89 0 (0 : Int32)), L)
  else
    if 0 ≤ x1 then
      (f_308 n (u2 I 89 0 (0 : Int32)) L).bind fun q1 =>
      if q1.1 ≤ x1 then
        some ((-1 : Int32), q1.2.1, q1.2.2)
      else
        if pin x1 12 = true then some (q1.2.1 112 x1.toNatClampNeg, q1.2.1, q1.2.2) else none
    else
      some ((-2 : Int32), (u2 I 89 0 (0 : Int32)), L)
set_option maxHeartbeats 1000000 in
set_option maxRecDepth 20000 in
theorem t_310 (Ls : Nat) (xs : Nat → Int32) (d : Nat) (kp : Option Nat) (tl : List (Nat × Nat)) (rl : List (List (Option Nat))) (nh : Option Nat) (rh : Option Nat) (n : Nat) (x1 : Int32) (I : FI) (L : FL) (r : Int32 × FI × FL) (hf : f_310 n x1 I L = some r) : pEN Ls xs (d + 72) 310 [.ref 89, .int x1] (hp kp nh rh tl rl I L) = some (some (.int r.1), hp kp nh rh tl rl r.2.1 r.2.2) := by
  refine en_run (d := d + 71) (cd := cd_310) (f := (sf 12 rs_12 false 2 (some (.int)) Ls xs (d + 71))) rfl rfl (x := (0, [some (.ref 89), some (.int x1)], [], hp kp nh rh tl rl I L)) rfl rfl (Nat.le_of_ble_eq_true rfl) ?_
  unfold f_310 at hf
  refine bs_st 4 (x' := (6, [some (.ref 89), some (.int x1)], [.ref 89], hp kp nh rh tl rl (u2 I 89 0 (0 : Int32)) L)) rfl ?_
  obtain ⟨q0, hq0, hf⟩ := Option.bind_eq_some_iff.mp hf
  refine bs_call (o := pEN Ls xs (d + 71) 236 [.ref 89] (hp kp nh rh tl rl (u2 I 89 0 (0 : Int32)) L)) (w := some (.int q0)) (h' := hp kp nh rh tl rl (u2 I 89 0 (0 : Int32)) L) (pc := 9) (lo := [some (.ref 89), some (.int x1)]) (rest := []) rfl (t_236 Ls xs (d + 70) kp tl rl nh rh (u2 I 89 0 (0 : Int32)) L q0 hq0) ?_
  refine bs_br (t := 16) (e := 12) (lo := [some (.ref 89), some (.int x1)]) (st := []) (h := hp kp nh rh tl rl (u2 I 89 0 (0 : Int32)) L) rfl hf (fun hc hf => ?_) (fun hc hf => ?_)
  · refine bs_st 1 (x' := (18, [some (.ref 89), some (.int x1)], [.int (-2 : Int32)], hp kp nh rh tl rl (u2 I 89 0 (0 : Int32)) L)) rfl ?_
    cases hf
    exact bs_ret rfl
  · refine bs_st 1 (x' := (13, [some (.ref 89), some (.int x1)], [.int x1], hp kp nh rh tl rl (u2 I 89 0 (0 : Int32)) L)) rfl ?_
    refine bs_br (t := 19) (e := 16) (lo := [some (.ref 89), some (.int x1)]) (st := []) (h := hp kp nh rh tl rl (u2 I 89 0 (0 : Int32)) L) rfl hf (fun hc hf => ?_) (fun hc hf => ?_)
    · refine bs_st 2 (x' := (21, [some (.ref 89), some (.int x1)], [.ref 89, .int x1], hp kp nh rh tl rl (u2 I 89 0 (0 : Int32)) L)) rfl ?_
      obtain ⟨q1, hq1, hf⟩ := Option.bind_eq_some_iff.mp hf
      refine bs_call (o := pEN Ls xs (d + 71) 308 [.ref 89] (hp kp nh rh tl rl (u2 I 89 0 (0 : Int32)) L)) (w := some (.int q1.1)) (h' := hp kp nh rh tl rl q1.2.1 q1.2.2) (pc := 24) (lo := [some (.ref 89), some (.int x1)]) (rest := [.int x1]) rfl (t_308 Ls xs (d + 0) kp tl rl nh rh n (u2 I 89 0 (0 : Int32)) L q1 hq1) ?_
      refine bs_br (t := 36) (e := 27) (lo := [some (.ref 89), some (.int x1)]) (st := []) (h := hp kp nh rh tl rl q1.2.1 q1.2.2) rfl hf (fun hc hf => ?_) (fun hc hf => ?_)
      · refine bs_st 1 (x' := (37, [some (.ref 89), some (.int x1)], [.int (-1 : Int32)], hp kp nh rh tl rl q1.2.1 q1.2.2)) rfl ?_
        cases hf
        exact bs_ret rfl
      · refine bs_st 3 (x' := (32, [some (.ref 89), some (.int x1)], [.int x1, .ref 112], hp kp nh rh tl rl q1.2.1 q1.2.2)) rfl ?_
        refine bs_gd (x' := (33, [some (.ref 89), some (.int x1)], [.int (q1.2.1 112 x1.toNatClampNeg)], hp kp nh rh tl rl q1.2.1 q1.2.2)) rfl hf (fun hc hf => ?_)
        refine bs_st 1 (x' := (37, [some (.ref 89), some (.int x1)], [.int (q1.2.1 112 x1.toNatClampNeg)], hp kp nh rh tl rl q1.2.1 q1.2.2)) rfl ?_
        cases hf
        exact bs_ret rfl
    · refine bs_st 1 (x' := (18, [some (.ref 89), some (.int x1)], [.int (-2 : Int32)], hp kp nh rh tl rl (u2 I 89 0 (0 : Int32)) L)) rfl ?_
      cases hf
      exact bs_ret rfl
/-- LampRoundsModel.rings(I) on (89,) -/
def f_311 (n : Nat) (x1 : Int32) (I : FI) (L : FL) : Option (Int32 × FI × FL) :=
  (f_236 (u2 I 89 0 (0 : Int32)) L).bind fun q0 =>
  if q0 = 0 then
    some ((-2 : Int32), (u2 I 89 0 (0 : Int32)), L)
  else
    (f_201 x1.toInt64 (1 : Int64) (10 : Int64) (u2 I 89 0 (0 : Int32)) L).bind fun q1 =>
    if q1 = 0 then
      some ((-2 : Int32), (u2 I 89 0 (0 : Int32)), L)
    else
      (f_307 n x1 (u2 I 89 0 (0 : Int32)) L).bind fun q2 =>
      some (q2.1, q2.2.1, q2.2.2)
set_option maxHeartbeats 1000000 in
set_option maxRecDepth 20000 in
theorem t_311 (Ls : Nat) (xs : Nat → Int32) (d : Nat) (kp : Option Nat) (tl : List (Nat × Nat)) (rl : List (List (Option Nat))) (nh : Option Nat) (rh : Option Nat) (n : Nat) (x1 : Int32) (I : FI) (L : FL) (r : Int32 × FI × FL) (hf : f_311 n x1 I L = some r) : pEN Ls xs (d + 71) 311 [.ref 89, .int x1] (hp kp nh rh tl rl I L) = some (some (.int r.1), hp kp nh rh tl rl r.2.1 r.2.2) := by
  refine en_run (d := d + 70) (cd := cd_311) (f := (sf 12 rs_12 false 2 (some (.int)) Ls xs (d + 70))) rfl rfl (x := (0, [some (.ref 89), some (.int x1)], [], hp kp nh rh tl rl I L)) rfl rfl (Nat.le_of_ble_eq_true rfl) ?_
  unfold f_311 at hf
  refine bs_st 4 (x' := (6, [some (.ref 89), some (.int x1)], [.ref 89], hp kp nh rh tl rl (u2 I 89 0 (0 : Int32)) L)) rfl ?_
  obtain ⟨q0, hq0, hf⟩ := Option.bind_eq_some_iff.mp hf
  refine bs_call (o := pEN Ls xs (d + 70) 236 [.ref 89] (hp kp nh rh tl rl (u2 I 89 0 (0 : Int32)) L)) (w := some (.int q0)) (h' := hp kp nh rh tl rl (u2 I 89 0 (0 : Int32)) L) (pc := 9) (lo := [some (.ref 89), some (.int x1)]) (rest := []) rfl (t_236 Ls xs (d + 69) kp tl rl nh rh (u2 I 89 0 (0 : Int32)) L q0 hq0) ?_
  refine bs_br (t := 32) (e := 12) (lo := [some (.ref 89), some (.int x1)]) (st := []) (h := hp kp nh rh tl rl (u2 I 89 0 (0 : Int32)) L) rfl hf (fun hc hf => ?_) (fun hc hf => ?_)
  · refine bs_st 1 (x' := (34, [some (.ref 89), some (.int x1)], [.int (-2 : Int32)], hp kp nh rh tl rl (u2 I 89 0 (0 : Int32)) L)) rfl ?_
    cases hf
    exact bs_ret rfl
  · refine bs_st 4 (x' := (18, [some (.ref 89), some (.int x1)], [.long (10 : Int64), .long (1 : Int64), .long x1.toInt64], hp kp nh rh tl rl (u2 I 89 0 (0 : Int32)) L)) rfl ?_
    obtain ⟨q1, hq1, hf⟩ := Option.bind_eq_some_iff.mp hf
    refine bs_call (o := pEN Ls xs (d + 70) 201 [.long x1.toInt64, .long (1 : Int64), .long (10 : Int64)] (hp kp nh rh tl rl (u2 I 89 0 (0 : Int32)) L)) (w := some (.int q1)) (h' := hp kp nh rh tl rl (u2 I 89 0 (0 : Int32)) L) (pc := 21) (lo := [some (.ref 89), some (.int x1)]) (rest := []) rfl (t_201 Ls xs (d + 69) kp tl rl nh rh x1.toInt64 (1 : Int64) (10 : Int64) (u2 I 89 0 (0 : Int32)) L q1 hq1) ?_
    refine bs_br (t := 32) (e := 24) (lo := [some (.ref 89), some (.int x1)]) (st := []) (h := hp kp nh rh tl rl (u2 I 89 0 (0 : Int32)) L) rfl hf (fun hc hf => ?_) (fun hc hf => ?_)
    · refine bs_st 1 (x' := (34, [some (.ref 89), some (.int x1)], [.int (-2 : Int32)], hp kp nh rh tl rl (u2 I 89 0 (0 : Int32)) L)) rfl ?_
      cases hf
      exact bs_ret rfl
    · refine bs_st 2 (x' := (26, [some (.ref 89), some (.int x1)], [.int x1, .ref 89], hp kp nh rh tl rl (u2 I 89 0 (0 : Int32)) L)) rfl ?_
      obtain ⟨q2, hq2, hf⟩ := Option.bind_eq_some_iff.mp hf
      refine bs_call (o := pEN Ls xs (d + 70) 307 [.ref 89, .int x1] (hp kp nh rh tl rl (u2 I 89 0 (0 : Int32)) L)) (w := some (.int q2.1)) (h' := hp kp nh rh tl rl q2.2.1 q2.2.2) (pc := 29) (lo := [some (.ref 89), some (.int x1)]) (rest := []) rfl (t_307 Ls xs (d + 0) kp tl rl nh rh n x1 (u2 I 89 0 (0 : Int32)) L q2 hq2) ?_
      refine bs_st 1 (x' := (34, [some (.ref 89), some (.int x1)], [.int q2.1], hp kp nh rh tl rl q2.2.1 q2.2.2)) rfl ?_
      cases hf
      exact bs_ret rfl
