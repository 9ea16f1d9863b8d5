/-- House.worthOf(I) on (3,) -/
def c_25_1 (n : Nat) (I : FI) (L : FL) (K0 : Int32 → Int32 → Int32 → Option (Int32)) (x1 : Int32) (x2 : Int32) (x3 : Int32) : Option (Int32) :=
  K0 x1 x2 (x3 + (1 : Int32))
set_option maxHeartbeats 1000000 in
set_option maxRecDepth 20000 in
theorem tc_25_1 (Ls : Nat) (xs : Nat → Int32) (d : Nat) (kp : Option Nat) (tl : List (Nat × Nat)) (rl : List (List (Option Nat))) (rh : Option Nat) (n : Nat) (I : FI) (L : FL) (K0 : Int32 → Int32 → Int32 → Option (Int32)) (hK0 : ∀ (x1 : Int32) (x2 : Int32) (x3 : Int32) (r : Int32), K0 x1 x2 x3 = some r → Bs cd_25 (sf 3 rs_3 false 4 (some (.int)) Ls xs (d + 0)) (4, [some (.ref 3), some (.int x1), some (.int x2), some (.int x3)], [], hp kp (some 3) rh tl rl I L) (some (.int r), hp kp (some 3) rh tl rl I L)) (x1 : Int32) (x2 : Int32) (x3 : Int32) (r : Int32) (hf : c_25_1 n I L K0 x1 x2 x3 = some r) : Bs cd_25 (sf 3 rs_3 false 4 (some (.int)) Ls xs (d + 0)) (29, [some (.ref 3), some (.int x1), some (.int x2), some (.int x3)], [], hp kp (some 3) rh tl rl I L) (some (.int r), hp kp (some 3) rh tl rl I L) := by
  unfold c_25_1 at hf
  refine bs_st 2 (x' := (4, [some (.ref 3), some (.int x1), some (.int x2), some (.int (x3 + (1 : Int32)))], [], hp kp (some 3) rh tl rl I L)) rfl ?_
  exact hK0 x1 x2 (x3 + (1 : Int32)) r hf
def b_25_0 (n : Nat) (I : FI) (L : FL) (K0 : Int32 → Int32 → Int32 → Option (Int32)) (x1 : Int32) (x2 : Int32) (x3 : Int32) : Option (Int32) :=
  if I 3 4 ≤ x3 then
    some (x2)
  else
    if ((x1 >>> (x3 &&& 31)) &&& (1 : Int32)) = 0 then
      c_25_1 n I L K0 x1 x2 x3
    else
      if pin x3 4 = true then c_25_1 n I L K0 x1 (x2 + (I 5 x3.toNatClampNeg)) x3 else none
def c_25_0 (n : Nat) (I : FI) (L : FL) : Nat → Int32 → Int32 → Int32 → Option (Int32)
  | 0, _, _, _ => none
  | m + 1, x1, x2, x3 => b_25_0 n I L (c_25_0 n I L m) x1 x2 x3
set_option maxHeartbeats 1000000 in
set_option maxRecDepth 20000 in
theorem tc_25_0 (Ls : Nat) (xs : Nat → Int32) (d : Nat) (kp : Option Nat) (tl : List (Nat × Nat)) (rl : List (List (Option Nat))) (rh : Option Nat) (n : Nat) (I : FI) (L : FL) : ∀ (m : Nat) (x1 : Int32) (x2 : Int32) (x3 : Int32) (r : Int32), c_25_0 n I L m x1 x2 x3 = some r → Bs cd_25 (sf 3 rs_3 false 4 (some (.int)) Ls xs (d + 0)) (4, [some (.ref 3), some (.int x1), some (.int x2), some (.int x3)], [], hp kp (some 3) rh tl rl I L) (some (.int r), hp kp (some 3) rh tl rl I L)
  | 0, x1, x2, x3, r, hf => by cases hf
  | m + 1, x1, x2, x3, r, hf => by
    unfold c_25_0 b_25_0 at hf
    have hK0 := tc_25_0 Ls xs d kp tl rl rh n I L m
    refine bs_st 3 (x' := (9, [some (.ref 3), some (.int x1), some (.int x2), some (.int x3)], [.int (I 3 4), .int x3], hp kp (some 3) rh tl rl I L)) rfl ?_
    refine bs_br (t := 35) (e := 12) (lo := [some (.ref 3), some (.int x1), some (.int x2), some (.int x3)]) (st := []) (h := hp kp (some 3) rh tl rl I L) rfl hf (fun hc hf => ?_) (fun hc hf => ?_)
    · refine bs_st 1 (x' := (36, [some (.ref 3), some (.int x1), some (.int x2), some (.int x3)], [.int x2], hp kp (some 3) rh tl rl I L)) rfl ?_
      cases hf
      exact bs_ret rfl
    · refine bs_st 5 (x' := (17, [some (.ref 3), some (.int x1), some (.int x2), some (.int x3)], [.int ((x1 >>> (x3 &&& 31)) &&& (1 : Int32))], hp kp (some 3) rh tl rl I L)) rfl ?_
      refine bs_br (t := 29) (e := 20) (lo := [some (.ref 3), some (.int x1), some (.int x2), some (.int x3)]) (st := []) (h := hp kp (some 3) rh tl rl I L) rfl hf (fun hc hf => ?_) (fun hc hf => ?_)
      · exact tc_25_1 Ls xs d kp tl rl rh n I L _ hK0 x1 x2 x3 r hf
      · refine bs_st 4 (x' := (26, [some (.ref 3), some (.int x1), some (.int x2), some (.int x3)], [.int x3, .ref 5, .int x2], hp kp (some 3) rh tl rl I L)) rfl ?_
        refine bs_gd (x' := (27, [some (.ref 3), some (.int x1), some (.int x2), some (.int x3)], [.int (I 5 x3.toNatClampNeg), .int x2], hp kp (some 3) rh tl rl I L)) rfl hf (fun hc hf => ?_)
        refine bs_st 2 (x' := (29, [some (.ref 3), some (.int x1), some (.int (x2 + (I 5 x3.toNatClampNeg))), some (.int x3)], [], hp kp (some 3) rh tl rl I L)) rfl ?_
        exact tc_25_1 Ls xs d kp tl rl rh n I L _ hK0 x1 (x2 + (I 5 x3.toNatClampNeg)) x3 r hf
def f_25 (n : Nat) (x1 : Int32) (I : FI) (L : FL) : Option (Int32) :=
  c_25_0 n I L n x1 (0 : Int32) (0 : Int32)
set_option maxHeartbeats 1000000 in
set_option maxRecDepth 20000 in
theorem t_25 (Ls : Nat) (xs : Nat → Int32) (d : Nat) (kp : Option Nat) (tl : List (Nat × Nat)) (rl : List (List (Option Nat))) (rh : Option Nat) (n : Nat) (x1 : Int32) (I : FI) (L : FL) (r : Int32) (hf : f_25 n x1 I L = some r) : pEN Ls xs (d + 1) 25 [.ref 3, .int x1] (hp kp (some 3) rh tl rl I L) = some (some (.int r), hp kp (some 3) rh tl rl I L) := by
  refine en_run (d := d + 0) (cd := cd_25) (f := (sf 3 rs_3 false 4 (some (.int)) Ls xs (d + 0))) rfl rfl (x := (0, [some (.ref 3), some (.int x1), none, none], [], hp kp (some 3) rh tl rl I L)) rfl rfl (Nat.le_of_ble_eq_true rfl) ?_
  unfold f_25 at hf
  refine bs_st 4 (x' := (4, [some (.ref 3), some (.int x1), some (.int (0 : Int32)), some (.int (0 : Int32))], [], hp kp (some 3) rh tl rl I L)) rfl ?_
  exact tc_25_0 Ls xs d kp tl rl rh n I L n x1 (0 : Int32) (0 : Int32) r hf
/-- LampRounds.worth(II) on (0,) -/
def f_130 (n : Nat) (nh : Option Nat) (x1 : Int32) (x2 : Int32) (I : FI) (L : FL) : Option (Int32 × Option Nat × FI × FL) :=
  (f_181 x1 I L).bind fun q0 =>
  if q0 = 0 then
    some ((-2 : Int32), nh, I, L)
  else
    (f_180 x2 I L).bind fun q1 =>
    if ¬ q1 = 0 then
      (f_191 n x1 I L).bind fun q2 =>
      (f_63 n x2 q2.1 q2.2).bind fun q3 =>
      (f_25 n q3 q2.1 q2.2).bind fun q4 =>
      some (q4, (some 3), q2.1, q2.2)
    else
      some ((-2 : Int32), nh, I, L)
set_option maxHeartbeats 1000000 in
set_option maxRecDepth 20000 in
theorem t_130 (Ls : Nat) (xs : Nat → Int32) (d : Nat) (kp : Option Nat) (tl : List (Nat × Nat)) (rl : List (List (Option Nat))) (nh : Option Nat) (rh : Option Nat) (n : Nat) (x1 : Int32) (x2 : Int32) (I : FI) (L : FL) (r : Int32 × Option Nat × FI × FL) (hf : f_130 n nh x1 x2 I L = some r) : pEN Ls xs (d + 7) 130 [.ref 0, .int x1, .int x2] (hp kp nh rh tl rl I L) = some (some (.int r.1), hp kp r.2.1 rh tl rl r.2.2.1 r.2.2.2) := by
  refine en_run (d := d + 6) (cd := cd_130) (f := (sf 11 rs_11 false 3 (some (.int)) Ls xs (d + 6))) rfl rfl (x := (0, [some (.ref 0), some (.int x1), some (.int x2)], [], hp kp nh rh tl rl I L)) rfl rfl (Nat.le_of_ble_eq_true rfl) ?_
  unfold f_130 at hf
  refine bs_st 2 (x' := (2, [some (.ref 0), some (.int x1), some (.int x2)], [.int x1, .ref 0], hp kp nh rh tl rl I L)) rfl ?_
  obtain ⟨q0, hq0, hf⟩ := Option.bind_eq_some_iff.mp hf
  refine bs_call (o := pEN Ls xs (d + 6) 181 [.ref 0, .int x1] (hp kp nh rh tl rl I L)) (w := some (.int q0)) (h' := hp kp nh rh tl rl I L) (pc := 5) (lo := [some (.ref 0), some (.int x1), some (.int x2)]) (rest := []) rfl (t_181 Ls xs (d + 4) kp tl rl nh rh x1 I L q0 hq0) ?_
  refine bs_br (t := 16) (e := 8) (lo := [some (.ref 0), some (.int x1), some (.int x2)]) (st := []) (h := hp kp nh rh tl rl I L) rfl hf (fun hc hf => ?_) (fun hc hf => ?_)
  · refine bs_st 1 (x' := (18, [some (.ref 0), some (.int x1), some (.int x2)], [.int (-2 : Int32)], hp kp nh rh tl rl I L)) rfl ?_
    cases hf
    exact bs_ret rfl
  · refine bs_st 2 (x' := (10, [some (.ref 0), some (.int x1), some (.int x2)], [.int x2, .ref 0], hp kp nh rh tl rl I L)) rfl ?_
    obtain ⟨q1, hq1, hf⟩ := Option.bind_eq_some_iff.mp hf
    refine bs_call (o := pEN Ls xs (d + 6) 180 [.ref 0, .int x2] (hp kp nh rh tl rl I L)) (w := some (.int q1)) (h' := hp kp nh rh tl rl I L) (pc := 13) (lo := [some (.ref 0), some (.int x1), some (.int x2)]) (rest := []) rfl (t_180 Ls xs (d + 5) kp tl rl nh rh x2 I L q1 hq1) ?_
    refine bs_br (t := 19) (e := 16) (lo := [some (.ref 0), some (.int x1), some (.int x2)]) (st := []) (h := hp kp nh rh tl rl I L) rfl hf (fun hc hf => ?_) (fun hc hf => ?_)
    · refine bs_st 4 (x' := (25, [some (.ref 0), some (.int x1), some (.int x2)], [.int x1, .ref 0, .ref 3], hp kp nh rh tl rl I L)) rfl ?_
      obtain ⟨q2, hq2, hf⟩ := Option.bind_eq_some_iff.mp hf
      refine bs_call (o := pEN Ls xs (d + 6) 191 [.ref 0, .int x1] (hp kp nh rh tl rl I L)) (w := some (.ref 26)) (h' := hp kp (some 3) rh tl rl q2.1 q2.2) (pc := 28) (lo := [some (.ref 0), some (.int x1), some (.int x2)]) (rest := [.ref 3]) rfl (t_191 Ls xs (d + 0) kp tl rl nh rh n x1 I L q2 hq2) ?_
      refine bs_st 1 (x' := (29, [some (.ref 0), some (.int x1), some (.int x2)], [.int x2, .ref 26, .ref 3], hp kp (some 3) rh tl rl q2.1 q2.2)) rfl ?_
      obtain ⟨q3, hq3, hf⟩ := Option.bind_eq_some_iff.mp hf
      refine bs_call (o := pEN Ls xs (d + 6) 63 [.ref 26, .int x2] (hp kp (some 3) rh tl rl q2.1 q2.2)) (w := some (.int q3)) (h' := hp kp (some 3) rh tl rl q2.1 q2.2) (pc := 32) (lo := [some (.ref 0), some (.int x1), some (.int x2)]) (rest := [.ref 3]) rfl (t_63 Ls xs (d + 4) kp tl rl rh n x2 q2.1 q2.2 q3 hq3) ?_
      obtain ⟨q4, hq4, hf⟩ := Option.bind_eq_some_iff.mp hf
      refine bs_call (o := pEN Ls xs (d + 6) 25 [.ref 3, .int q3] (hp kp (some 3) rh tl rl q2.1 q2.2)) (w := some (.int q4)) (h' := hp kp (some 3) rh tl rl q2.1 q2.2) (pc := 35) (lo := [some (.ref 0), some (.int x1), some (.int x2)]) (rest := []) rfl (t_25 Ls xs (d + 5) kp tl rl rh n q3 q2.1 q2.2 q4 hq4) ?_
      cases hf
      exact bs_ret rfl
    · refine bs_st 1 (x' := (18, [some (.ref 0), some (.int x1), some (.int x2)], [.int (-2 : Int32)], hp kp nh rh tl rl I L)) rfl ?_
      cases hf
      exact bs_ret rfl
/-- Night.moves() on (26,) -/
def c_70_1 (n : Nat) (I : FI) (L : FL) (K0 : Int32 → Int32 → Option (Int32)) (x1 : Int32) (x2 : Int32) : Option (Int32) :=
  K0 x1 (x2 + (1 : Int32))
set_option maxHeartbeats 1000000 in
set_option maxRecDepth 20000 in
theorem tc_70_1 (Ls : Nat) (xs : Nat → Int32) (d : Nat) (kp : Option Nat) (tl : List (Nat × Nat)) (rl : List (List (Option Nat))) (rh : Option Nat) (n : Nat) (I : FI) (L : FL) (K0 : Int32 → Int32 → Option (Int32)) (hK0 : ∀ (x1 : Int32) (x2 : Int32) (r : Int32), K0 x1 x2 = some r → Bs cd_70 (sf 6 rs_6 false 3 (some (.int)) Ls xs (d + 0)) (4, [some (.ref 26), some (.int x1), some (.int x2)], [], hp kp (some 3) rh tl rl I L) (some (.int r), hp kp (some 3) rh tl rl I L)) (x1 : Int32) (x2 : Int32) (r : Int32) (hf : c_70_1 n I L K0 x1 x2 = some r) : Bs cd_70 (sf 6 rs_6 false 3 (some (.int)) Ls xs (d + 0)) (32, [some (.ref 26), some (.int x1), some (.int x2)], [], hp kp (some 3) rh tl rl I L) (some (.int r), hp kp (some 3) rh tl rl I L) := by
  unfold c_70_1 at hf
  refine bs_st 2 (x' := (4, [some (.ref 26), some (.int x1), some (.int (x2 + (1 : Int32)))], [], hp kp (some 3) rh tl rl I L)) rfl ?_
  exact hK0 x1 (x2 + (1 : Int32)) r hf
def b_70_0 (n : Nat) (I : FI) (L : FL) (K0 : Int32 → Int32 → Option (Int32)) (x1 : Int32) (x2 : Int32) : Option (Int32) :=
  if I 26 11 ≤ x2 then
    some (x1)
  else
    if pin x2 30 = true then (if pin (x2 - (1 : Int32)) 30 = true then (if I 29 x2.toNatClampNeg = I 29 ((x2 - (1 : Int32)).toNatClampNeg) then
          c_70_1 n I L K0 x1 x2
        else
          c_70_1 n I L K0 (x1 + (1 : Int32)) x2) else none) else none
def c_70_0 (n : Nat) (I : FI) (L : FL) : Nat → Int32 → Int32 → Option (Int32)
  | 0, _, _ => none
  | m + 1, x1, x2 => b_70_0 n I L (c_70_0 n I L m) x1 x2
set_option maxHeartbeats 1000000 in
set_option maxRecDepth 20000 in
theorem tc_70_0 (Ls : Nat) (xs : Nat → Int32) (d : Nat) (kp : Option Nat) (tl : List (Nat × Nat)) (rl : List (List (Option Nat))) (rh : Option Nat) (n : Nat) (I : FI) (L : FL) : ∀ (m : Nat) (x1 : Int32) (x2 : Int32) (r : Int32), c_70_0 n I L m x1 x2 = some r → Bs cd_70 (sf 6 rs_6 false 3 (some (.int)) Ls xs (d + 0)) (4, [some (.ref 26), some (.int x1), some (.int x2)], [], hp kp (some 3) rh tl rl I L) (some (.int r), hp kp (some 3) rh tl rl I L)
  | 0, x1, x2, r, hf => by cases hf
  | m + 1, x1, x2, r, hf => by
    unfold c_70_0 b_70_0 at hf
    have hK0 := tc_70_0 Ls xs d kp tl rl rh n I L m
    refine bs_st 3 (x' := (9, [some (.ref 26), some (.int x1), some (.int x2)], [.int (I 26 11), .int x2], hp kp (some 3) rh tl rl I L)) rfl ?_
    refine bs_br (t := 38) (e := 12) (lo := [some (.ref 26), some (.int x1), some (.int x2)]) (st := []) (h := hp kp (some 3) rh tl rl I L) rfl hf (fun hc hf => ?_) (fun hc hf => ?_)
    · refine bs_st 1 (x' := (39, [some (.ref 26), some (.int x1), some (.int x2)], [.int x1], hp kp (some 3) rh tl rl I L)) rfl ?_
      cases hf
      exact bs_ret rfl
    · refine bs_st 3 (x' := (17, [some (.ref 26), some (.int x1), some (.int x2)], [.int x2, .ref 29], hp kp (some 3) rh tl rl I L)) rfl ?_
      refine bs_gd (x' := (18, [some (.ref 26), some (.int x1), some (.int x2)], [.int (I 29 x2.toNatClampNeg)], hp kp (some 3) rh tl rl I L)) rfl hf (fun hc hf => ?_)
      refine bs_st 5 (x' := (25, [some (.ref 26), some (.int x1), some (.int x2)], [.int (x2 - (1 : Int32)), .ref 29, .int (I 29 x2.toNatClampNeg)], hp kp (some 3) rh tl rl I L)) rfl ?_
      refine bs_gd (x' := (26, [some (.ref 26), some (.int x1), some (.int x2)], [.int (I 29 ((x2 - (1 : Int32)).toNatClampNeg)), .int (I 29 x2.toNatClampNeg)], hp kp (some 3) rh tl rl I L)) rfl hf (fun hc hf => ?_)
      refine bs_br (t := 32) (e := 29) (lo := [some (.ref 26), some (.int x1), some (.int x2)]) (st := []) (h := hp kp (some 3) rh tl rl I L) rfl hf (fun hc hf => ?_) (fun hc hf => ?_)
      · exact tc_70_1 Ls xs d kp tl rl rh n I L _ hK0 x1 x2 r hf
      · refine bs_st 1 (x' := (32, [some (.ref 26), some (.int (x1 + (1 : Int32))), some (.int x2)], [], hp kp (some 3) rh tl rl I L)) rfl ?_
        exact tc_70_1 Ls xs d kp tl rl rh n I L _ hK0 (x1 + (1 : Int32)) x2 r hf
def f_70 (n : Nat) (I : FI) (L : FL) : Option (Int32) :=
  c_70_0 n I L n (0 : Int32) (1 : Int32)
set_option maxHeartbeats 1000000 in
set_option maxRecDepth 20000 in
theorem t_70 (Ls : Nat) (xs : Nat → Int32) (d : Nat) (kp : Option Nat) (tl : List (Nat × Nat)) (rl : List (List (Option Nat))) (rh : Option Nat) (n : Nat) (I : FI) (L : FL) (r : Int32) (hf : f_70 n I L = some r) : pEN Ls xs (d + 1) 70 [.ref 26] (hp kp (some 3) rh tl rl I L) = some (some (.int r), hp kp (some 3) rh tl rl I L) := by
  refine en_run (d := d + 0) (cd := cd_70) (f := (sf 6 rs_6 false 3 (some (.int)) Ls xs (d + 0))) rfl rfl (x := (0, [some (.ref 26), none, none], [], hp kp (some 3) rh tl rl I L)) rfl rfl (Nat.le_of_ble_eq_true rfl) ?_
  unfold f_70 at hf
  refine bs_st 4 (x' := (4, [some (.ref 26), some (.int (0 : Int32)), some (.int (1 : Int32))], [], hp kp (some 3) rh tl rl I L)) rfl ?_
  exact tc_70_0 Ls xs d kp tl rl rh n I L n (0 : Int32) (1 : Int32) r hf
/-- LampRounds.steps(I) on (0,) -/
def f_131 (n : Nat) (nh : Option Nat) (x1 : Int32) (I : FI) (L : FL) : Option (Int32 × Option Nat × FI × FL) :=
  (f_181 x1 I L).bind fun q0 =>
  if q0 = 0 then
    some ((-2 : Int32), nh, I, L)
  else
    (f_191 n x1 I L).bind fun q1 =>
    (f_70 n q1.1 q1.2).bind fun q2 =>
    some (q2, (some 3), q1.1, q1.2)
set_option maxHeartbeats 1000000 in
set_option maxRecDepth 20000 in
theorem t_131 (Ls : Nat) (xs : Nat → Int32) (d : Nat) (kp : Option Nat) (tl : List (Nat × Nat)) (rl : List (List (Option Nat))) (nh : Option Nat) (rh : Option Nat) (n : Nat) (x1 : Int32) (I : FI) (L : FL) (r : Int32 × Option Nat × FI × FL) (hf : f_131 n nh x1 I L = some r) : pEN Ls xs (d + 7) 131 [.ref 0, .int x1] (hp kp nh rh tl rl I L) = some (some (.int r.1), hp kp r.2.1 rh tl rl r.2.2.1 r.2.2.2) := by
  refine en_run (d := d + 6) (cd := cd_131) (f := (sf 11 rs_11 false 2 (some (.int)) Ls xs (d + 6))) rfl rfl (x := (0, [some (.ref 0), some (.int x1)], [], hp kp nh rh tl rl I L)) rfl rfl (Nat.le_of_ble_eq_true rfl) ?_
  unfold f_131 at hf
  refine bs_st 2 (x' := (2, [some (.ref 0), some (.int x1)], [.int x1, .ref 0], hp kp nh rh tl rl I L)) rfl ?_
  obtain ⟨q0, hq0, hf⟩ := Option.bind_eq_some_iff.mp hf
  refine bs_call (o := pEN Ls xs (d + 6) 181 [.ref 0, .int x1] (hp kp nh rh tl rl I L)) (w := some (.int q0)) (h' := hp kp nh rh tl rl I L) (pc := 5) (lo := [some (.ref 0), some (.int x1)]) (rest := []) rfl (t_181 Ls xs (d + 4) kp tl rl nh rh x1 I L q0 hq0) ?_
  refine bs_br (t := 19) (e := 8) (lo := [some (.ref 0), some (.int x1)]) (st := []) (h := hp kp nh rh tl rl I L) rfl hf (fun hc hf => ?_) (fun hc hf => ?_)
  · refine bs_st 1 (x' := (21, [some (.ref 0), some (.int x1)], [.int (-2 : Int32)], hp kp nh rh tl rl I L)) rfl ?_
    cases hf
    exact bs_ret rfl
  · refine bs_st 2 (x' := (10, [some (.ref 0), some (.int x1)], [.int x1, .ref 0], hp kp nh rh tl rl I L)) rfl ?_
    obtain ⟨q1, hq1, hf⟩ := Option.bind_eq_some_iff.mp hf
    refine bs_call (o := pEN Ls xs (d + 6) 191 [.ref 0, .int x1] (hp kp nh rh tl rl I L)) (w := some (.ref 26)) (h' := hp kp (some 3) rh tl rl q1.1 q1.2) (pc := 13) (lo := [some (.ref 0), some (.int x1)]) (rest := []) rfl (t_191 Ls xs (d + 0) kp tl rl nh rh n x1 I L q1 hq1) ?_
    obtain ⟨q2, hq2, hf⟩ := Option.bind_eq_some_iff.mp hf
    refine bs_call (o := pEN Ls xs (d + 6) 70 [.ref 26] (hp kp (some 3) rh tl rl q1.1 q1.2)) (w := some (.int q2)) (h' := hp kp (some 3) rh tl rl q1.1 q1.2) (pc := 16) (lo := [some (.ref 0), some (.int x1)]) (rest := []) rfl (t_70 Ls xs (d + 5) kp tl rl rh n q1.1 q1.2 q2 hq2) ?_
    refine bs_st 1 (x' := (21, [some (.ref 0), some (.int x1)], [.int q2], hp kp (some 3) rh tl rl q1.1 q1.2)) rfl ?_
    cases hf
    exact bs_ret rfl
/-- LampRounds.urgent(II) on (0,) -/
def f_132 (n : Nat) (nh : Option Nat) (x1 : Int32) (x2 : Int32) (I : FI) (L : FL) : Option (Int32 × Option Nat × FI × FL) :=
  (f_181 x1 I L).bind fun q0 =>
  if q0 = 0 then
    some ((-2 : Int32), nh, I, L)
  else
    (f_180 x2 I L).bind fun q1 =>
    if ¬ q1 = 0 then
      (f_191 n x1 I L).bind fun q2 =>
      (f_62 n x2 q2.1 q2.2).bind fun q3 =>
      some (q3, (some 3), q2.1, q2.2)
    else
      some ((-2 : Int32), nh, I, L)
set_option maxHeartbeats 1000000 in
set_option maxRecDepth 20000 in
theorem t_132 (Ls : Nat) (xs : Nat → Int32) (d : Nat) (kp : Option Nat) (tl : List (Nat × Nat)) (rl : List (List (Option Nat))) (nh : Option Nat) (rh : Option Nat) (n : Nat) (x1 : Int32) (x2 : Int32) (I : FI) (L : FL) (r : Int32 × Option Nat × FI × FL) (hf : f_132 n nh x1 x2 I L = some r) : pEN Ls xs (d + 7) 132 [.ref 0, .int x1, .int x2] (hp kp nh rh tl rl I L) = some (some (.int r.1), hp kp r.2.1 rh tl rl r.2.2.1 r.2.2.2) := by
  refine en_run (d := d + 6) (cd := cd_132) (f := (sf 11 rs_11 false 3 (some (.int)) Ls xs (d + 6))) rfl rfl (x := (0, [some (.ref 0), some (.int x1), some (.int x2)], [], hp kp nh rh tl rl I L)) rfl rfl (Nat.le_of_ble_eq_true rfl) ?_
  unfold f_132 at hf
  refine bs_st 2 (x' := (2, [some (.ref 0), some (.int x1), some (.int x2)], [.int x1, .ref 0], hp kp nh rh tl rl I L)) rfl ?_
  obtain ⟨q0, hq0, hf⟩ := Option.bind_eq_some_iff.mp hf
  refine bs_call (o := pEN Ls xs (d + 6) 181 [.ref 0, .int x1] (hp kp nh rh tl rl I L)) (w := some (.int q0)) (h' := hp kp nh rh tl rl I L) (pc := 5) (lo := [some (.ref 0), some (.int x1), some (.int x2)]) (rest := []) rfl (t_181 Ls xs (d + 4) kp tl rl nh rh x1 I L q0 hq0) ?_
  refine bs_br (t := 16) (e := 8) (lo := [some (.ref 0), some (.int x1), some (.int x2)]) (st := []) (h := hp kp nh rh tl rl I L) rfl hf (fun hc hf => ?_) (fun hc hf => ?_)
  · refine bs_st 1 (x' := (18, [some (.ref 0), some (.int x1), some (.int x2)], [.int (-2 : Int32)], hp kp nh rh tl rl I L)) rfl ?_
    cases hf
    exact bs_ret rfl
  · refine bs_st 2 (x' := (10, [some (.ref 0), some (.int x1), some (.int x2)], [.int x2, .ref 0], hp kp nh rh tl rl I L)) rfl ?_
    obtain ⟨q1, hq1, hf⟩ := Option.bind_eq_some_iff.mp hf
    refine bs_call (o := pEN Ls xs (d + 6) 180 [.ref 0, .int x2] (hp kp nh rh tl rl I L)) (w := some (.int q1)) (h' := hp kp nh rh tl rl I L) (pc := 13) (lo := [some (.ref 0), some (.int x1), some (.int x2)]) (rest := []) rfl (t_180 Ls xs (d + 5) kp tl rl nh rh x2 I L q1 hq1) ?_
    refine bs_br (t := 19) (e := 16) (lo := [some (.ref 0), some (.int x1), some (.int x2)]) (st := []) (h := hp kp nh rh tl rl I L) rfl hf (fun hc hf => ?_) (fun hc hf => ?_)
    · refine bs_st 2 (x' := (21, [some (.ref 0), some (.int x1), some (.int x2)], [.int x1, .ref 0], hp kp nh rh tl rl I L)) rfl ?_
      obtain ⟨q2, hq2, hf⟩ := Option.bind_eq_some_iff.mp hf
      refine bs_call (o := pEN Ls xs (d + 6) 191 [.ref 0, .int x1] (hp kp nh rh tl rl I L)) (w := some (.ref 26)) (h' := hp kp (some 3) rh tl rl q2.1 q2.2) (pc := 24) (lo := [some (.ref 0), some (.int x1), some (.int x2)]) (rest := []) rfl (t_191 Ls xs (d + 0) kp tl rl nh rh n x1 I L q2 hq2) ?_
      refine bs_st 1 (x' := (25, [some (.ref 0), some (.int x1), some (.int x2)], [.int x2, .ref 26], hp kp (some 3) rh tl rl q2.1 q2.2)) rfl ?_
      obtain ⟨q3, hq3, hf⟩ := Option.bind_eq_some_iff.mp hf
      refine bs_call (o := pEN Ls xs (d + 6) 62 [.ref 26, .int x2] (hp kp (some 3) rh tl rl q2.1 q2.2)) (w := some (.int q3)) (h' := hp kp (some 3) rh tl rl q2.1 q2.2) (pc := 28) (lo := [some (.ref 0), some (.int x1), some (.int x2)]) (rest := []) rfl (t_62 Ls xs (d + 3) kp tl rl rh n x2 q2.1 q2.2 q3 hq3) ?_
      cases hf
      exact bs_ret rfl
    · refine bs_st 1 (x' := (18, [some (.ref 0), some (.int x1), some (.int x2)], [.int (-2 : Int32)], hp kp nh rh tl rl I L)) rfl ?_
      cases hf
      exact bs_ret rfl
/-- Night.entered() on (26,) -/
def c_71_1 (n : Nat) (I : FI) (L : FL) (K0 : Int32 → Int32 → Option (Int32)) (x1 : Int32) (x2 : Int32) : Option (Int32) :=
  K0 x1 (x2 + (1 : Int32))
set_option maxHeartbeats 1000000 in
set_option maxRecDepth 20000 in
theorem tc_71_1 (Ls : Nat) (xs : Nat → Int32) (d : Nat) (kp : Option Nat) (tl : List (Nat × Nat)) (rl : List (List (Option Nat))) (rh : Option Nat) (n : Nat) (I : FI) (L : FL) (K0 : Int32 → Int32 → Option (Int32)) (hK0 : ∀ (x1 : Int32) (x2 : Int32) (r : Int32), K0 x1 x2 = some r → Bs cd_71 (sf 6 rs_6 false 3 (some (.int)) Ls xs (d + 0)) (4, [some (.ref 26), some (.int x1), some (.int x2)], [], hp kp (some 3) rh tl rl I L) (some (.int r), hp kp (some 3) rh tl rl I L)) (x1 : Int32) (x2 : Int32) (r : Int32) (hf : c_71_1 n I L K0 x1 x2 = some r) : Bs cd_71 (sf 6 rs_6 false 3 (some (.int)) Ls xs (d + 0)) (33, [some (.ref 26), some (.int x1), some (.int x2)], [], hp kp (some 3) rh tl rl I L) (some (.int r), hp kp (some 3) rh tl rl I L) := by
  unfold c_71_1 at hf
  refine bs_st 2 (x' := (4, [some (.ref 26), some (.int x1), some (.int (x2 + (1 : Int32)))], [], hp kp (some 3) rh tl rl I L)) rfl ?_
  exact hK0 x1 (x2 + (1 : Int32)) r hf
def b_71_0 (n : Nat) (I : FI) (L : FL) (K0 : Int32 → Int32 → Option (Int32)) (x1 : Int32) (x2 : Int32) : Option (Int32) :=
  if I 26 11 ≤ x2 then
    some (x1)
  else
    if pin x2 30 = true then (if I 29 x2.toNatClampNeg = (-1 : Int32) then
        c_71_1 n I L K0 x1 x2
      else
        if pin x2 30 = true then c_71_1 n I L K0 (x1 ||| ((1 : Int32) <<< ((I 29 x2.toNatClampNeg) &&& 31))) x2 else none) else none
def c_71_0 (n : Nat) (I : FI) (L : FL) : Nat → Int32 → Int32 → Option (Int32)
  | 0, _, _ => none
  | m + 1, x1, x2 => b_71_0 n I L (c_71_0 n I L m) x1 x2
set_option maxHeartbeats 1000000 in
set_option maxRecDepth 20000 in
theorem tc_71_0 (Ls : Nat) (xs : Nat → Int32) (d : Nat) (kp : Option Nat) (tl : List (Nat × Nat)) (rl : List (List (Option Nat))) (rh : Option Nat) (n : Nat) (I : FI) (L : FL) : ∀ (m : Nat) (x1 : Int32) (x2 : Int32) (r : Int32), c_71_0 n I L m x1 x2 = some r → Bs cd_71 (sf 6 rs_6 false 3 (some (.int)) Ls xs (d + 0)) (4, [some (.ref 26), some (.int x1), some (.int x2)], [], hp kp (some 3) rh tl rl I L) (some (.int r), hp kp (some 3) rh tl rl I L)
  | 0, x1, x2, r, hf => by cases hf
  | m + 1, x1, x2, r, hf => by
    unfold c_71_0 b_71_0 at hf
    have hK0 := tc_71_0 Ls xs d kp tl rl rh n I L m
    refine bs_st 3 (x' := (9, [some (.ref 26), some (.int x1), some (.int x2)], [.int (I 26 11), .int x2], hp kp (some 3) rh tl rl I L)) rfl ?_
    refine bs_br (t := 39) (e := 12) (lo := [some (.ref 26), some (.int x1), some (.int x2)]) (st := []) (h := hp kp (some 3) rh tl rl I L) rfl hf (fun hc hf => ?_) (fun hc hf => ?_)
    · refine bs_st 1 (x' := (40, [some (.ref 26), some (.int x1), some (.int x2)], [.int x1], hp kp (some 3) rh tl rl I L)) rfl ?_
      cases hf
      exact bs_ret rfl
    · refine bs_st 3 (x' := (17, [some (.ref 26), some (.int x1), some (.int x2)], [.int x2, .ref 29], hp kp (some 3) rh tl rl I L)) rfl ?_
      refine bs_gd (x' := (18, [some (.ref 26), some (.int x1), some (.int x2)], [.int (I 29 x2.toNatClampNeg)], hp kp (some 3) rh tl rl I L)) rfl hf (fun hc hf => ?_)
      refine bs_st 1 (x' := (19, [some (.ref 26), some (.int x1), some (.int x2)], [.int (-1 : Int32), .int (I 29 x2.toNatClampNeg)], hp kp (some 3) rh tl rl I L)) rfl ?_
      refine bs_br (t := 33) (e := 22) (lo := [some (.ref 26), some (.int x1), some (.int x2)]) (st := []) (h := hp kp (some 3) rh tl rl I L) rfl hf (fun hc hf => ?_) (fun hc hf => ?_)
      · exact tc_71_1 Ls xs d kp tl rl rh n I L _ hK0 x1 x2 r hf
      · refine bs_st 5 (x' := (29, [some (.ref 26), some (.int x1), some (.int x2)], [.int x2, .ref 29, .int (1 : Int32), .int x1], hp kp (some 3) rh tl rl I L)) rfl ?_
        refine bs_gd (x' := (30, [some (.ref 26), some (.int x1), some (.int x2)], [.int (I 29 x2.toNatClampNeg), .int (1 : Int32), .int x1], hp kp (some 3) rh tl rl I L)) rfl hf (fun hc hf => ?_)
        refine bs_st 3 (x' := (33, [some (.ref 26), some (.int (x1 ||| ((1 : Int32) <<< ((I 29 x2.toNatClampNeg) &&& 31)))), some (.int x2)], [], hp kp (some 3) rh tl rl I L)) rfl ?_
        exact tc_71_1 Ls xs d kp tl rl rh n I L _ hK0 (x1 ||| ((1 : Int32) <<< ((I 29 x2.toNatClampNeg) &&& 31))) x2 r hf
def f_71 (n : Nat) (I : FI) (L : FL) : Option (Int32) :=
  c_71_0 n I L n (0 : Int32) (0 : Int32)
set_option maxHeartbeats 1000000 in
set_option maxRecDepth 20000 in
theorem t_71 (Ls : Nat) (xs : Nat → Int32) (d : Nat) (kp : Option Nat) (tl : List (Nat × Nat)) (rl : List (List (Option Nat))) (rh : Option Nat) (n : Nat) (I : FI) (L : FL) (r : Int32) (hf : f_71 n I L = some r) : pEN Ls xs (d + 1) 71 [.ref 26] (hp kp (some 3) rh tl rl I L) = some (some (.int r), hp kp (some 3) rh tl rl I L) := by
  refine en_run (d := d + 0) (cd := cd_71) (f := (sf 6 rs_6 false 3 (some (.int)) Ls xs (d + 0))) rfl rfl (x := (0, [some (.ref 26), none, none], [], hp kp (some 3) rh tl rl I L)) rfl rfl (Nat.le_of_ble_eq_true rfl) ?_
  unfold f_71 at hf
  refine bs_st 4 (x' := (4, [some (.ref 26), some (.int (0 : Int32)), some (.int (0 : Int32))], [], hp kp (some 3) rh tl rl I L)) rfl ?_
  exact tc_71_0 Ls xs d kp tl rl rh n I L n (0 : Int32) (0 : Int32) r hf
/-- LampRounds.seen(I) on (0,) -/
def f_133 (n : Nat) (nh : Option Nat) (x1 : Int32) (I : FI) (L : FL) : Option (Int32 × Option Nat × FI × FL) :=
  (f_181 x1 I L).bind fun q0 =>
  if q0 = 0 then
    some ((-2 : Int32), nh, I, L)
  else
    (f_191 n x1 I L).bind fun q1 =>
    (f_71 n q1.1 q1.2).bind fun q2 =>
    some (q2, (some 3), q1.1, q1.2)
set_option maxHeartbeats 1000000 in
set_option maxRecDepth 20000 in
theorem t_133 (Ls : Nat) (xs : Nat → Int32) (d : Nat) (kp : Option Nat) (tl : List (Nat × Nat)) (rl : List (List (Option Nat))) (nh : Option Nat) (rh : Option Nat) (n : Nat) (x1 : Int32) (I : FI) (L : FL) (r : Int32 × Option Nat × FI × FL) (hf : f_133 n nh x1 I L = some r) : pEN Ls xs (d + 7) 133 [.ref 0, .int x1] (hp kp nh rh tl rl I L) = some (some (.int r.1), hp kp r.2.1 rh tl rl r.2.2.1 r.2.2.2) := by
  refine en_run (d := d + 6) (cd := cd_133) (f := (sf 11 rs_11 false 2 (some (.int)) Ls xs (d + 6))) rfl rfl (x := (0, [some (.ref 0), some (.int x1)], [], hp kp nh rh tl rl I L)) rfl rfl (Nat.le_of_ble_eq_true rfl) ?_
  unfold f_133 at hf
  refine bs_st 2 (x' := (2, [some (.ref 0), some (.int x1)], [.int x1, .ref 0], hp kp nh rh tl rl I L)) rfl ?_
  obtain ⟨q0, hq0, hf⟩ := Option.bind_eq_some_iff.mp hf
  refine bs_call (o := pEN Ls xs (d + 6) 181 [.ref 0, .int x1] (hp kp nh rh tl rl I L)) (w := some (.int q0)) (h' := hp kp nh rh tl rl I L) (pc := 5) (lo := [some (.ref 0), some (.int x1)]) (rest := []) rfl (t_181 Ls xs (d + 4) kp tl rl nh rh x1 I L q0 hq0) ?_
  refine bs_br (t := 19) (e := 8) (lo := [some (.ref 0), some (.int x1)]) (st := []) (h := hp kp nh rh tl rl I L) rfl hf (fun hc hf => ?_) (fun hc hf => ?_)
  · refine bs_st 1 (x' := (21, [some (.ref 0), some (.int x1)], [.int (-2 : Int32)], hp kp nh rh tl rl I L)) rfl ?_
    cases hf
    exact bs_ret rfl
  · refine bs_st 2 (x' := (10, [some (.ref 0), some (.int x1)], [.int x1, .ref 0], hp kp nh rh tl rl I L)) rfl ?_
    obtain ⟨q1, hq1, hf⟩ := Option.bind_eq_some_iff.mp hf
    refine bs_call (o := pEN Ls xs (d + 6) 191 [.ref 0, .int x1] (hp kp nh rh tl rl I L)) (w := some (.ref 26)) (h' := hp kp (some 3) rh tl rl q1.1 q1.2) (pc := 13) (lo := [some (.ref 0), some (.int x1)]) (rest := []) rfl (t_191 Ls xs (d + 0) kp tl rl nh rh n x1 I L q1 hq1) ?_
    obtain ⟨q2, hq2, hf⟩ := Option.bind_eq_some_iff.mp hf
    refine bs_call (o := pEN Ls xs (d + 6) 71 [.ref 26] (hp kp (some 3) rh tl rl q1.1 q1.2)) (w := some (.int q2)) (h' := hp kp (some 3) rh tl rl q1.1 q1.2) (pc := 16) (lo := [some (.ref 0), some (.int x1)]) (rest := []) rfl (t_71 Ls xs (d + 5) kp tl rl rh n q1.1 q1.2 q2 hq2) ?_
    refine bs_st 1 (x' := (21, [some (.ref 0), some (.int x1)], [.int q2], hp kp (some 3) rh tl rl q1.1 q1.2)) rfl ?_
    cases hf
    exact bs_ret rfl
/-- Night.neverOut() on (26,) -/
def f_64 (n : Nat) (I : FI) (L : FL) : Option (Int32) :=
  if I 26 11 ≤ 0 then
    some ((0 : Int32))
  else
    (f_63 n ((I 26 11) - (1 : Int32)) I L).bind fun q0 =>
    some (q0)
set_option maxHeartbeats 1000000 in
set_option maxRecDepth 20000 in
theorem t_64 (Ls : Nat) (xs : Nat → Int32) (d : Nat) (kp : Option Nat) (tl : List (Nat × Nat)) (rl : List (List (Option Nat))) (rh : Option Nat) (n : Nat) (I : FI) (L : FL) (r : Int32) (hf : f_64 n I L = some r) : pEN Ls xs (d + 3) 64 [.ref 26] (hp kp (some 3) rh tl rl I L) = some (some (.int r), hp kp (some 3) rh tl rl I L) := by
  refine en_run (d := d + 2) (cd := cd_64) (f := (sf 6 rs_6 false 1 (some (.int)) Ls xs (d + 2))) rfl rfl (x := (0, [some (.ref 26)], [], hp kp (some 3) rh tl rl I L)) rfl rfl (Nat.le_of_ble_eq_true rfl) ?_
  unfold f_64 at hf
  refine bs_st 2 (x' := (4, [some (.ref 26)], [.int (I 26 11)], hp kp (some 3) rh tl rl I L)) rfl ?_
  refine bs_br (t := 20) (e := 7) (lo := [some (.ref 26)]) (st := []) (h := hp kp (some 3) rh tl rl I L) rfl hf (fun hc hf => ?_) (fun hc hf => ?_)
  · refine bs_st 1 (x' := (21, [some (.ref 26)], [.int (0 : Int32)], hp kp (some 3) rh tl rl I L)) rfl ?_
    cases hf
    exact bs_ret rfl
  · refine bs_st 5 (x' := (14, [some (.ref 26)], [.int ((I 26 11) - (1 : Int32)), .ref 26], hp kp (some 3) rh tl rl I L)) rfl ?_
    obtain ⟨q0, hq0, hf⟩ := Option.bind_eq_some_iff.mp hf
    refine bs_call (o := pEN Ls xs (d + 2) 63 [.ref 26, .int ((I 26 11) - (1 : Int32))] (hp kp (some 3) rh tl rl I L)) (w := some (.int q0)) (h' := hp kp (some 3) rh tl rl I L) (pc := 17) (lo := [some (.ref 26)]) (rest := []) rfl (t_63 Ls xs (d + 0) kp tl rl rh n ((I 26 11) - (1 : Int32)) I L q0 hq0) ?_
    refine bs_st 1 (x' := (21, [some (.ref 26)], [.int q0], hp kp (some 3) rh tl rl I L)) rfl ?_
    cases hf
    exact bs_ret rfl
/-- LampRounds.steady(I) on (0,) -/
def f_134 (n : Nat) (nh : Option Nat) (x1 : Int32) (I : FI) (L : FL) : Option (Int32 × Option Nat × FI × FL) :=
  (f_181 x1 I L).bind fun q0 =>
  if q0 = 0 then
    some ((-2 : Int32), nh, I, L)
  else
    (f_191 n x1 I L).bind fun q1 =>
    (f_64 n q1.1 q1.2).bind fun q2 =>
    some (q2, (some 3), q1.1, q1.2)
set_option maxHeartbeats 1000000 in
set_option maxRecDepth 20000 in
theorem t_134 (Ls : Nat) (xs : Nat → Int32) (d : Nat) (kp : Option Nat) (tl : List (Nat × Nat)) (rl : List (List (Option Nat))) (nh : Option Nat) (rh : Option Nat) (n : Nat) (x1 : Int32) (I : FI) (L : FL) (r : Int32 × Option Nat × FI × FL) (hf : f_134 n nh x1 I L = some r) : pEN Ls xs (d + 7) 134 [.ref 0, .int x1] (hp kp nh rh tl rl I L) = some (some (.int r.1), hp kp r.2.1 rh tl rl r.2.2.1 r.2.2.2) := by
  refine en_run (d := d + 6) (cd := cd_134) (f := (sf 11 rs_11 false 2 (some (.int)) Ls xs (d + 6))) rfl rfl (x := (0, [some (.ref 0), some (.int x1)], [], hp kp nh rh tl rl I L)) rfl rfl (Nat.le_of_ble_eq_true rfl) ?_
  unfold f_134 at hf
  refine bs_st 2 (x' := (2, [some (.ref 0), some (.int x1)], [.int x1, .ref 0], hp kp nh rh tl rl I L)) rfl ?_
  obtain ⟨q0, hq0, hf⟩ := Option.bind_eq_some_iff.mp hf
  refine bs_call (o := pEN Ls xs (d + 6) 181 [.ref 0, .int x1] (hp kp nh rh tl rl I L)) (w := some (.int q0)) (h' := hp kp nh rh tl rl I L) (pc := 5) (lo := [some (.ref 0), some (.int x1)]) (rest := []) rfl (t_181 Ls xs (d + 4) kp tl rl nh rh x1 I L q0 hq0) ?_
  refine bs_br (t := 19) (e := 8) (lo := [some (.ref 0), some (.int x1)]) (st := []) (h := hp kp nh rh tl rl I L) rfl hf (fun hc hf => ?_) (fun hc hf => ?_)
  · refine bs_st 1 (x' := (21, [some (.ref 0), some (.int x1)], [.int (-2 : Int32)], hp kp nh rh tl rl I L)) rfl ?_
    cases hf
    exact bs_ret rfl
  · refine bs_st 2 (x' := (10, [some (.ref 0), some (.int x1)], [.int x1, .ref 0], hp kp nh rh tl rl I L)) rfl ?_
    obtain ⟨q1, hq1, hf⟩ := Option.bind_eq_some_iff.mp hf
    refine bs_call (o := pEN Ls xs (d + 6) 191 [.ref 0, .int x1] (hp kp nh rh tl rl I L)) (w := some (.ref 26)) (h' := hp kp (some 3) rh tl rl q1.1 q1.2) (pc := 13) (lo := [some (.ref 0), some (.int x1)]) (rest := []) rfl (t_191 Ls xs (d + 0) kp tl rl nh rh n x1 I L q1 hq1) ?_
    obtain ⟨q2, hq2, hf⟩ := Option.bind_eq_some_iff.mp hf
    refine bs_call (o := pEN Ls xs (d + 6) 64 [.ref 26] (hp kp (some 3) rh tl rl q1.1 q1.2)) (w := some (.int q2)) (h' := hp kp (some 3) rh tl rl q1.1 q1.2) (pc := 16) (lo := [some (.ref 0), some (.int x1)]) (rest := []) rfl (t_64 Ls xs (d + 3) kp tl rl rh n q1.1 q1.2 q2 hq2) ?_
    refine bs_st 1 (x' := (21, [some (.ref 0), some (.int x1)], [.int q2], hp kp (some 3) rh tl rl q1.1 q1.2)) rfl ?_
    cases hf
    exact bs_ret rfl
/-- java/lang/Math.min(II) on () -/
def f_359_1 (x0 : Int32) (x1 : Int32) (I : FI) (L : FL) : Option (Int32) :=
  if x1 < x0 then
    some (x1)
  else
    some (x0)
set_option maxHeartbeats 1000000 in
set_option maxRecDepth 20000 in
theorem t_359_1 (Ls : Nat) (xs : Nat → Int32) (d : Nat) (kp : Option Nat) (tl : List (Nat × Nat)) (rl : List (List (Option Nat))) (rh : Option Nat) (x0 : Int32) (x1 : Int32) (I : FI) (L : FL) (r : Int32) (hf : f_359_1 x0 x1 I L = some r) : pEN Ls xs (d + 1) 359 [.int x0, .int x1] (hp kp (some 3) rh tl rl I L) = some (some (.int r), hp kp (some 3) rh tl rl I L) := by
  refine en_run (d := d + 0) (cd := cd_359) (f := (sf 14 rs_14 false 2 (some (.int)) Ls xs (d + 0))) rfl rfl (x := (0, [some (.int x0), some (.int x1)], [], hp kp (some 3) rh tl rl I L)) rfl rfl (Nat.le_of_ble_eq_true rfl) ?_
  unfold f_359_1 at hf
  refine bs_st 2 (x' := (2, [some (.int x0), some (.int x1)], [.int x1, .int x0], hp kp (some 3) rh tl rl I L)) rfl ?_
  refine bs_br (t := 9) (e := 5) (lo := [some (.int x0), some (.int x1)]) (st := []) (h := hp kp (some 3) rh tl rl I L) rfl hf (fun hc hf => ?_) (fun hc hf => ?_)
  · refine bs_st 1 (x' := (10, [some (.int x0), some (.int x1)], [.int x1], hp kp (some 3) rh tl rl I L)) rfl ?_
    cases hf
    exact bs_ret rfl
  · refine bs_st 2 (x' := (10, [some (.int x0), some (.int x1)], [.int x0], hp kp (some 3) rh tl rl I L)) rfl ?_
    cases hf
    exact bs_ret rfl
/-- Night.leastPatience(I) on (26,) -/
def c_69_1 (n : Nat) (I : FI) (L : FL) (K0 : Int32 → Int32 → Int32 → Option (Int32)) (x1 : Int32) (x2 : Int32) (x3 : Int32) : Option (Int32) :=
  K0 x1 x2 (x3 + (1 : Int32))
set_option maxHeartbeats 1000000 in
set_option maxRecDepth 20000 in
theorem tc_69_1 (Ls : Nat) (xs : Nat → Int32) (d : Nat) (kp : Option Nat) (tl : List (Nat × Nat)) (rl : List (List (Option Nat))) (rh : Option Nat) (n : Nat) (I : FI) (L : FL) (K0 : Int32 → Int32 → Int32 → Option (Int32)) (hK0 : ∀ (w4 : Option Value) (x1 : Int32) (x2 : Int32) (x3 : Int32) (r : Int32), K0 x1 x2 x3 = some r → Bs cd_69 (sf 6 rs_6 false 5 (some (.int)) Ls xs (d + 2)) (9, [some (.ref 26), some (.int x1), some (.int x2), some (.int x3), w4], [], hp kp (some 3) rh tl rl I L) (some (.int r), hp kp (some 3) rh tl rl I L)) (w4 : Option Value) (x1 : Int32) (x2 : Int32) (x3 : Int32) (r : Int32) (hf : c_69_1 n I L K0 x1 x2 x3 = some r) : Bs cd_69 (sf 6 rs_6 false 5 (some (.int)) Ls xs (d + 2)) (38, [some (.ref 26), some (.int x1), some (.int x2), some (.int x3), w4], [], hp kp (some 3) rh tl rl I L) (some (.int r), hp kp (some 3) rh tl rl I L) := by
  unfold c_69_1 at hf
  refine bs_st 2 (x' := (9, [some (.ref 26), some (.int x1), some (.int x2), some (.int (x3 + (1 : Int32))), w4], [], hp kp (some 3) rh tl rl I L)) rfl ?_
  exact hK0 w4 x1 x2 (x3 + (1 : Int32)) r hf
def b_69_0 (n : Nat) (I : FI) (L : FL) (K0 : Int32 → Int32 → Int32 → Option (Int32)) (x1 : Int32) (x2 : Int32) (x3 : Int32) : Option (Int32) :=
  if I 26 11 ≤ x3 then
    some (x2)
  else
    (f_61 x1 x3 I L).bind fun q0 =>
    if q0 = (-1 : Int32) then
      c_69_1 n I L K0 x1 x2 x3
    else
      (f_359_1 x2 q0 I L).bind fun q1 =>
      c_69_1 n I L K0 x1 q1 x3
def c_69_0 (n : Nat) (I : FI) (L : FL) : Nat → Int32 → Int32 → Int32 → Option (Int32)
  | 0, _, _, _ => none
  | m + 1, x1, x2, x3 => b_69_0 n I L (c_69_0 n I L m) x1 x2 x3
set_option maxHeartbeats 1000000 in
set_option maxRecDepth 20000 in
theorem tc_69_0 (Ls : Nat) (xs : Nat → Int32) (d : Nat) (kp : Option Nat) (tl : List (Nat × Nat)) (rl : List (List (Option Nat))) (rh : Option Nat) (n : Nat) (I : FI) (L : FL) : ∀ (m : Nat) (w4 : Option Value) (x1 : Int32) (x2 : Int32) (x3 : Int32) (r : Int32), c_69_0 n I L m x1 x2 x3 = some r → Bs cd_69 (sf 6 rs_6 false 5 (some (.int)) Ls xs (d + 2)) (9, [some (.ref 26), some (.int x1), some (.int x2), some (.int x3), w4], [], hp kp (some 3) rh tl rl I L) (some (.int r), hp kp (some 3) rh tl rl I L)
  | 0, w4, x1, x2, x3, r, hf => by cases hf
  | m + 1, w4, x1, x2, x3, r, hf => by
    unfold c_69_0 b_69_0 at hf
    have hK0 := tc_69_0 Ls xs d kp tl rl rh n I L m
    refine bs_st 3 (x' := (14, [some (.ref 26), some (.int x1), some (.int x2), some (.int x3), w4], [.int (I 26 11), .int x3], hp kp (some 3) rh tl rl I L)) rfl ?_
    refine bs_br (t := 44) (e := 17) (lo := [some (.ref 26), some (.int x1), some (.int x2), some (.int x3), w4]) (st := []) (h := hp kp (some 3) rh tl rl I L) rfl hf (fun hc hf => ?_) (fun hc hf => ?_)
    · refine bs_st 1 (x' := (45, [some (.ref 26), some (.int x1), some (.int x2), some (.int x3), w4], [.int x2], hp kp (some 3) rh tl rl I L)) rfl ?_
      cases hf
      exact bs_ret rfl
    · refine bs_st 3 (x' := (20, [some (.ref 26), some (.int x1), some (.int x2), some (.int x3), w4], [.int x3, .int x1, .ref 26], hp kp (some 3) rh tl rl I L)) rfl ?_
      obtain ⟨q0, hq0, hf⟩ := Option.bind_eq_some_iff.mp hf
      refine bs_call (o := pEN Ls xs (d + 2) 61 [.ref 26, .int x1, .int x3] (hp kp (some 3) rh tl rl I L)) (w := some (.int q0)) (h' := hp kp (some 3) rh tl rl I L) (pc := 23) (lo := [some (.ref 26), some (.int x1), some (.int x2), some (.int x3), w4]) (rest := []) rfl (t_61 Ls xs (d + 0) kp tl rl rh x1 x3 I L q0 hq0) ?_
      refine bs_st 3 (x' := (28, [some (.ref 26), some (.int x1), some (.int x2), some (.int x3), some (.int q0)], [.int (-1 : Int32), .int q0], hp kp (some 3) rh tl rl I L)) rfl ?_
      refine bs_br (t := 38) (e := 31) (lo := [some (.ref 26), some (.int x1), some (.int x2), some (.int x3), some (.int q0)]) (st := []) (h := hp kp (some 3) rh tl rl I L) rfl hf (fun hc hf => ?_) (fun hc hf => ?_)
      · exact tc_69_1 Ls xs d kp tl rl rh n I L _ hK0 (some (.int q0)) x1 x2 x3 r hf
      · refine bs_st 2 (x' := (34, [some (.ref 26), some (.int x1), some (.int x2), some (.int x3), some (.int q0)], [.int q0, .int x2], hp kp (some 3) rh tl rl I L)) rfl ?_
        obtain ⟨q1, hq1, hf⟩ := Option.bind_eq_some_iff.mp hf
        refine bs_call (o := pEN Ls xs (d + 2) 359 [.int x2, .int q0] (hp kp (some 3) rh tl rl I L)) (w := some (.int q1)) (h' := hp kp (some 3) rh tl rl I L) (pc := 37) (lo := [some (.ref 26), some (.int x1), some (.int x2), some (.int x3), some (.int q0)]) (rest := []) rfl (t_359_1 Ls xs (d + 1) kp tl rl rh x2 q0 I L q1 hq1) ?_
        refine bs_st 1 (x' := (38, [some (.ref 26), some (.int x1), some (.int q1), some (.int x3), some (.int q0)], [], hp kp (some 3) rh tl rl I L)) rfl ?_
        exact tc_69_1 Ls xs d kp tl rl rh n I L _ hK0 (some (.int q0)) x1 q1 x3 r hf
def f_69 (n : Nat) (x1 : Int32) (I : FI) (L : FL) : Option (Int32) :=
  if pin x1 4 = true then c_69_0 n I L n x1 (I 27 x1.toNatClampNeg) (0 : Int32) else none
set_option maxHeartbeats 1000000 in
set_option maxRecDepth 20000 in
theorem t_69 (Ls : Nat) (xs : Nat → Int32) (d : Nat) (kp : Option Nat) (tl : List (Nat × Nat)) (rl : List (List (Option Nat))) (rh : Option Nat) (n : Nat) (x1 : Int32) (I : FI) (L : FL) (r : Int32) (hf : f_69 n x1 I L = some r) : pEN Ls xs (d + 3) 69 [.ref 26, .int x1] (hp kp (some 3) rh tl rl I L) = some (some (.int r), hp kp (some 3) rh tl rl I L) := by
  refine en_run (d := d + 2) (cd := cd_69) (f := (sf 6 rs_6 false 5 (some (.int)) Ls xs (d + 2))) rfl rfl (x := (0, [some (.ref 26), some (.int x1), none, none, none], [], hp kp (some 3) rh tl rl I L)) rfl rfl (Nat.le_of_ble_eq_true rfl) ?_
  unfold f_69 at hf
  refine bs_st 3 (x' := (5, [some (.ref 26), some (.int x1), none, none, none], [.int x1, .ref 27], hp kp (some 3) rh tl rl I L)) rfl ?_
  refine bs_gd (x' := (6, [some (.ref 26), some (.int x1), none, none, none], [.int (I 27 x1.toNatClampNeg)], hp kp (some 3) rh tl rl I L)) rfl hf (fun hc hf => ?_)
  refine bs_st 3 (x' := (9, [some (.ref 26), some (.int x1), some (.int (I 27 x1.toNatClampNeg)), some (.int (0 : Int32)), none], [], hp kp (some 3) rh tl rl I L)) rfl ?_
  exact tc_69_0 Ls xs d kp tl rl rh n I L n none x1 (I 27 x1.toNatClampNeg) (0 : Int32) r hf
/-- LampRounds.tight(II) on (0,) -/
def f_135 (n : Nat) (nh : Option Nat) (x1 : Int32) (x2 : Int32) (I : FI) (L : FL) : Option (Int32 × Option Nat × FI × FL) :=
  (f_181 x1 I L).bind fun q0 =>
  if q0 = 0 then
    some ((-2 : Int32), nh, I, L)
  else
    (f_178 x2 I L).bind fun q1 =>
    if ¬ q1 = 0 then
      (f_191 n x1 I L).bind fun q2 =>
      (f_69 n x2 q2.1 q2.2).bind fun q3 =>
      some (q3, (some 3), q2.1, q2.2)
    else
      some ((-2 : Int32), nh, I, L)
set_option maxHeartbeats 1000000 in
set_option maxRecDepth 20000 in
theorem t_135 (Ls : Nat) (xs : Nat → Int32) (d : Nat) (kp : Option Nat) (tl : List (Nat × Nat)) (rl : List (List (Option Nat))) (nh : Option Nat) (rh : Option Nat) (n : Nat) (x1 : Int32) (x2 : Int32) (I : FI) (L : FL) (r : Int32 × Option Nat × FI × FL) (hf : f_135 n nh x1 x2 I L = some r) : pEN Ls xs (d + 7) 135 [.ref 0, .int x1, .int x2] (hp kp nh rh tl rl I L) = some (some (.int r.1), hp kp r.2.1 rh tl rl r.2.2.1 r.2.2.2) := by
  refine en_run (d := d + 6) (cd := cd_135) (f := (sf 11 rs_11 false 3 (some (.int)) Ls xs (d + 6))) rfl rfl (x := (0, [some (.ref 0), some (.int x1), some (.int x2)], [], hp kp nh rh tl rl I L)) rfl rfl (Nat.le_of_ble_eq_true rfl) ?_
  unfold f_135 at hf
  refine bs_st 2 (x' := (2, [some (.ref 0), some (.int x1), some (.int x2)], [.int x1, .ref 0], hp kp nh rh tl rl I L)) rfl ?_
  obtain ⟨q0, hq0, hf⟩ := Option.bind_eq_some_iff.mp hf
  refine bs_call (o := pEN Ls xs (d + 6) 181 [.ref 0, .int x1] (hp kp nh rh tl rl I L)) (w := some (.int q0)) (h' := hp kp nh rh tl rl I L) (pc := 5) (lo := [some (.ref 0), some (.int x1), some (.int x2)]) (rest := []) rfl (t_181 Ls xs (d + 4) kp tl rl nh rh x1 I L q0 hq0) ?_
  refine bs_br (t := 16) (e := 8) (lo := [some (.ref 0), some (.int x1), some (.int x2)]) (st := []) (h := hp kp nh rh tl rl I L) rfl hf (fun hc hf => ?_) (fun hc hf => ?_)
  · refine bs_st 1 (x' := (18, [some (.ref 0), some (.int x1), some (.int x2)], [.int (-2 : Int32)], hp kp nh rh tl rl I L)) rfl ?_
    cases hf
    exact bs_ret rfl
  · refine bs_st 2 (x' := (10, [some (.ref 0), some (.int x1), some (.int x2)], [.int x2, .ref 0], hp kp nh rh tl rl I L)) rfl ?_
    obtain ⟨q1, hq1, hf⟩ := Option.bind_eq_some_iff.mp hf
    refine bs_call (o := pEN Ls xs (d + 6) 178 [.ref 0, .int x2] (hp kp nh rh tl rl I L)) (w := some (.int q1)) (h' := hp kp nh rh tl rl I L) (pc := 13) (lo := [some (.ref 0), some (.int x1), some (.int x2)]) (rest := []) rfl (t_178 Ls xs (d + 5) kp tl rl nh rh x2 I L q1 hq1) ?_
    refine bs_br (t := 19) (e := 16) (lo := [some (.ref 0), some (.int x1), some (.int x2)]) (st := []) (h := hp kp nh rh tl rl I L) rfl hf (fun hc hf => ?_) (fun hc hf => ?_)
    · refine bs_st 2 (x' := (21, [some (.ref 0), some (.int x1), some (.int x2)], [.int x1, .ref 0], hp kp nh rh tl rl I L)) rfl ?_
      obtain ⟨q2, hq2, hf⟩ := Option.bind_eq_some_iff.mp hf
      refine bs_call (o := pEN Ls xs (d + 6) 191 [.ref 0, .int x1] (hp kp nh rh tl rl I L)) (w := some (.ref 26)) (h' := hp kp (some 3) rh tl rl q2.1 q2.2) (pc := 24) (lo := [some (.ref 0), some (.int x1), some (.int x2)]) (rest := []) rfl (t_191 Ls xs (d + 0) kp tl rl nh rh n x1 I L q2 hq2) ?_
      refine bs_st 1 (x' := (25, [some (.ref 0), some (.int x1), some (.int x2)], [.int x2, .ref 26], hp kp (some 3) rh tl rl q2.1 q2.2)) rfl ?_
      obtain ⟨q3, hq3, hf⟩ := Option.bind_eq_some_iff.mp hf
      refine bs_call (o := pEN Ls xs (d + 6) 69 [.ref 26, .int x2] (hp kp (some 3) rh tl rl q2.1 q2.2)) (w := some (.int q3)) (h' := hp kp (some 3) rh tl rl q2.1 q2.2) (pc := 28) (lo := [some (.ref 0), some (.int x1), some (.int x2)]) (rest := []) rfl (t_69 Ls xs (d + 3) kp tl rl rh n x2 q2.1 q2.2 q3 hq3) ?_
      cases hf
      exact bs_ret rfl
    · refine bs_st 1 (x' := (18, [some (.ref 0), some (.int x1), some (.int x2)], [.int (-2 : Int32)], hp kp nh rh tl rl I L)) rfl ?_
      cases hf
      exact bs_ret rfl
/-- House.everyRoom() on (3,) -/
def f_24 (I : FI) (L : FL) : Option (Int32) :=
  some ((((1 : Int32) <<< ((I 3 4) &&& 31)) - (1 : Int32)))
set_option maxHeartbeats 1000000 in
set_option maxRecDepth 20000 in
theorem t_24 (Ls : Nat) (xs : Nat → Int32) (d : Nat) (kp : Option Nat) (tl : List (Nat × Nat)) (rl : List (List (Option Nat))) (nh : Option Nat) (rh : Option Nat) (I : FI) (L : FL) (r : Int32) (hf : f_24 I L = some r) : pEN Ls xs (d + 1) 24 [.ref 3] (hp kp nh rh tl rl I L) = some (some (.int r), hp kp nh rh tl rl I L) := by
  refine en_run (d := d + 0) (cd := cd_24) (f := (sf 3 rs_3 false 1 (some (.int)) Ls xs (d + 0))) rfl rfl (x := (0, [some (.ref 3)], [], hp kp nh rh tl rl I L)) rfl rfl (Nat.le_of_ble_eq_true rfl) ?_
  unfold f_24 at hf
  refine bs_st 6 (x' := (8, [some (.ref 3)], [.int (((1 : Int32) <<< ((I 3 4) &&& 31)) - (1 : Int32))], hp kp nh rh tl rl I L)) rfl ?_
  cases hf
  exact bs_ret rfl
/-- House.firstPlace() on (3,) -/
def f_23 (I : FI) (L : FL) : Option (Int32) :=
  if ¬ I 3 4 = 0 then
    if I 3 7 ≤ 0 then
      some ((0 : Int32))
    else
      some (I 10 0)
  else
    some ((-1 : Int32))
set_option maxHeartbeats 1000000 in
set_option maxRecDepth 20000 in
theorem t_23 (Ls : Nat) (xs : Nat → Int32) (d : Nat) (kp : Option Nat) (tl : List (Nat × Nat)) (rl : List (List (Option Nat))) (nh : Option Nat) (rh : Option Nat) (I : FI) (L : FL) (r : Int32) (hf : f_23 I L = some r) : pEN Ls xs (d + 1) 23 [.ref 3] (hp kp nh rh tl rl I L) = some (some (.int r), hp kp nh rh tl rl I L) := by
  refine en_run (d := d + 0) (cd := cd_23) (f := (sf 3 rs_3 false 1 (some (.int)) Ls xs (d + 0))) rfl rfl (x := (0, [some (.ref 3)], [], hp kp nh rh tl rl I L)) rfl rfl (Nat.le_of_ble_eq_true rfl) ?_
  unfold f_23 at hf
  refine bs_st 2 (x' := (4, [some (.ref 3)], [.int (I 3 4)], hp kp nh rh tl rl I L)) rfl ?_
  refine bs_br (t := 9) (e := 7) (lo := [some (.ref 3)]) (st := []) (h := hp kp nh rh tl rl I L) rfl hf (fun hc hf => ?_) (fun hc hf => ?_)
  · refine bs_st 2 (x' := (13, [some (.ref 3)], [.int (I 3 7)], hp kp nh rh tl rl I L)) rfl ?_
    refine bs_br (t := 25) (e := 16) (lo := [some (.ref 3)]) (st := []) (h := hp kp nh rh tl rl I L) rfl hf (fun hc hf => ?_) (fun hc hf => ?_)
    · refine bs_st 1 (x' := (26, [some (.ref 3)], [.int (0 : Int32)], hp kp nh rh tl rl I L)) rfl ?_
      cases hf
      exact bs_ret rfl
    · refine bs_st 5 (x' := (26, [some (.ref 3)], [.int (I 10 0)], hp kp nh rh tl rl I L)) rfl ?_
      cases hf
      exact bs_ret rfl
  · refine bs_st 1 (x' := (8, [some (.ref 3)], [.int (-1 : Int32)], hp kp nh rh tl rl I L)) rfl ?_
    cases hf
    exact bs_ret rfl
/-- House.canGo(II) on (3,) -/
def f_21_1 (x1 : Int32) (x2 : Int32) (I : FI) (L : FL) : Option (Int32) :=
  if x1 = x2 then
    some ((1 : Int32))
  else
    if pin x1 4 = true then (if (((I 6 x1.toNatClampNeg) >>> (x2 &&& 31)) &&& (1 : Int32)) = 0 then
        some ((0 : Int32))
      else
        some ((1 : Int32))) else none
set_option maxHeartbeats 1000000 in
set_option maxRecDepth 20000 in
theorem t_21_1 (Ls : Nat) (xs : Nat → Int32) (d : Nat) (kp : Option Nat) (tl : List (Nat × Nat)) (rl : List (List (Option Nat))) (nh : Option Nat) (rh : Option Nat) (x1 : Int32) (x2 : Int32) (I : FI) (L : FL) (r : Int32) (hf : f_21_1 x1 x2 I L = some r) : pEN Ls xs (d + 1) 21 [.ref 3, .int x1, .int x2] (hp kp nh rh tl rl I L) = some (some (.int r), hp kp nh rh tl rl I L) := by
  refine en_run (d := d + 0) (cd := cd_21) (f := (sf 3 rs_3 false 3 (some (.boolean)) Ls xs (d + 0))) rfl rfl (x := (0, [some (.ref 3), some (.int x1), some (.int x2)], [], hp kp nh rh tl rl I L)) rfl rfl (Nat.le_of_ble_eq_true rfl) ?_
  unfold f_21_1 at hf
  refine bs_st 2 (x' := (2, [some (.ref 3), some (.int x1), some (.int x2)], [.int x2, .int x1], hp kp nh rh tl rl I L)) rfl ?_
  refine bs_br (t := 18) (e := 5) (lo := [some (.ref 3), some (.int x1), some (.int x2)]) (st := []) (h := hp kp nh rh tl rl I L) rfl hf (fun hc hf => ?_) (fun hc hf => ?_)
  · refine bs_st 2 (x' := (23, [some (.ref 3), some (.int x1), some (.int x2)], [.int (1 : Int32)], hp kp nh rh tl rl I L)) rfl ?_
    cases hf
    exact bs_ret rfl
  · refine bs_st 3 (x' := (10, [some (.ref 3), some (.int x1), some (.int x2)], [.int x1, .ref 6], hp kp nh rh tl rl I L)) rfl ?_
    refine bs_gd (x' := (11, [some (.ref 3), some (.int x1), some (.int x2)], [.int (I 6 x1.toNatClampNeg)], hp kp nh rh tl rl I L)) rfl hf (fun hc hf => ?_)
    refine bs_st 4 (x' := (15, [some (.ref 3), some (.int x1), some (.int x2)], [.int (((I 6 x1.toNatClampNeg) >>> (x2 &&& 31)) &&& (1 : Int32))], hp kp nh rh tl rl I L)) rfl ?_
    refine bs_br (t := 22) (e := 18) (lo := [some (.ref 3), some (.int x1), some (.int x2)]) (st := []) (h := hp kp nh rh tl rl I L) rfl hf (fun hc hf => ?_) (fun hc hf => ?_)
    · refine bs_st 1 (x' := (23, [some (.ref 3), some (.int x1), some (.int x2)], [.int (0 : Int32)], hp kp nh rh tl rl I L)) rfl ?_
      cases hf
      exact bs_ret rfl
    · refine bs_st 2 (x' := (23, [some (.ref 3), some (.int x1), some (.int x2)], [.int (1 : Int32)], hp kp nh rh tl rl I L)) rfl ?_
      cases hf
      exact bs_ret rfl
/-- Ageing.prepare(LLampRounds$House;I) on (115, 3) -/
def c_4_5 (n : Nat) (K1 : Int32 → Int32 → FI → FL → Option (FI × FL)) (K2 : Int32 → Int32 → Int32 → FI → FL → Option (FI × FL)) (x2 : Int32) (x3 : Int32) (x4 : Int32) (I : FI) (L : FL) : Option (FI × FL) :=
  K2 x2 x3 (x4 + (1 : Int32)) I L
set_option maxHeartbeats 1000000 in
set_option maxRecDepth 20000 in
theorem tc_4_5 (Ls : Nat) (xs : Nat → Int32) (d : Nat) (nh : Option Nat) (rh : Option Nat) (n : Nat) (K1 : Int32 → Int32 → FI → FL → Option (FI × FL)) (K2 : Int32 → Int32 → Int32 → FI → FL → Option (FI × FL)) (hK1 : ∀ (w4 : Option Value) (w5 : Option Value) (x2 : Int32) (x3 : Int32) (I : FI) (L : FL) (r : FI × FL), K1 x2 x3 I L = some r → Bs cd_4 (sf 1 rs_1 false 6 none Ls xs (d + 1)) (73, [some (.ref 115), some (.ref 3), some (.int x2), some (.int x3), w4, w5], [], hp (some 114) nh rh TK (RK (some 3)) I L) (none, hp (some 114) nh rh TK (RK (some 3)) r.1 r.2)) (hK2 : ∀ (w5 : Option Value) (x2 : Int32) (x3 : Int32) (x4 : Int32) (I : FI) (L : FL) (r : FI × FL), K2 x2 x3 x4 I L = some r → Bs cd_4 (sf 1 rs_1 false 6 none Ls xs (d + 1)) (84, [some (.ref 115), some (.ref 3), some (.int x2), some (.int x3), some (.int x4), w5], [], hp (some 114) nh rh TK (RK (some 3)) I L) (none, hp (some 114) nh rh TK (RK (some 3)) r.1 r.2)) (w5 : Option Value) (x2 : Int32) (x3 : Int32) (x4 : Int32) (I : FI) (L : FL) (r : FI × FL) (hf : c_4_5 n K1 K2 x2 x3 x4 I L = some r) : Bs cd_4 (sf 1 rs_1 false 6 none Ls xs (d + 1)) (153, [some (.ref 115), some (.ref 3), some (.int x2), some (.int x3), some (.int x4), w5], [], hp (some 114) nh rh TK (RK (some 3)) I L) (none, hp (some 114) nh rh TK (RK (some 3)) r.1 r.2) := by
  unfold c_4_5 at hf
  refine bs_st 2 (x' := (84, [some (.ref 115), some (.ref 3), some (.int x2), some (.int x3), some (.int (x4 + (1 : Int32))), w5], [], hp (some 114) nh rh TK (RK (some 3)) I L)) rfl ?_
  exact hK2 w5 x2 x3 (x4 + (1 : Int32)) I L r hf
def c_4_4 (n : Nat) (K1 : Int32 → Int32 → FI → FL → Option (FI × FL)) (K2 : Int32 → Int32 → Int32 → FI → FL → Option (FI × FL)) (x2 : Int32) (x3 : Int32) (x4 : Int32) (s0 : Int32) (I : FI) (L : FL) : Option (FI × FL) :=
  if ¬ s0 = 0 then
    c_4_5 n K1 K2 x2 x3 x4 I L
  else
    if ((x2 >>> (x4 &&& 31)) &&& (1 : Int32)) = 0 then
      c_4_5 n K1 K2 x2 x3 x4 I L
    else
      if pin x3 4 = true then (if pin x3 4 = true then c_4_5 n K1 K2 x2 x3 x4 (u2 I 116 x3.toNatClampNeg ((I 116 x3.toNatClampNeg) ||| ((1 : Int32) <<< (((4 : Int32) * x4) &&& 31)))) L else none) else none
set_option maxHeartbeats 1000000 in
set_option maxRecDepth 20000 in
theorem tc_4_4 (Ls : Nat) (xs : Nat → Int32) (d : Nat) (nh : Option Nat) (rh : Option Nat) (n : Nat) (K1 : Int32 → Int32 → FI → FL → Option (FI × FL)) (K2 : Int32 → Int32 → Int32 → FI → FL → Option (FI × FL)) (hK1 : ∀ (w4 : Option Value) (w5 : Option Value) (x2 : Int32) (x3 : Int32) (I : FI) (L : FL) (r : FI × FL), K1 x2 x3 I L = some r → Bs cd_4 (sf 1 rs_1 false 6 none Ls xs (d + 1)) (73, [some (.ref 115), some (.ref 3), some (.int x2), some (.int x3), w4, w5], [], hp (some 114) nh rh TK (RK (some 3)) I L) (none, hp (some 114) nh rh TK (RK (some 3)) r.1 r.2)) (hK2 : ∀ (w5 : Option Value) (x2 : Int32) (x3 : Int32) (x4 : Int32) (I : FI) (L : FL) (r : FI × FL), K2 x2 x3 x4 I L = some r → Bs cd_4 (sf 1 rs_1 false 6 none Ls xs (d + 1)) (84, [some (.ref 115), some (.ref 3), some (.int x2), some (.int x3), some (.int x4), w5], [], hp (some 114) nh rh TK (RK (some 3)) I L) (none, hp (some 114) nh rh TK (RK (some 3)) r.1 r.2)) (w5 : Option Value) (x2 : Int32) (x3 : Int32) (x4 : Int32) (s0 : Int32) (I : FI) (L : FL) (r : FI × FL) (hf : c_4_4 n K1 K2 x2 x3 x4 s0 I L = some r) : Bs cd_4 (sf 1 rs_1 false 6 none Ls xs (d + 1)) (122, [some (.ref 115), some (.ref 3), some (.int x2), some (.int x3), some (.int x4), w5], [.int s0], hp (some 114) nh rh TK (RK (some 3)) I L) (none, hp (some 114) nh rh TK (RK (some 3)) r.1 r.2) := by
  unfold c_4_4 at hf
  refine bs_st 2 (x' := (126, [some (.ref 115), some (.ref 3), some (.int x2), some (.int x3), some (.int x4), some (.int s0)], [.int s0], hp (some 114) nh rh TK (RK (some 3)) I L)) rfl ?_
  refine bs_br (t := 153) (e := 129) (lo := [some (.ref 115), some (.ref 3), some (.int x2), some (.int x3), some (.int x4), some (.int s0)]) (st := []) (h := hp (some 114) nh rh TK (RK (some 3)) I L) rfl hf (fun hc hf => ?_) (fun hc hf => ?_)
  · exact tc_4_5 Ls xs d nh rh n _ _ hK1 hK2 (some (.int s0)) x2 x3 x4 I L r hf
  · refine bs_st 5 (x' := (135, [some (.ref 115), some (.ref 3), some (.int x2), some (.int x3), some (.int x4), some (.int s0)], [.int ((x2 >>> (x4 &&& 31)) &&& (1 : Int32))], hp (some 114) nh rh TK (RK (some 3)) I L)) rfl ?_
    refine bs_br (t := 153) (e := 138) (lo := [some (.ref 115), some (.ref 3), some (.int x2), some (.int x3), some (.int x4), some (.int s0)]) (st := []) (h := hp (some 114) nh rh TK (RK (some 3)) I L) rfl hf (fun hc hf => ?_) (fun hc hf => ?_)
    · exact tc_4_5 Ls xs d nh rh n _ _ hK1 hK2 (some (.int s0)) x2 x3 x4 I L r hf
    · refine bs_st 4 (x' := (144, [some (.ref 115), some (.ref 3), some (.int x2), some (.int x3), some (.int x4), some (.int s0)], [.int x3, .ref 116, .int x3, .ref 116], hp (some 114) nh rh TK (RK (some 3)) I L)) rfl ?_
      refine bs_gd (x' := (145, [some (.ref 115), some (.ref 3), some (.int x2), some (.int x3), some (.int x4), some (.int s0)], [.int (I 116 x3.toNatClampNeg), .int x3, .ref 116], hp (some 114) nh rh TK (RK (some 3)) I L)) rfl hf (fun hc hf => ?_)
      refine bs_st 6 (x' := (152, [some (.ref 115), some (.ref 3), some (.int x2), some (.int x3), some (.int x4), some (.int s0)], [.int ((I 116 x3.toNatClampNeg) ||| ((1 : Int32) <<< (((4 : Int32) * x4) &&& 31))), .int x3, .ref 116], hp (some 114) nh rh TK (RK (some 3)) I L)) rfl ?_
      refine bs_gd (x' := (153, [some (.ref 115), some (.ref 3), some (.int x2), some (.int x3), some (.int x4), some (.int s0)], [], hp (some 114) nh rh TK (RK (some 3)) (u2 I 116 x3.toNatClampNeg ((I 116 x3.toNatClampNeg) ||| ((1 : Int32) <<< (((4 : Int32) * x4) &&& 31)))) L)) rfl hf (fun hc hf => ?_)
      exact tc_4_5 Ls xs d nh rh n _ _ hK1 hK2 (some (.int s0)) x2 x3 x4 (u2 I 116 x3.toNatClampNeg ((I 116 x3.toNatClampNeg) ||| ((1 : Int32) <<< (((4 : Int32) * x4) &&& 31)))) L r hf
def c_4_3 (n : Nat) (K1 : Int32 → Int32 → FI → FL → Option (FI × FL)) (K2 : Int32 → Int32 → Int32 → FI → FL → Option (FI × FL)) (x2 : Int32) (x3 : Int32) (x4 : Int32) (I : FI) (L : FL) : Option (FI × FL) :=
  c_4_4 n K1 K2 x2 x3 x4 (1 : Int32) I L
set_option maxHeartbeats 1000000 in
set_option maxRecDepth 20000 in
theorem tc_4_3 (Ls : Nat) (xs : Nat → Int32) (d : Nat) (nh : Option Nat) (rh : Option Nat) (n : Nat) (K1 : Int32 → Int32 → FI → FL → Option (FI × FL)) (K2 : Int32 → Int32 → Int32 → FI → FL → Option (FI × FL)) (hK1 : ∀ (w4 : Option Value) (w5 : Option Value) (x2 : Int32) (x3 : Int32) (I : FI) (L : FL) (r : FI × FL), K1 x2 x3 I L = some r → Bs cd_4 (sf 1 rs_1 false 6 none Ls xs (d + 1)) (73, [some (.ref 115), some (.ref 3), some (.int x2), some (.int x3), w4, w5], [], hp (some 114) nh rh TK (RK (some 3)) I L) (none, hp (some 114) nh rh TK (RK (some 3)) r.1 r.2)) (hK2 : ∀ (w5 : Option Value) (x2 : Int32) (x3 : Int32) (x4 : Int32) (I : FI) (L : FL) (r : FI × FL), K2 x2 x3 x4 I L = some r → Bs cd_4 (sf 1 rs_1 false 6 none Ls xs (d + 1)) (84, [some (.ref 115), some (.ref 3), some (.int x2), some (.int x3), some (.int x4), w5], [], hp (some 114) nh rh TK (RK (some 3)) I L) (none, hp (some 114) nh rh TK (RK (some 3)) r.1 r.2)) (w5 : Option Value) (x2 : Int32) (x3 : Int32) (x4 : Int32) (I : FI) (L : FL) (r : FI × FL) (hf : c_4_3 n K1 K2 x2 x3 x4 I L = some r) : Bs cd_4 (sf 1 rs_1 false 6 none Ls xs (d + 1)) (117, [some (.ref 115), some (.ref 3), some (.int x2), some (.int x3), some (.int x4), w5], [], hp (some 114) nh rh TK (RK (some 3)) I L) (none, hp (some 114) nh rh TK (RK (some 3)) r.1 r.2) := by
  unfold c_4_3 at hf
  refine bs_st 2 (x' := (122, [some (.ref 115), some (.ref 3), some (.int x2), some (.int x3), some (.int x4), w5], [.int (1 : Int32)], hp (some 114) nh rh TK (RK (some 3)) I L)) rfl ?_
  exact tc_4_4 Ls xs d nh rh n _ _ hK1 hK2 w5 x2 x3 x4 (1 : Int32) I L r hf
def c_4_6 (n : Nat) (K1 : Int32 → Int32 → FI → FL → Option (FI × FL)) (K2 : Int32 → Int32 → Int32 → FI → FL → Option (FI × FL)) (x2 : Int32) (x3 : Int32) (x4 : Int32) (I : FI) (L : FL) : Option (FI × FL) :=
  c_4_4 n K1 K2 x2 x3 x4 (0 : Int32) I L
set_option maxHeartbeats 1000000 in
set_option maxRecDepth 20000 in
theorem tc_4_6 (Ls : Nat) (xs : Nat → Int32) (d : Nat) (nh : Option Nat) (rh : Option Nat) (n : Nat) (K1 : Int32 → Int32 → FI → FL → Option (FI × FL)) (K2 : Int32 → Int32 → Int32 → FI → FL → Option (FI × FL)) (hK1 : ∀ (w4 : Option Value) (w5 : Option Value) (x2 : Int32) (x3 : Int32) (I : FI) (L : FL) (r : FI × FL), K1 x2 x3 I L = some r → Bs cd_4 (sf 1 rs_1 false 6 none Ls xs (d + 1)) (73, [some (.ref 115), some (.ref 3), some (.int x2), some (.int x3), w4, w5], [], hp (some 114) nh rh TK (RK (some 3)) I L) (none, hp (some 114) nh rh TK (RK (some 3)) r.1 r.2)) (hK2 : ∀ (w5 : Option Value) (x2 : Int32) (x3 : Int32) (x4 : Int32) (I : FI) (L : FL) (r : FI × FL), K2 x2 x3 x4 I L = some r → Bs cd_4 (sf 1 rs_1 false 6 none Ls xs (d + 1)) (84, [some (.ref 115), some (.ref 3), some (.int x2), some (.int x3), some (.int x4), w5], [], hp (some 114) nh rh TK (RK (some 3)) I L) (none, hp (some 114) nh rh TK (RK (some 3)) r.1 r.2)) (w5 : Option Value) (x2 : Int32) (x3 : Int32) (x4 : Int32) (I : FI) (L : FL) (r : FI × FL) (hf : c_4_6 n K1 K2 x2 x3 x4 I L = some r) : Bs cd_4 (sf 1 rs_1 false 6 none Ls xs (d + 1)) (121, [some (.ref 115), some (.ref 3), some (.int x2), some (.int x3), some (.int x4), w5], [], hp (some 114) nh rh TK (RK (some 3)) I L) (none, hp (some 114) nh rh TK (RK (some 3)) r.1 r.2) := by
  unfold c_4_6 at hf
  refine bs_st 1 (x' := (122, [some (.ref 115), some (.ref 3), some (.int x2), some (.int x3), some (.int x4), w5], [.int (0 : Int32)], hp (some 114) nh rh TK (RK (some 3)) I L)) rfl ?_
  exact tc_4_4 Ls xs d nh rh n _ _ hK1 hK2 w5 x2 x3 x4 (0 : Int32) I L r hf
def b_4_2 (n : Nat) (K1 : Int32 → Int32 → FI → FL → Option (FI × FL)) (K2 : Int32 → Int32 → Int32 → FI → FL → Option (FI × FL)) (x2 : Int32) (x3 : Int32) (x4 : Int32) (I : FI) (L : FL) : Option (FI × FL) :=
  if I 3 4 ≤ x4 then
    K1 x2 (x3 + (1 : Int32)) I L
  else
    if x4 = x3 then
      c_4_3 n K1 K2 x2 x3 x4 I L
    else
      if ¬ I 115 2 = (3 : Int32) then
        c_4_6 n K1 K2 x2 x3 x4 I L
      else
        (f_21_1 x3 x4 I L).bind fun q0 =>
        if q0 = 0 then
          c_4_6 n K1 K2 x2 x3 x4 I L
        else
          c_4_3 n K1 K2 x2 x3 x4 I L
def c_4_2 (n : Nat) (K1 : Int32 → Int32 → FI → FL → Option (FI × FL)) : Nat → Int32 → Int32 → Int32 → FI → FL → Option (FI × FL)
  | 0, _, _, _, _, _ => none
  | m + 1, x2, x3, x4, I, L => b_4_2 n K1 (c_4_2 n K1 m) x2 x3 x4 I L
set_option maxHeartbeats 1000000 in
set_option maxRecDepth 20000 in
theorem tc_4_2 (Ls : Nat) (xs : Nat → Int32) (d : Nat) (nh : Option Nat) (rh : Option Nat) (n : Nat) (K1 : Int32 → Int32 → FI → FL → Option (FI × FL)) (hK1 : ∀ (w4 : Option Value) (w5 : Option Value) (x2 : Int32) (x3 : Int32) (I : FI) (L : FL) (r : FI × FL), K1 x2 x3 I L = some r → Bs cd_4 (sf 1 rs_1 false 6 none Ls xs (d + 1)) (73, [some (.ref 115), some (.ref 3), some (.int x2), some (.int x3), w4, w5], [], hp (some 114) nh rh TK (RK (some 3)) I L) (none, hp (some 114) nh rh TK (RK (some 3)) r.1 r.2)) : ∀ (m : Nat) (w5 : Option Value) (x2 : Int32) (x3 : Int32) (x4 : Int32) (I : FI) (L : FL) (r : FI × FL), c_4_2 n K1 m x2 x3 x4 I L = some r → Bs cd_4 (sf 1 rs_1 false 6 none Ls xs (d + 1)) (84, [some (.ref 115), some (.ref 3), some (.int x2), some (.int x3), some (.int x4), w5], [], hp (some 114) nh rh TK (RK (some 3)) I L) (none, hp (some 114) nh rh TK (RK (some 3)) r.1 r.2)
  | 0, w5, x2, x3, x4, I, L, r, hf => by cases hf
  | m + 1, w5, x2, x3, x4, I, L, r, hf => by
    unfold c_4_2 b_4_2 at hf
    have hK2 := tc_4_2 Ls xs d nh rh n K1 hK1 m
    refine bs_st 3 (x' := (90, [some (.ref 115), some (.ref 3), some (.int x2), some (.int x3), some (.int x4), w5], [.int (I 3 4), .int x4], hp (some 114) nh rh TK (RK (some 3)) I L)) rfl ?_
    refine bs_br (t := 159) (e := 93) (lo := [some (.ref 115), some (.ref 3), some (.int x2), some (.int x3), some (.int x4), w5]) (st := []) (h := hp (some 114) nh rh TK (RK (some 3)) I L) rfl hf (fun hc hf => ?_) (fun hc hf => ?_)
    · refine bs_st 2 (x' := (73, [some (.ref 115), some (.ref 3), some (.int x2), some (.int (x3 + (1 : Int32))), some (.int x4), w5], [], hp (some 114) nh rh TK (RK (some 3)) I L)) rfl ?_
      exact hK1 (some (.int x4)) w5 x2 (x3 + (1 : Int32)) I L r hf
    · refine bs_st 2 (x' := (96, [some (.ref 115), some (.ref 3), some (.int x2), some (.int x3), some (.int x4), w5], [.int x3, .int x4], hp (some 114) nh rh TK (RK (some 3)) I L)) rfl ?_
      refine bs_br (t := 117) (e := 99) (lo := [some (.ref 115), some (.ref 3), some (.int x2), some (.int x3), some (.int x4), w5]) (st := []) (h := hp (some 114) nh rh TK (RK (some 3)) I L) rfl hf (fun hc hf => ?_) (fun hc hf => ?_)
      · exact tc_4_3 Ls xs d nh rh n _ _ hK1 hK2 w5 x2 x3 x4 I L r hf
      · refine bs_st 3 (x' := (104, [some (.ref 115), some (.ref 3), some (.int x2), some (.int x3), some (.int x4), w5], [.int (3 : Int32), .int (I 115 2)], hp (some 114) nh rh TK (RK (some 3)) I L)) rfl ?_
        refine bs_br (t := 121) (e := 107) (lo := [some (.ref 115), some (.ref 3), some (.int x2), some (.int x3), some (.int x4), w5]) (st := []) (h := hp (some 114) nh rh TK (RK (some 3)) I L) rfl hf (fun hc hf => ?_) (fun hc hf => ?_)
        · exact tc_4_6 Ls xs d nh rh n _ _ hK1 hK2 w5 x2 x3 x4 I L r hf
        · refine bs_st 3 (x' := (111, [some (.ref 115), some (.ref 3), some (.int x2), some (.int x3), some (.int x4), w5], [.int x4, .int x3, .ref 3], hp (some 114) nh rh TK (RK (some 3)) I L)) rfl ?_
          obtain ⟨q0, hq0, hf⟩ := Option.bind_eq_some_iff.mp hf
          refine bs_call (o := pEN Ls xs (d + 1) 21 [.ref 3, .int x3, .int x4] (hp (some 114) nh rh TK (RK (some 3)) I L)) (w := some (.int q0)) (h' := hp (some 114) nh rh TK (RK (some 3)) I L) (pc := 114) (lo := [some (.ref 115), some (.ref 3), some (.int x2), some (.int x3), some (.int x4), w5]) (rest := []) rfl (t_21_1 Ls xs (d + 0) (some 114) TK (RK (some 3)) nh rh x3 x4 I L q0 hq0) ?_
          refine bs_br (t := 121) (e := 117) (lo := [some (.ref 115), some (.ref 3), some (.int x2), some (.int x3), some (.int x4), w5]) (st := []) (h := hp (some 114) nh rh TK (RK (some 3)) I L) rfl hf (fun hc hf => ?_) (fun hc hf => ?_)
          · exact tc_4_6 Ls xs d nh rh n _ _ hK1 hK2 w5 x2 x3 x4 I L r hf
          · exact tc_4_3 Ls xs d nh rh n _ _ hK1 hK2 w5 x2 x3 x4 I L r hf
def b_4_1 (n : Nat) (K1 : Int32 → Int32 → FI → FL → Option (FI × FL)) (x2 : Int32) (x3 : Int32) (I : FI) (L : FL) : Option (FI × FL) :=
  if I 3 4 ≤ x3 then
    some (I, L)
  else
    c_4_2 n K1 n x2 x3 (0 : Int32) I L
def c_4_1 (n : Nat) : Nat → Int32 → Int32 → FI → FL → Option (FI × FL)
  | 0, _, _, _, _ => none
  | m + 1, x2, x3, I, L => b_4_1 n (c_4_1 n m) x2 x3 I L
set_option maxHeartbeats 1000000 in
set_option maxRecDepth 20000 in
theorem tc_4_1 (Ls : Nat) (xs : Nat → Int32) (d : Nat) (nh : Option Nat) (rh : Option Nat) (n : Nat) : ∀ (m : Nat) (w4 : Option Value) (w5 : Option Value) (x2 : Int32) (x3 : Int32) (I : FI) (L : FL) (r : FI × FL), c_4_1 n m x2 x3 I L = some r → Bs cd_4 (sf 1 rs_1 false 6 none Ls xs (d + 1)) (73, [some (.ref 115), some (.ref 3), some (.int x2), some (.int x3), w4, w5], [], hp (some 114) nh rh TK (RK (some 3)) I L) (none, hp (some 114) nh rh TK (RK (some 3)) r.1 r.2)
  | 0, w4, w5, x2, x3, I, L, r, hf => by cases hf
  | m + 1, w4, w5, x2, x3, I, L, r, hf => by
    unfold c_4_1 b_4_1 at hf
    have hK1 := tc_4_1 Ls xs d nh rh n m
    refine bs_st 3 (x' := (78, [some (.ref 115), some (.ref 3), some (.int x2), some (.int x3), w4, w5], [.int (I 3 4), .int x3], hp (some 114) nh rh TK (RK (some 3)) I L)) rfl ?_
    refine bs_br (t := 165) (e := 81) (lo := [some (.ref 115), some (.ref 3), some (.int x2), some (.int x3), w4, w5]) (st := []) (h := hp (some 114) nh rh TK (RK (some 3)) I L) rfl hf (fun hc hf => ?_) (fun hc hf => ?_)
    · cases hf
      exact bs_ret rfl
    · refine bs_st 2 (x' := (84, [some (.ref 115), some (.ref 3), some (.int x2), some (.int x3), some (.int (0 : Int32)), w5], [], hp (some 114) nh rh TK (RK (some 3)) I L)) rfl ?_
      exact tc_4_2 Ls xs d nh rh n _ hK1 n w5 x2 x3 (0 : Int32) I L r hf
def c_4_7 (n : Nat) (K0 : Int32 → Int32 → FI → FL → Option (FI × FL)) (x2 : Int32) (x3 : Int32) (s0 : Int32) (I : FI) (L : FL) : Option (FI × FL) :=
  K0 x2 (x3 + (1 : Int32)) (u2 I 115 1 ((I 115 1) ||| (((7 : Int32) - s0) <<< (((4 : Int32) * x3) &&& 31)))) L
set_option maxHeartbeats 1000000 in
set_option maxRecDepth 20000 in
theorem tc_4_7 (Ls : Nat) (xs : Nat → Int32) (d : Nat) (nh : Option Nat) (rh : Option Nat) (n : Nat) (K0 : Int32 → Int32 → FI → FL → Option (FI × FL)) (hK0 : ∀ (w4 : Option Value) (w5 : Option Value) (x2 : Int32) (x3 : Int32) (I : FI) (L : FL) (r : FI × FL), K0 x2 x3 I L = some r → Bs cd_4 (sf 1 rs_1 false 6 none Ls xs (d + 1)) (15, [some (.ref 115), some (.ref 3), some (.int x2), some (.int x3), w4, w5], [], hp (some 114) nh rh TK (RK (some 3)) I L) (none, hp (some 114) nh rh TK (RK (some 3)) r.1 r.2)) (w4 : Option Value) (w5 : Option Value) (x2 : Int32) (x3 : Int32) (s0 : Int32) (I : FI) (L : FL) (r : FI × FL) (hf : c_4_7 n K0 x2 x3 s0 I L = some r) : Bs cd_4 (sf 1 rs_1 false 6 none Ls xs (d + 1)) (45, [some (.ref 115), some (.ref 3), some (.int x2), some (.int x3), w4, w5], [.int s0], hp (some 114) nh rh TK (RK (some 3)) I L) (none, hp (some 114) nh rh TK (RK (some 3)) r.1 r.2) := by
  unfold c_4_7 at hf
  refine bs_st 15 (x' := (15, [some (.ref 115), some (.ref 3), some (.int x2), some (.int (x3 + (1 : Int32))), some (.int s0), w5], [], hp (some 114) nh rh TK (RK (some 3)) (u2 I 115 1 ((I 115 1) ||| (((7 : Int32) - s0) <<< (((4 : Int32) * x3) &&& 31)))) L)) rfl ?_
  exact hK0 (some (.int s0)) w5 x2 (x3 + (1 : Int32)) (u2 I 115 1 ((I 115 1) ||| (((7 : Int32) - s0) <<< (((4 : Int32) * x3) &&& 31)))) L r hf
def b_4_0 (n : Nat) (K0 : Int32 → Int32 → FI → FL → Option (FI × FL)) (x2 : Int32) (x3 : Int32) (I : FI) (L : FL) : Option (FI × FL) :=
  if (4 : Int32) ≤ x3 then
    c_4_1 n n x2 (0 : Int32) I L
  else
    if pin x3 4 = true then (if ((x2 >>> (x3 &&& 31)) &&& (1 : Int32)) = 0 then
        c_4_7 n K0 x2 x3 (0 : Int32) (u2 I 116 x3.toNatClampNeg (0 : Int32)) L
      else
        if pin x3 4 = true then c_4_7 n K0 x2 x3 (I 4 x3.toNatClampNeg) (u2 I 116 x3.toNatClampNeg (0 : Int32)) L else none) else none
def c_4_0 (n : Nat) : Nat → Int32 → Int32 → FI → FL → Option (FI × FL)
  | 0, _, _, _, _ => none
  | m + 1, x2, x3, I, L => b_4_0 n (c_4_0 n m) x2 x3 I L
set_option maxHeartbeats 1000000 in
set_option maxRecDepth 20000 in
theorem tc_4_0 (Ls : Nat) (xs : Nat → Int32) (d : Nat) (nh : Option Nat) (rh : Option Nat) (n : Nat) : ∀ (m : Nat) (w4 : Option Value) (w5 : Option Value) (x2 : Int32) (x3 : Int32) (I : FI) (L : FL) (r : FI × FL), c_4_0 n m x2 x3 I L = some r → Bs cd_4 (sf 1 rs_1 false 6 none Ls xs (d + 1)) (15, [some (.ref 115), some (.ref 3), some (.int x2), some (.int x3), w4, w5], [], hp (some 114) nh rh TK (RK (some 3)) I L) (none, hp (some 114) nh rh TK (RK (some 3)) r.1 r.2)
  | 0, w4, w5, x2, x3, I, L, r, hf => by cases hf
  | m + 1, w4, w5, x2, x3, I, L, r, hf => by
    unfold c_4_0 b_4_0 at hf
    have hK0 := tc_4_0 Ls xs d nh rh n m
    refine bs_st 2 (x' := (17, [some (.ref 115), some (.ref 3), some (.int x2), some (.int x3), w4, w5], [.int (4 : Int32), .int x3], hp (some 114) nh rh TK (RK (some 3)) I L)) rfl ?_
    refine bs_br (t := 71) (e := 20) (lo := [some (.ref 115), some (.ref 3), some (.int x2), some (.int x3), w4, w5]) (st := []) (h := hp (some 114) nh rh TK (RK (some 3)) I L) rfl hf (fun hc hf => ?_) (fun hc hf => ?_)
    · refine bs_st 2 (x' := (73, [some (.ref 115), some (.ref 3), some (.int x2), some (.int (0 : Int32)), w4, w5], [], hp (some 114) nh rh TK (RK (some 3)) I L)) rfl ?_
      exact tc_4_1 Ls xs d nh rh n n w4 w5 x2 (0 : Int32) I L r hf
    · refine bs_st 4 (x' := (26, [some (.ref 115), some (.ref 3), some (.int x2), some (.int x3), w4, w5], [.int (0 : Int32), .int x3, .ref 116], hp (some 114) nh rh TK (RK (some 3)) I L)) rfl ?_
      refine bs_gd (x' := (27, [some (.ref 115), some (.ref 3), some (.int x2), some (.int x3), w4, w5], [], hp (some 114) nh rh TK (RK (some 3)) (u2 I 116 x3.toNatClampNeg (0 : Int32)) L)) rfl hf (fun hc hf => ?_)
      refine bs_st 5 (x' := (32, [some (.ref 115), some (.ref 3), some (.int x2), some (.int x3), w4, w5], [.int ((x2 >>> (x3 &&& 31)) &&& (1 : Int32))], hp (some 114) nh rh TK (RK (some 3)) (u2 I 116 x3.toNatClampNeg (0 : Int32)) L)) rfl ?_
      refine bs_br (t := 44) (e := 35) (lo := [some (.ref 115), some (.ref 3), some (.int x2), some (.int x3), w4, w5]) (st := []) (h := hp (some 114) nh rh TK (RK (some 3)) (u2 I 116 x3.toNatClampNeg (0 : Int32)) L) rfl hf (fun hc hf => ?_) (fun hc hf => ?_)
      · refine bs_st 1 (x' := (45, [some (.ref 115), some (.ref 3), some (.int x2), some (.int x3), w4, w5], [.int (0 : Int32)], hp (some 114) nh rh TK (RK (some 3)) (u2 I 116 x3.toNatClampNeg (0 : Int32)) L)) rfl ?_
        exact tc_4_7 Ls xs d nh rh n _ hK0 w4 w5 x2 x3 (0 : Int32) (u2 I 116 x3.toNatClampNeg (0 : Int32)) L r hf
      · refine bs_st 3 (x' := (40, [some (.ref 115), some (.ref 3), some (.int x2), some (.int x3), w4, w5], [.int x3, .ref 4], hp (some 114) nh rh TK (RK (some 3)) (u2 I 116 x3.toNatClampNeg (0 : Int32)) L)) rfl ?_
        refine bs_gd (x' := (41, [some (.ref 115), some (.ref 3), some (.int x2), some (.int x3), w4, w5], [.int (I 4 x3.toNatClampNeg)], hp (some 114) nh rh TK (RK (some 3)) (u2 I 116 x3.toNatClampNeg (0 : Int32)) L)) rfl hf (fun hc hf => ?_)
        refine bs_st 1 (x' := (45, [some (.ref 115), some (.ref 3), some (.int x2), some (.int x3), w4, w5], [.int (I 4 x3.toNatClampNeg)], hp (some 114) nh rh TK (RK (some 3)) (u2 I 116 x3.toNatClampNeg (0 : Int32)) L)) rfl ?_
        exact tc_4_7 Ls xs d nh rh n _ hK0 w4 w5 x2 x3 (I 4 x3.toNatClampNeg) (u2 I 116 x3.toNatClampNeg (0 : Int32)) L r hf
def f_4 (n : Nat) (x2 : Int32) (I : FI) (L : FL) : Option (FI × FL) :=
  c_4_0 n n x2 (0 : Int32) (u2 (u2 I 115 2 (I 3 1)) 115 1 (0 : Int32)) L
set_option maxHeartbeats 1000000 in
set_option maxRecDepth 20000 in
theorem t_4 (Ls : Nat) (xs : Nat → Int32) (d : Nat) (nh : Option Nat) (rh : Option Nat) (n : Nat) (x2 : Int32) (I : FI) (L : FL) (r : FI × FL) (hf : f_4 n x2 I L = some r) : pEN Ls xs (d + 2) 4 [.ref 115, .ref 3, .int x2] (hp (some 114) nh rh TK (RK (some 3)) I L) = some (none, hp (some 114) nh rh TK (RK (some 3)) r.1 r.2) := by
  refine en_run (d := d + 1) (cd := cd_4) (f := (sf 1 rs_1 false 6 none Ls xs (d + 1))) rfl rfl (x := (0, [some (.ref 115), some (.ref 3), some (.int x2), none, none, none], [], hp (some 114) nh rh TK (RK (some 3)) I L)) rfl rfl (Nat.le_of_ble_eq_true rfl) ?_
  unfold f_4 at hf
  refine bs_st 9 (x' := (15, [some (.ref 115), some (.ref 3), some (.int x2), some (.int (0 : Int32)), none, none], [], hp (some 114) nh rh TK (RK (some 3)) (u2 (u2 I 115 2 (I 3 1)) 115 1 (0 : Int32)) L)) rfl ?_
  exact tc_4_0 Ls xs d nh rh n n none none x2 (0 : Int32) (u2 (u2 I 115 2 (I 3 1)) 115 1 (0 : Int32)) L r hf
/-- Keeper.wipe() on (114,) -/
def b_39_0 (n : Nat) (K0 : Int32 → FI → FL → Option (FI × FL)) (x1 : Int32) (I : FI) (L : FL) : Option (FI × FL) :=
  if (512 : Int32) ≤ x1 then
    some (I, L)
  else
    if pin x1 512 = true then K0 (x1 + (1 : Int32)) I (u2 L 117 x1.toNatClampNeg (0 : Int64)) else none
def c_39_0 (n : Nat) : Nat → Int32 → FI → FL → Option (FI × FL)
  | 0, _, _, _ => none
  | m + 1, x1, I, L => b_39_0 n (c_39_0 n m) x1 I L
set_option maxHeartbeats 1000000 in
set_option maxRecDepth 20000 in
theorem tc_39_0 (Ls : Nat) (xs : Nat → Int32) (d : Nat) (nh : Option Nat) (rh : Option Nat) (n : Nat) : ∀ (m : Nat) (x1 : Int32) (I : FI) (L : FL) (r : FI × FL), c_39_0 n m x1 I L = some r → Bs cd_39 (sf 5 rs_5 false 2 none Ls xs (d + 0)) (2, [some (.ref 114), some (.int x1)], [], hp (some 114) nh rh TK (RK (some 3)) I L) (none, hp (some 114) nh rh TK (RK (some 3)) r.1 r.2)
  | 0, x1, I, L, r, hf => by cases hf
  | m + 1, x1, I, L, r, hf => by
    unfold c_39_0 b_39_0 at hf
    have hK0 := tc_39_0 Ls xs d nh rh n m
    refine bs_st 4 (x' := (8, [some (.ref 114), some (.int x1)], [.int (512 : Int32), .int x1], hp (some 114) nh rh TK (RK (some 3)) I L)) rfl ?_
    refine bs_br (t := 24) (e := 11) (lo := [some (.ref 114), some (.int x1)]) (st := []) (h := hp (some 114) nh rh TK (RK (some 3)) I L) rfl hf (fun hc hf => ?_) (fun hc hf => ?_)
    · cases hf
      exact bs_ret rfl
    · refine bs_st 4 (x' := (17, [some (.ref 114), some (.int x1)], [.long (0 : Int64), .int x1, .ref 117], hp (some 114) nh rh TK (RK (some 3)) I L)) rfl ?_
      refine bs_gd (x' := (18, [some (.ref 114), some (.int x1)], [], hp (some 114) nh rh TK (RK (some 3)) I (u2 L 117 x1.toNatClampNeg (0 : Int64)))) rfl hf (fun hc hf => ?_)
      refine bs_st 2 (x' := (2, [some (.ref 114), some (.int (x1 + (1 : Int32)))], [], hp (some 114) nh rh TK (RK (some 3)) I (u2 L 117 x1.toNatClampNeg (0 : Int64)))) rfl ?_
      exact hK0 (x1 + (1 : Int32)) I (u2 L 117 x1.toNatClampNeg (0 : Int64)) r hf
def f_39 (n : Nat) (I : FI) (L : FL) : Option (FI × FL) :=
  c_39_0 n n (0 : Int32) I L
set_option maxHeartbeats 1000000 in
set_option maxRecDepth 20000 in
theorem t_39 (Ls : Nat) (xs : Nat → Int32) (d : Nat) (nh : Option Nat) (rh : Option Nat) (n : Nat) (I : FI) (L : FL) (r : FI × FL) (hf : f_39 n I L = some r) : pEN Ls xs (d + 1) 39 [.ref 114] (hp (some 114) nh rh TK (RK (some 3)) I L) = some (none, hp (some 114) nh rh TK (RK (some 3)) r.1 r.2) := by
  refine en_run (d := d + 0) (cd := cd_39) (f := (sf 5 rs_5 false 2 none Ls xs (d + 0))) rfl rfl (x := (0, [some (.ref 114), none], [], hp (some 114) nh rh TK (RK (some 3)) I L)) rfl rfl (Nat.le_of_ble_eq_true rfl) ?_
  unfold f_39 at hf
  refine bs_st 2 (x' := (2, [some (.ref 114), some (.int (0 : Int32))], [], hp (some 114) nh rh TK (RK (some 3)) I L)) rfl ?_
  exact tc_39_0 Ls xs d nh rh n n (0 : Int32) I L r hf
/-- Keeper.makeReady(I) on (114,) -/
def f_38 (n : Nat) (x1 : Int32) (I : FI) (L : FL) : Option (FI × FL) :=
  if I 114 7 = x1 then
    some (I, L)
  else
    (f_4 n x1 I L).bind fun q0 =>
    (f_39 n q0.1 q0.2).bind fun q1 =>
    some ((u2 q1.1 114 7 x1), q1.2)
set_option maxHeartbeats 1000000 in
set_option maxRecDepth 20000 in
theorem t_38 (Ls : Nat) (xs : Nat → Int32) (d : Nat) (nh : Option Nat) (rh : Option Nat) (n : Nat) (x1 : Int32) (I : FI) (L : FL) (r : FI × FL) (hf : f_38 n x1 I L = some r) : pEN Ls xs (d + 3) 38 [.ref 114, .int x1] (hp (some 114) nh rh TK (RK (some 3)) I L) = some (none, hp (some 114) nh rh TK (RK (some 3)) r.1 r.2) := by
  refine en_run (d := d + 2) (cd := cd_38) (f := (sf 5 rs_5 false 2 none Ls xs (d + 2))) rfl rfl (x := (0, [some (.ref 114), some (.int x1)], [], hp (some 114) nh rh TK (RK (some 3)) I L)) rfl rfl (Nat.le_of_ble_eq_true rfl) ?_
  unfold f_38 at hf
  refine bs_st 3 (x' := (5, [some (.ref 114), some (.int x1)], [.int x1, .int (I 114 7)], hp (some 114) nh rh TK (RK (some 3)) I L)) rfl ?_
  refine bs_br (t := 29) (e := 8) (lo := [some (.ref 114), some (.int x1)]) (st := []) (h := hp (some 114) nh rh TK (RK (some 3)) I L) rfl hf (fun hc hf => ?_) (fun hc hf => ?_)
  · cases hf
    exact bs_ret rfl
  · refine bs_st 5 (x' := (17, [some (.ref 114), some (.int x1)], [.int x1, .ref 3, .ref 115], hp (some 114) nh rh TK (RK (some 3)) I L)) rfl ?_
    obtain ⟨q0, hq0, hf⟩ := Option.bind_eq_some_iff.mp hf
    refine bs_call (o := pEN Ls xs (d + 2) 4 [.ref 115, .ref 3, .int x1] (hp (some 114) nh rh TK (RK (some 3)) I L)) (w := none) (h' := hp (some 114) nh rh TK (RK (some 3)) q0.1 q0.2) (pc := 20) (lo := [some (.ref 114), some (.int x1)]) (rest := []) rfl (t_4 Ls xs (d + 0) nh rh n x1 I L q0 hq0) ?_
    refine bs_st 1 (x' := (21, [some (.ref 114), some (.int x1)], [.ref 114], hp (some 114) nh rh TK (RK (some 3)) q0.1 q0.2)) rfl ?_
    obtain ⟨q1, hq1, hf⟩ := Option.bind_eq_some_iff.mp hf
    refine bs_call (o := pEN Ls xs (d + 2) 39 [.ref 114] (hp (some 114) nh rh TK (RK (some 3)) q0.1 q0.2)) (w := none) (h' := hp (some 114) nh rh TK (RK (some 3)) q1.1 q1.2) (pc := 24) (lo := [some (.ref 114), some (.int x1)]) (rest := []) rfl (t_39 Ls xs (d + 1) nh rh n q0.1 q0.2 q1 hq1) ?_
    refine bs_st 3 (x' := (29, [some (.ref 114), some (.int x1)], [], hp (some 114) nh rh TK (RK (some 3)) (u2 q1.1 114 7 x1) q1.2)) rfl ?_
    cases hf
    exact bs_ret rfl
/-- Ageing.after(III) on (115,) -/
def c_7_0 (I : FI) (L : FL) (x1 : Int32) (x3 : Int32) (x4 : Int32) (x5 : Int32) (x6 : Int32) : Option (Int32) :=
  if pin x3 4 = true then (if ¬ (((((x1 - (x5 <<< (x4 &&& 31))) + (x6 <<< (x4 &&& 31))) + (I 116 x3.toNatClampNeg)) + (I 115 1)) &&& (34952 : Int32)) = 0 then
      some ((-1 : Int32))
    else
      some ((((x1 - (x5 <<< (x4 &&& 31))) + (x6 <<< (x4 &&& 31))) + (I 116 x3.toNatClampNeg)))) else none
set_option maxHeartbeats 1000000 in
set_option maxRecDepth 20000 in
theorem tc_7_0 (Ls : Nat) (xs : Nat → Int32) (d : Nat) (nh : Option Nat) (rh : Option Nat) (I : FI) (L : FL) (w2 : Option Value) (w7 : Option Value) (x1 : Int32) (x3 : Int32) (x4 : Int32) (x5 : Int32) (x6 : Int32) (r : Int32) (hf : c_7_0 I L x1 x3 x4 x5 x6 = some r) : Bs cd_7 (sf 1 rs_1 false 8 (some (.int)) Ls xs (d + 0)) (51, [some (.ref 115), some (.int x1), w2, some (.int x3), some (.int x4), some (.int x5), some (.int x6), w7], [], hp (some 114) nh rh TK (RK (some 3)) I L) (some (.int r), hp (some 114) nh rh TK (RK (some 3)) I L) := by
  unfold c_7_0 at hf
  refine bs_st 12 (x' := (69, [some (.ref 115), some (.int x1), w2, some (.int x3), some (.int x4), some (.int x5), some (.int x6), w7], [.int x3, .ref 116, .int ((x1 - (x5 <<< (x4 &&& 31))) + (x6 <<< (x4 &&& 31)))], hp (some 114) nh rh TK (RK (some 3)) I L)) rfl ?_
  refine bs_gd (x' := (70, [some (.ref 115), some (.int x1), w2, some (.int x3), some (.int x4), some (.int x5), some (.int x6), w7], [.int (I 116 x3.toNatClampNeg), .int ((x1 - (x5 <<< (x4 &&& 31))) + (x6 <<< (x4 &&& 31)))], hp (some 114) nh rh TK (RK (some 3)) I L)) rfl hf (fun hc hf => ?_)
  refine bs_st 8 (x' := (83, [some (.ref 115), some (.int x1), w2, some (.int x3), some (.int x4), some (.int x5), some (.int x6), some (.int (((x1 - (x5 <<< (x4 &&& 31))) + (x6 <<< (x4 &&& 31))) + (I 116 x3.toNatClampNeg)))], [.int (((((x1 - (x5 <<< (x4 &&& 31))) + (x6 <<< (x4 &&& 31))) + (I 116 x3.toNatClampNeg)) + (I 115 1)) &&& (34952 : Int32))], hp (some 114) nh rh TK (RK (some 3)) I L)) rfl ?_
  refine bs_br (t := 91) (e := 86) (lo := [some (.ref 115), some (.int x1), w2, some (.int x3), some (.int x4), some (.int x5), some (.int x6), some (.int (((x1 - (x5 <<< (x4 &&& 31))) + (x6 <<< (x4 &&& 31))) + (I 116 x3.toNatClampNeg)))]) (st := []) (h := hp (some 114) nh rh TK (RK (some 3)) I L) rfl hf (fun hc hf => ?_) (fun hc hf => ?_)
  · refine bs_st 1 (x' := (92, [some (.ref 115), some (.int x1), w2, some (.int x3), some (.int x4), some (.int x5), some (.int x6), some (.int (((x1 - (x5 <<< (x4 &&& 31))) + (x6 <<< (x4 &&& 31))) + (I 116 x3.toNatClampNeg)))], [.int (-1 : Int32)], hp (some 114) nh rh TK (RK (some 3)) I L)) rfl ?_
    cases hf
    exact bs_ret rfl
  · refine bs_st 2 (x' := (92, [some (.ref 115), some (.int x1), w2, some (.int x3), some (.int x4), some (.int x5), some (.int x6), some (.int (((x1 - (x5 <<< (x4 &&& 31))) + (x6 <<< (x4 &&& 31))) + (I 116 x3.toNatClampNeg)))], [.int (((x1 - (x5 <<< (x4 &&& 31))) + (x6 <<< (x4 &&& 31))) + (I 116 x3.toNatClampNeg))], hp (some 114) nh rh TK (RK (some 3)) I L)) rfl ?_
    cases hf
    exact bs_ret rfl
def f_7 (x1 : Int32) (x2 : Int32) (x3 : Int32) (I : FI) (L : FL) : Option (Int32) :=
  if ¬ I 115 2 = (1 : Int32) then
    if ¬ I 115 2 = (2 : Int32) then
      c_7_0 I L x1 x3 ((4 : Int32) * x3) ((x1 >>> (((4 : Int32) * x3) &&& 31)) &&& (15 : Int32)) (0 : Int32)
    else
      if x2 = x3 then
        c_7_0 I L x1 x3 ((4 : Int32) * x3) ((x1 >>> (((4 : Int32) * x3) &&& 31)) &&& (15 : Int32)) (0 : Int32)
      else
        c_7_0 I L x1 x3 ((4 : Int32) * x3) ((x1 >>> (((4 : Int32) * x3) &&& 31)) &&& (15 : Int32)) ((x1 >>> (((4 : Int32) * x3) &&& 31)) &&& (15 : Int32))
  else
    c_7_0 I L x1 x3 ((4 : Int32) * x3) ((x1 >>> (((4 : Int32) * x3) &&& 31)) &&& (15 : Int32)) (((x1 >>> (((4 : Int32) * x3) &&& 31)) &&& (15 : Int32)) >>> ((1 : Int32) &&& 31))
set_option maxHeartbeats 1000000 in
set_option maxRecDepth 20000 in
theorem t_7 (Ls : Nat) (xs : Nat → Int32) (d : Nat) (nh : Option Nat) (rh : Option Nat) (x1 : Int32) (x2 : Int32) (x3 : Int32) (I : FI) (L : FL) (r : Int32) (hf : f_7 x1 x2 x3 I L = some r) : pEN Ls xs (d + 1) 7 [.ref 115, .int x1, .int x2, .int x3] (hp (some 114) nh rh TK (RK (some 3)) I L) = some (some (.int r), hp (some 114) nh rh TK (RK (some 3)) I L) := by
  refine en_run (d := d + 0) (cd := cd_7) (f := (sf 1 rs_1 false 8 (some (.int)) Ls xs (d + 0))) rfl rfl (x := (0, [some (.ref 115), some (.int x1), some (.int x2), some (.int x3), none, none, none, none], [], hp (some 114) nh rh TK (RK (some 3)) I L)) rfl rfl (Nat.le_of_ble_eq_true rfl) ?_
  unfold f_7 at hf
  refine bs_st 15 (x' := (22, [some (.ref 115), some (.int x1), some (.int x2), some (.int x3), some (.int ((4 : Int32) * x3)), some (.int ((x1 >>> (((4 : Int32) * x3) &&& 31)) &&& (15 : Int32))), some (.int (0 : Int32)), none], [.int (1 : Int32), .int (I 115 2)], hp (some 114) nh rh TK (RK (some 3)) I L)) rfl ?_
  refine bs_br (t := 34) (e := 25) (lo := [some (.ref 115), some (.int x1), some (.int x2), some (.int x3), some (.int ((4 : Int32) * x3)), some (.int ((x1 >>> (((4 : Int32) * x3) &&& 31)) &&& (15 : Int32))), some (.int (0 : Int32)), none]) (st := []) (h := hp (some 114) nh rh TK (RK (some 3)) I L) rfl hf (fun hc hf => ?_) (fun hc hf => ?_)
  · refine bs_st 3 (x' := (39, [some (.ref 115), some (.int x1), some (.int x2), some (.int x3), some (.int ((4 : Int32) * x3)), some (.int ((x1 >>> (((4 : Int32) * x3) &&& 31)) &&& (15 : Int32))), some (.int (0 : Int32)), none], [.int (2 : Int32), .int (I 115 2)], hp (some 114) nh rh TK (RK (some 3)) I L)) rfl ?_
    refine bs_br (t := 51) (e := 42) (lo := [some (.ref 115), some (.int x1), some (.int x2), some (.int x3), some (.int ((4 : Int32) * x3)), some (.int ((x1 >>> (((4 : Int32) * x3) &&& 31)) &&& (15 : Int32))), some (.int (0 : Int32)), none]) (st := []) (h := hp (some 114) nh rh TK (RK (some 3)) I L) rfl hf (fun hc hf => ?_) (fun hc hf => ?_)
    · exact tc_7_0 Ls xs d nh rh I L (some (.int x2)) none x1 x3 ((4 : Int32) * x3) ((x1 >>> (((4 : Int32) * x3) &&& 31)) &&& (15 : Int32)) (0 : Int32) r hf
    · refine bs_st 2 (x' := (44, [some (.ref 115), some (.int x1), some (.int x2), some (.int x3), some (.int ((4 : Int32) * x3)), some (.int ((x1 >>> (((4 : Int32) * x3) &&& 31)) &&& (15 : Int32))), some (.int (0 : Int32)), none], [.int x3, .int x2], hp (some 114) nh rh TK (RK (some 3)) I L)) rfl ?_
      refine bs_br (t := 51) (e := 47) (lo := [some (.ref 115), some (.int x1), some (.int x2), some (.int x3), some (.int ((4 : Int32) * x3)), some (.int ((x1 >>> (((4 : Int32) * x3) &&& 31)) &&& (15 : Int32))), some (.int (0 : Int32)), none]) (st := []) (h := hp (some 114) nh rh TK (RK (some 3)) I L) rfl hf (fun hc hf => ?_) (fun hc hf => ?_)
      · exact tc_7_0 Ls xs d nh rh I L (some (.int x2)) none x1 x3 ((4 : Int32) * x3) ((x1 >>> (((4 : Int32) * x3) &&& 31)) &&& (15 : Int32)) (0 : Int32) r hf
      · refine bs_st 2 (x' := (51, [some (.ref 115), some (.int x1), some (.int x2), some (.int x3), some (.int ((4 : Int32) * x3)), some (.int ((x1 >>> (((4 : Int32) * x3) &&& 31)) &&& (15 : Int32))), some (.int ((x1 >>> (((4 : Int32) * x3) &&& 31)) &&& (15 : Int32))), none], [], hp (some 114) nh rh TK (RK (some 3)) I L)) rfl ?_
        exact tc_7_0 Ls xs d nh rh I L (some (.int x2)) none x1 x3 ((4 : Int32) * x3) ((x1 >>> (((4 : Int32) * x3) &&& 31)) &&& (15 : Int32)) ((x1 >>> (((4 : Int32) * x3) &&& 31)) &&& (15 : Int32)) r hf
  · refine bs_st 5 (x' := (51, [some (.ref 115), some (.int x1), some (.int x2), some (.int x3), some (.int ((4 : Int32) * x3)), some (.int ((x1 >>> (((4 : Int32) * x3) &&& 31)) &&& (15 : Int32))), some (.int (((x1 >>> (((4 : Int32) * x3) &&& 31)) &&& (15 : Int32)) >>> ((1 : Int32) &&& 31))), none], [], hp (some 114) nh rh TK (RK (some 3)) I L)) rfl ?_
    exact tc_7_0 Ls xs d nh rh I L (some (.int x2)) none x1 x3 ((4 : Int32) * x3) ((x1 >>> (((4 : Int32) * x3) &&& 31)) &&& (15 : Int32)) (((x1 >>> (((4 : Int32) * x3) &&& 31)) &&& (15 : Int32)) >>> ((1 : Int32) &&& 31)) r hf
/-- java/lang/Math.max(II) on () -/
def f_358_1 (x0 : Int32) (x1 : Int32) (I : FI) (L : FL) : Option (Int32) :=
  if x0 < x1 then
    some (x1)
  else
    some (x0)
set_option maxHeartbeats 1000000 in
set_option maxRecDepth 20000 in
theorem t_358_1 (Ls : Nat) (xs : Nat → Int32) (d : Nat) (kp : Option Nat) (tl : List (Nat × Nat)) (rl : List (List (Option Nat))) (nh : Option Nat) (rh : Option Nat) (x0 : Int32) (x1 : Int32) (I : FI) (L : FL) (r : Int32) (hf : f_358_1 x0 x1 I L = some r) : pEN Ls xs (d + 1) 358 [.int x0, .int x1] (hp kp nh rh tl rl I L) = some (some (.int r), hp kp nh rh tl rl I L) := by
  refine en_run (d := d + 0) (cd := cd_358) (f := (sf 14 rs_14 false 2 (some (.int)) Ls xs (d + 0))) rfl rfl (x := (0, [some (.int x0), some (.int x1)], [], hp kp nh rh tl rl I L)) rfl rfl (Nat.le_of_ble_eq_true rfl) ?_
  unfold f_358_1 at hf
  refine bs_st 2 (x' := (2, [some (.int x0), some (.int x1)], [.int x1, .int x0], hp kp nh rh tl rl I L)) rfl ?_
  refine bs_br (t := 9) (e := 5) (lo := [some (.int x0), some (.int x1)]) (st := []) (h := hp kp nh rh tl rl I L) rfl hf (fun hc hf => ?_) (fun hc hf => ?_)
  · refine bs_st 1 (x' := (10, [some (.int x0), some (.int x1)], [.int x1], hp kp nh rh tl rl I L)) rfl ?_
    cases hf
    exact bs_ret rfl
  · refine bs_st 2 (x' := (10, [some (.int x0), some (.int x1)], [.int x0], hp kp nh rh tl rl I L)) rfl ?_
    cases hf
    exact bs_ret rfl
/-- Keeper.startIn(I) on (114,) -/
def f_40 (x1 : Int32) (I : FI) (L : FL) : Option (Int32) :=
  (f_7 (0 : Int32) (-1 : Int32) x1 I L).bind fun q0 =>
  (f_358_1 (0 : Int32) q0 I L).bind fun q1 =>
  some (((x1 <<< ((16 : Int32) &&& 31)) ||| q1))
set_option maxHeartbeats 1000000 in
set_option maxRecDepth 20000 in
theorem t_40 (Ls : Nat) (xs : Nat → Int32) (d : Nat) (nh : Option Nat) (rh : Option Nat) (x1 : Int32) (I : FI) (L : FL) (r : Int32) (hf : f_40 x1 I L = some r) : pEN Ls xs (d + 2) 40 [.ref 114, .int x1] (hp (some 114) nh rh TK (RK (some 3)) I L) = some (some (.int r), hp (some 114) nh rh TK (RK (some 3)) I L) := by
  refine en_run (d := d + 1) (cd := cd_40) (f := (sf 5 rs_5 false 2 (some (.int)) Ls xs (d + 1))) rfl rfl (x := (0, [some (.ref 114), some (.int x1)], [], hp (some 114) nh rh TK (RK (some 3)) I L)) rfl rfl (Nat.le_of_ble_eq_true rfl) ?_
  unfold f_40 at hf
  refine bs_st 9 (x' := (12, [some (.ref 114), some (.int x1)], [.int x1, .int (-1 : Int32), .int (0 : Int32), .ref 115, .int (0 : Int32), .int (x1 <<< ((16 : Int32) &&& 31))], hp (some 114) nh rh TK (RK (some 3)) I L)) rfl ?_
  obtain ⟨q0, hq0, hf⟩ := Option.bind_eq_some_iff.mp hf
  refine bs_call (o := pEN Ls xs (d + 1) 7 [.ref 115, .int (0 : Int32), .int (-1 : Int32), .int x1] (hp (some 114) nh rh TK (RK (some 3)) I L)) (w := some (.int q0)) (h' := hp (some 114) nh rh TK (RK (some 3)) I L) (pc := 15) (lo := [some (.ref 114), some (.int x1)]) (rest := [.int (0 : Int32), .int (x1 <<< ((16 : Int32) &&& 31))]) rfl (t_7 Ls xs (d + 0) nh rh (0 : Int32) (-1 : Int32) x1 I L q0 hq0) ?_
  obtain ⟨q1, hq1, hf⟩ := Option.bind_eq_some_iff.mp hf
  refine bs_call (o := pEN Ls xs (d + 1) 358 [.int (0 : Int32), .int q0] (hp (some 114) nh rh TK (RK (some 3)) I L)) (w := some (.int q1)) (h' := hp (some 114) nh rh TK (RK (some 3)) I L) (pc := 18) (lo := [some (.ref 114), some (.int x1)]) (rest := [.int (x1 <<< ((16 : Int32) &&& 31))]) rfl (t_358_1 Ls xs (d + 0) (some 114) TK (RK (some 3)) nh rh (0 : Int32) q0 I L q1 hq1) ?_
  refine bs_st 1 (x' := (19, [some (.ref 114), some (.int x1)], [.int ((x1 <<< ((16 : Int32) &&& 31)) ||| q1)], hp (some 114) nh rh TK (RK (some 3)) I L)) rfl ?_
  cases hf
  exact bs_ret rfl
/-- Keeper.indexOf(I) on () -/
def f_48 (x0 : Int32) (I : FI) (L : FL) : Option (Int32) :=
  some ((((x0 >>> ((16 : Int32) &&& 31)) <<< ((12 : Int32) &&& 31)) ||| ((((x0 &&& (7 : Int32)) ||| ((x0 >>> ((1 : Int32) &&& 31)) &&& (56 : Int32))) ||| ((x0 >>> ((2 : Int32) &&& 31)) &&& (448 : Int32))) ||| ((x0 >>> ((3 : Int32) &&& 31)) &&& (3584 : Int32)))))
set_option maxHeartbeats 1000000 in
set_option maxRecDepth 20000 in
theorem t_48 (Ls : Nat) (xs : Nat → Int32) (d : Nat) (nh : Option Nat) (rh : Option Nat) (x0 : Int32) (I : FI) (L : FL) (r : Int32) (hf : f_48 x0 I L = some r) : pEN Ls xs (d + 1) 48 [.int x0] (hp (some 114) nh rh TK (RK (some 3)) I L) = some (some (.int r), hp (some 114) nh rh TK (RK (some 3)) I L) := by
  refine en_run (d := d + 0) (cd := cd_48) (f := (sf 5 rs_5 false 2 (some (.int)) Ls xs (d + 0))) rfl rfl (x := (0, [some (.int x0), none], [], hp (some 114) nh rh TK (RK (some 3)) I L)) rfl rfl (Nat.le_of_ble_eq_true rfl) ?_
  unfold f_48 at hf
  refine bs_st 24 (x' := (31, [some (.int x0), some (.int ((((x0 &&& (7 : Int32)) ||| ((x0 >>> ((1 : Int32) &&& 31)) &&& (56 : Int32))) ||| ((x0 >>> ((2 : Int32) &&& 31)) &&& (448 : Int32))) ||| ((x0 >>> ((3 : Int32) &&& 31)) &&& (3584 : Int32))))], [.int (16 : Int32), .int x0], hp (some 114) nh rh TK (RK (some 3)) I L)) rfl ?_
  refine bs_st 5 (x' := (37, [some (.int x0), some (.int ((((x0 &&& (7 : Int32)) ||| ((x0 >>> ((1 : Int32) &&& 31)) &&& (56 : Int32))) ||| ((x0 >>> ((2 : Int32) &&& 31)) &&& (448 : Int32))) ||| ((x0 >>> ((3 : Int32) &&& 31)) &&& (3584 : Int32))))], [.int (((x0 >>> ((16 : Int32) &&& 31)) <<< ((12 : Int32) &&& 31)) ||| ((((x0 &&& (7 : Int32)) ||| ((x0 >>> ((1 : Int32) &&& 31)) &&& (56 : Int32))) ||| ((x0 >>> ((2 : Int32) &&& 31)) &&& (448 : Int32))) ||| ((x0 >>> ((3 : Int32) &&& 31)) &&& (3584 : Int32))))], hp (some 114) nh rh TK (RK (some 3)) I L)) rfl ?_
  cases hf
  exact bs_ret rfl
/-- Keeper.markAt(I) on (114,) -/
def f_50 (x1 : Int32) (I : FI) (L : FL) : Option (Int32) :=
  if pin (x1 >>> ((5 : Int32) &&& 31)) 512 = true then some (((((L 117 ((x1 >>> ((5 : Int32) &&& 31)).toNatClampNeg)) >>> (((2 : Int32) * (x1 &&& (31 : Int32))).toInt64 &&& 63)).toInt32) &&& (3 : Int32))) else none
set_option maxHeartbeats 1000000 in
set_option maxRecDepth 20000 in
theorem t_50 (Ls : Nat) (xs : Nat → Int32) (d : Nat) (nh : Option Nat) (rh : Option Nat) (x1 : Int32) (I : FI) (L : FL) (r : Int32) (hf : f_50 x1 I L = some r) : pEN Ls xs (d + 1) 50 [.ref 114, .int x1] (hp (some 114) nh rh TK (RK (some 3)) I L) = some (some (.int r), hp (some 114) nh rh TK (RK (some 3)) I L) := by
  refine en_run (d := d + 0) (cd := cd_50) (f := (sf 5 rs_5 false 2 (some (.int)) Ls xs (d + 0))) rfl rfl (x := (0, [some (.ref 114), some (.int x1)], [], hp (some 114) nh rh TK (RK (some 3)) I L)) rfl rfl (Nat.le_of_ble_eq_true rfl) ?_
  unfold f_50 at hf
  refine bs_st 5 (x' := (7, [some (.ref 114), some (.int x1)], [.int (x1 >>> ((5 : Int32) &&& 31)), .ref 117], hp (some 114) nh rh TK (RK (some 3)) I L)) rfl ?_
  refine bs_gd (x' := (8, [some (.ref 114), some (.int x1)], [.long (L 117 ((x1 >>> ((5 : Int32) &&& 31)).toNatClampNeg))], hp (some 114) nh rh TK (RK (some 3)) I L)) rfl hf (fun hc hf => ?_)
  refine bs_st 9 (x' := (18, [some (.ref 114), some (.int x1)], [.int ((((L 117 ((x1 >>> ((5 : Int32) &&& 31)).toNatClampNeg)) >>> (((2 : Int32) * (x1 &&& (31 : Int32))).toInt64 &&& 63)).toInt32) &&& (3 : Int32))], hp (some 114) nh rh TK (RK (some 3)) I L)) rfl ?_
  cases hf
  exact bs_ret rfl
/-- Keeper.mark(II) on (114,) -/
def f_51 (x1 : Int32) (x2 : Int32) (I : FI) (L : FL) : Option (FI × FL) :=
  if pin (x1 >>> ((5 : Int32) &&& 31)) 512 = true then (if pin (x1 >>> ((5 : Int32) &&& 31)) 512 = true then some (I, (u2 L 117 ((x1 >>> ((5 : Int32) &&& 31)).toNatClampNeg) (((L 117 ((x1 >>> ((5 : Int32) &&& 31)).toNatClampNeg)) &&& (((3 : Int64) <<< (((2 : Int32) * (x1 &&& (31 : Int32))).toInt64 &&& 63)) ^^^ (-1 : Int64))) ||| (x2.toInt64 <<< (((2 : Int32) * (x1 &&& (31 : Int32))).toInt64 &&& 63))))) else none) else none
set_option maxHeartbeats 1000000 in
set_option maxRecDepth 20000 in
theorem t_51 (Ls : Nat) (xs : Nat → Int32) (d : Nat) (nh : Option Nat) (rh : Option Nat) (x1 : Int32) (x2 : Int32) (I : FI) (L : FL) (r : FI × FL) (hf : f_51 x1 x2 I L = some r) : pEN Ls xs (d + 1) 51 [.ref 114, .int x1, .int x2] (hp (some 114) nh rh TK (RK (some 3)) I L) = some (none, hp (some 114) nh rh TK (RK (some 3)) r.1 r.2) := by
  refine en_run (d := d + 0) (cd := cd_51) (f := (sf 5 rs_5 false 4 none Ls xs (d + 0))) rfl rfl (x := (0, [some (.ref 114), some (.int x1), some (.int x2), none], [], hp (some 114) nh rh TK (RK (some 3)) I L)) rfl rfl (Nat.le_of_ble_eq_true rfl) ?_
  unfold f_51 at hf
  refine bs_st 16 (x' := (21, [some (.ref 114), some (.int x1), some (.int x2), some (.int ((2 : Int32) * (x1 &&& (31 : Int32))))], [.int (x1 >>> ((5 : Int32) &&& 31)), .ref 117, .int (x1 >>> ((5 : Int32) &&& 31)), .ref 117], hp (some 114) nh rh TK (RK (some 3)) I L)) rfl ?_
  refine bs_gd (x' := (22, [some (.ref 114), some (.int x1), some (.int x2), some (.int ((2 : Int32) * (x1 &&& (31 : Int32))))], [.long (L 117 ((x1 >>> ((5 : Int32) &&& 31)).toNatClampNeg)), .int (x1 >>> ((5 : Int32) &&& 31)), .ref 117], hp (some 114) nh rh TK (RK (some 3)) I L)) rfl hf (fun hc hf => ?_)
  refine bs_st 11 (x' := (37, [some (.ref 114), some (.int x1), some (.int x2), some (.int ((2 : Int32) * (x1 &&& (31 : Int32))))], [.long (((L 117 ((x1 >>> ((5 : Int32) &&& 31)).toNatClampNeg)) &&& (((3 : Int64) <<< (((2 : Int32) * (x1 &&& (31 : Int32))).toInt64 &&& 63)) ^^^ (-1 : Int64))) ||| (x2.toInt64 <<< (((2 : Int32) * (x1 &&& (31 : Int32))).toInt64 &&& 63))), .int (x1 >>> ((5 : Int32) &&& 31)), .ref 117], hp (some 114) nh rh TK (RK (some 3)) I L)) rfl ?_
  refine bs_gd (x' := (38, [some (.ref 114), some (.int x1), some (.int x2), some (.int ((2 : Int32) * (x1 &&& (31 : Int32))))], [], hp (some 114) nh rh TK (RK (some 3)) I (u2 L 117 ((x1 >>> ((5 : Int32) &&& 31)).toNatClampNeg) (((L 117 ((x1 >>> ((5 : Int32) &&& 31)).toNatClampNeg)) &&& (((3 : Int64) <<< (((2 : Int32) * (x1 &&& (31 : Int32))).toInt64 &&& 63)) ^^^ (-1 : Int64))) ||| (x2.toInt64 <<< (((2 : Int32) * (x1 &&& (31 : Int32))).toInt64 &&& 63)))))) rfl hf (fun hc hf => ?_)
  cases hf
  exact bs_ret rfl
/-- Keeper.push(II) on (114,) -/
def f_44 (x1 : Int32) (x2 : Int32) (I : FI) (L : FL) : Option (FI × FL) :=
  (f_48 x2 I L).bind fun q0 =>
  if pin x1 16384 = true then (if pin q0 16384 = true then ((f_51 q0 (1 : Int32) (u2 (u2 I 118 x1.toNatClampNeg (x2 <<< ((3 : Int32) &&& 31))) 119 q0.toNatClampNeg (vp_nar .byte (0 : Int32))) L).bind fun q1 =>
      some (q1.1, q1.2)) else none) else none
set_option maxHeartbeats 1000000 in
set_option maxRecDepth 20000 in
theorem t_44 (Ls : Nat) (xs : Nat → Int32) (d : Nat) (nh : Option Nat) (rh : Option Nat) (x1 : Int32) (x2 : Int32) (I : FI) (L : FL) (r : FI × FL) (hf : f_44 x1 x2 I L = some r) : pEN Ls xs (d + 2) 44 [.ref 114, .int x1, .int x2] (hp (some 114) nh rh TK (RK (some 3)) I L) = some (none, hp (some 114) nh rh TK (RK (some 3)) r.1 r.2) := by
  refine en_run (d := d + 1) (cd := cd_44) (f := (sf 5 rs_5 false 4 none Ls xs (d + 1))) rfl rfl (x := (0, [some (.ref 114), some (.int x1), some (.int x2), none], [], hp (some 114) nh rh TK (RK (some 3)) I L)) rfl rfl (Nat.le_of_ble_eq_true rfl) ?_
  unfold f_44 at hf
  refine bs_st 1 (x' := (1, [some (.ref 114), some (.int x1), some (.int x2), none], [.int x2], hp (some 114) nh rh TK (RK (some 3)) I L)) rfl ?_
  obtain ⟨q0, hq0, hf⟩ := Option.bind_eq_some_iff.mp hf
  refine bs_call (o := pEN Ls xs (d + 1) 48 [.int x2] (hp (some 114) nh rh TK (RK (some 3)) I L)) (w := some (.int q0)) (h' := hp (some 114) nh rh TK (RK (some 3)) I L) (pc := 4) (lo := [some (.ref 114), some (.int x1), some (.int x2), none]) (rest := []) rfl (t_48 Ls xs (d + 0) nh rh x2 I L q0 hq0) ?_
  refine bs_st 7 (x' := (13, [some (.ref 114), some (.int x1), some (.int x2), some (.int q0)], [.int (x2 <<< ((3 : Int32) &&& 31)), .int x1, .ref 118], hp (some 114) nh rh TK (RK (some 3)) I L)) rfl ?_
  refine bs_gd (x' := (14, [some (.ref 114), some (.int x1), some (.int x2), some (.int q0)], [], hp (some 114) nh rh TK (RK (some 3)) (u2 I 118 x1.toNatClampNeg (x2 <<< ((3 : Int32) &&& 31))) L)) rfl hf (fun hc hf => ?_)
  refine bs_st 4 (x' := (20, [some (.ref 114), some (.int x1), some (.int x2), some (.int q0)], [.int (0 : Int32), .int q0, .ref 119], hp (some 114) nh rh TK (RK (some 3)) (u2 I 118 x1.toNatClampNeg (x2 <<< ((3 : Int32) &&& 31))) L)) rfl ?_
  refine bs_gd (x' := (21, [some (.ref 114), some (.int x1), some (.int x2), some (.int q0)], [], hp (some 114) nh rh TK (RK (some 3)) (u2 (u2 I 118 x1.toNatClampNeg (x2 <<< ((3 : Int32) &&& 31))) 119 q0.toNatClampNeg (vp_nar .byte (0 : Int32))) L)) rfl hf (fun hc hf => ?_)
  refine bs_st 3 (x' := (24, [some (.ref 114), some (.int x1), some (.int x2), some (.int q0)], [.int (1 : Int32), .int q0, .ref 114], hp (some 114) nh rh TK (RK (some 3)) (u2 (u2 I 118 x1.toNatClampNeg (x2 <<< ((3 : Int32) &&& 31))) 119 q0.toNatClampNeg (vp_nar .byte (0 : Int32))) L)) rfl ?_
  obtain ⟨q1, hq1, hf⟩ := Option.bind_eq_some_iff.mp hf
  refine bs_call (o := pEN Ls xs (d + 1) 51 [.ref 114, .int q0, .int (1 : Int32)] (hp (some 114) nh rh TK (RK (some 3)) (u2 (u2 I 118 x1.toNatClampNeg (x2 <<< ((3 : Int32) &&& 31))) 119 q0.toNatClampNeg (vp_nar .byte (0 : Int32))) L)) (w := none) (h' := hp (some 114) nh rh TK (RK (some 3)) q1.1 q1.2) (pc := 27) (lo := [some (.ref 114), some (.int x1), some (.int x2), some (.int q0)]) (rest := []) rfl (t_51 Ls xs (d + 0) nh rh q0 (1 : Int32) (u2 (u2 I 118 x1.toNatClampNeg (x2 <<< ((3 : Int32) &&& 31))) 119 q0.toNatClampNeg (vp_nar .byte (0 : Int32))) L q1 hq1) ?_
  cases hf
  exact bs_ret rfl
/-- Keeper.follow(II) on (114,) -/
def f_41 (x1 : Int32) (x2 : Int32) (I : FI) (L : FL) : Option (Int32) :=
  (f_21_1 (x1 >>> ((16 : Int32) &&& 31)) x2 I L).bind fun q0 =>
  if ¬ q0 = 0 then
    (f_7 (x1 &&& (65535 : Int32)) (x1 >>> ((16 : Int32) &&& 31)) x2 I L).bind fun q1 =>
    if ¬ q1 = (-1 : Int32) then
      some (((x2 <<< ((16 : Int32) &&& 31)) ||| q1))
    else
      some ((-1 : Int32))
  else
    some ((-1 : Int32))
set_option maxHeartbeats 1000000 in
set_option maxRecDepth 20000 in
theorem t_41 (Ls : Nat) (xs : Nat → Int32) (d : Nat) (nh : Option Nat) (rh : Option Nat) (x1 : Int32) (x2 : Int32) (I : FI) (L : FL) (r : Int32) (hf : f_41 x1 x2 I L = some r) : pEN Ls xs (d + 2) 41 [.ref 114, .int x1, .int x2] (hp (some 114) nh rh TK (RK (some 3)) I L) = some (some (.int r), hp (some 114) nh rh TK (RK (some 3)) I L) := by
  refine en_run (d := d + 1) (cd := cd_41) (f := (sf 5 rs_5 false 5 (some (.int)) Ls xs (d + 1))) rfl rfl (x := (0, [some (.ref 114), some (.int x1), some (.int x2), none, none], [], hp (some 114) nh rh TK (RK (some 3)) I L)) rfl rfl (Nat.le_of_ble_eq_true rfl) ?_
  unfold f_41 at hf
  refine bs_st 8 (x' := (11, [some (.ref 114), some (.int x1), some (.int x2), some (.int (x1 >>> ((16 : Int32) &&& 31))), none], [.int x2, .int (x1 >>> ((16 : Int32) &&& 31)), .ref 3], hp (some 114) nh rh TK (RK (some 3)) I L)) rfl ?_
  obtain ⟨q0, hq0, hf⟩ := Option.bind_eq_some_iff.mp hf
  refine bs_call (o := pEN Ls xs (d + 1) 21 [.ref 3, .int (x1 >>> ((16 : Int32) &&& 31)), .int x2] (hp (some 114) nh rh TK (RK (some 3)) I L)) (w := some (.int q0)) (h' := hp (some 114) nh rh TK (RK (some 3)) I L) (pc := 14) (lo := [some (.ref 114), some (.int x1), some (.int x2), some (.int (x1 >>> ((16 : Int32) &&& 31))), none]) (rest := []) rfl (t_21_1 Ls xs (d + 0) (some 114) TK (RK (some 3)) nh rh (x1 >>> ((16 : Int32) &&& 31)) x2 I L q0 hq0) ?_
  refine bs_br (t := 19) (e := 17) (lo := [some (.ref 114), some (.int x1), some (.int x2), some (.int (x1 >>> ((16 : Int32) &&& 31))), none]) (st := []) (h := hp (some 114) nh rh TK (RK (some 3)) I L) rfl hf (fun hc hf => ?_) (fun hc hf => ?_)
  · refine bs_st 7 (x' := (29, [some (.ref 114), some (.int x1), some (.int x2), some (.int (x1 >>> ((16 : Int32) &&& 31))), none], [.int x2, .int (x1 >>> ((16 : Int32) &&& 31)), .int (x1 &&& (65535 : Int32)), .ref 115], hp (some 114) nh rh TK (RK (some 3)) I L)) rfl ?_
    obtain ⟨q1, hq1, hf⟩ := Option.bind_eq_some_iff.mp hf
    refine bs_call (o := pEN Ls xs (d + 1) 7 [.ref 115, .int (x1 &&& (65535 : Int32)), .int (x1 >>> ((16 : Int32) &&& 31)), .int x2] (hp (some 114) nh rh TK (RK (some 3)) I L)) (w := some (.int q1)) (h' := hp (some 114) nh rh TK (RK (some 3)) I L) (pc := 32) (lo := [some (.ref 114), some (.int x1), some (.int x2), some (.int (x1 >>> ((16 : Int32) &&& 31))), none]) (rest := []) rfl (t_7 Ls xs (d + 0) nh rh (x1 &&& (65535 : Int32)) (x1 >>> ((16 : Int32) &&& 31)) x2 I L q1 hq1) ?_
    refine bs_st 3 (x' := (37, [some (.ref 114), some (.int x1), some (.int x2), some (.int (x1 >>> ((16 : Int32) &&& 31))), some (.int q1)], [.int (-1 : Int32), .int q1], hp (some 114) nh rh TK (RK (some 3)) I L)) rfl ?_
    refine bs_br (t := 44) (e := 40) (lo := [some (.ref 114), some (.int x1), some (.int x2), some (.int (x1 >>> ((16 : Int32) &&& 31))), some (.int q1)]) (st := []) (h := hp (some 114) nh rh TK (RK (some 3)) I L) rfl hf (fun hc hf => ?_) (fun hc hf => ?_)
    · refine bs_st 5 (x' := (51, [some (.ref 114), some (.int x1), some (.int x2), some (.int (x1 >>> ((16 : Int32) &&& 31))), some (.int q1)], [.int ((x2 <<< ((16 : Int32) &&& 31)) ||| q1)], hp (some 114) nh rh TK (RK (some 3)) I L)) rfl ?_
      cases hf
      exact bs_ret rfl
    · refine bs_st 2 (x' := (51, [some (.ref 114), some (.int x1), some (.int x2), some (.int (x1 >>> ((16 : Int32) &&& 31))), some (.int q1)], [.int (-1 : Int32)], hp (some 114) nh rh TK (RK (some 3)) I L)) rfl ?_
      cases hf
      exact bs_ret rfl
  · refine bs_st 1 (x' := (18, [some (.ref 114), some (.int x1), some (.int x2), some (.int (x1 >>> ((16 : Int32) &&& 31))), none], [.int (-1 : Int32)], hp (some 114) nh rh TK (RK (some 3)) I L)) rfl ?_
    cases hf
    exact bs_ret rfl
/-- Keeper.outlast(II) on (114,) -/
def f_46 (x1 : Int32) (x2 : Int32) (I : FI) (L : FL) : Option (FI × FL) :=
  if x1 < 0 then
    some (I, L)
  else
    if pin x1 16384 = true then ((f_48 ((I 118 x1.toNatClampNeg) >>> ((3 : Int32) &&& 31)) I L).bind fun q0 =>
      if pin q0 16384 = true then ((f_358_1 (I 119 q0.toNatClampNeg) x2 I L).bind fun q1 =>
        if pin q0 16384 = true then some ((u2 I 119 q0.toNatClampNeg (vp_nar .byte q1.toInt8.toInt32)), L) else none) else none) else none
set_option maxHeartbeats 1000000 in
set_option maxRecDepth 20000 in
theorem t_46 (Ls : Nat) (xs : Nat → Int32) (d : Nat) (nh : Option Nat) (rh : Option Nat) (x1 : Int32) (x2 : Int32) (I : FI) (L : FL) (r : FI × FL) (hf : f_46 x1 x2 I L = some r) : pEN Ls xs (d + 2) 46 [.ref 114, .int x1, .int x2] (hp (some 114) nh rh TK (RK (some 3)) I L) = some (none, hp (some 114) nh rh TK (RK (some 3)) r.1 r.2) := by
  refine en_run (d := d + 1) (cd := cd_46) (f := (sf 5 rs_5 false 4 none Ls xs (d + 1))) rfl rfl (x := (0, [some (.ref 114), some (.int x1), some (.int x2), none], [], hp (some 114) nh rh TK (RK (some 3)) I L)) rfl rfl (Nat.le_of_ble_eq_true rfl) ?_
  unfold f_46 at hf
  refine bs_st 1 (x' := (1, [some (.ref 114), some (.int x1), some (.int x2), none], [.int x1], hp (some 114) nh rh TK (RK (some 3)) I L)) rfl ?_
  refine bs_br (t := 33) (e := 4) (lo := [some (.ref 114), some (.int x1), some (.int x2), none]) (st := []) (h := hp (some 114) nh rh TK (RK (some 3)) I L) rfl hf (fun hc hf => ?_) (fun hc hf => ?_)
  · cases hf
    exact bs_ret rfl
  · refine bs_st 3 (x' := (9, [some (.ref 114), some (.int x1), some (.int x2), none], [.int x1, .ref 118], hp (some 114) nh rh TK (RK (some 3)) I L)) rfl ?_
    refine bs_gd (x' := (10, [some (.ref 114), some (.int x1), some (.int x2), none], [.int (I 118 x1.toNatClampNeg)], hp (some 114) nh rh TK (RK (some 3)) I L)) rfl hf (fun hc hf => ?_)
    refine bs_st 2 (x' := (12, [some (.ref 114), some (.int x1), some (.int x2), none], [.int ((I 118 x1.toNatClampNeg) >>> ((3 : Int32) &&& 31))], hp (some 114) nh rh TK (RK (some 3)) I L)) rfl ?_
    obtain ⟨q0, hq0, hf⟩ := Option.bind_eq_some_iff.mp hf
    refine bs_call (o := pEN Ls xs (d + 1) 48 [.int ((I 118 x1.toNatClampNeg) >>> ((3 : Int32) &&& 31))] (hp (some 114) nh rh TK (RK (some 3)) I L)) (w := some (.int q0)) (h' := hp (some 114) nh rh TK (RK (some 3)) I L) (pc := 15) (lo := [some (.ref 114), some (.int x1), some (.int x2), none]) (rest := []) rfl (t_48 Ls xs (d + 0) nh rh ((I 118 x1.toNatClampNeg) >>> ((3 : Int32) &&& 31)) I L q0 hq0) ?_
    refine bs_st 7 (x' := (26, [some (.ref 114), some (.int x1), some (.int x2), some (.int q0)], [.int q0, .ref 119, .int q0, .ref 119], hp (some 114) nh rh TK (RK (some 3)) I L)) rfl ?_
    refine bs_gd (x' := (27, [some (.ref 114), some (.int x1), some (.int x2), some (.int q0)], [.int (I 119 q0.toNatClampNeg), .int q0, .ref 119], hp (some 114) nh rh TK (RK (some 3)) I L)) rfl hf (fun hc hf => ?_)
    refine bs_st 1 (x' := (28, [some (.ref 114), some (.int x1), some (.int x2), some (.int q0)], [.int x2, .int (I 119 q0.toNatClampNeg), .int q0, .ref 119], hp (some 114) nh rh TK (RK (some 3)) I L)) rfl ?_
    obtain ⟨q1, hq1, hf⟩ := Option.bind_eq_some_iff.mp hf
    refine bs_call (o := pEN Ls xs (d + 1) 358 [.int (I 119 q0.toNatClampNeg), .int x2] (hp (some 114) nh rh TK (RK (some 3)) I L)) (w := some (.int q1)) (h' := hp (some 114) nh rh TK (RK (some 3)) I L) (pc := 31) (lo := [some (.ref 114), some (.int x1), some (.int x2), some (.int q0)]) (rest := [.int q0, .ref 119]) rfl (t_358_1 Ls xs (d + 0) (some 114) TK (RK (some 3)) nh rh (I 119 q0.toNatClampNeg) x2 I L q1 hq1) ?_
    refine bs_st 1 (x' := (32, [some (.ref 114), some (.int x1), some (.int x2), some (.int q0)], [.int q1.toInt8.toInt32, .int q0, .ref 119], hp (some 114) nh rh TK (RK (some 3)) I L)) rfl ?_
    refine bs_gd (x' := (33, [some (.ref 114), some (.int x1), some (.int x2), some (.int q0)], [], hp (some 114) nh rh TK (RK (some 3)) (u2 I 119 q0.toNatClampNeg (vp_nar .byte q1.toInt8.toInt32)) L)) rfl hf (fun hc hf => ?_)
    cases hf
    exact bs_ret rfl
/-- Keeper.keepTrail(I) on (114,) -/
def b_47_0 (n : Nat) (K0 : Int32 → Int32 → FI → FL → Option (FI × FL)) (x1 : Int32) (x2 : Int32) (I : FI) (L : FL) : Option (FI × FL) :=
  if x1 ≤ x2 then
    some (I, L)
  else
    if pin x2 16384 = true then ((f_48 ((I 118 x2.toNatClampNeg) >>> ((3 : Int32) &&& 31)) I L).bind fun q0 =>
      (f_51 q0 (2 : Int32) I L).bind fun q1 =>
      K0 x1 (x2 + (1 : Int32)) q1.1 q1.2) else none
def c_47_0 (n : Nat) : Nat → Int32 → Int32 → FI → FL → Option (FI × FL)
  | 0, _, _, _, _ => none
  | m + 1, x1, x2, I, L => b_47_0 n (c_47_0 n m) x1 x2 I L
set_option maxHeartbeats 1000000 in
set_option maxRecDepth 20000 in
theorem tc_47_0 (Ls : Nat) (xs : Nat → Int32) (d : Nat) (nh : Option Nat) (rh : Option Nat) (n : Nat) : ∀ (m : Nat) (x1 : Int32) (x2 : Int32) (I : FI) (L : FL) (r : FI × FL), c_47_0 n m x1 x2 I L = some r → Bs cd_47 (sf 5 rs_5 false 3 none Ls xs (d + 1)) (2, [some (.ref 114), some (.int x1), some (.int x2)], [], hp (some 114) nh rh TK (RK (some 3)) I L) (none, hp (some 114) nh rh TK (RK (some 3)) r.1 r.2)
  | 0, x1, x2, I, L, r, hf => by cases hf
  | m + 1, x1, x2, I, L, r, hf => by
    unfold c_47_0 b_47_0 at hf
    have hK0 := tc_47_0 Ls xs d nh rh n m
    refine bs_st 2 (x' := (4, [some (.ref 114), some (.int x1), some (.int x2)], [.int x1, .int x2], hp (some 114) nh rh TK (RK (some 3)) I L)) rfl ?_
    refine bs_br (t := 29) (e := 7) (lo := [some (.ref 114), some (.int x1), some (.int x2)]) (st := []) (h := hp (some 114) nh rh TK (RK (some 3)) I L) rfl hf (fun hc hf => ?_) (fun hc hf => ?_)
    · cases hf
      exact bs_ret rfl
    · refine bs_st 4 (x' := (13, [some (.ref 114), some (.int x1), some (.int x2)], [.int x2, .ref 118, .ref 114], hp (some 114) nh rh TK (RK (some 3)) I L)) rfl ?_
      refine bs_gd (x' := (14, [some (.ref 114), some (.int x1), some (.int x2)], [.int (I 118 x2.toNatClampNeg), .ref 114], hp (some 114) nh rh TK (RK (some 3)) I L)) rfl hf (fun hc hf => ?_)
      refine bs_st 2 (x' := (16, [some (.ref 114), some (.int x1), some (.int x2)], [.int ((I 118 x2.toNatClampNeg) >>> ((3 : Int32) &&& 31)), .ref 114], hp (some 114) nh rh TK (RK (some 3)) I L)) rfl ?_
      obtain ⟨q0, hq0, hf⟩ := Option.bind_eq_some_iff.mp hf
      refine bs_call (o := pEN Ls xs (d + 1) 48 [.int ((I 118 x2.toNatClampNeg) >>> ((3 : Int32) &&& 31))] (hp (some 114) nh rh TK (RK (some 3)) I L)) (w := some (.int q0)) (h' := hp (some 114) nh rh TK (RK (some 3)) I L) (pc := 19) (lo := [some (.ref 114), some (.int x1), some (.int x2)]) (rest := [.ref 114]) rfl (t_48 Ls xs (d + 0) nh rh ((I 118 x2.toNatClampNeg) >>> ((3 : Int32) &&& 31)) I L q0 hq0) ?_
      refine bs_st 1 (x' := (20, [some (.ref 114), some (.int x1), some (.int x2)], [.int (2 : Int32), .int q0, .ref 114], hp (some 114) nh rh TK (RK (some 3)) I L)) rfl ?_
      obtain ⟨q1, hq1, hf⟩ := Option.bind_eq_some_iff.mp hf
      refine bs_call (o := pEN Ls xs (d + 1) 51 [.ref 114, .int q0, .int (2 : Int32)] (hp (some 114) nh rh TK (RK (some 3)) I L)) (w := none) (h' := hp (some 114) nh rh TK (RK (some 3)) q1.1 q1.2) (pc := 23) (lo := [some (.ref 114), some (.int x1), some (.int x2)]) (rest := []) rfl (t_51 Ls xs (d + 0) nh rh q0 (2 : Int32) I L q1 hq1) ?_
      refine bs_st 2 (x' := (2, [some (.ref 114), some (.int x1), some (.int (x2 + (1 : Int32)))], [], hp (some 114) nh rh TK (RK (some 3)) q1.1 q1.2)) rfl ?_
      exact hK0 x1 (x2 + (1 : Int32)) q1.1 q1.2 r hf
def f_47 (n : Nat) (x1 : Int32) (I : FI) (L : FL) : Option (FI × FL) :=
  c_47_0 n n x1 (0 : Int32) I L
set_option maxHeartbeats 1000000 in
set_option maxRecDepth 20000 in
theorem t_47 (Ls : Nat) (xs : Nat → Int32) (d : Nat) (nh : Option Nat) (rh : Option Nat) (n : Nat) (x1 : Int32) (I : FI) (L : FL) (r : FI × FL) (hf : f_47 n x1 I L = some r) : pEN Ls xs (d + 2) 47 [.ref 114, .int x1] (hp (some 114) nh rh TK (RK (some 3)) I L) = some (none, hp (some 114) nh rh TK (RK (some 3)) r.1 r.2) := by
  refine en_run (d := d + 1) (cd := cd_47) (f := (sf 5 rs_5 false 3 none Ls xs (d + 1))) rfl rfl (x := (0, [some (.ref 114), some (.int x1), none], [], hp (some 114) nh rh TK (RK (some 3)) I L)) rfl rfl (Nat.le_of_ble_eq_true rfl) ?_
  unfold f_47 at hf
  refine bs_st 2 (x' := (2, [some (.ref 114), some (.int x1), some (.int (0 : Int32))], [], hp (some 114) nh rh TK (RK (some 3)) I L)) rfl ?_
  exact tc_47_0 Ls xs d nh rh n n x1 (0 : Int32) I L r hf
/-- Keeper.lose(I) on (114,) -/
def f_45 (x1 : Int32) (I : FI) (L : FL) : Option (Int32 × FI × FL) :=
  (f_48 x1 I L).bind fun q0 =>
  (f_51 q0 (3 : Int32) I L).bind fun q1 =>
  if pin q0 16384 = true then ((f_359 (100 : Int32) ((q1.1 119 q0.toNatClampNeg) + (1 : Int32)) q1.1 q1.2).bind fun q2 =>
    if pin q0 16384 = true then (if pin q0 16384 = true then some ((u2 q1.1 119 q0.toNatClampNeg (vp_nar .byte q2.toInt8.toInt32)) 119 q0.toNatClampNeg, (u2 q1.1 119 q0.toNatClampNeg (vp_nar .byte q2.toInt8.toInt32)), q1.2) else none) else none) else none
set_option maxHeartbeats 1000000 in
set_option maxRecDepth 20000 in
theorem t_45 (Ls : Nat) (xs : Nat → Int32) (d : Nat) (nh : Option Nat) (rh : Option Nat) (x1 : Int32) (I : FI) (L : FL) (r : Int32 × FI × FL) (hf : f_45 x1 I L = some r) : pEN Ls xs (d + 2) 45 [.ref 114, .int x1] (hp (some 114) nh rh TK (RK (some 3)) I L) = some (some (.int r.1), hp (some 114) nh rh TK (RK (some 3)) r.2.1 r.2.2) := by
  refine en_run (d := d + 1) (cd := cd_45) (f := (sf 5 rs_5 false 3 (some (.int)) Ls xs (d + 1))) rfl rfl (x := (0, [some (.ref 114), some (.int x1), none], [], hp (some 114) nh rh TK (RK (some 3)) I L)) rfl rfl (Nat.le_of_ble_eq_true rfl) ?_
  unfold f_45 at hf
  refine bs_st 1 (x' := (1, [some (.ref 114), some (.int x1), none], [.int x1], hp (some 114) nh rh TK (RK (some 3)) I L)) rfl ?_
  obtain ⟨q0, hq0, hf⟩ := Option.bind_eq_some_iff.mp hf
  refine bs_call (o := pEN Ls xs (d + 1) 48 [.int x1] (hp (some 114) nh rh TK (RK (some 3)) I L)) (w := some (.int q0)) (h' := hp (some 114) nh rh TK (RK (some 3)) I L) (pc := 4) (lo := [some (.ref 114), some (.int x1), none]) (rest := []) rfl (t_48 Ls xs (d + 0) nh rh x1 I L q0 hq0) ?_
  refine bs_st 4 (x' := (8, [some (.ref 114), some (.int x1), some (.int q0)], [.int (3 : Int32), .int q0, .ref 114], hp (some 114) nh rh TK (RK (some 3)) I L)) rfl ?_
  obtain ⟨q1, hq1, hf⟩ := Option.bind_eq_some_iff.mp hf
  refine bs_call (o := pEN Ls xs (d + 1) 51 [.ref 114, .int q0, .int (3 : Int32)] (hp (some 114) nh rh TK (RK (some 3)) I L)) (w := none) (h' := hp (some 114) nh rh TK (RK (some 3)) q1.1 q1.2) (pc := 11) (lo := [some (.ref 114), some (.int x1), some (.int q0)]) (rest := []) rfl (t_51 Ls xs (d + 0) nh rh q0 (3 : Int32) I L q1 hq1) ?_
  refine bs_st 7 (x' := (23, [some (.ref 114), some (.int x1), some (.int q0)], [.int q0, .ref 119, .int (100 : Int32), .int q0, .ref 119], hp (some 114) nh rh TK (RK (some 3)) q1.1 q1.2)) rfl ?_
  refine bs_gd (x' := (24, [some (.ref 114), some (.int x1), some (.int q0)], [.int (q1.1 119 q0.toNatClampNeg), .int (100 : Int32), .int q0, .ref 119], hp (some 114) nh rh TK (RK (some 3)) q1.1 q1.2)) rfl hf (fun hc hf => ?_)
  refine bs_st 2 (x' := (26, [some (.ref 114), some (.int x1), some (.int q0)], [.int ((q1.1 119 q0.toNatClampNeg) + (1 : Int32)), .int (100 : Int32), .int q0, .ref 119], hp (some 114) nh rh TK (RK (some 3)) q1.1 q1.2)) rfl ?_
  obtain ⟨q2, hq2, hf⟩ := Option.bind_eq_some_iff.mp hf
  refine bs_call (o := pEN Ls xs (d + 1) 359 [.int (100 : Int32), .int ((q1.1 119 q0.toNatClampNeg) + (1 : Int32))] (hp (some 114) nh rh TK (RK (some 3)) q1.1 q1.2)) (w := some (.int q2)) (h' := hp (some 114) nh rh TK (RK (some 3)) q1.1 q1.2) (pc := 29) (lo := [some (.ref 114), some (.int x1), some (.int q0)]) (rest := [.int q0, .ref 119]) rfl (t_359 Ls xs (d + 0) (some 114) TK (RK (some 3)) nh rh (100 : Int32) ((q1.1 119 q0.toNatClampNeg) + (1 : Int32)) q1.1 q1.2 q2 hq2) ?_
  refine bs_st 1 (x' := (30, [some (.ref 114), some (.int x1), some (.int q0)], [.int q2.toInt8.toInt32, .int q0, .ref 119], hp (some 114) nh rh TK (RK (some 3)) q1.1 q1.2)) rfl ?_
  refine bs_gd (x' := (31, [some (.ref 114), some (.int x1), some (.int q0)], [], hp (some 114) nh rh TK (RK (some 3)) (u2 q1.1 119 q0.toNatClampNeg (vp_nar .byte q2.toInt8.toInt32)) q1.2)) rfl hf (fun hc hf => ?_)
  refine bs_st 3 (x' := (36, [some (.ref 114), some (.int x1), some (.int q0)], [.int q0, .ref 119], hp (some 114) nh rh TK (RK (some 3)) (u2 q1.1 119 q0.toNatClampNeg (vp_nar .byte q2.toInt8.toInt32)) q1.2)) rfl ?_
  refine bs_gd (x' := (37, [some (.ref 114), some (.int x1), some (.int q0)], [.int ((u2 q1.1 119 q0.toNatClampNeg (vp_nar .byte q2.toInt8.toInt32)) 119 q0.toNatClampNeg)], hp (some 114) nh rh TK (RK (some 3)) (u2 q1.1 119 q0.toNatClampNeg (vp_nar .byte q2.toInt8.toInt32)) q1.2)) rfl hf (fun hc hf => ?_)
  cases hf
  exact bs_ret rfl
/-- Keeper.search(I) on (114,) -/
def c_43_3 (n : Nat) (K0 : Int32 → Int32 → FI → FL → Option (FI × FL)) (x2 : Int32) (x3 : Int32) (I : FI) (L : FL) : Option (FI × FL) :=
  K0 x2 (x3 + (1 : Int32)) I L
set_option maxHeartbeats 1000000 in
set_option maxRecDepth 20000 in
theorem tc_43_3 (Ls : Nat) (xs : Nat → Int32) (d : Nat) (nh : Option Nat) (rh : Option Nat) (n : Nat) (K0 : Int32 → Int32 → FI → FL → Option (FI × FL)) (hK0 : ∀ (w1 : Option Value) (w4 : Option Value) (w5 : Option Value) (w6 : Option Value) (x2 : Int32) (x3 : Int32) (I : FI) (L : FL) (r : FI × FL), K0 x2 x3 I L = some r → Bs cd_43 (sf 5 rs_5 false 7 none Ls xs (d + 2)) (10, [some (.ref 114), w1, some (.int x2), some (.int x3), w4, w5, w6], [], hp (some 114) nh rh TK (RK (some 3)) I L) (none, hp (some 114) nh rh TK (RK (some 3)) r.1 r.2)) (w1 : Option Value) (w4 : Option Value) (w5 : Option Value) (w6 : Option Value) (x2 : Int32) (x3 : Int32) (I : FI) (L : FL) (r : FI × FL) (hf : c_43_3 n K0 x2 x3 I L = some r) : Bs cd_43 (sf 5 rs_5 false 7 none Ls xs (d + 2)) (178, [some (.ref 114), w1, some (.int x2), some (.int x3), w4, w5, w6], [], hp (some 114) nh rh TK (RK (some 3)) I L) (none, hp (some 114) nh rh TK (RK (some 3)) r.1 r.2) := by
  unfold c_43_3 at hf
  refine bs_st 2 (x' := (10, [some (.ref 114), w1, some (.int x2), some (.int (x3 + (1 : Int32))), w4, w5, w6], [], hp (some 114) nh rh TK (RK (some 3)) I L)) rfl ?_
  exact hK0 w1 w4 w5 w6 x2 (x3 + (1 : Int32)) I L r hf
def c_43_2 (n : Nat) (K0 : Int32 → Int32 → FI → FL → Option (FI × FL)) (x2 : Int32) (x3 : Int32) (x5 : Int32) (x6 : Int32) (I : FI) (L : FL) : Option (FI × FL) :=
  if x6 = (3 : Int32) then
    if x5 = (-1 : Int32) then
      c_43_3 n K0 x2 x3 I L
    else
      (f_48 x5 I L).bind fun q4 =>
      if pin q4 16384 = true then ((f_46 (x2 - (1 : Int32)) (I 119 q4.toNatClampNeg) I L).bind fun q5 =>
        c_43_3 n K0 x2 x3 q5.1 q5.2) else none
  else
    (f_47 n x2 I L).bind fun q6 =>
    c_43_3 n K0 (0 : Int32) x3 q6.1 q6.2
set_option maxHeartbeats 1000000 in
set_option maxRecDepth 20000 in
theorem tc_43_2 (Ls : Nat) (xs : Nat → Int32) (d : Nat) (nh : Option Nat) (rh : Option Nat) (n : Nat) (K0 : Int32 → Int32 → FI → FL → Option (FI × FL)) (hK0 : ∀ (w1 : Option Value) (w4 : Option Value) (w5 : Option Value) (w6 : Option Value) (x2 : Int32) (x3 : Int32) (I : FI) (L : FL) (r : FI × FL), K0 x2 x3 I L = some r → Bs cd_43 (sf 5 rs_5 false 7 none Ls xs (d + 2)) (10, [some (.ref 114), w1, some (.int x2), some (.int x3), w4, w5, w6], [], hp (some 114) nh rh TK (RK (some 3)) I L) (none, hp (some 114) nh rh TK (RK (some 3)) r.1 r.2)) (w1 : Option Value) (w4 : Option Value) (x2 : Int32) (x3 : Int32) (x5 : Int32) (x6 : Int32) (I : FI) (L : FL) (r : FI × FL) (hf : c_43_2 n K0 x2 x3 x5 x6 I L = some r) : Bs cd_43 (sf 5 rs_5 false 7 none Ls xs (d + 2)) (139, [some (.ref 114), w1, some (.int x2), some (.int x3), w4, some (.int x5), some (.int x6)], [], hp (some 114) nh rh TK (RK (some 3)) I L) (none, hp (some 114) nh rh TK (RK (some 3)) r.1 r.2) := by
  unfold c_43_2 at hf
  refine bs_st 2 (x' := (142, [some (.ref 114), w1, some (.int x2), some (.int x3), w4, some (.int x5), some (.int x6)], [.int (3 : Int32), .int x6], hp (some 114) nh rh TK (RK (some 3)) I L)) rfl ?_
  refine bs_br (t := 155) (e := 145) (lo := [some (.ref 114), w1, some (.int x2), some (.int x3), w4, some (.int x5), some (.int x6)]) (st := []) (h := hp (some 114) nh rh TK (RK (some 3)) I L) rfl hf (fun hc hf => ?_) (fun hc hf => ?_)
  · refine bs_st 2 (x' := (158, [some (.ref 114), w1, some (.int x2), some (.int x3), w4, some (.int x5), some (.int x6)], [.int (-1 : Int32), .int x5], hp (some 114) nh rh TK (RK (some 3)) I L)) rfl ?_
    refine bs_br (t := 178) (e := 161) (lo := [some (.ref 114), w1, some (.int x2), some (.int x3), w4, some (.int x5), some (.int x6)]) (st := []) (h := hp (some 114) nh rh TK (RK (some 3)) I L) rfl hf (fun hc hf => ?_) (fun hc hf => ?_)
    · exact tc_43_3 Ls xs d nh rh n _ hK0 w1 w4 (some (.int x5)) (some (.int x6)) x2 x3 I L r hf
    · refine bs_st 7 (x' := (171, [some (.ref 114), w1, some (.int x2), some (.int x3), w4, some (.int x5), some (.int x6)], [.int x5, .ref 119, .int (x2 - (1 : Int32)), .ref 114], hp (some 114) nh rh TK (RK (some 3)) I L)) rfl ?_
      obtain ⟨q4, hq4, hf⟩ := Option.bind_eq_some_iff.mp hf
      refine bs_call (o := pEN Ls xs (d + 2) 48 [.int x5] (hp (some 114) nh rh TK (RK (some 3)) I L)) (w := some (.int q4)) (h' := hp (some 114) nh rh TK (RK (some 3)) I L) (pc := 174) (lo := [some (.ref 114), w1, some (.int x2), some (.int x3), w4, some (.int x5), some (.int x6)]) (rest := [.ref 119, .int (x2 - (1 : Int32)), .ref 114]) rfl (t_48 Ls xs (d + 1) nh rh x5 I L q4 hq4) ?_
      refine bs_gd (x' := (175, [some (.ref 114), w1, some (.int x2), some (.int x3), w4, some (.int x5), some (.int x6)], [.int (I 119 q4.toNatClampNeg), .int (x2 - (1 : Int32)), .ref 114], hp (some 114) nh rh TK (RK (some 3)) I L)) rfl hf (fun hc hf => ?_)
      obtain ⟨q5, hq5, hf⟩ := Option.bind_eq_some_iff.mp hf
      refine bs_call (o := pEN Ls xs (d + 2) 46 [.ref 114, .int (x2 - (1 : Int32)), .int (I 119 q4.toNatClampNeg)] (hp (some 114) nh rh TK (RK (some 3)) I L)) (w := none) (h' := hp (some 114) nh rh TK (RK (some 3)) q5.1 q5.2) (pc := 178) (lo := [some (.ref 114), w1, some (.int x2), some (.int x3), w4, some (.int x5), some (.int x6)]) (rest := []) rfl (t_46 Ls xs (d + 0) nh rh (x2 - (1 : Int32)) (I 119 q4.toNatClampNeg) I L q5 hq5) ?_
      exact tc_43_3 Ls xs d nh rh n _ hK0 w1 w4 (some (.int x5)) (some (.int x6)) x2 x3 q5.1 q5.2 r hf
  · refine bs_st 2 (x' := (147, [some (.ref 114), w1, some (.int x2), some (.int x3), w4, some (.int x5), some (.int x6)], [.int x2, .ref 114], hp (some 114) nh rh TK (RK (some 3)) I L)) rfl ?_
    obtain ⟨q6, hq6, hf⟩ := Option.bind_eq_some_iff.mp hf
    refine bs_call (o := pEN Ls xs (d + 2) 47 [.ref 114, .int x2] (hp (some 114) nh rh TK (RK (some 3)) I L)) (w := none) (h' := hp (some 114) nh rh TK (RK (some 3)) q6.1 q6.2) (pc := 150) (lo := [some (.ref 114), w1, some (.int x2), some (.int x3), w4, some (.int x5), some (.int x6)]) (rest := []) rfl (t_47 Ls xs (d + 0) nh rh n x2 I L q6 hq6) ?_
    refine bs_st 3 (x' := (178, [some (.ref 114), (pcl w1), some (.int (0 : Int32)), some (.int x3), w4, some (.int x5), some (.int x6)], [], hp (some 114) nh rh TK (RK (some 3)) q6.1 q6.2)) rfl ?_
    exact tc_43_3 Ls xs d nh rh n _ hK0 (pcl w1) w4 (some (.int x5)) (some (.int x6)) (0 : Int32) x3 q6.1 q6.2 r hf
def c_43_1 (n : Nat) (K0 : Int32 → Int32 → FI → FL → Option (FI × FL)) (x2 : Int32) (x3 : Int32) (x5 : Int32) (s0 : Int32) (I : FI) (L : FL) : Option (FI × FL) :=
  if ¬ s0 = 0 then
    c_43_2 n K0 x2 x3 x5 s0 I L
  else
    if (16384 : Int32) ≤ x2 then
      c_43_2 n K0 x2 x3 x5 s0 I L
    else
      (f_44 x2 x5 I L).bind fun q7 =>
      c_43_3 n K0 (x2 + (1 : Int32)) x3 q7.1 q7.2
set_option maxHeartbeats 1000000 in
set_option maxRecDepth 20000 in
theorem tc_43_1 (Ls : Nat) (xs : Nat → Int32) (d : Nat) (nh : Option Nat) (rh : Option Nat) (n : Nat) (K0 : Int32 → Int32 → FI → FL → Option (FI × FL)) (hK0 : ∀ (w1 : Option Value) (w4 : Option Value) (w5 : Option Value) (w6 : Option Value) (x2 : Int32) (x3 : Int32) (I : FI) (L : FL) (r : FI × FL), K0 x2 x3 I L = some r → Bs cd_43 (sf 5 rs_5 false 7 none Ls xs (d + 2)) (10, [some (.ref 114), w1, some (.int x2), some (.int x3), w4, w5, w6], [], hp (some 114) nh rh TK (RK (some 3)) I L) (none, hp (some 114) nh rh TK (RK (some 3)) r.1 r.2)) (w1 : Option Value) (w4 : Option Value) (w6 : Option Value) (x2 : Int32) (x3 : Int32) (x5 : Int32) (s0 : Int32) (I : FI) (L : FL) (r : FI × FL) (hf : c_43_1 n K0 x2 x3 x5 s0 I L = some r) : Bs cd_43 (sf 5 rs_5 false 7 none Ls xs (d + 2)) (112, [some (.ref 114), w1, some (.int x2), some (.int x3), w4, some (.int x5), w6], [.int s0], hp (some 114) nh rh TK (RK (some 3)) I L) (none, hp (some 114) nh rh TK (RK (some 3)) r.1 r.2) := by
  unfold c_43_1 at hf
  refine bs_st 2 (x' := (116, [some (.ref 114), w1, some (.int x2), some (.int x3), w4, some (.int x5), some (.int s0)], [.int s0], hp (some 114) nh rh TK (RK (some 3)) I L)) rfl ?_
  refine bs_br (t := 139) (e := 119) (lo := [some (.ref 114), w1, some (.int x2), some (.int x3), w4, some (.int x5), some (.int s0)]) (st := []) (h := hp (some 114) nh rh TK (RK (some 3)) I L) rfl hf (fun hc hf => ?_) (fun hc hf => ?_)
  · exact tc_43_2 Ls xs d nh rh n _ hK0 w1 w4 x2 x3 x5 s0 I L r hf
  · refine bs_st 2 (x' := (123, [some (.ref 114), w1, some (.int x2), some (.int x3), w4, some (.int x5), some (.int s0)], [.int (16384 : Int32), .int x2], hp (some 114) nh rh TK (RK (some 3)) I L)) rfl ?_
    refine bs_br (t := 139) (e := 126) (lo := [some (.ref 114), w1, some (.int x2), some (.int x3), w4, some (.int x5), some (.int s0)]) (st := []) (h := hp (some 114) nh rh TK (RK (some 3)) I L) rfl hf (fun hc hf => ?_) (fun hc hf => ?_)
    · exact tc_43_2 Ls xs d nh rh n _ hK0 w1 w4 x2 x3 x5 s0 I L r hf
    · refine bs_st 3 (x' := (130, [some (.ref 114), w1, some (.int x2), some (.int x3), w4, some (.int x5), some (.int s0)], [.int x5, .int x2, .ref 114], hp (some 114) nh rh TK (RK (some 3)) I L)) rfl ?_
      obtain ⟨q7, hq7, hf⟩ := Option.bind_eq_some_iff.mp hf
      refine bs_call (o := pEN Ls xs (d + 2) 44 [.ref 114, .int x2, .int x5] (hp (some 114) nh rh TK (RK (some 3)) I L)) (w := none) (h' := hp (some 114) nh rh TK (RK (some 3)) q7.1 q7.2) (pc := 133) (lo := [some (.ref 114), w1, some (.int x2), some (.int x3), w4, some (.int x5), some (.int s0)]) (rest := []) rfl (t_44 Ls xs (d + 0) nh rh x2 x5 I L q7 hq7) ?_
      refine bs_st 2 (x' := (178, [some (.ref 114), (pcl w1), some (.int (x2 + (1 : Int32))), some (.int x3), w4, some (.int x5), some (.int s0)], [], hp (some 114) nh rh TK (RK (some 3)) q7.1 q7.2)) rfl ?_
      exact tc_43_3 Ls xs d nh rh n _ hK0 (pcl w1) w4 (some (.int x5)) (some (.int s0)) (x2 + (1 : Int32)) x3 q7.1 q7.2 r hf
def b_43_0 (n : Nat) (K0 : Int32 → Int32 → FI → FL → Option (FI × FL)) (x2 : Int32) (x3 : Int32) (I : FI) (L : FL) : Option (FI × FL) :=
  if (1000000 : Int32) ≤ x3 then
    some (I, L)
  else
    if x2 ≤ 0 then
      some (I, L)
    else
      if pin (x2 - (1 : Int32)) 16384 = true then (if ((I 118 ((x2 - (1 : Int32)).toNatClampNeg)) &&& (7 : Int32)) < I 3 4 then
          if pin (x2 - (1 : Int32)) 16384 = true then ((f_41 ((I 118 ((x2 - (1 : Int32)).toNatClampNeg)) >>> ((3 : Int32) &&& 31)) ((I 118 ((x2 - (1 : Int32)).toNatClampNeg)) &&& (7 : Int32)) (u2 I 118 ((x2 - (1 : Int32)).toNatClampNeg) ((I 118 ((x2 - (1 : Int32)).toNatClampNeg)) + (1 : Int32))) L).bind fun q1 =>
            if ¬ q1 = (-1 : Int32) then
              (f_48 q1 (u2 I 118 ((x2 - (1 : Int32)).toNatClampNeg) ((I 118 ((x2 - (1 : Int32)).toNatClampNeg)) + (1 : Int32))) L).bind fun q2 =>
              (f_50 q2 (u2 I 118 ((x2 - (1 : Int32)).toNatClampNeg) ((I 118 ((x2 - (1 : Int32)).toNatClampNeg)) + (1 : Int32))) L).bind fun q3 =>
              c_43_1 n K0 x2 x3 q1 q3 (u2 I 118 ((x2 - (1 : Int32)).toNatClampNeg) ((I 118 ((x2 - (1 : Int32)).toNatClampNeg)) + (1 : Int32))) L
            else
              c_43_1 n K0 x2 x3 q1 (3 : Int32) (u2 I 118 ((x2 - (1 : Int32)).toNatClampNeg) ((I 118 ((x2 - (1 : Int32)).toNatClampNeg)) + (1 : Int32))) L) else none
        else
          (f_45 ((I 118 ((x2 - (1 : Int32)).toNatClampNeg)) >>> ((3 : Int32) &&& 31)) I L).bind fun q8 =>
          (f_46 ((x2 + (-1 : Int32)) - (1 : Int32)) q8.1 q8.2.1 q8.2.2).bind fun q9 =>
          c_43_3 n K0 (x2 + (-1 : Int32)) x3 q9.1 q9.2) else none
def c_43_0 (n : Nat) : Nat → Int32 → Int32 → FI → FL → Option (FI × FL)
  | 0, _, _, _, _ => none
  | m + 1, x2, x3, I, L => b_43_0 n (c_43_0 n m) x2 x3 I L
set_option maxHeartbeats 1000000 in
set_option maxRecDepth 20000 in
theorem tc_43_0 (Ls : Nat) (xs : Nat → Int32) (d : Nat) (nh : Option Nat) (rh : Option Nat) (n : Nat) : ∀ (m : Nat) (w1 : Option Value) (w4 : Option Value) (w5 : Option Value) (w6 : Option Value) (x2 : Int32) (x3 : Int32) (I : FI) (L : FL) (r : FI × FL), c_43_0 n m x2 x3 I L = some r → Bs cd_43 (sf 5 rs_5 false 7 none Ls xs (d + 2)) (10, [some (.ref 114), w1, some (.int x2), some (.int x3), w4, w5, w6], [], hp (some 114) nh rh TK (RK (some 3)) I L) (none, hp (some 114) nh rh TK (RK (some 3)) r.1 r.2)
  | 0, w1, w4, w5, w6, x2, x3, I, L, r, hf => by cases hf
  | m + 1, w1, w4, w5, w6, x2, x3, I, L, r, hf => by
    unfold c_43_0 b_43_0 at hf
    have hK0 := tc_43_0 Ls xs d nh rh n m
    refine bs_st 2 (x' := (13, [some (.ref 114), w1, some (.int x2), some (.int x3), w4, w5, w6], [.int (1000000 : Int32), .int x3], hp (some 114) nh rh TK (RK (some 3)) I L)) rfl ?_
    refine bs_br (t := 184) (e := 16) (lo := [some (.ref 114), w1, some (.int x2), some (.int x3), w4, w5, w6]) (st := []) (h := hp (some 114) nh rh TK (RK (some 3)) I L) rfl hf (fun hc hf => ?_) (fun hc hf => ?_)
    · cases hf
      exact bs_ret rfl
    · refine bs_st 1 (x' := (17, [some (.ref 114), w1, some (.int x2), some (.int x3), w4, w5, w6], [.int x2], hp (some 114) nh rh TK (RK (some 3)) I L)) rfl ?_
      refine bs_br (t := 184) (e := 20) (lo := [some (.ref 114), w1, some (.int x2), some (.int x3), w4, w5, w6]) (st := []) (h := hp (some 114) nh rh TK (RK (some 3)) I L) rfl hf (fun hc hf => ?_) (fun hc hf => ?_)
      · cases hf
        exact bs_ret rfl
      · refine bs_st 5 (x' := (27, [some (.ref 114), w1, some (.int x2), some (.int x3), w4, w5, w6], [.int (x2 - (1 : Int32)), .ref 118], hp (some 114) nh rh TK (RK (some 3)) I L)) rfl ?_
        refine bs_gd (x' := (28, [some (.ref 114), w1, some (.int x2), some (.int x3), w4, w5, w6], [.int (I 118 ((x2 - (1 : Int32)).toNatClampNeg))], hp (some 114) nh rh TK (RK (some 3)) I L)) rfl hf (fun hc hf => ?_)
        refine bs_st 7 (x' := (42, [some (.ref 114), w1, some (.int x2), some (.int x3), some (.int (I 118 ((x2 - (1 : Int32)).toNatClampNeg))), w5, w6], [.int (I 3 4), .int ((I 118 ((x2 - (1 : Int32)).toNatClampNeg)) &&& (7 : Int32))], hp (some 114) nh rh TK (RK (some 3)) I L)) rfl ?_
        refine bs_br (t := 66) (e := 45) (lo := [some (.ref 114), w1, some (.int x2), some (.int x3), some (.int (I 118 ((x2 - (1 : Int32)).toNatClampNeg))), w5, w6]) (st := []) (h := hp (some 114) nh rh TK (RK (some 3)) I L) rfl hf (fun hc hf => ?_) (fun hc hf => ?_)
        · refine bs_st 8 (x' := (77, [some (.ref 114), w1, some (.int x2), some (.int x3), some (.int (I 118 ((x2 - (1 : Int32)).toNatClampNeg))), w5, w6], [.int ((I 118 ((x2 - (1 : Int32)).toNatClampNeg)) + (1 : Int32)), .int (x2 - (1 : Int32)), .ref 118], hp (some 114) nh rh TK (RK (some 3)) I L)) rfl ?_
          refine bs_gd (x' := (78, [some (.ref 114), w1, some (.int x2), some (.int x3), some (.int (I 118 ((x2 - (1 : Int32)).toNatClampNeg))), w5, w6], [], hp (some 114) nh rh TK (RK (some 3)) (u2 I 118 ((x2 - (1 : Int32)).toNatClampNeg) ((I 118 ((x2 - (1 : Int32)).toNatClampNeg)) + (1 : Int32))) L)) rfl hf (fun hc hf => ?_)
          refine bs_st 7 (x' := (88, [some (.ref 114), w1, some (.int x2), some (.int x3), some (.int (I 118 ((x2 - (1 : Int32)).toNatClampNeg))), w5, w6], [.int ((I 118 ((x2 - (1 : Int32)).toNatClampNeg)) &&& (7 : Int32)), .int ((I 118 ((x2 - (1 : Int32)).toNatClampNeg)) >>> ((3 : Int32) &&& 31)), .ref 114], hp (some 114) nh rh TK (RK (some 3)) (u2 I 118 ((x2 - (1 : Int32)).toNatClampNeg) ((I 118 ((x2 - (1 : Int32)).toNatClampNeg)) + (1 : Int32))) L)) rfl ?_
          obtain ⟨q1, hq1, hf⟩ := Option.bind_eq_some_iff.mp hf
          refine bs_call (o := pEN Ls xs (d + 2) 41 [.ref 114, .int ((I 118 ((x2 - (1 : Int32)).toNatClampNeg)) >>> ((3 : Int32) &&& 31)), .int ((I 118 ((x2 - (1 : Int32)).toNatClampNeg)) &&& (7 : Int32))] (hp (some 114) nh rh TK (RK (some 3)) (u2 I 118 ((x2 - (1 : Int32)).toNatClampNeg) ((I 118 ((x2 - (1 : Int32)).toNatClampNeg)) + (1 : Int32))) L)) (w := some (.int q1)) (h' := hp (some 114) nh rh TK (RK (some 3)) (u2 I 118 ((x2 - (1 : Int32)).toNatClampNeg) ((I 118 ((x2 - (1 : Int32)).toNatClampNeg)) + (1 : Int32))) L) (pc := 91) (lo := [some (.ref 114), w1, some (.int x2), some (.int x3), some (.int (I 118 ((x2 - (1 : Int32)).toNatClampNeg))), w5, w6]) (rest := []) rfl (t_41 Ls xs (d + 0) nh rh ((I 118 ((x2 - (1 : Int32)).toNatClampNeg)) >>> ((3 : Int32) &&& 31)) ((I 118 ((x2 - (1 : Int32)).toNatClampNeg)) &&& (7 : Int32)) (u2 I 118 ((x2 - (1 : Int32)).toNatClampNeg) ((I 118 ((x2 - (1 : Int32)).toNatClampNeg)) + (1 : Int32))) L q1 hq1) ?_
          refine bs_st 3 (x' := (96, [some (.ref 114), w1, some (.int x2), some (.int x3), some (.int (I 118 ((x2 - (1 : Int32)).toNatClampNeg))), some (.int q1), w6], [.int (-1 : Int32), .int q1], hp (some 114) nh rh TK (RK (some 3)) (u2 I 118 ((x2 - (1 : Int32)).toNatClampNeg) ((I 118 ((x2 - (1 : Int32)).toNatClampNeg)) + (1 : Int32))) L)) rfl ?_
          refine bs_br (t := 103) (e := 99) (lo := [some (.ref 114), w1, some (.int x2), some (.int x3), some (.int (I 118 ((x2 - (1 : Int32)).toNatClampNeg))), some (.int q1), w6]) (st := []) (h := hp (some 114) nh rh TK (RK (some 3)) (u2 I 118 ((x2 - (1 : Int32)).toNatClampNeg) ((I 118 ((x2 - (1 : Int32)).toNatClampNeg)) + (1 : Int32))) L) rfl hf (fun hc hf => ?_) (fun hc hf => ?_)
          · refine bs_st 2 (x' := (106, [some (.ref 114), w1, some (.int x2), some (.int x3), some (.int (I 118 ((x2 - (1 : Int32)).toNatClampNeg))), some (.int q1), w6], [.int q1, .ref 114], hp (some 114) nh rh TK (RK (some 3)) (u2 I 118 ((x2 - (1 : Int32)).toNatClampNeg) ((I 118 ((x2 - (1 : Int32)).toNatClampNeg)) + (1 : Int32))) L)) rfl ?_
            obtain ⟨q2, hq2, hf⟩ := Option.bind_eq_some_iff.mp hf
            refine bs_call (o := pEN Ls xs (d + 2) 48 [.int q1] (hp (some 114) nh rh TK (RK (some 3)) (u2 I 118 ((x2 - (1 : Int32)).toNatClampNeg) ((I 118 ((x2 - (1 : Int32)).toNatClampNeg)) + (1 : Int32))) L)) (w := some (.int q2)) (h' := hp (some 114) nh rh TK (RK (some 3)) (u2 I 118 ((x2 - (1 : Int32)).toNatClampNeg) ((I 118 ((x2 - (1 : Int32)).toNatClampNeg)) + (1 : Int32))) L) (pc := 109) (lo := [some (.ref 114), w1, some (.int x2), some (.int x3), some (.int (I 118 ((x2 - (1 : Int32)).toNatClampNeg))), some (.int q1), w6]) (rest := [.ref 114]) rfl (t_48 Ls xs (d + 1) nh rh q1 (u2 I 118 ((x2 - (1 : Int32)).toNatClampNeg) ((I 118 ((x2 - (1 : Int32)).toNatClampNeg)) + (1 : Int32))) L q2 hq2) ?_
            obtain ⟨q3, hq3, hf⟩ := Option.bind_eq_some_iff.mp hf
            refine bs_call (o := pEN Ls xs (d + 2) 50 [.ref 114, .int q2] (hp (some 114) nh rh TK (RK (some 3)) (u2 I 118 ((x2 - (1 : Int32)).toNatClampNeg) ((I 118 ((x2 - (1 : Int32)).toNatClampNeg)) + (1 : Int32))) L)) (w := some (.int q3)) (h' := hp (some 114) nh rh TK (RK (some 3)) (u2 I 118 ((x2 - (1 : Int32)).toNatClampNeg) ((I 118 ((x2 - (1 : Int32)).toNatClampNeg)) + (1 : Int32))) L) (pc := 112) (lo := [some (.ref 114), w1, some (.int x2), some (.int x3), some (.int (I 118 ((x2 - (1 : Int32)).toNatClampNeg))), some (.int q1), w6]) (rest := []) rfl (t_50 Ls xs (d + 1) nh rh q2 (u2 I 118 ((x2 - (1 : Int32)).toNatClampNeg) ((I 118 ((x2 - (1 : Int32)).toNatClampNeg)) + (1 : Int32))) L q3 hq3) ?_
            exact tc_43_1 Ls xs d nh rh n _ hK0 w1 (some (.int (I 118 ((x2 - (1 : Int32)).toNatClampNeg)))) w6 x2 x3 q1 q3 (u2 I 118 ((x2 - (1 : Int32)).toNatClampNeg) ((I 118 ((x2 - (1 : Int32)).toNatClampNeg)) + (1 : Int32))) L r hf
          · refine bs_st 2 (x' := (112, [some (.ref 114), w1, some (.int x2), some (.int x3), some (.int (I 118 ((x2 - (1 : Int32)).toNatClampNeg))), some (.int q1), w6], [.int (3 : Int32)], hp (some 114) nh rh TK (RK (some 3)) (u2 I 118 ((x2 - (1 : Int32)).toNatClampNeg) ((I 118 ((x2 - (1 : Int32)).toNatClampNeg)) + (1 : Int32))) L)) rfl ?_
            exact tc_43_1 Ls xs d nh rh n _ hK0 w1 (some (.int (I 118 ((x2 - (1 : Int32)).toNatClampNeg)))) w6 x2 x3 q1 (3 : Int32) (u2 I 118 ((x2 - (1 : Int32)).toNatClampNeg) ((I 118 ((x2 - (1 : Int32)).toNatClampNeg)) + (1 : Int32))) L r hf
        · refine bs_st 9 (x' := (57, [some (.ref 114), (pcl w1), some (.int (x2 + (-1 : Int32))), some (.int x3), some (.int (I 118 ((x2 - (1 : Int32)).toNatClampNeg))), w5, w6], [.int ((I 118 ((x2 - (1 : Int32)).toNatClampNeg)) >>> ((3 : Int32) &&& 31)), .ref 114, .int ((x2 + (-1 : Int32)) - (1 : Int32)), .ref 114], hp (some 114) nh rh TK (RK (some 3)) I L)) rfl ?_
          obtain ⟨q8, hq8, hf⟩ := Option.bind_eq_some_iff.mp hf
          refine bs_call (o := pEN Ls xs (d + 2) 45 [.ref 114, .int ((I 118 ((x2 - (1 : Int32)).toNatClampNeg)) >>> ((3 : Int32) &&& 31))] (hp (some 114) nh rh TK (RK (some 3)) I L)) (w := some (.int q8.1)) (h' := hp (some 114) nh rh TK (RK (some 3)) q8.2.1 q8.2.2) (pc := 60) (lo := [some (.ref 114), (pcl w1), some (.int (x2 + (-1 : Int32))), some (.int x3), some (.int (I 118 ((x2 - (1 : Int32)).toNatClampNeg))), w5, w6]) (rest := [.int ((x2 + (-1 : Int32)) - (1 : Int32)), .ref 114]) rfl (t_45 Ls xs (d + 0) nh rh ((I 118 ((x2 - (1 : Int32)).toNatClampNeg)) >>> ((3 : Int32) &&& 31)) I L q8 hq8) ?_
          obtain ⟨q9, hq9, hf⟩ := Option.bind_eq_some_iff.mp hf
          refine bs_call (o := pEN Ls xs (d + 2) 46 [.ref 114, .int ((x2 + (-1 : Int32)) - (1 : Int32)), .int q8.1] (hp (some 114) nh rh TK (RK (some 3)) q8.2.1 q8.2.2)) (w := none) (h' := hp (some 114) nh rh TK (RK (some 3)) q9.1 q9.2) (pc := 63) (lo := [some (.ref 114), (pcl w1), some (.int (x2 + (-1 : Int32))), some (.int x3), some (.int (I 118 ((x2 - (1 : Int32)).toNatClampNeg))), w5, w6]) (rest := []) rfl (t_46 Ls xs (d + 0) nh rh ((x2 + (-1 : Int32)) - (1 : Int32)) q8.1 q8.2.1 q8.2.2 q9 hq9) ?_
          refine bs_st 1 (x' := (178, [some (.ref 114), (pcl w1), some (.int (x2 + (-1 : Int32))), some (.int x3), some (.int (I 118 ((x2 - (1 : Int32)).toNatClampNeg))), w5, w6], [], hp (some 114) nh rh TK (RK (some 3)) q9.1 q9.2)) rfl ?_
          exact tc_43_3 Ls xs d nh rh n _ hK0 (pcl w1) (some (.int (I 118 ((x2 - (1 : Int32)).toNatClampNeg)))) w5 w6 (x2 + (-1 : Int32)) x3 q9.1 q9.2 r hf
def f_43 (n : Nat) (x1 : Int32) (I : FI) (L : FL) : Option (FI × FL) :=
  (f_44 (0 : Int32) x1 I L).bind fun q0 =>
  c_43_0 n n (1 : Int32) (0 : Int32) q0.1 q0.2
set_option maxHeartbeats 1000000 in
set_option maxRecDepth 20000 in
theorem t_43 (Ls : Nat) (xs : Nat → Int32) (d : Nat) (nh : Option Nat) (rh : Option Nat) (n : Nat) (x1 : Int32) (I : FI) (L : FL) (r : FI × FL) (hf : f_43 n x1 I L = some r) : pEN Ls xs (d + 3) 43 [.ref 114, .int x1] (hp (some 114) nh rh TK (RK (some 3)) I L) = some (none, hp (some 114) nh rh TK (RK (some 3)) r.1 r.2) := by
  refine en_run (d := d + 2) (cd := cd_43) (f := (sf 5 rs_5 false 7 none Ls xs (d + 2))) rfl rfl (x := (0, [some (.ref 114), some (.int x1), none, none, none, none, none], [], hp (some 114) nh rh TK (RK (some 3)) I L)) rfl rfl (Nat.le_of_ble_eq_true rfl) ?_
  unfold f_43 at hf
  refine bs_st 3 (x' := (3, [some (.ref 114), some (.int x1), none, none, none, none, none], [.int x1, .int (0 : Int32), .ref 114], hp (some 114) nh rh TK (RK (some 3)) I L)) rfl ?_
  obtain ⟨q0, hq0, hf⟩ := Option.bind_eq_some_iff.mp hf
  refine bs_call (o := pEN Ls xs (d + 2) 44 [.ref 114, .int (0 : Int32), .int x1] (hp (some 114) nh rh TK (RK (some 3)) I L)) (w := none) (h' := hp (some 114) nh rh TK (RK (some 3)) q0.1 q0.2) (pc := 6) (lo := [some (.ref 114), some (.int x1), none, none, none, none, none]) (rest := []) rfl (t_44 Ls xs (d + 0) nh rh (0 : Int32) x1 I L q0 hq0) ?_
  refine bs_st 4 (x' := (10, [some (.ref 114), some (.int x1), some (.int (1 : Int32)), some (.int (0 : Int32)), none, none, none], [], hp (some 114) nh rh TK (RK (some 3)) q0.1 q0.2)) rfl ?_
  exact tc_43_0 Ls xs d nh rh n n (some (.int x1)) none none none (1 : Int32) (0 : Int32) q0.1 q0.2 r hf
/-- Keeper.canKeep(I) on (114,) -/
def c_42_0 (n : Nat) (x2 : Int32) (I : FI) (L : FL) : Option (Int32 × FI × FL) :=
  (f_50 x2 I L).bind fun q2 =>
  if ¬ q2 = (2 : Int32) then
    some ((0 : Int32), I, L)
  else
    some ((1 : Int32), I, L)
set_option maxHeartbeats 1000000 in
set_option maxRecDepth 20000 in
theorem tc_42_0 (Ls : Nat) (xs : Nat → Int32) (d : Nat) (nh : Option Nat) (rh : Option Nat) (n : Nat) (w1 : Option Value) (x2 : Int32) (I : FI) (L : FL) (r : Int32 × FI × FL) (hf : c_42_0 n x2 I L = some r) : Bs cd_42 (sf 5 rs_5 false 3 (some (.boolean)) Ls xs (d + 3)) (18, [some (.ref 114), w1, some (.int x2)], [], hp (some 114) nh rh TK (RK (some 3)) I L) (some (.int r.1), hp (some 114) nh rh TK (RK (some 3)) r.2.1 r.2.2) := by
  unfold c_42_0 at hf
  refine bs_st 2 (x' := (20, [some (.ref 114), w1, some (.int x2)], [.int x2, .ref 114], hp (some 114) nh rh TK (RK (some 3)) I L)) rfl ?_
  obtain ⟨q2, hq2, hf⟩ := Option.bind_eq_some_iff.mp hf
  refine bs_call (o := pEN Ls xs (d + 3) 50 [.ref 114, .int x2] (hp (some 114) nh rh TK (RK (some 3)) I L)) (w := some (.int q2)) (h' := hp (some 114) nh rh TK (RK (some 3)) I L) (pc := 23) (lo := [some (.ref 114), w1, some (.int x2)]) (rest := []) rfl (t_50 Ls xs (d + 2) nh rh x2 I L q2 hq2) ?_
  refine bs_st 1 (x' := (24, [some (.ref 114), w1, some (.int x2)], [.int (2 : Int32), .int q2], hp (some 114) nh rh TK (RK (some 3)) I L)) rfl ?_
  refine bs_br (t := 31) (e := 27) (lo := [some (.ref 114), w1, some (.int x2)]) (st := []) (h := hp (some 114) nh rh TK (RK (some 3)) I L) rfl hf (fun hc hf => ?_) (fun hc hf => ?_)
  · refine bs_st 1 (x' := (32, [some (.ref 114), w1, some (.int x2)], [.int (0 : Int32)], hp (some 114) nh rh TK (RK (some 3)) I L)) rfl ?_
    cases hf
    exact bs_ret rfl
  · refine bs_st 2 (x' := (32, [some (.ref 114), w1, some (.int x2)], [.int (1 : Int32)], hp (some 114) nh rh TK (RK (some 3)) I L)) rfl ?_
    cases hf
    exact bs_ret rfl
def f_42 (n : Nat) (x1 : Int32) (I : FI) (L : FL) : Option (Int32 × FI × FL) :=
  (f_48 x1 I L).bind fun q0 =>
  (f_50 q0 I L).bind fun q1 =>
  if ¬ q1 = 0 then
    c_42_0 n q0 I L
  else
    (f_43 n x1 I L).bind fun q3 =>
    c_42_0 n q0 q3.1 q3.2
set_option maxHeartbeats 1000000 in
set_option maxRecDepth 20000 in
theorem t_42 (Ls : Nat) (xs : Nat → Int32) (d : Nat) (nh : Option Nat) (rh : Option Nat) (n : Nat) (x1 : Int32) (I : FI) (L : FL) (r : Int32 × FI × FL) (hf : f_42 n x1 I L = some r) : pEN Ls xs (d + 4) 42 [.ref 114, .int x1] (hp (some 114) nh rh TK (RK (some 3)) I L) = some (some (.int r.1), hp (some 114) nh rh TK (RK (some 3)) r.2.1 r.2.2) := by
  refine en_run (d := d + 3) (cd := cd_42) (f := (sf 5 rs_5 false 3 (some (.boolean)) Ls xs (d + 3))) rfl rfl (x := (0, [some (.ref 114), some (.int x1), none], [], hp (some 114) nh rh TK (RK (some 3)) I L)) rfl rfl (Nat.le_of_ble_eq_true rfl) ?_
  unfold f_42 at hf
  refine bs_st 1 (x' := (1, [some (.ref 114), some (.int x1), none], [.int x1], hp (some 114) nh rh TK (RK (some 3)) I L)) rfl ?_
  obtain ⟨q0, hq0, hf⟩ := Option.bind_eq_some_iff.mp hf
  refine bs_call (o := pEN Ls xs (d + 3) 48 [.int x1] (hp (some 114) nh rh TK (RK (some 3)) I L)) (w := some (.int q0)) (h' := hp (some 114) nh rh TK (RK (some 3)) I L) (pc := 4) (lo := [some (.ref 114), some (.int x1), none]) (rest := []) rfl (t_48 Ls xs (d + 2) nh rh x1 I L q0 hq0) ?_
  refine bs_st 3 (x' := (7, [some (.ref 114), some (.int x1), some (.int q0)], [.int q0, .ref 114], hp (some 114) nh rh TK (RK (some 3)) I L)) rfl ?_
  obtain ⟨q1, hq1, hf⟩ := Option.bind_eq_some_iff.mp hf
  refine bs_call (o := pEN Ls xs (d + 3) 50 [.ref 114, .int q0] (hp (some 114) nh rh TK (RK (some 3)) I L)) (w := some (.int q1)) (h' := hp (some 114) nh rh TK (RK (some 3)) I L) (pc := 10) (lo := [some (.ref 114), some (.int x1), some (.int q0)]) (rest := []) rfl (t_50 Ls xs (d + 2) nh rh q0 I L q1 hq1) ?_
  refine bs_br (t := 18) (e := 13) (lo := [some (.ref 114), some (.int x1), some (.int q0)]) (st := []) (h := hp (some 114) nh rh TK (RK (some 3)) I L) rfl hf (fun hc hf => ?_) (fun hc hf => ?_)
  · exact tc_42_0 Ls xs d nh rh n (some (.int x1)) q0 I L r hf
  · refine bs_st 2 (x' := (15, [some (.ref 114), some (.int x1), some (.int q0)], [.int x1, .ref 114], hp (some 114) nh rh TK (RK (some 3)) I L)) rfl ?_
    obtain ⟨q3, hq3, hf⟩ := Option.bind_eq_some_iff.mp hf
    refine bs_call (o := pEN Ls xs (d + 3) 43 [.ref 114, .int x1] (hp (some 114) nh rh TK (RK (some 3)) I L)) (w := none) (h' := hp (some 114) nh rh TK (RK (some 3)) q3.1 q3.2) (pc := 18) (lo := [some (.ref 114), some (.int x1), some (.int q0)]) (rest := []) rfl (t_43 Ls xs (d + 0) nh rh n x1 I L q3 hq3) ?_
    exact tc_42_0 Ls xs d nh rh n (some (.int x1)) q0 q3.1 q3.2 r hf
/-- Keeper.keptFrom(I) on (114,) -/
def c_32_0 (n : Nat) (x1 : Int32) (I : FI) (L : FL) : Option (Int32 × FI × FL) :=
  if pin x1 16 = true then some (I 120 x1.toNatClampNeg, I, L) else none
set_option maxHeartbeats 1000000 in
set_option maxRecDepth 20000 in
theorem tc_32_0 (Ls : Nat) (xs : Nat → Int32) (d : Nat) (nh : Option Nat) (rh : Option Nat) (n : Nat) (w2 : Option Value) (x1 : Int32) (I : FI) (L : FL) (r : Int32 × FI × FL) (hf : c_32_0 n x1 I L = some r) : Bs cd_32 (sf 5 rs_5 false 3 (some (.int)) Ls xs (d + 4)) (78, [some (.ref 114), some (.int x1), w2], [], hp (some 114) nh rh TK (RK (some 3)) I L) (some (.int r.1), hp (some 114) nh rh TK (RK (some 3)) r.2.1 r.2.2) := by
  unfold c_32_0 at hf
  refine bs_st 3 (x' := (83, [some (.ref 114), some (.int x1), w2], [.int x1, .ref 120], hp (some 114) nh rh TK (RK (some 3)) I L)) rfl ?_
  refine bs_gd (x' := (84, [some (.ref 114), some (.int x1), w2], [.int (I 120 x1.toNatClampNeg)], hp (some 114) nh rh TK (RK (some 3)) I L)) rfl hf (fun hc hf => ?_)
  cases hf
  exact bs_ret rfl
def c_32_2 (n : Nat) (K1 : Int32 → Int32 → FI → FL → Option (Int32 × FI × FL)) (x1 : Int32) (x2 : Int32) (I : FI) (L : FL) : Option (Int32 × FI × FL) :=
  K1 x1 (x2 + (1 : Int32)) I L
set_option maxHeartbeats 1000000 in
set_option maxRecDepth 20000 in
theorem tc_32_2 (Ls : Nat) (xs : Nat → Int32) (d : Nat) (nh : Option Nat) (rh : Option Nat) (n : Nat) (K1 : Int32 → Int32 → FI → FL → Option (Int32 × FI × FL)) (hK1 : ∀ (x1 : Int32) (x2 : Int32) (I : FI) (L : FL) (r : Int32 × FI × FL), K1 x1 x2 I L = some r → Bs cd_32 (sf 5 rs_5 false 3 (some (.int)) Ls xs (d + 4)) (37, [some (.ref 114), some (.int x1), some (.int x2)], [], hp (some 114) nh rh TK (RK (some 3)) I L) (some (.int r.1), hp (some 114) nh rh TK (RK (some 3)) r.2.1 r.2.2)) (x1 : Int32) (x2 : Int32) (I : FI) (L : FL) (r : Int32 × FI × FL) (hf : c_32_2 n K1 x1 x2 I L = some r) : Bs cd_32 (sf 5 rs_5 false 3 (some (.int)) Ls xs (d + 4)) (72, [some (.ref 114), some (.int x1), some (.int x2)], [], hp (some 114) nh rh TK (RK (some 3)) I L) (some (.int r.1), hp (some 114) nh rh TK (RK (some 3)) r.2.1 r.2.2) := by
  unfold c_32_2 at hf
  refine bs_st 2 (x' := (37, [some (.ref 114), some (.int x1), some (.int (x2 + (1 : Int32)))], [], hp (some 114) nh rh TK (RK (some 3)) I L)) rfl ?_
  exact hK1 x1 (x2 + (1 : Int32)) I L r hf
def b_32_1 (n : Nat) (K1 : Int32 → Int32 → FI → FL → Option (Int32 × FI × FL)) (x1 : Int32) (x2 : Int32) (I : FI) (L : FL) : Option (Int32 × FI × FL) :=
  if I 3 4 ≤ x2 then
    c_32_0 n x1 I L
  else
    (f_40 x2 I L).bind fun q1 =>
    (f_42 n q1 I L).bind fun q2 =>
    if q2.1 = 0 then
      c_32_2 n K1 x1 x2 q2.2.1 q2.2.2
    else
      if pin x1 16 = true then (if pin x1 16 = true then c_32_2 n K1 x1 x2 (u2 q2.2.1 120 x1.toNatClampNeg ((q2.2.1 120 x1.toNatClampNeg) ||| ((1 : Int32) <<< (x2 &&& 31)))) q2.2.2 else none) else none
def c_32_1 (n : Nat) : Nat → Int32 → Int32 → FI → FL → Option (Int32 × FI × FL)
  | 0, _, _, _, _ => none
  | m + 1, x1, x2, I, L => b_32_1 n (c_32_1 n m) x1 x2 I L
set_option maxHeartbeats 1000000 in
set_option maxRecDepth 20000 in
theorem tc_32_1 (Ls : Nat) (xs : Nat → Int32) (d : Nat) (nh : Option Nat) (rh : Option Nat) (n : Nat) : ∀ (m : Nat) (x1 : Int32) (x2 : Int32) (I : FI) (L : FL) (r : Int32 × FI × FL), c_32_1 n m x1 x2 I L = some r → Bs cd_32 (sf 5 rs_5 false 3 (some (.int)) Ls xs (d + 4)) (37, [some (.ref 114), some (.int x1), some (.int x2)], [], hp (some 114) nh rh TK (RK (some 3)) I L) (some (.int r.1), hp (some 114) nh rh TK (RK (some 3)) r.2.1 r.2.2)
  | 0, x1, x2, I, L, r, hf => by cases hf
  | m + 1, x1, x2, I, L, r, hf => by
    unfold c_32_1 b_32_1 at hf
    have hK1 := tc_32_1 Ls xs d nh rh n m
    refine bs_st 4 (x' := (45, [some (.ref 114), some (.int x1), some (.int x2)], [.int (I 3 4), .int x2], hp (some 114) nh rh TK (RK (some 3)) I L)) rfl ?_
    refine bs_br (t := 78) (e := 48) (lo := [some (.ref 114), some (.int x1), some (.int x2)]) (st := []) (h := hp (some 114) nh rh TK (RK (some 3)) I L) rfl hf (fun hc hf => ?_) (fun hc hf => ?_)
    · exact tc_32_0 Ls xs d nh rh n (some (.int x2)) x1 I L r hf
    · refine bs_st 3 (x' := (51, [some (.ref 114), some (.int x1), some (.int x2)], [.int x2, .ref 114, .ref 114], hp (some 114) nh rh TK (RK (some 3)) I L)) rfl ?_
      obtain ⟨q1, hq1, hf⟩ := Option.bind_eq_some_iff.mp hf
      refine bs_call (o := pEN Ls xs (d + 4) 40 [.ref 114, .int x2] (hp (some 114) nh rh TK (RK (some 3)) I L)) (w := some (.int q1)) (h' := hp (some 114) nh rh TK (RK (some 3)) I L) (pc := 54) (lo := [some (.ref 114), some (.int x1), some (.int x2)]) (rest := [.ref 114]) rfl (t_40 Ls xs (d + 2) nh rh x2 I L q1 hq1) ?_
      obtain ⟨q2, hq2, hf⟩ := Option.bind_eq_some_iff.mp hf
      refine bs_call (o := pEN Ls xs (d + 4) 42 [.ref 114, .int q1] (hp (some 114) nh rh TK (RK (some 3)) I L)) (w := some (.int q2.1)) (h' := hp (some 114) nh rh TK (RK (some 3)) q2.2.1 q2.2.2) (pc := 57) (lo := [some (.ref 114), some (.int x1), some (.int x2)]) (rest := []) rfl (t_42 Ls xs (d + 0) nh rh n q1 I L q2 hq2) ?_
      refine bs_br (t := 72) (e := 60) (lo := [some (.ref 114), some (.int x1), some (.int x2)]) (st := []) (h := hp (some 114) nh rh TK (RK (some 3)) q2.2.1 q2.2.2) rfl hf (fun hc hf => ?_) (fun hc hf => ?_)
      · exact tc_32_2 Ls xs d nh rh n _ hK1 x1 x2 q2.2.1 q2.2.2 r hf
      · refine bs_st 4 (x' := (66, [some (.ref 114), some (.int x1), some (.int x2)], [.int x1, .ref 120, .int x1, .ref 120], hp (some 114) nh rh TK (RK (some 3)) q2.2.1 q2.2.2)) rfl ?_
        refine bs_gd (x' := (67, [some (.ref 114), some (.int x1), some (.int x2)], [.int (q2.2.1 120 x1.toNatClampNeg), .int x1, .ref 120], hp (some 114) nh rh TK (RK (some 3)) q2.2.1 q2.2.2)) rfl hf (fun hc hf => ?_)
        refine bs_st 4 (x' := (71, [some (.ref 114), some (.int x1), some (.int x2)], [.int ((q2.2.1 120 x1.toNatClampNeg) ||| ((1 : Int32) <<< (x2 &&& 31))), .int x1, .ref 120], hp (some 114) nh rh TK (RK (some 3)) q2.2.1 q2.2.2)) rfl ?_
        refine bs_gd (x' := (72, [some (.ref 114), some (.int x1), some (.int x2)], [], hp (some 114) nh rh TK (RK (some 3)) (u2 q2.2.1 120 x1.toNatClampNeg ((q2.2.1 120 x1.toNatClampNeg) ||| ((1 : Int32) <<< (x2 &&& 31)))) q2.2.2)) rfl hf (fun hc hf => ?_)
        exact tc_32_2 Ls xs d nh rh n _ hK1 x1 x2 (u2 q2.2.1 120 x1.toNatClampNeg ((q2.2.1 120 x1.toNatClampNeg) ||| ((1 : Int32) <<< (x2 &&& 31)))) q2.2.2 r hf
def f_32 (n : Nat) (x1 : Int32) (I : FI) (L : FL) : Option (Int32 × FI × FL) :=
  if x1 < 0 then
    some ((0 : Int32), I, L)
  else
    if x1 < (16 : Int32) then
      if pin x1 16 = true then (if ¬ I 120 x1.toNatClampNeg = (-3 : Int32) then
          c_32_0 n x1 I L
        else
          (f_38 n x1 I L).bind fun q0 =>
          if pin x1 16 = true then c_32_1 n n x1 (0 : Int32) (u2 q0.1 120 x1.toNatClampNeg (0 : Int32)) q0.2 else none) else none
    else
      some ((0 : Int32), I, L)
set_option maxHeartbeats 1000000 in
set_option maxRecDepth 20000 in
theorem t_32 (Ls : Nat) (xs : Nat → Int32) (d : Nat) (nh : Option Nat) (rh : Option Nat) (n : Nat) (x1 : Int32) (I : FI) (L : FL) (r : Int32 × FI × FL) (hf : f_32 n x1 I L = some r) : pEN Ls xs (d + 5) 32 [.ref 114, .int x1] (hp (some 114) nh rh TK (RK (some 3)) I L) = some (some (.int r.1), hp (some 114) nh rh TK (RK (some 3)) r.2.1 r.2.2) := by
  refine en_run (d := d + 4) (cd := cd_32) (f := (sf 5 rs_5 false 3 (some (.int)) Ls xs (d + 4))) rfl rfl (x := (0, [some (.ref 114), some (.int x1), none], [], hp (some 114) nh rh TK (RK (some 3)) I L)) rfl rfl (Nat.le_of_ble_eq_true rfl) ?_
  unfold f_32 at hf
  refine bs_st 1 (x' := (1, [some (.ref 114), some (.int x1), none], [.int x1], hp (some 114) nh rh TK (RK (some 3)) I L)) rfl ?_
  refine bs_br (t := 10) (e := 4) (lo := [some (.ref 114), some (.int x1), none]) (st := []) (h := hp (some 114) nh rh TK (RK (some 3)) I L) rfl hf (fun hc hf => ?_) (fun hc hf => ?_)
  · refine bs_st 1 (x' := (11, [some (.ref 114), some (.int x1), none], [.int (0 : Int32)], hp (some 114) nh rh TK (RK (some 3)) I L)) rfl ?_
    cases hf
    exact bs_ret rfl
  · refine bs_st 2 (x' := (7, [some (.ref 114), some (.int x1), none], [.int (16 : Int32), .int x1], hp (some 114) nh rh TK (RK (some 3)) I L)) rfl ?_
    refine bs_br (t := 12) (e := 10) (lo := [some (.ref 114), some (.int x1), none]) (st := []) (h := hp (some 114) nh rh TK (RK (some 3)) I L) rfl hf (fun hc hf => ?_) (fun hc hf => ?_)
    · refine bs_st 3 (x' := (17, [some (.ref 114), some (.int x1), none], [.int x1, .ref 120], hp (some 114) nh rh TK (RK (some 3)) I L)) rfl ?_
      refine bs_gd (x' := (18, [some (.ref 114), some (.int x1), none], [.int (I 120 x1.toNatClampNeg)], hp (some 114) nh rh TK (RK (some 3)) I L)) rfl hf (fun hc hf => ?_)
      refine bs_st 1 (x' := (20, [some (.ref 114), some (.int x1), none], [.int (-3 : Int32), .int (I 120 x1.toNatClampNeg)], hp (some 114) nh rh TK (RK (some 3)) I L)) rfl ?_
      refine bs_br (t := 78) (e := 23) (lo := [some (.ref 114), some (.int x1), none]) (st := []) (h := hp (some 114) nh rh TK (RK (some 3)) I L) rfl hf (fun hc hf => ?_) (fun hc hf => ?_)
      · exact tc_32_0 Ls xs d nh rh n none x1 I L r hf
      · refine bs_st 2 (x' := (25, [some (.ref 114), some (.int x1), none], [.int x1, .ref 114], hp (some 114) nh rh TK (RK (some 3)) I L)) rfl ?_
        obtain ⟨q0, hq0, hf⟩ := Option.bind_eq_some_iff.mp hf
        refine bs_call (o := pEN Ls xs (d + 4) 38 [.ref 114, .int x1] (hp (some 114) nh rh TK (RK (some 3)) I L)) (w := none) (h' := hp (some 114) nh rh TK (RK (some 3)) q0.1 q0.2) (pc := 28) (lo := [some (.ref 114), some (.int x1), none]) (rest := []) rfl (t_38 Ls xs (d + 1) nh rh n x1 I L q0 hq0) ?_
        refine bs_st 4 (x' := (34, [some (.ref 114), some (.int x1), none], [.int (0 : Int32), .int x1, .ref 120], hp (some 114) nh rh TK (RK (some 3)) q0.1 q0.2)) rfl ?_
        refine bs_gd (x' := (35, [some (.ref 114), some (.int x1), none], [], hp (some 114) nh rh TK (RK (some 3)) (u2 q0.1 120 x1.toNatClampNeg (0 : Int32)) q0.2)) rfl hf (fun hc hf => ?_)
        refine bs_st 2 (x' := (37, [some (.ref 114), some (.int x1), some (.int (0 : Int32))], [], hp (some 114) nh rh TK (RK (some 3)) (u2 q0.1 120 x1.toNatClampNeg (0 : Int32)) q0.2)) rfl ?_
        exact tc_32_1 Ls xs d nh rh n n x1 (0 : Int32) (u2 q0.1 120 x1.toNatClampNeg (0 : Int32)) q0.2 r hf
    · refine bs_st 1 (x' := (11, [some (.ref 114), some (.int x1), none], [.int (0 : Int32)], hp (some 114) nh rh TK (RK (some 3)) I L)) rfl ?_
      cases hf
      exact bs_ret rfl
/-- LampRounds.isAmong(II) on () -/
def f_188 (x0 : Int32) (x1 : Int32) (I : FI) (L : FL) : Option (Int32) :=
  if x0 = (-1 : Int32) then
    some ((1 : Int32))
  else
    if ((x1 >>> (x0 &&& 31)) &&& (1 : Int32)) = 0 then
      some ((0 : Int32))
    else
      some ((1 : Int32))
set_option maxHeartbeats 1000000 in
set_option maxRecDepth 20000 in
theorem t_188 (Ls : Nat) (xs : Nat → Int32) (d : Nat) (kp : Option Nat) (tl : List (Nat × Nat)) (rl : List (List (Option Nat))) (nh : Option Nat) (rh : Option Nat) (x0 : Int32) (x1 : Int32) (I : FI) (L : FL) (r : Int32) (hf : f_188 x0 x1 I L = some r) : pEN Ls xs (d + 1) 188 [.int x0, .int x1] (hp kp nh rh tl rl I L) = some (some (.int r), hp kp nh rh tl rl I L) := by
  refine en_run (d := d + 0) (cd := cd_188) (f := (sf 11 rs_11 false 2 (some (.boolean)) Ls xs (d + 0))) rfl rfl (x := (0, [some (.int x0), some (.int x1)], [], hp kp nh rh tl rl I L)) rfl rfl (Nat.le_of_ble_eq_true rfl) ?_
  unfold f_188 at hf
  refine bs_st 2 (x' := (2, [some (.int x0), some (.int x1)], [.int (-1 : Int32), .int x0], hp kp nh rh tl rl I L)) rfl ?_
  refine bs_br (t := 13) (e := 5) (lo := [some (.int x0), some (.int x1)]) (st := []) (h := hp kp nh rh tl rl I L) rfl hf (fun hc hf => ?_) (fun hc hf => ?_)
  · refine bs_st 2 (x' := (18, [some (.int x0), some (.int x1)], [.int (1 : Int32)], hp kp nh rh tl rl I L)) rfl ?_
    cases hf
    exact bs_ret rfl
  · refine bs_st 5 (x' := (10, [some (.int x0), some (.int x1)], [.int ((x1 >>> (x0 &&& 31)) &&& (1 : Int32))], hp kp nh rh tl rl I L)) rfl ?_
    refine bs_br (t := 17) (e := 13) (lo := [some (.int x0), some (.int x1)]) (st := []) (h := hp kp nh rh tl rl I L) rfl hf (fun hc hf => ?_) (fun hc hf => ?_)
    · refine bs_st 1 (x' := (18, [some (.int x0), some (.int x1)], [.int (0 : Int32)], hp kp nh rh tl rl I L)) rfl ?_
      cases hf
      exact bs_ret rfl
    · refine bs_st 2 (x' := (18, [some (.int x0), some (.int x1)], [.int (1 : Int32)], hp kp nh rh tl rl I L)) rfl ?_
      cases hf
      exact bs_ret rfl
/-- LampRounds.findings() on (0,) -/
def f_187 (I : FI) (L : FL) : Option (FI × FL) :=
  some (I, L)
set_option maxHeartbeats 1000000 in
set_option maxRecDepth 20000 in
theorem t_187 (Ls : Nat) (xs : Nat → Int32) (d : Nat) (nh : Option Nat) (rh : Option Nat) (I : FI) (L : FL) (r : FI × FL) (hf : f_187 I L = some r) : pEN Ls xs (d + 1) 187 [.ref 0] (hp (some 114) nh rh TK (RK (some 3)) I L) = some (some (.ref 114), hp (some 114) nh rh TK (RK (some 3)) r.1 r.2) := by
  refine en_run (d := d + 0) (cd := cd_187) (f := (sf 11 rs_11 false 1 (some (.object "LampRounds$Keeper")) Ls xs (d + 0))) rfl rfl (x := (0, [some (.ref 0)], [], hp (some 114) nh rh TK (RK (some 3)) I L)) rfl rfl (Nat.le_of_ble_eq_true rfl) ?_
  unfold f_187 at hf
  refine bs_st 5 (x' := (33, [some (.ref 0)], [.ref 114], hp (some 114) nh rh TK (RK (some 3)) I L)) rfl ?_
  cases hf
  exact bs_ret rfl
/-- LampRounds.keeps(I) on (0,) -/
def f_136_1 (n : Nat) (x1 : Int32) (I : FI) (L : FL) : Option (Int32 × FI × FL) :=
  (f_177 I L).bind fun q0 =>
  if q0 = 0 then
    some ((-2 : Int32), I, L)
  else
    if x1 < 0 then
      some ((-2 : Int32), I, L)
    else
      (f_24 I L).bind fun q1 =>
      if x1 ≤ q1 then
        (f_23 I L).bind fun q2 =>
        (f_187 I L).bind fun q3 =>
        (f_32 n x1 q3.1 q3.2).bind fun q4 =>
        (f_188 q2 q4.1 q4.2.1 q4.2.2).bind fun q5 =>
        if q5 = 0 then
          some ((0 : Int32), q4.2.1, q4.2.2)
        else
          some ((1 : Int32), q4.2.1, q4.2.2)
      else
        some ((-2 : Int32), I, L)
set_option maxHeartbeats 1000000 in
set_option maxRecDepth 20000 in
theorem t_136_1 (Ls : Nat) (xs : Nat → Int32) (d : Nat) (nh : Option Nat) (rh : Option Nat) (n : Nat) (x1 : Int32) (I : FI) (L : FL) (r : Int32 × FI × FL) (hf : f_136_1 n x1 I L = some r) : pEN Ls xs (d + 6) 136 [.ref 0, .int x1] (hp (some 114) nh rh TK (RK (some 3)) I L) = some (some (.int r.1), hp (some 114) nh rh TK (RK (some 3)) r.2.1 r.2.2) := by
  refine en_run (d := d + 5) (cd := cd_136) (f := (sf 11 rs_11 false 2 (some (.int)) Ls xs (d + 5))) rfl rfl (x := (0, [some (.ref 0), some (.int x1)], [], hp (some 114) nh rh TK (RK (some 3)) I L)) rfl rfl (Nat.le_of_ble_eq_true rfl) ?_
  unfold f_136_1 at hf
  refine bs_st 1 (x' := (1, [some (.ref 0), some (.int x1)], [.ref 0], hp (some 114) nh rh TK (RK (some 3)) I L)) rfl ?_
  obtain ⟨q0, hq0, hf⟩ := Option.bind_eq_some_iff.mp hf
  refine bs_call (o := pEN Ls xs (d + 5) 177 [.ref 0] (hp (some 114) nh rh TK (RK (some 3)) I L)) (w := some (.int q0)) (h' := hp (some 114) nh rh TK (RK (some 3)) I L) (pc := 4) (lo := [some (.ref 0), some (.int x1)]) (rest := []) rfl (t_177 Ls xs (d + 4) (some 114) TK (RK (some 3)) nh rh I L q0 hq0) ?_
  refine bs_br (t := 22) (e := 7) (lo := [some (.ref 0), some (.int x1)]) (st := []) (h := hp (some 114) nh rh TK (RK (some 3)) I L) rfl hf (fun hc hf => ?_) (fun hc hf => ?_)
  · refine bs_st 1 (x' := (24, [some (.ref 0), some (.int x1)], [.int (-2 : Int32)], hp (some 114) nh rh TK (RK (some 3)) I L)) rfl ?_
    cases hf
    exact bs_ret rfl
  · refine bs_st 1 (x' := (8, [some (.ref 0), some (.int x1)], [.int x1], hp (some 114) nh rh TK (RK (some 3)) I L)) rfl ?_
    refine bs_br (t := 22) (e := 11) (lo := [some (.ref 0), some (.int x1)]) (st := []) (h := hp (some 114) nh rh TK (RK (some 3)) I L) rfl hf (fun hc hf => ?_) (fun hc hf => ?_)
    · refine bs_st 1 (x' := (24, [some (.ref 0), some (.int x1)], [.int (-2 : Int32)], hp (some 114) nh rh TK (RK (some 3)) I L)) rfl ?_
      cases hf
      exact bs_ret rfl
    · refine bs_st 3 (x' := (16, [some (.ref 0), some (.int x1)], [.ref 3, .int x1], hp (some 114) nh rh TK (RK (some 3)) I L)) rfl ?_
      obtain ⟨q1, hq1, hf⟩ := Option.bind_eq_some_iff.mp hf
      refine bs_call (o := pEN Ls xs (d + 5) 24 [.ref 3] (hp (some 114) nh rh TK (RK (some 3)) I L)) (w := some (.int q1)) (h' := hp (some 114) nh rh TK (RK (some 3)) I L) (pc := 19) (lo := [some (.ref 0), some (.int x1)]) (rest := [.int x1]) rfl (t_24 Ls xs (d + 4) (some 114) TK (RK (some 3)) nh rh I L q1 hq1) ?_
      refine bs_br (t := 25) (e := 22) (lo := [some (.ref 0), some (.int x1)]) (st := []) (h := hp (some 114) nh rh TK (RK (some 3)) I L) rfl hf (fun hc hf => ?_) (fun hc hf => ?_)
      · refine bs_st 2 (x' := (29, [some (.ref 0), some (.int x1)], [.ref 3], hp (some 114) nh rh TK (RK (some 3)) I L)) rfl ?_
        obtain ⟨q2, hq2, hf⟩ := Option.bind_eq_some_iff.mp hf
        refine bs_call (o := pEN Ls xs (d + 5) 23 [.ref 3] (hp (some 114) nh rh TK (RK (some 3)) I L)) (w := some (.int q2)) (h' := hp (some 114) nh rh TK (RK (some 3)) I L) (pc := 32) (lo := [some (.ref 0), some (.int x1)]) (rest := []) rfl (t_23 Ls xs (d + 4) (some 114) TK (RK (some 3)) nh rh I L q2 hq2) ?_
        refine bs_st 1 (x' := (33, [some (.ref 0), some (.int x1)], [.ref 0, .int q2], hp (some 114) nh rh TK (RK (some 3)) I L)) rfl ?_
        obtain ⟨q3, hq3, hf⟩ := Option.bind_eq_some_iff.mp hf
        refine bs_call (o := pEN Ls xs (d + 5) 187 [.ref 0] (hp (some 114) nh rh TK (RK (some 3)) I L)) (w := some (.ref 114)) (h' := hp (some 114) nh rh TK (RK (some 3)) q3.1 q3.2) (pc := 36) (lo := [some (.ref 0), some (.int x1)]) (rest := [.int q2]) rfl (t_187 Ls xs (d + 4) nh rh I L q3 hq3) ?_
        refine bs_st 1 (x' := (37, [some (.ref 0), some (.int x1)], [.int x1, .ref 114, .int q2], hp (some 114) nh rh TK (RK (some 3)) q3.1 q3.2)) rfl ?_
        obtain ⟨q4, hq4, hf⟩ := Option.bind_eq_some_iff.mp hf
        refine bs_call (o := pEN Ls xs (d + 5) 32 [.ref 114, .int x1] (hp (some 114) nh rh TK (RK (some 3)) q3.1 q3.2)) (w := some (.int q4.1)) (h' := hp (some 114) nh rh TK (RK (some 3)) q4.2.1 q4.2.2) (pc := 40) (lo := [some (.ref 0), some (.int x1)]) (rest := [.int q2]) rfl (t_32 Ls xs (d + 0) nh rh n x1 q3.1 q3.2 q4 hq4) ?_
        obtain ⟨q5, hq5, hf⟩ := Option.bind_eq_some_iff.mp hf
        refine bs_call (o := pEN Ls xs (d + 5) 188 [.int q2, .int q4.1] (hp (some 114) nh rh TK (RK (some 3)) q4.2.1 q4.2.2)) (w := some (.int q5)) (h' := hp (some 114) nh rh TK (RK (some 3)) q4.2.1 q4.2.2) (pc := 43) (lo := [some (.ref 0), some (.int x1)]) (rest := []) rfl (t_188 Ls xs (d + 4) (some 114) TK (RK (some 3)) nh rh q2 q4.1 q4.2.1 q4.2.2 q5 hq5) ?_
        refine bs_br (t := 50) (e := 46) (lo := [some (.ref 0), some (.int x1)]) (st := []) (h := hp (some 114) nh rh TK (RK (some 3)) q4.2.1 q4.2.2) rfl hf (fun hc hf => ?_) (fun hc hf => ?_)
        · refine bs_st 1 (x' := (51, [some (.ref 0), some (.int x1)], [.int (0 : Int32)], hp (some 114) nh rh TK (RK (some 3)) q4.2.1 q4.2.2)) rfl ?_
          cases hf
          exact bs_ret rfl
        · refine bs_st 2 (x' := (51, [some (.ref 0), some (.int x1)], [.int (1 : Int32)], hp (some 114) nh rh TK (RK (some 3)) q4.2.1 q4.2.2)) rfl ?_
          cases hf
          exact bs_ret rfl
      · refine bs_st 1 (x' := (24, [some (.ref 0), some (.int x1)], [.int (-2 : Int32)], hp (some 114) nh rh TK (RK (some 3)) I L)) rfl ?_
        cases hf
        exact bs_ret rfl
/-- Keeper.stateOf(I) on () -/
def f_49 (x0 : Int32) (I : FI) (L : FL) : Option (Int32) :=
  some ((((x0 >>> ((12 : Int32) &&& 31)) <<< ((16 : Int32) &&& 31)) ||| ((((x0 &&& (7 : Int32)) ||| ((x0 &&& (56 : Int32)) <<< ((1 : Int32) &&& 31))) ||| ((x0 &&& (448 : Int32)) <<< ((2 : Int32) &&& 31))) ||| ((x0 &&& (3584 : Int32)) <<< ((3 : Int32) &&& 31)))))
set_option maxHeartbeats 1000000 in
set_option maxRecDepth 20000 in
theorem t_49 (Ls : Nat) (xs : Nat → Int32) (d : Nat) (nh : Option Nat) (rh : Option Nat) (x0 : Int32) (I : FI) (L : FL) (r : Int32) (hf : f_49 x0 I L = some r) : pEN Ls xs (d + 1) 49 [.int x0] (hp (some 114) nh rh TK (RK (some 3)) I L) = some (some (.int r), hp (some 114) nh rh TK (RK (some 3)) I L) := by
  refine en_run (d := d + 0) (cd := cd_49) (f := (sf 5 rs_5 false 2 (some (.int)) Ls xs (d + 0))) rfl rfl (x := (0, [some (.int x0), none], [], hp (some 114) nh rh TK (RK (some 3)) I L)) rfl rfl (Nat.le_of_ble_eq_true rfl) ?_
  unfold f_49 at hf
  refine bs_st 24 (x' := (31, [some (.int x0), some (.int ((((x0 &&& (7 : Int32)) ||| ((x0 &&& (56 : Int32)) <<< ((1 : Int32) &&& 31))) ||| ((x0 &&& (448 : Int32)) <<< ((2 : Int32) &&& 31))) ||| ((x0 &&& (3584 : Int32)) <<< ((3 : Int32) &&& 31))))], [.int (12 : Int32), .int x0], hp (some 114) nh rh TK (RK (some 3)) I L)) rfl ?_
  refine bs_st 5 (x' := (37, [some (.int x0), some (.int ((((x0 &&& (7 : Int32)) ||| ((x0 &&& (56 : Int32)) <<< ((1 : Int32) &&& 31))) ||| ((x0 &&& (448 : Int32)) <<< ((2 : Int32) &&& 31))) ||| ((x0 &&& (3584 : Int32)) <<< ((3 : Int32) &&& 31))))], [.int (((x0 >>> ((12 : Int32) &&& 31)) <<< ((16 : Int32) &&& 31)) ||| ((((x0 &&& (7 : Int32)) ||| ((x0 &&& (56 : Int32)) <<< ((1 : Int32) &&& 31))) ||| ((x0 &&& (448 : Int32)) <<< ((2 : Int32) &&& 31))) ||| ((x0 &&& (3584 : Int32)) <<< ((3 : Int32) &&& 31))))], hp (some 114) nh rh TK (RK (some 3)) I L)) rfl ?_
  cases hf
  exact bs_ret rfl
/-- Ageing.allBurn(I) on (115,) -/
def f_6 (x1 : Int32) (I : FI) (L : FL) : Option (Int32) :=
  if ¬ ((x1 + (I 115 1)) &&& (34952 : Int32)) = 0 then
    some ((0 : Int32))
  else
    some ((1 : Int32))
set_option maxHeartbeats 1000000 in
set_option maxRecDepth 20000 in
theorem t_6 (Ls : Nat) (xs : Nat → Int32) (d : Nat) (nh : Option Nat) (rh : Option Nat) (x1 : Int32) (I : FI) (L : FL) (r : Int32) (hf : f_6 x1 I L = some r) : pEN Ls xs (d + 1) 6 [.ref 115, .int x1] (hp (some 114) nh rh TK (RK (some 3)) I L) = some (some (.int r), hp (some 114) nh rh TK (RK (some 3)) I L) := by
  refine en_run (d := d + 0) (cd := cd_6) (f := (sf 1 rs_1 false 2 (some (.boolean)) Ls xs (d + 0))) rfl rfl (x := (0, [some (.ref 115), some (.int x1)], [], hp (some 114) nh rh TK (RK (some 3)) I L)) rfl rfl (Nat.le_of_ble_eq_true rfl) ?_
  unfold f_6 at hf
  refine bs_st 6 (x' := (9, [some (.ref 115), some (.int x1)], [.int ((x1 + (I 115 1)) &&& (34952 : Int32))], hp (some 114) nh rh TK (RK (some 3)) I L)) rfl ?_
  refine bs_br (t := 16) (e := 12) (lo := [some (.ref 115), some (.int x1)]) (st := []) (h := hp (some 114) nh rh TK (RK (some 3)) I L) rfl hf (fun hc hf => ?_) (fun hc hf => ?_)
  · refine bs_st 1 (x' := (17, [some (.ref 115), some (.int x1)], [.int (0 : Int32)], hp (some 114) nh rh TK (RK (some 3)) I L)) rfl ?_
    cases hf
    exact bs_ret rfl
  · refine bs_st 2 (x' := (17, [some (.ref 115), some (.int x1)], [.int (1 : Int32)], hp (some 114) nh rh TK (RK (some 3)) I L)) rfl ?_
    cases hf
    exact bs_ret rfl
/-- Keeper.keptStates() on (114,) -/
def c_33_1 (n : Nat) (K0 : Int32 → FI → FL → Option (Int32 × FI × FL)) (x1 : Int32) (I : FI) (L : FL) : Option (Int32 × FI × FL) :=
  K0 (x1 + (1 : Int32)) I L
set_option maxHeartbeats 1000000 in
set_option maxRecDepth 20000 in
theorem tc_33_1 (Ls : Nat) (xs : Nat → Int32) (d : Nat) (nh : Option Nat) (rh : Option Nat) (n : Nat) (K0 : Int32 → FI → FL → Option (Int32 × FI × FL)) (hK0 : ∀ (w2 : Option Value) (x1 : Int32) (I : FI) (L : FL) (r : Int32 × FI × FL), K0 x1 I L = some r → Bs cd_33 (sf 5 rs_5 false 3 (some (.int)) Ls xs (d + 4)) (27, [some (.ref 114), some (.int x1), w2], [], hp (some 114) nh rh TK (RK (some 3)) I L) (some (.int r.1), hp (some 114) nh rh TK (RK (some 3)) r.2.1 r.2.2)) (w2 : Option Value) (x1 : Int32) (I : FI) (L : FL) (r : Int32 × FI × FL) (hf : c_33_1 n K0 x1 I L = some r) : Bs cd_33 (sf 5 rs_5 false 3 (some (.int)) Ls xs (d + 4)) (78, [some (.ref 114), some (.int x1), w2], [], hp (some 114) nh rh TK (RK (some 3)) I L) (some (.int r.1), hp (some 114) nh rh TK (RK (some 3)) r.2.1 r.2.2) := by
  unfold c_33_1 at hf
  refine bs_st 2 (x' := (27, [some (.ref 114), some (.int (x1 + (1 : Int32))), w2], [], hp (some 114) nh rh TK (RK (some 3)) I L)) rfl ?_
  exact hK0 w2 (x1 + (1 : Int32)) I L r hf
def b_33_0 (n : Nat) (K0 : Int32 → FI → FL → Option (Int32 × FI × FL)) (x1 : Int32) (I : FI) (L : FL) : Option (Int32 × FI × FL) :=
  if ((I 3 4) <<< ((12 : Int32) &&& 31)) ≤ x1 then
    some (I 114 8, I, L)
  else
    (f_49 x1 I L).bind fun q2 =>
    (f_6 (q2 &&& (65535 : Int32)) I L).bind fun q3 =>
    if q3 = 0 then
      c_33_1 n K0 x1 I L
    else
      (f_42 n q2 I L).bind fun q4 =>
      if q4.1 = 0 then
        c_33_1 n K0 x1 q4.2.1 q4.2.2
      else
        c_33_1 n K0 x1 (u2 q4.2.1 114 8 ((q4.2.1 114 8) + (1 : Int32))) q4.2.2
def c_33_0 (n : Nat) : Nat → Int32 → FI → FL → Option (Int32 × FI × FL)
  | 0, _, _, _ => none
  | m + 1, x1, I, L => b_33_0 n (c_33_0 n m) x1 I L
set_option maxHeartbeats 1000000 in
set_option maxRecDepth 20000 in
theorem tc_33_0 (Ls : Nat) (xs : Nat → Int32) (d : Nat) (nh : Option Nat) (rh : Option Nat) (n : Nat) : ∀ (m : Nat) (w2 : Option Value) (x1 : Int32) (I : FI) (L : FL) (r : Int32 × FI × FL), c_33_0 n m x1 I L = some r → Bs cd_33 (sf 5 rs_5 false 3 (some (.int)) Ls xs (d + 4)) (27, [some (.ref 114), some (.int x1), w2], [], hp (some 114) nh rh TK (RK (some 3)) I L) (some (.int r.1), hp (some 114) nh rh TK (RK (some 3)) r.2.1 r.2.2)
  | 0, w2, x1, I, L, r, hf => by cases hf
  | m + 1, w2, x1, I, L, r, hf => by
    unfold c_33_0 b_33_0 at hf
    have hK0 := tc_33_0 Ls xs d nh rh n m
    refine bs_st 6 (x' := (38, [some (.ref 114), some (.int x1), w2], [.int ((I 3 4) <<< ((12 : Int32) &&& 31)), .int x1], hp (some 114) nh rh TK (RK (some 3)) I L)) rfl ?_
    refine bs_br (t := 84) (e := 41) (lo := [some (.ref 114), some (.int x1), w2]) (st := []) (h := hp (some 114) nh rh TK (RK (some 3)) I L) rfl hf (fun hc hf => ?_) (fun hc hf => ?_)
    · refine bs_st 2 (x' := (88, [some (.ref 114), some (.int x1), w2], [.int (I 114 8)], hp (some 114) nh rh TK (RK (some 3)) I L)) rfl ?_
      cases hf
      exact bs_ret rfl
    · refine bs_st 1 (x' := (42, [some (.ref 114), some (.int x1), w2], [.int x1], hp (some 114) nh rh TK (RK (some 3)) I L)) rfl ?_
      obtain ⟨q2, hq2, hf⟩ := Option.bind_eq_some_iff.mp hf
      refine bs_call (o := pEN Ls xs (d + 4) 49 [.int x1] (hp (some 114) nh rh TK (RK (some 3)) I L)) (w := some (.int q2)) (h' := hp (some 114) nh rh TK (RK (some 3)) I L) (pc := 45) (lo := [some (.ref 114), some (.int x1), w2]) (rest := []) rfl (t_49 Ls xs (d + 3) nh rh x1 I L q2 hq2) ?_
      refine bs_st 6 (x' := (54, [some (.ref 114), some (.int x1), some (.int q2)], [.int (q2 &&& (65535 : Int32)), .ref 115], hp (some 114) nh rh TK (RK (some 3)) I L)) rfl ?_
      obtain ⟨q3, hq3, hf⟩ := Option.bind_eq_some_iff.mp hf
      refine bs_call (o := pEN Ls xs (d + 4) 6 [.ref 115, .int (q2 &&& (65535 : Int32))] (hp (some 114) nh rh TK (RK (some 3)) I L)) (w := some (.int q3)) (h' := hp (some 114) nh rh TK (RK (some 3)) I L) (pc := 57) (lo := [some (.ref 114), some (.int x1), some (.int q2)]) (rest := []) rfl (t_6 Ls xs (d + 3) nh rh (q2 &&& (65535 : Int32)) I L q3 hq3) ?_
      refine bs_br (t := 78) (e := 60) (lo := [some (.ref 114), some (.int x1), some (.int q2)]) (st := []) (h := hp (some 114) nh rh TK (RK (some 3)) I L) rfl hf (fun hc hf => ?_) (fun hc hf => ?_)
      · exact tc_33_1 Ls xs d nh rh n _ hK0 (some (.int q2)) x1 I L r hf
      · refine bs_st 2 (x' := (62, [some (.ref 114), some (.int x1), some (.int q2)], [.int q2, .ref 114], hp (some 114) nh rh TK (RK (some 3)) I L)) rfl ?_
        obtain ⟨q4, hq4, hf⟩ := Option.bind_eq_some_iff.mp hf
        refine bs_call (o := pEN Ls xs (d + 4) 42 [.ref 114, .int q2] (hp (some 114) nh rh TK (RK (some 3)) I L)) (w := some (.int q4.1)) (h' := hp (some 114) nh rh TK (RK (some 3)) q4.2.1 q4.2.2) (pc := 65) (lo := [some (.ref 114), some (.int x1), some (.int q2)]) (rest := []) rfl (t_42 Ls xs (d + 0) nh rh n q2 I L q4 hq4) ?_
        refine bs_br (t := 78) (e := 68) (lo := [some (.ref 114), some (.int x1), some (.int q2)]) (st := []) (h := hp (some 114) nh rh TK (RK (some 3)) q4.2.1 q4.2.2) rfl hf (fun hc hf => ?_) (fun hc hf => ?_)
        · exact tc_33_1 Ls xs d nh rh n _ hK0 (some (.int q2)) x1 q4.2.1 q4.2.2 r hf
        · refine bs_st 6 (x' := (78, [some (.ref 114), some (.int x1), some (.int q2)], [], hp (some 114) nh rh TK (RK (some 3)) (u2 q4.2.1 114 8 ((q4.2.1 114 8) + (1 : Int32))) q4.2.2)) rfl ?_
          exact tc_33_1 Ls xs d nh rh n _ hK0 (some (.int q2)) x1 (u2 q4.2.1 114 8 ((q4.2.1 114 8) + (1 : Int32))) q4.2.2 r hf
def f_33 (n : Nat) (I : FI) (L : FL) : Option (Int32 × FI × FL) :=
  if ¬ I 114 8 = (-3 : Int32) then
    some (I 114 8, I, L)
  else
    (f_24 I L).bind fun q0 =>
    (f_38 n q0 I L).bind fun q1 =>
    c_33_0 n n (0 : Int32) (u2 q1.1 114 8 (0 : Int32)) q1.2
set_option maxHeartbeats 1000000 in
set_option maxRecDepth 20000 in
theorem t_33 (Ls : Nat) (xs : Nat → Int32) (d : Nat) (nh : Option Nat) (rh : Option Nat) (n : Nat) (I : FI) (L : FL) (r : Int32 × FI × FL) (hf : f_33 n I L = some r) : pEN Ls xs (d + 5) 33 [.ref 114] (hp (some 114) nh rh TK (RK (some 3)) I L) = some (some (.int r.1), hp (some 114) nh rh TK (RK (some 3)) r.2.1 r.2.2) := by
  refine en_run (d := d + 4) (cd := cd_33) (f := (sf 5 rs_5 false 3 (some (.int)) Ls xs (d + 4))) rfl rfl (x := (0, [some (.ref 114), none, none], [], hp (some 114) nh rh TK (RK (some 3)) I L)) rfl rfl (Nat.le_of_ble_eq_true rfl) ?_
  unfold f_33 at hf
  refine bs_st 3 (x' := (6, [some (.ref 114), none, none], [.int (-3 : Int32), .int (I 114 8)], hp (some 114) nh rh TK (RK (some 3)) I L)) rfl ?_
  refine bs_br (t := 84) (e := 9) (lo := [some (.ref 114), none, none]) (st := []) (h := hp (some 114) nh rh TK (RK (some 3)) I L) rfl hf (fun hc hf => ?_) (fun hc hf => ?_)
  · refine bs_st 2 (x' := (88, [some (.ref 114), none, none], [.int (I 114 8)], hp (some 114) nh rh TK (RK (some 3)) I L)) rfl ?_
    cases hf
    exact bs_ret rfl
  · refine bs_st 3 (x' := (14, [some (.ref 114), none, none], [.ref 3, .ref 114], hp (some 114) nh rh TK (RK (some 3)) I L)) rfl ?_
    obtain ⟨q0, hq0, hf⟩ := Option.bind_eq_some_iff.mp hf
    refine bs_call (o := pEN Ls xs (d + 4) 24 [.ref 3] (hp (some 114) nh rh TK (RK (some 3)) I L)) (w := some (.int q0)) (h' := hp (some 114) nh rh TK (RK (some 3)) I L) (pc := 17) (lo := [some (.ref 114), none, none]) (rest := [.ref 114]) rfl (t_24 Ls xs (d + 3) (some 114) TK (RK (some 3)) nh rh I L q0 hq0) ?_
    obtain ⟨q1, hq1, hf⟩ := Option.bind_eq_some_iff.mp hf
    refine bs_call (o := pEN Ls xs (d + 4) 38 [.ref 114, .int q0] (hp (some 114) nh rh TK (RK (some 3)) I L)) (w := none) (h' := hp (some 114) nh rh TK (RK (some 3)) q1.1 q1.2) (pc := 20) (lo := [some (.ref 114), none, none]) (rest := []) rfl (t_38 Ls xs (d + 1) nh rh n q0 I L q1 hq1) ?_
    refine bs_st 5 (x' := (27, [some (.ref 114), some (.int (0 : Int32)), none], [], hp (some 114) nh rh TK (RK (some 3)) (u2 q1.1 114 8 (0 : Int32)) q1.2)) rfl ?_
    exact tc_33_0 Ls xs d nh rh n n none (0 : Int32) (u2 q1.1 114 8 (0 : Int32)) q1.2 r hf
