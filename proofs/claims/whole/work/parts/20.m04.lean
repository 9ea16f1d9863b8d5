/-- LampRoundsModel.isRing() on (89,) -/
def b_312_0 (n : Nat) (K0 : Int32 → FI → FL → Option (Int32 × FI × FL)) (x1 : Int32) (I : FI) (L : FL) : Option (Int32 × FI × FL) :=
  if I 96 6 ≤ x1 then
    if I 96 6 ≤ 0 then
      some ((0 : Int32), I, L)
    else
      (f_305 n (I 96 6) I L).bind fun q2 =>
      if q2.1 = 0 then
        some ((0 : Int32), q2.2.1, q2.2.2)
      else
        some ((1 : Int32), q2.2.1, q2.2.2)
  else
    if pin x1 60 = true then (if pin x1 12 = true then K0 (x1 + (1 : Int32)) (u2 I 111 x1.toNatClampNeg (I 100 x1.toNatClampNeg)) L else none) else none
def c_312_0 (n : Nat) : Nat → Int32 → FI → FL → Option (Int32 × FI × FL)
  | 0, _, _, _ => none
  | m + 1, x1, I, L => b_312_0 n (c_312_0 n m) x1 I L
set_option maxHeartbeats 1000000 in
set_option maxRecDepth 20000 in
theorem tc_312_0 (Ls : Nat) (xs : Nat → Int32) (d : Nat) (kp : Option Nat) (tl : List (Nat × Nat)) (rl : List (List (Option Nat))) (nh : Option Nat) (rh : Option Nat) (n : Nat) : ∀ (m : Nat) (x1 : Int32) (I : FI) (L : FL) (r : Int32 × FI × FL), c_312_0 n m x1 I L = some r → Bs cd_312 (sf 12 rs_12 false 2 (some (.int)) Ls xs (d + 4)) (21, [some (.ref 89), some (.int x1)], [], hp kp nh rh tl rl I L) (some (.int r.1), hp kp nh rh tl rl r.2.1 r.2.2)
  | 0, x1, I, L, r, hf => by cases hf
  | m + 1, x1, I, L, r, hf => by
    unfold c_312_0 b_312_0 at hf
    have hK0 := tc_312_0 Ls xs d kp tl rl nh rh n m
    refine bs_st 5 (x' := (29, [some (.ref 89), some (.int x1)], [.int (I 96 6), .int x1], hp kp nh rh tl rl I L)) rfl ?_
    refine bs_br (t := 50) (e := 32) (lo := [some (.ref 89), some (.int x1)]) (st := []) (h := hp kp nh rh tl rl I L) rfl hf (fun hc hf => ?_) (fun hc hf => ?_)
    · refine bs_st 4 (x' := (57, [some (.ref 89), some (.int x1)], [.int (I 96 6)], hp kp nh rh tl rl I L)) rfl ?_
      refine bs_br (t := 78) (e := 60) (lo := [some (.ref 89), some (.int x1)]) (st := []) (h := hp kp nh rh tl rl I L) rfl hf (fun hc hf => ?_) (fun hc hf => ?_)
      · refine bs_st 1 (x' := (79, [some (.ref 89), some (.int x1)], [.int (0 : Int32)], hp kp nh rh tl rl I L)) rfl ?_
        cases hf
        exact bs_ret rfl
      · refine bs_st 5 (x' := (68, [some (.ref 89), some (.int x1)], [.int (I 96 6), .ref 89], hp kp nh rh tl rl I L)) rfl ?_
        obtain ⟨q2, hq2, hf⟩ := Option.bind_eq_some_iff.mp hf
        refine bs_call (o := pEN Ls xs (d + 4) 305 [.ref 89, .int (I 96 6)] (hp kp nh rh tl rl I L)) (w := some (.int q2.1)) (h' := hp kp nh rh tl rl q2.2.1 q2.2.2) (pc := 71) (lo := [some (.ref 89), some (.int x1)]) (rest := []) rfl (t_305 Ls xs (d + 0) kp tl rl nh rh n (I 96 6) I L q2 hq2) ?_
        refine bs_br (t := 78) (e := 74) (lo := [some (.ref 89), some (.int x1)]) (st := []) (h := hp kp nh rh tl rl q2.2.1 q2.2.2) rfl hf (fun hc hf => ?_) (fun hc hf => ?_)
        · refine bs_st 1 (x' := (79, [some (.ref 89), some (.int x1)], [.int (0 : Int32)], hp kp nh rh tl rl q2.2.1 q2.2.2)) rfl ?_
          cases hf
          exact bs_ret rfl
        · refine bs_st 2 (x' := (79, [some (.ref 89), some (.int x1)], [.int (1 : Int32)], hp kp nh rh tl rl q2.2.1 q2.2.2)) rfl ?_
          cases hf
          exact bs_ret rfl
    · refine bs_st 6 (x' := (42, [some (.ref 89), some (.int x1)], [.int x1, .ref 100, .int x1, .ref 111], hp kp nh rh tl rl I L)) rfl ?_
      refine bs_gd (x' := (43, [some (.ref 89), some (.int x1)], [.int (I 100 x1.toNatClampNeg), .int x1, .ref 111], hp kp nh rh tl rl I L)) rfl hf (fun hc hf => ?_)
      refine bs_gd (x' := (44, [some (.ref 89), some (.int x1)], [], hp kp nh rh tl rl (u2 I 111 x1.toNatClampNeg (I 100 x1.toNatClampNeg)) L)) rfl hf (fun hc hf => ?_)
      refine bs_st 2 (x' := (21, [some (.ref 89), some (.int (x1 + (1 : Int32)))], [], hp kp nh rh tl rl (u2 I 111 x1.toNatClampNeg (I 100 x1.toNatClampNeg)) L)) rfl ?_
      exact hK0 (x1 + (1 : Int32)) (u2 I 111 x1.toNatClampNeg (I 100 x1.toNatClampNeg)) L r hf
def f_312 (n : Nat) (I : FI) (L : FL) : Option (Int32 × FI × FL) :=
  (f_236 (u2 I 89 0 (0 : Int32)) L).bind fun q0 =>
  if ¬ q0 = 0 then
    (f_252 n (u2 I 89 0 (0 : Int32)) L).bind fun q1 =>
    c_312_0 n n (0 : Int32) q1.1 q1.2
  else
    some ((-2 : Int32), (u2 I 89 0 (0 : Int32)), L)
set_option maxHeartbeats 1000000 in
set_option maxRecDepth 20000 in
theorem t_312 (Ls : Nat) (xs : Nat → Int32) (d : Nat) (kp : Option Nat) (tl : List (Nat × Nat)) (rl : List (List (Option Nat))) (nh : Option Nat) (rh : Option Nat) (n : Nat) (I : FI) (L : FL) (r : Int32 × FI × FL) (hf : f_312 n I L = some r) : pEN Ls xs (d + 5) 312 [.ref 89] (hp kp nh rh tl rl I L) = some (some (.int r.1), hp kp nh rh tl rl r.2.1 r.2.2) := by
  refine en_run (d := d + 4) (cd := cd_312) (f := (sf 12 rs_12 false 2 (some (.int)) Ls xs (d + 4))) rfl rfl (x := (0, [some (.ref 89), none], [], hp kp nh rh tl rl I L)) rfl rfl (Nat.le_of_ble_eq_true rfl) ?_
  unfold f_312 at hf
  refine bs_st 4 (x' := (6, [some (.ref 89), none], [.ref 89], hp kp nh rh tl rl (u2 I 89 0 (0 : Int32)) L)) rfl ?_
  obtain ⟨q0, hq0, hf⟩ := Option.bind_eq_some_iff.mp hf
  refine bs_call (o := pEN Ls xs (d + 4) 236 [.ref 89] (hp kp nh rh tl rl (u2 I 89 0 (0 : Int32)) L)) (w := some (.int q0)) (h' := hp kp nh rh tl rl (u2 I 89 0 (0 : Int32)) L) (pc := 9) (lo := [some (.ref 89), none]) (rest := []) rfl (t_236 Ls xs (d + 3) kp tl rl nh rh (u2 I 89 0 (0 : Int32)) L q0 hq0) ?_
  refine bs_br (t := 15) (e := 12) (lo := [some (.ref 89), none]) (st := []) (h := hp kp nh rh tl rl (u2 I 89 0 (0 : Int32)) L) rfl hf (fun hc hf => ?_) (fun hc hf => ?_)
  · refine bs_st 1 (x' := (16, [some (.ref 89), none], [.ref 89], hp kp nh rh tl rl (u2 I 89 0 (0 : Int32)) L)) rfl ?_
    obtain ⟨q1, hq1, hf⟩ := Option.bind_eq_some_iff.mp hf
    refine bs_call (o := pEN Ls xs (d + 4) 252 [.ref 89] (hp kp nh rh tl rl (u2 I 89 0 (0 : Int32)) L)) (w := none) (h' := hp kp nh rh tl rl q1.1 q1.2) (pc := 19) (lo := [some (.ref 89), none]) (rest := []) rfl (t_252 Ls xs (d + 2) kp tl rl nh rh n (u2 I 89 0 (0 : Int32)) L q1 hq1) ?_
    refine bs_st 2 (x' := (21, [some (.ref 89), some (.int (0 : Int32))], [], hp kp nh rh tl rl q1.1 q1.2)) rfl ?_
    exact tc_312_0 Ls xs d kp tl rl nh rh n n (0 : Int32) q1.1 q1.2 r hf
  · refine bs_st 1 (x' := (14, [some (.ref 89), none], [.int (-2 : Int32)], hp kp nh rh tl rl (u2 I 89 0 (0 : Int32)) L)) rfl ?_
    cases hf
    exact bs_ret rfl
/-- LampRoundsModel.savedOf() on (89,) -/
def c_313_1 (n : Nat) (K0 : Int32 → Int32 → FI → FL → Option (Int32 × FI × FL)) (x1 : Int32) (x2 : Int32) (I : FI) (L : FL) : Option (Int32 × FI × FL) :=
  K0 x1 (x2 + (1 : Int32)) I L
set_option maxHeartbeats 1000000 in
set_option maxRecDepth 20000 in
theorem tc_313_1 (Ls : Nat) (xs : Nat → Int32) (d : Nat) (kp : Option Nat) (tl : List (Nat × Nat)) (rl : List (List (Option Nat))) (nh : Option Nat) (rh : Option Nat) (n : Nat) (K0 : Int32 → Int32 → FI → FL → Option (Int32 × FI × FL)) (hK0 : ∀ (x1 : Int32) (x2 : Int32) (I : FI) (L : FL) (r : Int32 × FI × FL), K0 x1 x2 I L = some r → Bs cd_313 (sf 12 rs_12 false 3 (some (.int)) Ls xs (d + 6)) (8, [some (.ref 89), some (.int x1), some (.int x2)], [], hp kp nh rh tl rl I L) (some (.int r.1), hp kp nh rh tl rl r.2.1 r.2.2)) (x1 : Int32) (x2 : Int32) (I : FI) (L : FL) (r : Int32 × FI × FL) (hf : c_313_1 n K0 x1 x2 I L = some r) : Bs cd_313 (sf 12 rs_12 false 3 (some (.int)) Ls xs (d + 6)) (43, [some (.ref 89), some (.int x1), some (.int x2)], [], hp kp nh rh tl rl I L) (some (.int r.1), hp kp nh rh tl rl r.2.1 r.2.2) := by
  unfold c_313_1 at hf
  refine bs_st 2 (x' := (8, [some (.ref 89), some (.int x1), some (.int (x2 + (1 : Int32)))], [], hp kp nh rh tl rl I L)) rfl ?_
  exact hK0 x1 (x2 + (1 : Int32)) I L r hf
def b_313_0 (n : Nat) (K0 : Int32 → Int32 → FI → FL → Option (Int32 × FI × FL)) (x1 : Int32) (x2 : Int32) (I : FI) (L : FL) : Option (Int32 × FI × FL) :=
  (f_298 I L).bind fun q1 =>
  if q1 < x2 then
    some (x1, I, L)
  else
    (f_280 n x2 I L).bind fun q2 =>
    (f_280 n x1 I L).bind fun q3 =>
    if q2 ≤ q3 then
      c_313_1 n K0 x1 x2 I L
    else
      (f_256 I L).bind fun q4 =>
      (f_297 n q4 x2 I L).bind fun q5 =>
      if q5.1 = 0 then
        c_313_1 n K0 x1 x2 q5.2.1 q5.2.2
      else
        c_313_1 n K0 x2 x2 q5.2.1 q5.2.2
def c_313_0 (n : Nat) : Nat → Int32 → Int32 → FI → FL → Option (Int32 × FI × FL)
  | 0, _, _, _, _ => none
  | m + 1, x1, x2, I, L => b_313_0 n (c_313_0 n m) x1 x2 I L
set_option maxHeartbeats 1000000 in
set_option maxRecDepth 20000 in
theorem tc_313_0 (Ls : Nat) (xs : Nat → Int32) (d : Nat) (kp : Option Nat) (tl : List (Nat × Nat)) (rl : List (List (Option Nat))) (nh : Option Nat) (rh : Option Nat) (n : Nat) : ∀ (m : Nat) (x1 : Int32) (x2 : Int32) (I : FI) (L : FL) (r : Int32 × FI × FL), c_313_0 n m x1 x2 I L = some r → Bs cd_313 (sf 12 rs_12 false 3 (some (.int)) Ls xs (d + 6)) (8, [some (.ref 89), some (.int x1), some (.int x2)], [], hp kp nh rh tl rl I L) (some (.int r.1), hp kp nh rh tl rl r.2.1 r.2.2)
  | 0, x1, x2, I, L, r, hf => by cases hf
  | m + 1, x1, x2, I, L, r, hf => by
    unfold c_313_0 b_313_0 at hf
    have hK0 := tc_313_0 Ls xs d kp tl rl nh rh n m
    refine bs_st 2 (x' := (10, [some (.ref 89), some (.int x1), some (.int x2)], [.ref 89, .int x2], hp kp nh rh tl rl I L)) rfl ?_
    obtain ⟨q1, hq1, hf⟩ := Option.bind_eq_some_iff.mp hf
    refine bs_call (o := pEN Ls xs (d + 6) 298 [.ref 89] (hp kp nh rh tl rl I L)) (w := some (.int q1)) (h' := hp kp nh rh tl rl I L) (pc := 13) (lo := [some (.ref 89), some (.int x1), some (.int x2)]) (rest := [.int x2]) rfl (t_298 Ls xs (d + 4) kp tl rl nh rh I L q1 hq1) ?_
    refine bs_br (t := 49) (e := 16) (lo := [some (.ref 89), some (.int x1), some (.int x2)]) (st := []) (h := hp kp nh rh tl rl I L) rfl hf (fun hc hf => ?_) (fun hc hf => ?_)
    · refine bs_st 1 (x' := (50, [some (.ref 89), some (.int x1), some (.int x2)], [.int x1], hp kp nh rh tl rl I L)) rfl ?_
      cases hf
      exact bs_ret rfl
    · refine bs_st 2 (x' := (18, [some (.ref 89), some (.int x1), some (.int x2)], [.int x2, .ref 89], hp kp nh rh tl rl I L)) rfl ?_
      obtain ⟨q2, hq2, hf⟩ := Option.bind_eq_some_iff.mp hf
      refine bs_call (o := pEN Ls xs (d + 6) 280 [.ref 89, .int x2] (hp kp nh rh tl rl I L)) (w := some (.int q2)) (h' := hp kp nh rh tl rl I L) (pc := 21) (lo := [some (.ref 89), some (.int x1), some (.int x2)]) (rest := []) rfl (t_280 Ls xs (d + 4) kp tl rl nh rh n x2 I L q2 hq2) ?_
      refine bs_st 2 (x' := (23, [some (.ref 89), some (.int x1), some (.int x2)], [.int x1, .ref 89, .int q2], hp kp nh rh tl rl I L)) rfl ?_
      obtain ⟨q3, hq3, hf⟩ := Option.bind_eq_some_iff.mp hf
      refine bs_call (o := pEN Ls xs (d + 6) 280 [.ref 89, .int x1] (hp kp nh rh tl rl I L)) (w := some (.int q3)) (h' := hp kp nh rh tl rl I L) (pc := 26) (lo := [some (.ref 89), some (.int x1), some (.int x2)]) (rest := [.int q2]) rfl (t_280 Ls xs (d + 4) kp tl rl nh rh n x1 I L q3 hq3) ?_
      refine bs_br (t := 43) (e := 29) (lo := [some (.ref 89), some (.int x1), some (.int x2)]) (st := []) (h := hp kp nh rh tl rl I L) rfl hf (fun hc hf => ?_) (fun hc hf => ?_)
      · exact tc_313_1 Ls xs d kp tl rl nh rh n _ hK0 x1 x2 I L r hf
      · refine bs_st 2 (x' := (31, [some (.ref 89), some (.int x1), some (.int x2)], [.ref 89, .ref 89], hp kp nh rh tl rl I L)) rfl ?_
        obtain ⟨q4, hq4, hf⟩ := Option.bind_eq_some_iff.mp hf
        refine bs_call (o := pEN Ls xs (d + 6) 256 [.ref 89] (hp kp nh rh tl rl I L)) (w := some (.int q4)) (h' := hp kp nh rh tl rl I L) (pc := 34) (lo := [some (.ref 89), some (.int x1), some (.int x2)]) (rest := [.ref 89]) rfl (t_256 Ls xs (d + 4) kp tl rl nh rh I L q4 hq4) ?_
        refine bs_st 1 (x' := (35, [some (.ref 89), some (.int x1), some (.int x2)], [.int x2, .int q4, .ref 89], hp kp nh rh tl rl I L)) rfl ?_
        obtain ⟨q5, hq5, hf⟩ := Option.bind_eq_some_iff.mp hf
        refine bs_call (o := pEN Ls xs (d + 6) 297 [.ref 89, .int q4, .int x2] (hp kp nh rh tl rl I L)) (w := some (.int q5.1)) (h' := hp kp nh rh tl rl q5.2.1 q5.2.2) (pc := 38) (lo := [some (.ref 89), some (.int x1), some (.int x2)]) (rest := []) rfl (t_297 Ls xs (d + 0) kp tl rl nh rh n q4 x2 I L q5 hq5) ?_
        refine bs_br (t := 43) (e := 41) (lo := [some (.ref 89), some (.int x1), some (.int x2)]) (st := []) (h := hp kp nh rh tl rl q5.2.1 q5.2.2) rfl hf (fun hc hf => ?_) (fun hc hf => ?_)
        · exact tc_313_1 Ls xs d kp tl rl nh rh n _ hK0 x1 x2 q5.2.1 q5.2.2 r hf
        · refine bs_st 2 (x' := (43, [some (.ref 89), some (.int x2), some (.int x2)], [], hp kp nh rh tl rl q5.2.1 q5.2.2)) rfl ?_
          exact tc_313_1 Ls xs d kp tl rl nh rh n _ hK0 x2 x2 q5.2.1 q5.2.2 r hf
def f_313 (n : Nat) (I : FI) (L : FL) : Option (Int32 × FI × FL) :=
  (f_252 n I L).bind fun q0 =>
  c_313_0 n n (0 : Int32) (1 : Int32) q0.1 q0.2
set_option maxHeartbeats 1000000 in
set_option maxRecDepth 20000 in
theorem t_313 (Ls : Nat) (xs : Nat → Int32) (d : Nat) (kp : Option Nat) (tl : List (Nat × Nat)) (rl : List (List (Option Nat))) (nh : Option Nat) (rh : Option Nat) (n : Nat) (I : FI) (L : FL) (r : Int32 × FI × FL) (hf : f_313 n I L = some r) : pEN Ls xs (d + 7) 313 [.ref 89] (hp kp nh rh tl rl I L) = some (some (.int r.1), hp kp nh rh tl rl r.2.1 r.2.2) := by
  refine en_run (d := d + 6) (cd := cd_313) (f := (sf 12 rs_12 false 3 (some (.int)) Ls xs (d + 6))) rfl rfl (x := (0, [some (.ref 89), none, none], [], hp kp nh rh tl rl I L)) rfl rfl (Nat.le_of_ble_eq_true rfl) ?_
  unfold f_313 at hf
  refine bs_st 1 (x' := (1, [some (.ref 89), none, none], [.ref 89], hp kp nh rh tl rl I L)) rfl ?_
  obtain ⟨q0, hq0, hf⟩ := Option.bind_eq_some_iff.mp hf
  refine bs_call (o := pEN Ls xs (d + 6) 252 [.ref 89] (hp kp nh rh tl rl I L)) (w := none) (h' := hp kp nh rh tl rl q0.1 q0.2) (pc := 4) (lo := [some (.ref 89), none, none]) (rest := []) rfl (t_252 Ls xs (d + 4) kp tl rl nh rh n I L q0 hq0) ?_
  refine bs_st 4 (x' := (8, [some (.ref 89), some (.int (0 : Int32)), some (.int (1 : Int32))], [], hp kp nh rh tl rl q0.1 q0.2)) rfl ?_
  exact tc_313_0 Ls xs d kp tl rl nh rh n n (0 : Int32) (1 : Int32) q0.1 q0.2 r hf
/-- LampRoundsModel.most() on (89,) -/
def f_314 (n : Nat) (I : FI) (L : FL) : Option (Int32 × FI × FL) :=
  (f_236 (u2 I 89 0 (0 : Int32)) L).bind fun q0 =>
  if q0 = 0 then
    some ((-2 : Int32), (u2 I 89 0 (0 : Int32)), L)
  else
    (f_313 n (u2 I 89 0 (0 : Int32)) L).bind fun q1 =>
    (f_280 n q1.1 q1.2.1 q1.2.2).bind fun q2 =>
    some (q2, q1.2.1, q1.2.2)
set_option maxHeartbeats 1000000 in
set_option maxRecDepth 20000 in
theorem t_314 (Ls : Nat) (xs : Nat → Int32) (d : Nat) (kp : Option Nat) (tl : List (Nat × Nat)) (rl : List (List (Option Nat))) (nh : Option Nat) (rh : Option Nat) (n : Nat) (I : FI) (L : FL) (r : Int32 × FI × FL) (hf : f_314 n I L = some r) : pEN Ls xs (d + 8) 314 [.ref 89] (hp kp nh rh tl rl I L) = some (some (.int r.1), hp kp nh rh tl rl r.2.1 r.2.2) := by
  refine en_run (d := d + 7) (cd := cd_314) (f := (sf 12 rs_12 false 1 (some (.int)) Ls xs (d + 7))) rfl rfl (x := (0, [some (.ref 89)], [], hp kp nh rh tl rl I L)) rfl rfl (Nat.le_of_ble_eq_true rfl) ?_
  unfold f_314 at hf
  refine bs_st 4 (x' := (6, [some (.ref 89)], [.ref 89], hp kp nh rh tl rl (u2 I 89 0 (0 : Int32)) L)) rfl ?_
  obtain ⟨q0, hq0, hf⟩ := Option.bind_eq_some_iff.mp hf
  refine bs_call (o := pEN Ls xs (d + 7) 236 [.ref 89] (hp kp nh rh tl rl (u2 I 89 0 (0 : Int32)) L)) (w := some (.int q0)) (h' := hp kp nh rh tl rl (u2 I 89 0 (0 : Int32)) L) (pc := 9) (lo := [some (.ref 89)]) (rest := []) rfl (t_236 Ls xs (d + 6) kp tl rl nh rh (u2 I 89 0 (0 : Int32)) L q0 hq0) ?_
  refine bs_br (t := 23) (e := 12) (lo := [some (.ref 89)]) (st := []) (h := hp kp nh rh tl rl (u2 I 89 0 (0 : Int32)) L) rfl hf (fun hc hf => ?_) (fun hc hf => ?_)
  · refine bs_st 1 (x' := (25, [some (.ref 89)], [.int (-2 : Int32)], hp kp nh rh tl rl (u2 I 89 0 (0 : Int32)) L)) rfl ?_
    cases hf
    exact bs_ret rfl
  · refine bs_st 2 (x' := (14, [some (.ref 89)], [.ref 89, .ref 89], hp kp nh rh tl rl (u2 I 89 0 (0 : Int32)) L)) rfl ?_
    obtain ⟨q1, hq1, hf⟩ := Option.bind_eq_some_iff.mp hf
    refine bs_call (o := pEN Ls xs (d + 7) 313 [.ref 89] (hp kp nh rh tl rl (u2 I 89 0 (0 : Int32)) L)) (w := some (.int q1.1)) (h' := hp kp nh rh tl rl q1.2.1 q1.2.2) (pc := 17) (lo := [some (.ref 89)]) (rest := [.ref 89]) rfl (t_313 Ls xs (d + 0) kp tl rl nh rh n (u2 I 89 0 (0 : Int32)) L q1 hq1) ?_
    obtain ⟨q2, hq2, hf⟩ := Option.bind_eq_some_iff.mp hf
    refine bs_call (o := pEN Ls xs (d + 7) 280 [.ref 89, .int q1.1] (hp kp nh rh tl rl q1.2.1 q1.2.2)) (w := some (.int q2)) (h' := hp kp nh rh tl rl q1.2.1 q1.2.2) (pc := 20) (lo := [some (.ref 89)]) (rest := []) rfl (t_280 Ls xs (d + 5) kp tl rl nh rh n q1.1 q1.2.1 q1.2.2 q2 hq2) ?_
    refine bs_st 1 (x' := (25, [some (.ref 89)], [.int q2], hp kp nh rh tl rl q1.2.1 q1.2.2)) rfl ?_
    cases hf
    exact bs_ret rfl
/-- LampRoundsModel.saved() on (89,) -/
def f_315 (n : Nat) (I : FI) (L : FL) : Option (Int32 × FI × FL) :=
  (f_236 (u2 I 89 0 (0 : Int32)) L).bind fun q0 =>
  if q0 = 0 then
    some ((-2 : Int32), (u2 I 89 0 (0 : Int32)), L)
  else
    (f_313 n (u2 I 89 0 (0 : Int32)) L).bind fun q1 =>
    some (q1.1, q1.2.1, q1.2.2)
set_option maxHeartbeats 1000000 in
set_option maxRecDepth 20000 in
theorem t_315 (Ls : Nat) (xs : Nat → Int32) (d : Nat) (kp : Option Nat) (tl : List (Nat × Nat)) (rl : List (List (Option Nat))) (nh : Option Nat) (rh : Option Nat) (n : Nat) (I : FI) (L : FL) (r : Int32 × FI × FL) (hf : f_315 n I L = some r) : pEN Ls xs (d + 8) 315 [.ref 89] (hp kp nh rh tl rl I L) = some (some (.int r.1), hp kp nh rh tl rl r.2.1 r.2.2) := by
  refine en_run (d := d + 7) (cd := cd_315) (f := (sf 12 rs_12 false 1 (some (.int)) Ls xs (d + 7))) rfl rfl (x := (0, [some (.ref 89)], [], hp kp nh rh tl rl I L)) rfl rfl (Nat.le_of_ble_eq_true rfl) ?_
  unfold f_315 at hf
  refine bs_st 4 (x' := (6, [some (.ref 89)], [.ref 89], hp kp nh rh tl rl (u2 I 89 0 (0 : Int32)) L)) rfl ?_
  obtain ⟨q0, hq0, hf⟩ := Option.bind_eq_some_iff.mp hf
  refine bs_call (o := pEN Ls xs (d + 7) 236 [.ref 89] (hp kp nh rh tl rl (u2 I 89 0 (0 : Int32)) L)) (w := some (.int q0)) (h' := hp kp nh rh tl rl (u2 I 89 0 (0 : Int32)) L) (pc := 9) (lo := [some (.ref 89)]) (rest := []) rfl (t_236 Ls xs (d + 6) kp tl rl nh rh (u2 I 89 0 (0 : Int32)) L q0 hq0) ?_
  refine bs_br (t := 19) (e := 12) (lo := [some (.ref 89)]) (st := []) (h := hp kp nh rh tl rl (u2 I 89 0 (0 : Int32)) L) rfl hf (fun hc hf => ?_) (fun hc hf => ?_)
  · refine bs_st 1 (x' := (21, [some (.ref 89)], [.int (-2 : Int32)], hp kp nh rh tl rl (u2 I 89 0 (0 : Int32)) L)) rfl ?_
    cases hf
    exact bs_ret rfl
  · refine bs_st 1 (x' := (13, [some (.ref 89)], [.ref 89], hp kp nh rh tl rl (u2 I 89 0 (0 : Int32)) L)) rfl ?_
    obtain ⟨q1, hq1, hf⟩ := Option.bind_eq_some_iff.mp hf
    refine bs_call (o := pEN Ls xs (d + 7) 313 [.ref 89] (hp kp nh rh tl rl (u2 I 89 0 (0 : Int32)) L)) (w := some (.int q1.1)) (h' := hp kp nh rh tl rl q1.2.1 q1.2.2) (pc := 16) (lo := [some (.ref 89)]) (rest := []) rfl (t_313 Ls xs (d + 0) kp tl rl nh rh n (u2 I 89 0 (0 : Int32)) L q1 hq1) ?_
    refine bs_st 1 (x' := (21, [some (.ref 89)], [.int q1.1], hp kp nh rh tl rl q1.2.1 q1.2.2)) rfl ?_
    cases hf
    exact bs_ret rfl
/-- LampRoundsModel.given() on (89,) -/
def c_316_1 (n : Nat) (K0 : Int32 → Int32 → FI → FL → Option (Int32 × FI × FL)) (x1 : Int32) (x2 : Int32) (I : FI) (L : FL) : Option (Int32 × FI × FL) :=
  K0 x1 (x2 + (1 : Int32)) I L
set_option maxHeartbeats 1000000 in
set_option maxRecDepth 20000 in
theorem tc_316_1 (Ls : Nat) (xs : Nat → Int32) (d : Nat) (kp : Option Nat) (tl : List (Nat × Nat)) (rl : List (List (Option Nat))) (nh : Option Nat) (rh : Option Nat) (n : Nat) (K0 : Int32 → Int32 → FI → FL → Option (Int32 × FI × FL)) (hK0 : ∀ (x1 : Int32) (x2 : Int32) (I : FI) (L : FL) (r : Int32 × FI × FL), K0 x1 x2 I L = some r → Bs cd_316 (sf 12 rs_12 false 3 (some (.int)) Ls xs (d + 6)) (26, [some (.ref 89), some (.int x1), some (.int x2)], [], hp kp nh rh tl rl I L) (some (.int r.1), hp kp nh rh tl rl r.2.1 r.2.2)) (x1 : Int32) (x2 : Int32) (I : FI) (L : FL) (r : Int32 × FI × FL) (hf : c_316_1 n K0 x1 x2 I L = some r) : Bs cd_316 (sf 12 rs_12 false 3 (some (.int)) Ls xs (d + 6)) (66, [some (.ref 89), some (.int x1), some (.int x2)], [], hp kp nh rh tl rl I L) (some (.int r.1), hp kp nh rh tl rl r.2.1 r.2.2) := by
  unfold c_316_1 at hf
  refine bs_st 2 (x' := (26, [some (.ref 89), some (.int x1), some (.int (x2 + (1 : Int32)))], [], hp kp nh rh tl rl I L)) rfl ?_
  exact hK0 x1 (x2 + (1 : Int32)) I L r hf
def b_316_0 (n : Nat) (K0 : Int32 → Int32 → FI → FL → Option (Int32 × FI × FL)) (x1 : Int32) (x2 : Int32) (I : FI) (L : FL) : Option (Int32 × FI × FL) :=
  (f_298 I L).bind fun q3 =>
  if q3 ≤ x2 then
    some (x1, I, L)
  else
    (f_248 n x2 I L).bind fun q4 =>
    (f_248 n x1 I L).bind fun q5 =>
    if q5 ≤ q4 then
      c_316_1 n K0 x1 x2 I L
    else
      (f_256 I L).bind fun q6 =>
      (f_298 I L).bind fun q7 =>
      (f_297 n q6 (q7 &&& (x2 ^^^ (-1 : Int32))) I L).bind fun q8 =>
      if q8.1 = 0 then
        c_316_1 n K0 x1 x2 q8.2.1 q8.2.2
      else
        c_316_1 n K0 x2 x2 q8.2.1 q8.2.2
def c_316_0 (n : Nat) : Nat → Int32 → Int32 → FI → FL → Option (Int32 × FI × FL)
  | 0, _, _, _, _ => none
  | m + 1, x1, x2, I, L => b_316_0 n (c_316_0 n m) x1 x2 I L
set_option maxHeartbeats 1000000 in
set_option maxRecDepth 20000 in
theorem tc_316_0 (Ls : Nat) (xs : Nat → Int32) (d : Nat) (kp : Option Nat) (tl : List (Nat × Nat)) (rl : List (List (Option Nat))) (nh : Option Nat) (rh : Option Nat) (n : Nat) : ∀ (m : Nat) (x1 : Int32) (x2 : Int32) (I : FI) (L : FL) (r : Int32 × FI × FL), c_316_0 n m x1 x2 I L = some r → Bs cd_316 (sf 12 rs_12 false 3 (some (.int)) Ls xs (d + 6)) (26, [some (.ref 89), some (.int x1), some (.int x2)], [], hp kp nh rh tl rl I L) (some (.int r.1), hp kp nh rh tl rl r.2.1 r.2.2)
  | 0, x1, x2, I, L, r, hf => by cases hf
  | m + 1, x1, x2, I, L, r, hf => by
    unfold c_316_0 b_316_0 at hf
    have hK0 := tc_316_0 Ls xs d kp tl rl nh rh n m
    refine bs_st 2 (x' := (28, [some (.ref 89), some (.int x1), some (.int x2)], [.ref 89, .int x2], hp kp nh rh tl rl I L)) rfl ?_
    obtain ⟨q3, hq3, hf⟩ := Option.bind_eq_some_iff.mp hf
    refine bs_call (o := pEN Ls xs (d + 6) 298 [.ref 89] (hp kp nh rh tl rl I L)) (w := some (.int q3)) (h' := hp kp nh rh tl rl I L) (pc := 31) (lo := [some (.ref 89), some (.int x1), some (.int x2)]) (rest := [.int x2]) rfl (t_298 Ls xs (d + 4) kp tl rl nh rh I L q3 hq3) ?_
    refine bs_br (t := 72) (e := 34) (lo := [some (.ref 89), some (.int x1), some (.int x2)]) (st := []) (h := hp kp nh rh tl rl I L) rfl hf (fun hc hf => ?_) (fun hc hf => ?_)
    · refine bs_st 1 (x' := (73, [some (.ref 89), some (.int x1), some (.int x2)], [.int x1], hp kp nh rh tl rl I L)) rfl ?_
      cases hf
      exact bs_ret rfl
    · refine bs_st 1 (x' := (35, [some (.ref 89), some (.int x1), some (.int x2)], [.int x2], hp kp nh rh tl rl I L)) rfl ?_
      obtain ⟨q4, hq4, hf⟩ := Option.bind_eq_some_iff.mp hf
      refine bs_call (o := pEN Ls xs (d + 6) 248 [.int x2] (hp kp nh rh tl rl I L)) (w := some (.int q4)) (h' := hp kp nh rh tl rl I L) (pc := 38) (lo := [some (.ref 89), some (.int x1), some (.int x2)]) (rest := []) rfl (t_248 Ls xs (d + 5) kp tl rl nh rh n x2 I L q4 hq4) ?_
      refine bs_st 1 (x' := (39, [some (.ref 89), some (.int x1), some (.int x2)], [.int x1, .int q4], hp kp nh rh tl rl I L)) rfl ?_
      obtain ⟨q5, hq5, hf⟩ := Option.bind_eq_some_iff.mp hf
      refine bs_call (o := pEN Ls xs (d + 6) 248 [.int x1] (hp kp nh rh tl rl I L)) (w := some (.int q5)) (h' := hp kp nh rh tl rl I L) (pc := 42) (lo := [some (.ref 89), some (.int x1), some (.int x2)]) (rest := [.int q4]) rfl (t_248 Ls xs (d + 5) kp tl rl nh rh n x1 I L q5 hq5) ?_
      refine bs_br (t := 66) (e := 45) (lo := [some (.ref 89), some (.int x1), some (.int x2)]) (st := []) (h := hp kp nh rh tl rl I L) rfl hf (fun hc hf => ?_) (fun hc hf => ?_)
      · exact tc_316_1 Ls xs d kp tl rl nh rh n _ hK0 x1 x2 I L r hf
      · refine bs_st 2 (x' := (47, [some (.ref 89), some (.int x1), some (.int x2)], [.ref 89, .ref 89], hp kp nh rh tl rl I L)) rfl ?_
        obtain ⟨q6, hq6, hf⟩ := Option.bind_eq_some_iff.mp hf
        refine bs_call (o := pEN Ls xs (d + 6) 256 [.ref 89] (hp kp nh rh tl rl I L)) (w := some (.int q6)) (h' := hp kp nh rh tl rl I L) (pc := 50) (lo := [some (.ref 89), some (.int x1), some (.int x2)]) (rest := [.ref 89]) rfl (t_256 Ls xs (d + 4) kp tl rl nh rh I L q6 hq6) ?_
        refine bs_st 1 (x' := (51, [some (.ref 89), some (.int x1), some (.int x2)], [.ref 89, .int q6, .ref 89], hp kp nh rh tl rl I L)) rfl ?_
        obtain ⟨q7, hq7, hf⟩ := Option.bind_eq_some_iff.mp hf
        refine bs_call (o := pEN Ls xs (d + 6) 298 [.ref 89] (hp kp nh rh tl rl I L)) (w := some (.int q7)) (h' := hp kp nh rh tl rl I L) (pc := 54) (lo := [some (.ref 89), some (.int x1), some (.int x2)]) (rest := [.int q6, .ref 89]) rfl (t_298 Ls xs (d + 4) kp tl rl nh rh I L q7 hq7) ?_
        refine bs_st 4 (x' := (58, [some (.ref 89), some (.int x1), some (.int x2)], [.int (q7 &&& (x2 ^^^ (-1 : Int32))), .int q6, .ref 89], hp kp nh rh tl rl I L)) rfl ?_
        obtain ⟨q8, hq8, hf⟩ := Option.bind_eq_some_iff.mp hf
        refine bs_call (o := pEN Ls xs (d + 6) 297 [.ref 89, .int q6, .int (q7 &&& (x2 ^^^ (-1 : Int32)))] (hp kp nh rh tl rl I L)) (w := some (.int q8.1)) (h' := hp kp nh rh tl rl q8.2.1 q8.2.2) (pc := 61) (lo := [some (.ref 89), some (.int x1), some (.int x2)]) (rest := []) rfl (t_297 Ls xs (d + 0) kp tl rl nh rh n q6 (q7 &&& (x2 ^^^ (-1 : Int32))) I L q8 hq8) ?_
        refine bs_br (t := 66) (e := 64) (lo := [some (.ref 89), some (.int x1), some (.int x2)]) (st := []) (h := hp kp nh rh tl rl q8.2.1 q8.2.2) rfl hf (fun hc hf => ?_) (fun hc hf => ?_)
        · exact tc_316_1 Ls xs d kp tl rl nh rh n _ hK0 x1 x2 q8.2.1 q8.2.2 r hf
        · refine bs_st 2 (x' := (66, [some (.ref 89), some (.int x2), some (.int x2)], [], hp kp nh rh tl rl q8.2.1 q8.2.2)) rfl ?_
          exact tc_316_1 Ls xs d kp tl rl nh rh n _ hK0 x2 x2 q8.2.1 q8.2.2 r hf
def f_316 (n : Nat) (I : FI) (L : FL) : Option (Int32 × FI × FL) :=
  (f_236 (u2 I 89 0 (0 : Int32)) L).bind fun q0 =>
  if ¬ q0 = 0 then
    (f_252 n (u2 I 89 0 (0 : Int32)) L).bind fun q1 =>
    (f_298 q1.1 q1.2).bind fun q2 =>
    c_316_0 n n q2 (0 : Int32) q1.1 q1.2
  else
    some ((-2 : Int32), (u2 I 89 0 (0 : Int32)), L)
set_option maxHeartbeats 1000000 in
set_option maxRecDepth 20000 in
theorem t_316 (Ls : Nat) (xs : Nat → Int32) (d : Nat) (kp : Option Nat) (tl : List (Nat × Nat)) (rl : List (List (Option Nat))) (nh : Option Nat) (rh : Option Nat) (n : Nat) (I : FI) (L : FL) (r : Int32 × FI × FL) (hf : f_316 n I L = some r) : pEN Ls xs (d + 7) 316 [.ref 89] (hp kp nh rh tl rl I L) = some (some (.int r.1), hp kp nh rh tl rl r.2.1 r.2.2) := by
  refine en_run (d := d + 6) (cd := cd_316) (f := (sf 12 rs_12 false 3 (some (.int)) Ls xs (d + 6))) rfl rfl (x := (0, [some (.ref 89), none, none], [], hp kp nh rh tl rl I L)) rfl rfl (Nat.le_of_ble_eq_true rfl) ?_
  unfold f_316 at hf
  refine bs_st 4 (x' := (6, [some (.ref 89), none, none], [.ref 89], hp kp nh rh tl rl (u2 I 89 0 (0 : Int32)) L)) rfl ?_
  obtain ⟨q0, hq0, hf⟩ := Option.bind_eq_some_iff.mp hf
  refine bs_call (o := pEN Ls xs (d + 6) 236 [.ref 89] (hp kp nh rh tl rl (u2 I 89 0 (0 : Int32)) L)) (w := some (.int q0)) (h' := hp kp nh rh tl rl (u2 I 89 0 (0 : Int32)) L) (pc := 9) (lo := [some (.ref 89), none, none]) (rest := []) rfl (t_236 Ls xs (d + 5) kp tl rl nh rh (u2 I 89 0 (0 : Int32)) L q0 hq0) ?_
  refine bs_br (t := 15) (e := 12) (lo := [some (.ref 89), none, none]) (st := []) (h := hp kp nh rh tl rl (u2 I 89 0 (0 : Int32)) L) rfl hf (fun hc hf => ?_) (fun hc hf => ?_)
  · refine bs_st 1 (x' := (16, [some (.ref 89), none, none], [.ref 89], hp kp nh rh tl rl (u2 I 89 0 (0 : Int32)) L)) rfl ?_
    obtain ⟨q1, hq1, hf⟩ := Option.bind_eq_some_iff.mp hf
    refine bs_call (o := pEN Ls xs (d + 6) 252 [.ref 89] (hp kp nh rh tl rl (u2 I 89 0 (0 : Int32)) L)) (w := none) (h' := hp kp nh rh tl rl q1.1 q1.2) (pc := 19) (lo := [some (.ref 89), none, none]) (rest := []) rfl (t_252 Ls xs (d + 4) kp tl rl nh rh n (u2 I 89 0 (0 : Int32)) L q1 hq1) ?_
    refine bs_st 1 (x' := (20, [some (.ref 89), none, none], [.ref 89], hp kp nh rh tl rl q1.1 q1.2)) rfl ?_
    obtain ⟨q2, hq2, hf⟩ := Option.bind_eq_some_iff.mp hf
    refine bs_call (o := pEN Ls xs (d + 6) 298 [.ref 89] (hp kp nh rh tl rl q1.1 q1.2)) (w := some (.int q2)) (h' := hp kp nh rh tl rl q1.1 q1.2) (pc := 23) (lo := [some (.ref 89), none, none]) (rest := []) rfl (t_298 Ls xs (d + 4) kp tl rl nh rh q1.1 q1.2 q2 hq2) ?_
    refine bs_st 3 (x' := (26, [some (.ref 89), some (.int q2), some (.int (0 : Int32))], [], hp kp nh rh tl rl q1.1 q1.2)) rfl ?_
    exact tc_316_0 Ls xs d kp tl rl nh rh n n q2 (0 : Int32) q1.1 q1.2 r hf
  · refine bs_st 1 (x' := (14, [some (.ref 89), none, none], [.int (-2 : Int32)], hp kp nh rh tl rl (u2 I 89 0 (0 : Int32)) L)) rfl ?_
    cases hf
    exact bs_ret rfl
/-- LampRoundsModel.longer(I) on (89,) -/
def b_317_0 (n : Nat) (K0 : Int32 → Int32 → FI → FL → Option (Int32 × FI × FL)) (x1 : Int32) (x2 : Int32) (I : FI) (L : FL) : Option (Int32 × FI × FL) :=
  if pin ((2 : Int32) * x1) 40 = true then (if (7 : Int32) < ((I 97 (((2 : Int32) * x1).toNatClampNeg)) + x2) then
      some ((-1 : Int32), I, L)
    else
      if pin ((2 : Int32) * x1) 40 = true then (if pin x1 4 = true then ((f_256 (u2 I 104 x1.toNatClampNeg ((I 97 (((2 : Int32) * x1).toNatClampNeg)) + x2)) L).bind fun q2 =>
          (f_298 (u2 I 104 x1.toNatClampNeg ((I 97 (((2 : Int32) * x1).toNatClampNeg)) + x2)) L).bind fun q3 =>
          (f_297 n q2 q3 (u2 I 104 x1.toNatClampNeg ((I 97 (((2 : Int32) * x1).toNatClampNeg)) + x2)) L).bind fun q4 =>
          if q4.1 = 0 then
            K0 x1 (x2 + (1 : Int32)) q4.2.1 q4.2.2
          else
            some (x2, q4.2.1, q4.2.2)) else none) else none) else none
def c_317_0 (n : Nat) : Nat → Int32 → Int32 → FI → FL → Option (Int32 × FI × FL)
  | 0, _, _, _, _ => none
  | m + 1, x1, x2, I, L => b_317_0 n (c_317_0 n m) x1 x2 I L
set_option maxHeartbeats 1000000 in
set_option maxRecDepth 20000 in
theorem tc_317_0 (Ls : Nat) (xs : Nat → Int32) (d : Nat) (kp : Option Nat) (tl : List (Nat × Nat)) (rl : List (List (Option Nat))) (nh : Option Nat) (rh : Option Nat) (n : Nat) : ∀ (m : Nat) (x1 : Int32) (x2 : Int32) (I : FI) (L : FL) (r : Int32 × FI × FL), c_317_0 n m x1 x2 I L = some r → Bs cd_317 (sf 12 rs_12 false 3 (some (.int)) Ls xs (d + 6)) (23, [some (.ref 89), some (.int x1), some (.int x2)], [], hp kp nh rh tl rl I L) (some (.int r.1), hp kp nh rh tl rl r.2.1 r.2.2)
  | 0, x1, x2, I, L, r, hf => by cases hf
  | m + 1, x1, x2, I, L, r, hf => by
    unfold c_317_0 b_317_0 at hf
    have hK0 := tc_317_0 Ls xs d kp tl rl nh rh n m
    refine bs_st 5 (x' := (30, [some (.ref 89), some (.int x1), some (.int x2)], [.int ((2 : Int32) * x1), .ref 97], hp kp nh rh tl rl I L)) rfl ?_
    refine bs_gd (x' := (31, [some (.ref 89), some (.int x1), some (.int x2)], [.int (I 97 (((2 : Int32) * x1).toNatClampNeg))], hp kp nh rh tl rl I L)) rfl hf (fun hc hf => ?_)
    refine bs_st 3 (x' := (35, [some (.ref 89), some (.int x1), some (.int x2)], [.int (7 : Int32), .int ((I 97 (((2 : Int32) * x1).toNatClampNeg)) + x2)], hp kp nh rh tl rl I L)) rfl ?_
    refine bs_br (t := 77) (e := 38) (lo := [some (.ref 89), some (.int x1), some (.int x2)]) (st := []) (h := hp kp nh rh tl rl I L) rfl hf (fun hc hf => ?_) (fun hc hf => ?_)
    · refine bs_st 1 (x' := (78, [some (.ref 89), some (.int x1), some (.int x2)], [.int (-1 : Int32)], hp kp nh rh tl rl I L)) rfl ?_
      cases hf
      exact bs_ret rfl
    · refine bs_st 8 (x' := (50, [some (.ref 89), some (.int x1), some (.int x2)], [.int ((2 : Int32) * x1), .ref 97, .int x1, .ref 104], hp kp nh rh tl rl I L)) rfl ?_
      refine bs_gd (x' := (51, [some (.ref 89), some (.int x1), some (.int x2)], [.int (I 97 (((2 : Int32) * x1).toNatClampNeg)), .int x1, .ref 104], hp kp nh rh tl rl I L)) rfl hf (fun hc hf => ?_)
      refine bs_st 2 (x' := (53, [some (.ref 89), some (.int x1), some (.int x2)], [.int ((I 97 (((2 : Int32) * x1).toNatClampNeg)) + x2), .int x1, .ref 104], hp kp nh rh tl rl I L)) rfl ?_
      refine bs_gd (x' := (54, [some (.ref 89), some (.int x1), some (.int x2)], [], hp kp nh rh tl rl (u2 I 104 x1.toNatClampNeg ((I 97 (((2 : Int32) * x1).toNatClampNeg)) + x2)) L)) rfl hf (fun hc hf => ?_)
      refine bs_st 2 (x' := (56, [some (.ref 89), some (.int x1), some (.int x2)], [.ref 89, .ref 89], hp kp nh rh tl rl (u2 I 104 x1.toNatClampNeg ((I 97 (((2 : Int32) * x1).toNatClampNeg)) + x2)) L)) rfl ?_
      obtain ⟨q2, hq2, hf⟩ := Option.bind_eq_some_iff.mp hf
      refine bs_call (o := pEN Ls xs (d + 6) 256 [.ref 89] (hp kp nh rh tl rl (u2 I 104 x1.toNatClampNeg ((I 97 (((2 : Int32) * x1).toNatClampNeg)) + x2)) L)) (w := some (.int q2)) (h' := hp kp nh rh tl rl (u2 I 104 x1.toNatClampNeg ((I 97 (((2 : Int32) * x1).toNatClampNeg)) + x2)) L) (pc := 59) (lo := [some (.ref 89), some (.int x1), some (.int x2)]) (rest := [.ref 89]) rfl (t_256 Ls xs (d + 4) kp tl rl nh rh (u2 I 104 x1.toNatClampNeg ((I 97 (((2 : Int32) * x1).toNatClampNeg)) + x2)) L q2 hq2) ?_
      refine bs_st 1 (x' := (60, [some (.ref 89), some (.int x1), some (.int x2)], [.ref 89, .int q2, .ref 89], hp kp nh rh tl rl (u2 I 104 x1.toNatClampNeg ((I 97 (((2 : Int32) * x1).toNatClampNeg)) + x2)) L)) rfl ?_
      obtain ⟨q3, hq3, hf⟩ := Option.bind_eq_some_iff.mp hf
      refine bs_call (o := pEN Ls xs (d + 6) 298 [.ref 89] (hp kp nh rh tl rl (u2 I 104 x1.toNatClampNeg ((I 97 (((2 : Int32) * x1).toNatClampNeg)) + x2)) L)) (w := some (.int q3)) (h' := hp kp nh rh tl rl (u2 I 104 x1.toNatClampNeg ((I 97 (((2 : Int32) * x1).toNatClampNeg)) + x2)) L) (pc := 63) (lo := [some (.ref 89), some (.int x1), some (.int x2)]) (rest := [.int q2, .ref 89]) rfl (t_298 Ls xs (d + 4) kp tl rl nh rh (u2 I 104 x1.toNatClampNeg ((I 97 (((2 : Int32) * x1).toNatClampNeg)) + x2)) L q3 hq3) ?_
      obtain ⟨q4, hq4, hf⟩ := Option.bind_eq_some_iff.mp hf
      refine bs_call (o := pEN Ls xs (d + 6) 297 [.ref 89, .int q2, .int q3] (hp kp nh rh tl rl (u2 I 104 x1.toNatClampNeg ((I 97 (((2 : Int32) * x1).toNatClampNeg)) + x2)) L)) (w := some (.int q4.1)) (h' := hp kp nh rh tl rl q4.2.1 q4.2.2) (pc := 66) (lo := [some (.ref 89), some (.int x1), some (.int x2)]) (rest := []) rfl (t_297 Ls xs (d + 0) kp tl rl nh rh n q2 q3 (u2 I 104 x1.toNatClampNeg ((I 97 (((2 : Int32) * x1).toNatClampNeg)) + x2)) L q4 hq4) ?_
      refine bs_br (t := 71) (e := 69) (lo := [some (.ref 89), some (.int x1), some (.int x2)]) (st := []) (h := hp kp nh rh tl rl q4.2.1 q4.2.2) rfl hf (fun hc hf => ?_) (fun hc hf => ?_)
      · refine bs_st 2 (x' := (23, [some (.ref 89), some (.int x1), some (.int (x2 + (1 : Int32)))], [], hp kp nh rh tl rl q4.2.1 q4.2.2)) rfl ?_
        exact hK0 x1 (x2 + (1 : Int32)) q4.2.1 q4.2.2 r hf
      · refine bs_st 1 (x' := (70, [some (.ref 89), some (.int x1), some (.int x2)], [.int x2], hp kp nh rh tl rl q4.2.1 q4.2.2)) rfl ?_
        cases hf
        exact bs_ret rfl
def f_317 (n : Nat) (x1 : Int32) (I : FI) (L : FL) : Option (Int32 × FI × FL) :=
  (f_239 x1.toInt64 (u2 I 89 0 (0 : Int32)) L).bind fun q0 =>
  if ¬ q0 = 0 then
    (f_252 n (u2 I 89 0 (0 : Int32)) L).bind fun q1 =>
    c_317_0 n n x1 (0 : Int32) q1.1 q1.2
  else
    some ((-2 : Int32), (u2 I 89 0 (0 : Int32)), L)
set_option maxHeartbeats 1000000 in
set_option maxRecDepth 20000 in
theorem t_317 (Ls : Nat) (xs : Nat → Int32) (d : Nat) (kp : Option Nat) (tl : List (Nat × Nat)) (rl : List (List (Option Nat))) (nh : Option Nat) (rh : Option Nat) (n : Nat) (x1 : Int32) (I : FI) (L : FL) (r : Int32 × FI × FL) (hf : f_317 n x1 I L = some r) : pEN Ls xs (d + 7) 317 [.ref 89, .int x1] (hp kp nh rh tl rl I L) = some (some (.int r.1), hp kp nh rh tl rl r.2.1 r.2.2) := by
  refine en_run (d := d + 6) (cd := cd_317) (f := (sf 12 rs_12 false 3 (some (.int)) Ls xs (d + 6))) rfl rfl (x := (0, [some (.ref 89), some (.int x1), none], [], hp kp nh rh tl rl I L)) rfl rfl (Nat.le_of_ble_eq_true rfl) ?_
  unfold f_317 at hf
  refine bs_st 6 (x' := (8, [some (.ref 89), some (.int x1), none], [.long x1.toInt64, .ref 89], hp kp nh rh tl rl (u2 I 89 0 (0 : Int32)) L)) rfl ?_
  obtain ⟨q0, hq0, hf⟩ := Option.bind_eq_some_iff.mp hf
  refine bs_call (o := pEN Ls xs (d + 6) 239 [.ref 89, .long x1.toInt64] (hp kp nh rh tl rl (u2 I 89 0 (0 : Int32)) L)) (w := some (.int q0)) (h' := hp kp nh rh tl rl (u2 I 89 0 (0 : Int32)) L) (pc := 11) (lo := [some (.ref 89), some (.int x1), none]) (rest := []) rfl (t_239 Ls xs (d + 4) kp tl rl nh rh x1.toInt64 (u2 I 89 0 (0 : Int32)) L q0 hq0) ?_
  refine bs_br (t := 17) (e := 14) (lo := [some (.ref 89), some (.int x1), none]) (st := []) (h := hp kp nh rh tl rl (u2 I 89 0 (0 : Int32)) L) rfl hf (fun hc hf => ?_) (fun hc hf => ?_)
  · refine bs_st 1 (x' := (18, [some (.ref 89), some (.int x1), none], [.ref 89], hp kp nh rh tl rl (u2 I 89 0 (0 : Int32)) L)) rfl ?_
    obtain ⟨q1, hq1, hf⟩ := Option.bind_eq_some_iff.mp hf
    refine bs_call (o := pEN Ls xs (d + 6) 252 [.ref 89] (hp kp nh rh tl rl (u2 I 89 0 (0 : Int32)) L)) (w := none) (h' := hp kp nh rh tl rl q1.1 q1.2) (pc := 21) (lo := [some (.ref 89), some (.int x1), none]) (rest := []) rfl (t_252 Ls xs (d + 4) kp tl rl nh rh n (u2 I 89 0 (0 : Int32)) L q1 hq1) ?_
    refine bs_st 2 (x' := (23, [some (.ref 89), some (.int x1), some (.int (0 : Int32))], [], hp kp nh rh tl rl q1.1 q1.2)) rfl ?_
    exact tc_317_0 Ls xs d kp tl rl nh rh n n x1 (0 : Int32) q1.1 q1.2 r hf
  · refine bs_st 1 (x' := (16, [some (.ref 89), some (.int x1), none], [.int (-2 : Int32)], hp kp nh rh tl rl (u2 I 89 0 (0 : Int32)) L)) rfl ?_
    cases hf
    exact bs_ret rfl
/-- LampRoundsModel.common(II) on () -/
def g_318 (n : Nat) (F : Int32 → Int32 → FI → FL → Option (Int32)) (x0 : Int32) (x1 : Int32) (I : FI) (L : FL) : Option (Int32) :=
  if ¬ x1 = 0 then
    if x1 = 0 then none else ((F x1 (x0 - x0 / x1 * x1) I L).bind fun q0 =>
      some (q0))
  else
    some (x0)
def f_318 (n : Nat) : Nat → Int32 → Int32 → FI → FL → Option (Int32)
  | 0, _, _, _, _ => none
  | m + 1, x0, x1, I, L => g_318 n (f_318 n m) x0 x1 I L
set_option maxHeartbeats 1000000 in
set_option maxRecDepth 20000 in
theorem t_318 (Ls : Nat) (xs : Nat → Int32) : ∀ (m d : Nat) (kp : Option Nat) (tl : List (Nat × Nat)) (rl : List (List (Option Nat))) (nh : Option Nat) (rh : Option Nat) (n : Nat) (x0 : Int32) (x1 : Int32) (I : FI) (L : FL) (r : Int32), f_318 n m x0 x1 I L = some r → pEN Ls xs (d + m + 1) 318 [.int x0, .int x1] (hp kp nh rh tl rl I L) = some (some (.int r), hp kp nh rh tl rl I L)
  | 0, d, kp, tl, rl, nh, rh, n, x0, x1, I, L, r, hf => by cases hf
  | m + 1, d0, kp, tl, rl, nh, rh, n, x0, x1, I, L, r, hf => by
    have hF := fun x0 x1 I L r h => t_318 Ls xs m d0 kp tl rl nh rh n x0 x1 I L r h
    generalize hd : d0 + m + 1 = d
    have hF : ∀ (x0 : Int32) (x1 : Int32) (I : FI) (L : FL) (r : Int32), f_318 n m x0 x1 I L = some r → pEN Ls xs (d + 0) 318 [.int x0, .int x1] (hp kp nh rh tl rl I L) = some (some (.int r), hp kp nh rh tl rl I L) := fun x0 x1 I L r h => by rw [← hd]; exact hF x0 x1 I L r h
    have e1 : d0 + (m + 1) + 1 = d + 1 := by omega
    try rw [e1]
    refine en_run (d := d + 0) (cd := cd_318) (f := (sf 12 rs_12 false 2 (some (.int)) Ls xs (d + 0))) rfl rfl (x := (0, [some (.int x0), some (.int x1)], [], hp kp nh rh tl rl I L)) rfl rfl (Nat.le_of_ble_eq_true rfl) ?_
    unfold f_318 g_318 at hf
    refine bs_st 1 (x' := (1, [some (.int x0), some (.int x1)], [.int x1], hp kp nh rh tl rl I L)) rfl ?_
    refine bs_br (t := 8) (e := 4) (lo := [some (.int x0), some (.int x1)]) (st := []) (h := hp kp nh rh tl rl I L) rfl hf (fun hc hf => ?_) (fun hc hf => ?_)
    · refine bs_st 3 (x' := (11, [some (.int x0), some (.int x1)], [.int x1, .int x0, .int x1], hp kp nh rh tl rl I L)) rfl ?_
      refine bs_dv (x' := (12, [some (.int x0), some (.int x1)], [.int (x0 - x0 / x1 * x1), .int x1], hp kp nh rh tl rl I L)) rfl hf (fun hc hf => ?_)
      obtain ⟨q0, hq0, hf⟩ := Option.bind_eq_some_iff.mp hf
      refine bs_call (o := pEN Ls xs (d + 0) 318 [.int x1, .int (x0 - x0 / x1 * x1)] (hp kp nh rh tl rl I L)) (w := some (.int q0)) (h' := hp kp nh rh tl rl I L) (pc := 15) (lo := [some (.int x0), some (.int x1)]) (rest := []) rfl (hF x1 (x0 - x0 / x1 * x1) I L q0 hq0) ?_
      cases hf
      exact bs_ret rfl
    · refine bs_st 2 (x' := (15, [some (.int x0), some (.int x1)], [.int x0], hp kp nh rh tl rl I L)) rfl ?_
      cases hf
      exact bs_ret rfl
/-- LampRoundsModel.part(III) on () -/
def c_319_0 (n : Nat) (I : FI) (L : FL) (x0 : Int32) (x1 : Int32) (s0 : Int32) : Option (Int32) :=
  (f_318 n 64 x0 x1 I L).bind fun q0 =>
  if q0 = 0 then none else some ((s0 / q0))
set_option maxHeartbeats 1000000 in
set_option maxRecDepth 20000 in
theorem tc_319_0 (Ls : Nat) (xs : Nat → Int32) (d : Nat) (kp : Option Nat) (tl : List (Nat × Nat)) (rl : List (List (Option Nat))) (nh : Option Nat) (rh : Option Nat) (n : Nat) (I : FI) (L : FL) (w2 : Option Value) (x0 : Int32) (x1 : Int32) (s0 : Int32) (r : Int32) (hf : c_319_0 n I L x0 x1 s0 = some r) : Bs cd_319 (sf 12 rs_12 false 3 (some (.int)) Ls xs (d + 65)) (9, [some (.int x0), some (.int x1), w2], [.int s0], hp kp nh rh tl rl I L) (some (.int r), hp kp nh rh tl rl I L) := by
  unfold c_319_0 at hf
  refine bs_st 2 (x' := (11, [some (.int x0), some (.int x1), w2], [.int x1, .int x0, .int s0], hp kp nh rh tl rl I L)) rfl ?_
  obtain ⟨q0, hq0, hf⟩ := Option.bind_eq_some_iff.mp hf
  refine bs_call (o := pEN Ls xs (d + 65) 318 [.int x0, .int x1] (hp kp nh rh tl rl I L)) (w := some (.int q0)) (h' := hp kp nh rh tl rl I L) (pc := 14) (lo := [some (.int x0), some (.int x1), w2]) (rest := [.int s0]) rfl (t_318 Ls xs 64 (d + 0) kp tl rl nh rh n x0 x1 I L q0 hq0) ?_
  refine bs_dv (x' := (15, [some (.int x0), some (.int x1), w2], [.int (s0 / q0)], hp kp nh rh tl rl I L)) rfl hf (fun hc hf => ?_)
  cases hf
  exact bs_ret rfl
def f_319 (n : Nat) (x0 : Int32) (x1 : Int32) (x2 : Int32) (I : FI) (L : FL) : Option (Int32) :=
  if ¬ x2 = 0 then
    c_319_0 n I L x0 x1 x1
  else
    c_319_0 n I L x0 x1 x0
set_option maxHeartbeats 1000000 in
set_option maxRecDepth 20000 in
theorem t_319 (Ls : Nat) (xs : Nat → Int32) (d : Nat) (kp : Option Nat) (tl : List (Nat × Nat)) (rl : List (List (Option Nat))) (nh : Option Nat) (rh : Option Nat) (n : Nat) (x0 : Int32) (x1 : Int32) (x2 : Int32) (I : FI) (L : FL) (r : Int32) (hf : f_319 n x0 x1 x2 I L = some r) : pEN Ls xs (d + 66) 319 [.int x0, .int x1, .int x2] (hp kp nh rh tl rl I L) = some (some (.int r), hp kp nh rh tl rl I L) := by
  refine en_run (d := d + 65) (cd := cd_319) (f := (sf 12 rs_12 false 3 (some (.int)) Ls xs (d + 65))) rfl rfl (x := (0, [some (.int x0), some (.int x1), some (.int x2)], [], hp kp nh rh tl rl I L)) rfl rfl (Nat.le_of_ble_eq_true rfl) ?_
  unfold f_319 at hf
  refine bs_st 1 (x' := (1, [some (.int x0), some (.int x1), some (.int x2)], [.int x2], hp kp nh rh tl rl I L)) rfl ?_
  refine bs_br (t := 8) (e := 4) (lo := [some (.int x0), some (.int x1), some (.int x2)]) (st := []) (h := hp kp nh rh tl rl I L) rfl hf (fun hc hf => ?_) (fun hc hf => ?_)
  · refine bs_st 1 (x' := (9, [some (.int x0), some (.int x1), some (.int x2)], [.int x1], hp kp nh rh tl rl I L)) rfl ?_
    exact tc_319_0 Ls xs d kp tl rl nh rh n I L (some (.int x2)) x0 x1 x1 r hf
  · refine bs_st 2 (x' := (9, [some (.int x0), some (.int x1), some (.int x2)], [.int x0], hp kp nh rh tl rl I L)) rfl ?_
    exact tc_319_0 Ls xs d kp tl rl nh rh n I L (some (.int x2)) x0 x1 x0 r hf
/-- LampRoundsModel.density(I) on (89,) -/
def b_320_0 (n : Nat) (K0 : Int32 → Int32 → Int32 → FI → FL → Option (Int32 × FI × FL)) (x1 : Int32) (x2 : Int32) (x3 : Int32) (I : FI) (L : FL) : Option (Int32 × FI × FL) :=
  (f_237 I L).bind fun q2 =>
  if q2 ≤ x3 then
    (f_319 n x2 (840 : Int32) x1 I L).bind fun q3 =>
    some (q3, I, L)
  else
    if pin ((2 : Int32) * x3) 40 = true then (if ((I 97 (((2 : Int32) * x3).toNatClampNeg)) + (1 : Int32)) = 0 then none else K0 x1 (x2 + ((840 : Int32) / ((I 97 (((2 : Int32) * x3).toNatClampNeg)) + (1 : Int32)))) (x3 + (1 : Int32)) I L) else none
def c_320_0 (n : Nat) : Nat → Int32 → Int32 → Int32 → FI → FL → Option (Int32 × FI × FL)
  | 0, _, _, _, _, _ => none
  | m + 1, x1, x2, x3, I, L => b_320_0 n (c_320_0 n m) x1 x2 x3 I L
set_option maxHeartbeats 1000000 in
set_option maxRecDepth 20000 in
theorem tc_320_0 (Ls : Nat) (xs : Nat → Int32) (d : Nat) (kp : Option Nat) (tl : List (Nat × Nat)) (rl : List (List (Option Nat))) (nh : Option Nat) (rh : Option Nat) (n : Nat) : ∀ (m : Nat) (x1 : Int32) (x2 : Int32) (x3 : Int32) (I : FI) (L : FL) (r : Int32 × FI × FL), c_320_0 n m x1 x2 x3 I L = some r → Bs cd_320 (sf 12 rs_12 false 4 (some (.int)) Ls xs (d + 66)) (26, [some (.ref 89), some (.int x1), some (.int x2), some (.int x3)], [], hp kp nh rh tl rl I L) (some (.int r.1), hp kp nh rh tl rl r.2.1 r.2.2)
  | 0, x1, x2, x3, I, L, r, hf => by cases hf
  | m + 1, x1, x2, x3, I, L, r, hf => by
    unfold c_320_0 b_320_0 at hf
    have hK0 := tc_320_0 Ls xs d kp tl rl nh rh n m
    refine bs_st 2 (x' := (28, [some (.ref 89), some (.int x1), some (.int x2), some (.int x3)], [.ref 89, .int x3], hp kp nh rh tl rl I L)) rfl ?_
    obtain ⟨q2, hq2, hf⟩ := Option.bind_eq_some_iff.mp hf
    refine bs_call (o := pEN Ls xs (d + 66) 237 [.ref 89] (hp kp nh rh tl rl I L)) (w := some (.int q2)) (h' := hp kp nh rh tl rl I L) (pc := 31) (lo := [some (.ref 89), some (.int x1), some (.int x2), some (.int x3)]) (rest := [.int x3]) rfl (t_237 Ls xs (d + 65) kp tl rl nh rh I L q2 hq2) ?_
    refine bs_br (t := 57) (e := 34) (lo := [some (.ref 89), some (.int x1), some (.int x2), some (.int x3)]) (st := []) (h := hp kp nh rh tl rl I L) rfl hf (fun hc hf => ?_) (fun hc hf => ?_)
    · refine bs_st 3 (x' := (62, [some (.ref 89), some (.int x1), some (.int x2), some (.int x3)], [.int x1, .int (840 : Int32), .int x2], hp kp nh rh tl rl I L)) rfl ?_
      obtain ⟨q3, hq3, hf⟩ := Option.bind_eq_some_iff.mp hf
      refine bs_call (o := pEN Ls xs (d + 66) 319 [.int x2, .int (840 : Int32), .int x1] (hp kp nh rh tl rl I L)) (w := some (.int q3)) (h' := hp kp nh rh tl rl I L) (pc := 65) (lo := [some (.ref 89), some (.int x1), some (.int x2), some (.int x3)]) (rest := []) rfl (t_319 Ls xs (d + 0) kp tl rl nh rh n x2 (840 : Int32) x1 I L q3 hq3) ?_
      cases hf
      exact bs_ret rfl
    · refine bs_st 7 (x' := (45, [some (.ref 89), some (.int x1), some (.int x2), some (.int x3)], [.int ((2 : Int32) * x3), .ref 97, .int (840 : Int32), .int x2], hp kp nh rh tl rl I L)) rfl ?_
      refine bs_gd (x' := (46, [some (.ref 89), some (.int x1), some (.int x2), some (.int x3)], [.int (I 97 (((2 : Int32) * x3).toNatClampNeg)), .int (840 : Int32), .int x2], hp kp nh rh tl rl I L)) rfl hf (fun hc hf => ?_)
      refine bs_st 2 (x' := (48, [some (.ref 89), some (.int x1), some (.int x2), some (.int x3)], [.int ((I 97 (((2 : Int32) * x3).toNatClampNeg)) + (1 : Int32)), .int (840 : Int32), .int x2], hp kp nh rh tl rl I L)) rfl ?_
      refine bs_dv (x' := (49, [some (.ref 89), some (.int x1), some (.int x2), some (.int x3)], [.int ((840 : Int32) / ((I 97 (((2 : Int32) * x3).toNatClampNeg)) + (1 : Int32))), .int x2], hp kp nh rh tl rl I L)) rfl hf (fun hc hf => ?_)
      refine bs_st 4 (x' := (26, [some (.ref 89), some (.int x1), some (.int (x2 + ((840 : Int32) / ((I 97 (((2 : Int32) * x3).toNatClampNeg)) + (1 : Int32))))), some (.int (x3 + (1 : Int32)))], [], hp kp nh rh tl rl I L)) rfl ?_
      exact hK0 x1 (x2 + ((840 : Int32) / ((I 97 (((2 : Int32) * x3).toNatClampNeg)) + (1 : Int32)))) (x3 + (1 : Int32)) I L r hf
def f_320 (n : Nat) (x1 : Int32) (I : FI) (L : FL) : Option (Int32 × FI × FL) :=
  (f_236 (u2 I 89 0 (0 : Int32)) L).bind fun q0 =>
  if q0 = 0 then
    some ((-2 : Int32), (u2 I 89 0 (0 : Int32)), L)
  else
    (f_242 x1 (u2 I 89 0 (0 : Int32)) L).bind fun q1 =>
    if ¬ q1 = 0 then
      c_320_0 n n x1 (0 : Int32) (0 : Int32) (u2 I 89 0 (0 : Int32)) L
    else
      some ((-2 : Int32), (u2 I 89 0 (0 : Int32)), L)
set_option maxHeartbeats 1000000 in
set_option maxRecDepth 20000 in
theorem t_320 (Ls : Nat) (xs : Nat → Int32) (d : Nat) (kp : Option Nat) (tl : List (Nat × Nat)) (rl : List (List (Option Nat))) (nh : Option Nat) (rh : Option Nat) (n : Nat) (x1 : Int32) (I : FI) (L : FL) (r : Int32 × FI × FL) (hf : f_320 n x1 I L = some r) : pEN Ls xs (d + 67) 320 [.ref 89, .int x1] (hp kp nh rh tl rl I L) = some (some (.int r.1), hp kp nh rh tl rl r.2.1 r.2.2) := by
  refine en_run (d := d + 66) (cd := cd_320) (f := (sf 12 rs_12 false 4 (some (.int)) Ls xs (d + 66))) rfl rfl (x := (0, [some (.ref 89), some (.int x1), none, none], [], hp kp nh rh tl rl I L)) rfl rfl (Nat.le_of_ble_eq_true rfl) ?_
  unfold f_320 at hf
  refine bs_st 4 (x' := (6, [some (.ref 89), some (.int x1), none, none], [.ref 89], hp kp nh rh tl rl (u2 I 89 0 (0 : Int32)) L)) rfl ?_
  obtain ⟨q0, hq0, hf⟩ := Option.bind_eq_some_iff.mp hf
  refine bs_call (o := pEN Ls xs (d + 66) 236 [.ref 89] (hp kp nh rh tl rl (u2 I 89 0 (0 : Int32)) L)) (w := some (.int q0)) (h' := hp kp nh rh tl rl (u2 I 89 0 (0 : Int32)) L) (pc := 9) (lo := [some (.ref 89), some (.int x1), none, none]) (rest := []) rfl (t_236 Ls xs (d + 65) kp tl rl nh rh (u2 I 89 0 (0 : Int32)) L q0 hq0) ?_
  refine bs_br (t := 19) (e := 12) (lo := [some (.ref 89), some (.int x1), none, none]) (st := []) (h := hp kp nh rh tl rl (u2 I 89 0 (0 : Int32)) L) rfl hf (fun hc hf => ?_) (fun hc hf => ?_)
  · refine bs_st 1 (x' := (21, [some (.ref 89), some (.int x1), none, none], [.int (-2 : Int32)], hp kp nh rh tl rl (u2 I 89 0 (0 : Int32)) L)) rfl ?_
    cases hf
    exact bs_ret rfl
  · refine bs_st 1 (x' := (13, [some (.ref 89), some (.int x1), none, none], [.int x1], hp kp nh rh tl rl (u2 I 89 0 (0 : Int32)) L)) rfl ?_
    obtain ⟨q1, hq1, hf⟩ := Option.bind_eq_some_iff.mp hf
    refine bs_call (o := pEN Ls xs (d + 66) 242 [.int x1] (hp kp nh rh tl rl (u2 I 89 0 (0 : Int32)) L)) (w := some (.int q1)) (h' := hp kp nh rh tl rl (u2 I 89 0 (0 : Int32)) L) (pc := 16) (lo := [some (.ref 89), some (.int x1), none, none]) (rest := []) rfl (t_242 Ls xs (d + 64) kp tl rl nh rh x1 (u2 I 89 0 (0 : Int32)) L q1 hq1) ?_
    refine bs_br (t := 22) (e := 19) (lo := [some (.ref 89), some (.int x1), none, none]) (st := []) (h := hp kp nh rh tl rl (u2 I 89 0 (0 : Int32)) L) rfl hf (fun hc hf => ?_) (fun hc hf => ?_)
    · refine bs_st 4 (x' := (26, [some (.ref 89), some (.int x1), some (.int (0 : Int32)), some (.int (0 : Int32))], [], hp kp nh rh tl rl (u2 I 89 0 (0 : Int32)) L)) rfl ?_
      exact tc_320_0 Ls xs d kp tl rl nh rh n n x1 (0 : Int32) (0 : Int32) (u2 I 89 0 (0 : Int32)) L r hf
    · refine bs_st 1 (x' := (21, [some (.ref 89), some (.int x1), none, none], [.int (-2 : Int32)], hp kp nh rh tl rl (u2 I 89 0 (0 : Int32)) L)) rfl ?_
      cases hf
      exact bs_ret rfl
/-- LampRoundsModel.even() on (89,) -/
def c_321_2 (n : Nat) (K0 : Int32 → FI → FL → Option (Int32 × FI × FL)) (K1 : Int32 → Int32 → FI → FL → Option (Int32 × FI × FL)) (x1 : Int32) (x2 : Int32) (I : FI) (L : FL) : Option (Int32 × FI × FL) :=
  K1 x1 (x2 + (1 : Int32)) I L
set_option maxHeartbeats 1000000 in
set_option maxRecDepth 20000 in
theorem tc_321_2 (Ls : Nat) (xs : Nat → Int32) (d : Nat) (kp : Option Nat) (tl : List (Nat × Nat)) (rl : List (List (Option Nat))) (nh : Option Nat) (rh : Option Nat) (n : Nat) (K0 : Int32 → FI → FL → Option (Int32 × FI × FL)) (K1 : Int32 → Int32 → FI → FL → Option (Int32 × FI × FL)) (hK0 : ∀ (w2 : Option Value) (x1 : Int32) (I : FI) (L : FL) (r : Int32 × FI × FL), K0 x1 I L = some r → Bs cd_321 (sf 12 rs_12 false 3 (some (.int)) Ls xs (d + 1)) (17, [some (.ref 89), some (.int x1), w2], [], hp kp nh rh tl rl I L) (some (.int r.1), hp kp nh rh tl rl r.2.1 r.2.2)) (hK1 : ∀ (x1 : Int32) (x2 : Int32) (I : FI) (L : FL) (r : Int32 × FI × FL), K1 x1 x2 I L = some r → Bs cd_321 (sf 12 rs_12 false 3 (some (.int)) Ls xs (d + 1)) (27, [some (.ref 89), some (.int x1), some (.int x2)], [], hp kp nh rh tl rl I L) (some (.int r.1), hp kp nh rh tl rl r.2.1 r.2.2)) (x1 : Int32) (x2 : Int32) (I : FI) (L : FL) (r : Int32 × FI × FL) (hf : c_321_2 n K0 K1 x1 x2 I L = some r) : Bs cd_321 (sf 12 rs_12 false 3 (some (.int)) Ls xs (d + 1)) (80, [some (.ref 89), some (.int x1), some (.int x2)], [], hp kp nh rh tl rl I L) (some (.int r.1), hp kp nh rh tl rl r.2.1 r.2.2) := by
  unfold c_321_2 at hf
  refine bs_st 2 (x' := (27, [some (.ref 89), some (.int x1), some (.int (x2 + (1 : Int32)))], [], hp kp nh rh tl rl I L)) rfl ?_
  exact hK1 x1 (x2 + (1 : Int32)) I L r hf
def b_321_1 (n : Nat) (K0 : Int32 → FI → FL → Option (Int32 × FI × FL)) (K1 : Int32 → Int32 → FI → FL → Option (Int32 × FI × FL)) (x1 : Int32) (x2 : Int32) (I : FI) (L : FL) : Option (Int32 × FI × FL) :=
  (f_237 I L).bind fun q2 =>
  if q2 ≤ x2 then
    K0 (x1 + (1 : Int32)) I L
  else
    if pin ((2 : Int32) * x1) 40 = true then (if pin ((2 : Int32) * x2) 40 = true then (if I 97 (((2 : Int32) * x1).toNatClampNeg) < I 97 (((2 : Int32) * x2).toNatClampNeg) then
          c_321_2 n K0 K1 x1 x2 I L
        else
          if pin ((2 : Int32) * x1) 40 = true then (if pin ((2 : Int32) * x2) 40 = true then (if ((I 97 (((2 : Int32) * x2).toNatClampNeg)) + (1 : Int32)) = 0 then none else (if (((I 97 (((2 : Int32) * x1).toNatClampNeg)) + (1 : Int32)) - ((I 97 (((2 : Int32) * x1).toNatClampNeg)) + (1 : Int32)) / ((I 97 (((2 : Int32) * x2).toNatClampNeg)) + (1 : Int32)) * ((I 97 (((2 : Int32) * x2).toNatClampNeg)) + (1 : Int32))) = 0 then
                  c_321_2 n K0 K1 x1 x2 I L
                else
                  some ((0 : Int32), I, L))) else none) else none) else none) else none
def c_321_1 (n : Nat) (K0 : Int32 → FI → FL → Option (Int32 × FI × FL)) : Nat → Int32 → Int32 → FI → FL → Option (Int32 × FI × FL)
  | 0, _, _, _, _ => none
  | m + 1, x1, x2, I, L => b_321_1 n K0 (c_321_1 n K0 m) x1 x2 I L
set_option maxHeartbeats 1000000 in
set_option maxRecDepth 20000 in
theorem tc_321_1 (Ls : Nat) (xs : Nat → Int32) (d : Nat) (kp : Option Nat) (tl : List (Nat × Nat)) (rl : List (List (Option Nat))) (nh : Option Nat) (rh : Option Nat) (n : Nat) (K0 : Int32 → FI → FL → Option (Int32 × FI × FL)) (hK0 : ∀ (w2 : Option Value) (x1 : Int32) (I : FI) (L : FL) (r : Int32 × FI × FL), K0 x1 I L = some r → Bs cd_321 (sf 12 rs_12 false 3 (some (.int)) Ls xs (d + 1)) (17, [some (.ref 89), some (.int x1), w2], [], hp kp nh rh tl rl I L) (some (.int r.1), hp kp nh rh tl rl r.2.1 r.2.2)) : ∀ (m : Nat) (x1 : Int32) (x2 : Int32) (I : FI) (L : FL) (r : Int32 × FI × FL), c_321_1 n K0 m x1 x2 I L = some r → Bs cd_321 (sf 12 rs_12 false 3 (some (.int)) Ls xs (d + 1)) (27, [some (.ref 89), some (.int x1), some (.int x2)], [], hp kp nh rh tl rl I L) (some (.int r.1), hp kp nh rh tl rl r.2.1 r.2.2)
  | 0, x1, x2, I, L, r, hf => by cases hf
  | m + 1, x1, x2, I, L, r, hf => by
    unfold c_321_1 b_321_1 at hf
    have hK1 := tc_321_1 Ls xs d kp tl rl nh rh n K0 hK0 m
    refine bs_st 2 (x' := (29, [some (.ref 89), some (.int x1), some (.int x2)], [.ref 89, .int x2], hp kp nh rh tl rl I L)) rfl ?_
    obtain ⟨q2, hq2, hf⟩ := Option.bind_eq_some_iff.mp hf
    refine bs_call (o := pEN Ls xs (d + 1) 237 [.ref 89] (hp kp nh rh tl rl I L)) (w := some (.int q2)) (h' := hp kp nh rh tl rl I L) (pc := 32) (lo := [some (.ref 89), some (.int x1), some (.int x2)]) (rest := [.int x2]) rfl (t_237 Ls xs (d + 0) kp tl rl nh rh I L q2 hq2) ?_
    refine bs_br (t := 86) (e := 35) (lo := [some (.ref 89), some (.int x1), some (.int x2)]) (st := []) (h := hp kp nh rh tl rl I L) rfl hf (fun hc hf => ?_) (fun hc hf => ?_)
    · refine bs_st 2 (x' := (17, [some (.ref 89), some (.int (x1 + (1 : Int32))), some (.int x2)], [], hp kp nh rh tl rl I L)) rfl ?_
      exact hK0 (some (.int x2)) (x1 + (1 : Int32)) I L r hf
    · refine bs_st 5 (x' := (42, [some (.ref 89), some (.int x1), some (.int x2)], [.int ((2 : Int32) * x1), .ref 97], hp kp nh rh tl rl I L)) rfl ?_
      refine bs_gd (x' := (43, [some (.ref 89), some (.int x1), some (.int x2)], [.int (I 97 (((2 : Int32) * x1).toNatClampNeg))], hp kp nh rh tl rl I L)) rfl hf (fun hc hf => ?_)
      refine bs_st 5 (x' := (50, [some (.ref 89), some (.int x1), some (.int x2)], [.int ((2 : Int32) * x2), .ref 97, .int (I 97 (((2 : Int32) * x1).toNatClampNeg))], hp kp nh rh tl rl I L)) rfl ?_
      refine bs_gd (x' := (51, [some (.ref 89), some (.int x1), some (.int x2)], [.int (I 97 (((2 : Int32) * x2).toNatClampNeg)), .int (I 97 (((2 : Int32) * x1).toNatClampNeg))], hp kp nh rh tl rl I L)) rfl hf (fun hc hf => ?_)
      refine bs_br (t := 80) (e := 54) (lo := [some (.ref 89), some (.int x1), some (.int x2)]) (st := []) (h := hp kp nh rh tl rl I L) rfl hf (fun hc hf => ?_) (fun hc hf => ?_)
      · exact tc_321_2 Ls xs d kp tl rl nh rh n _ _ hK0 hK1 x1 x2 I L r hf
      · refine bs_st 5 (x' := (61, [some (.ref 89), some (.int x1), some (.int x2)], [.int ((2 : Int32) * x1), .ref 97], hp kp nh rh tl rl I L)) rfl ?_
        refine bs_gd (x' := (62, [some (.ref 89), some (.int x1), some (.int x2)], [.int (I 97 (((2 : Int32) * x1).toNatClampNeg))], hp kp nh rh tl rl I L)) rfl hf (fun hc hf => ?_)
        refine bs_st 7 (x' := (71, [some (.ref 89), some (.int x1), some (.int x2)], [.int ((2 : Int32) * x2), .ref 97, .int ((I 97 (((2 : Int32) * x1).toNatClampNeg)) + (1 : Int32))], hp kp nh rh tl rl I L)) rfl ?_
        refine bs_gd (x' := (72, [some (.ref 89), some (.int x1), some (.int x2)], [.int (I 97 (((2 : Int32) * x2).toNatClampNeg)), .int ((I 97 (((2 : Int32) * x1).toNatClampNeg)) + (1 : Int32))], hp kp nh rh tl rl I L)) rfl hf (fun hc hf => ?_)
        refine bs_st 2 (x' := (74, [some (.ref 89), some (.int x1), some (.int x2)], [.int ((I 97 (((2 : Int32) * x2).toNatClampNeg)) + (1 : Int32)), .int ((I 97 (((2 : Int32) * x1).toNatClampNeg)) + (1 : Int32))], hp kp nh rh tl rl I L)) rfl ?_
        refine bs_dv (x' := (75, [some (.ref 89), some (.int x1), some (.int x2)], [.int (((I 97 (((2 : Int32) * x1).toNatClampNeg)) + (1 : Int32)) - ((I 97 (((2 : Int32) * x1).toNatClampNeg)) + (1 : Int32)) / ((I 97 (((2 : Int32) * x2).toNatClampNeg)) + (1 : Int32)) * ((I 97 (((2 : Int32) * x2).toNatClampNeg)) + (1 : Int32)))], hp kp nh rh tl rl I L)) rfl hf (fun hc hf => ?_)
        refine bs_br (t := 80) (e := 78) (lo := [some (.ref 89), some (.int x1), some (.int x2)]) (st := []) (h := hp kp nh rh tl rl I L) rfl hf (fun hc hf => ?_) (fun hc hf => ?_)
        · exact tc_321_2 Ls xs d kp tl rl nh rh n _ _ hK0 hK1 x1 x2 I L r hf
        · refine bs_st 1 (x' := (79, [some (.ref 89), some (.int x1), some (.int x2)], [.int (0 : Int32)], hp kp nh rh tl rl I L)) rfl ?_
          cases hf
          exact bs_ret rfl
def b_321_0 (n : Nat) (K0 : Int32 → FI → FL → Option (Int32 × FI × FL)) (x1 : Int32) (I : FI) (L : FL) : Option (Int32 × FI × FL) :=
  (f_237 I L).bind fun q1 =>
  if q1 ≤ x1 then
    some ((1 : Int32), I, L)
  else
    c_321_1 n K0 n x1 (0 : Int32) I L
def c_321_0 (n : Nat) : Nat → Int32 → FI → FL → Option (Int32 × FI × FL)
  | 0, _, _, _ => none
  | m + 1, x1, I, L => b_321_0 n (c_321_0 n m) x1 I L
set_option maxHeartbeats 1000000 in
set_option maxRecDepth 20000 in
theorem tc_321_0 (Ls : Nat) (xs : Nat → Int32) (d : Nat) (kp : Option Nat) (tl : List (Nat × Nat)) (rl : List (List (Option Nat))) (nh : Option Nat) (rh : Option Nat) (n : Nat) : ∀ (m : Nat) (w2 : Option Value) (x1 : Int32) (I : FI) (L : FL) (r : Int32 × FI × FL), c_321_0 n m x1 I L = some r → Bs cd_321 (sf 12 rs_12 false 3 (some (.int)) Ls xs (d + 1)) (17, [some (.ref 89), some (.int x1), w2], [], hp kp nh rh tl rl I L) (some (.int r.1), hp kp nh rh tl rl r.2.1 r.2.2)
  | 0, w2, x1, I, L, r, hf => by cases hf
  | m + 1, w2, x1, I, L, r, hf => by
    unfold c_321_0 b_321_0 at hf
    have hK0 := tc_321_0 Ls xs d kp tl rl nh rh n m
    refine bs_st 2 (x' := (19, [some (.ref 89), some (.int x1), w2], [.ref 89, .int x1], hp kp nh rh tl rl I L)) rfl ?_
    obtain ⟨q1, hq1, hf⟩ := Option.bind_eq_some_iff.mp hf
    refine bs_call (o := pEN Ls xs (d + 1) 237 [.ref 89] (hp kp nh rh tl rl I L)) (w := some (.int q1)) (h' := hp kp nh rh tl rl I L) (pc := 22) (lo := [some (.ref 89), some (.int x1), w2]) (rest := [.int x1]) rfl (t_237 Ls xs (d + 0) kp tl rl nh rh I L q1 hq1) ?_
    refine bs_br (t := 92) (e := 25) (lo := [some (.ref 89), some (.int x1), w2]) (st := []) (h := hp kp nh rh tl rl I L) rfl hf (fun hc hf => ?_) (fun hc hf => ?_)
    · refine bs_st 1 (x' := (93, [some (.ref 89), some (.int x1), w2], [.int (1 : Int32)], hp kp nh rh tl rl I L)) rfl ?_
      cases hf
      exact bs_ret rfl
    · refine bs_st 2 (x' := (27, [some (.ref 89), some (.int x1), some (.int (0 : Int32))], [], hp kp nh rh tl rl I L)) rfl ?_
      exact tc_321_1 Ls xs d kp tl rl nh rh n _ hK0 n x1 (0 : Int32) I L r hf
def f_321 (n : Nat) (I : FI) (L : FL) : Option (Int32 × FI × FL) :=
  (f_236 (u2 I 89 0 (0 : Int32)) L).bind fun q0 =>
  if ¬ q0 = 0 then
    c_321_0 n n (0 : Int32) (u2 I 89 0 (0 : Int32)) L
  else
    some ((-2 : Int32), (u2 I 89 0 (0 : Int32)), L)
set_option maxHeartbeats 1000000 in
set_option maxRecDepth 20000 in
theorem t_321 (Ls : Nat) (xs : Nat → Int32) (d : Nat) (kp : Option Nat) (tl : List (Nat × Nat)) (rl : List (List (Option Nat))) (nh : Option Nat) (rh : Option Nat) (n : Nat) (I : FI) (L : FL) (r : Int32 × FI × FL) (hf : f_321 n I L = some r) : pEN Ls xs (d + 2) 321 [.ref 89] (hp kp nh rh tl rl I L) = some (some (.int r.1), hp kp nh rh tl rl r.2.1 r.2.2) := by
  refine en_run (d := d + 1) (cd := cd_321) (f := (sf 12 rs_12 false 3 (some (.int)) Ls xs (d + 1))) rfl rfl (x := (0, [some (.ref 89), none, none], [], hp kp nh rh tl rl I L)) rfl rfl (Nat.le_of_ble_eq_true rfl) ?_
  unfold f_321 at hf
  refine bs_st 4 (x' := (6, [some (.ref 89), none, none], [.ref 89], hp kp nh rh tl rl (u2 I 89 0 (0 : Int32)) L)) rfl ?_
  obtain ⟨q0, hq0, hf⟩ := Option.bind_eq_some_iff.mp hf
  refine bs_call (o := pEN Ls xs (d + 1) 236 [.ref 89] (hp kp nh rh tl rl (u2 I 89 0 (0 : Int32)) L)) (w := some (.int q0)) (h' := hp kp nh rh tl rl (u2 I 89 0 (0 : Int32)) L) (pc := 9) (lo := [some (.ref 89), none, none]) (rest := []) rfl (t_236 Ls xs (d + 0) kp tl rl nh rh (u2 I 89 0 (0 : Int32)) L q0 hq0) ?_
  refine bs_br (t := 15) (e := 12) (lo := [some (.ref 89), none, none]) (st := []) (h := hp kp nh rh tl rl (u2 I 89 0 (0 : Int32)) L) rfl hf (fun hc hf => ?_) (fun hc hf => ?_)
  · refine bs_st 2 (x' := (17, [some (.ref 89), some (.int (0 : Int32)), none], [], hp kp nh rh tl rl (u2 I 89 0 (0 : Int32)) L)) rfl ?_
    exact tc_321_0 Ls xs d kp tl rl nh rh n n none (0 : Int32) (u2 I 89 0 (0 : Int32)) L r hf
  · refine bs_st 1 (x' := (14, [some (.ref 89), none, none], [.int (-2 : Int32)], hp kp nh rh tl rl (u2 I 89 0 (0 : Int32)) L)) rfl ?_
    cases hf
    exact bs_ret rfl
/-- LampRoundsModel.sharesOf(I) on (89,) -/
def c_322_1 (n : Nat) (K0 : Int32 → Int32 → FI → FL → Option (Int32 × FI × FL)) (x1 : Int32) (x2 : Int32) (I : FI) (L : FL) : Option (Int32 × FI × FL) :=
  K0 x1 (x2 + (1 : Int32)) I L
set_option maxHeartbeats 1000000 in
set_option maxRecDepth 20000 in
theorem tc_322_1 (Ls : Nat) (xs : Nat → Int32) (d : Nat) (kp : Option Nat) (tl : List (Nat × Nat)) (rl : List (List (Option Nat))) (nh : Option Nat) (rh : Option Nat) (n : Nat) (K0 : Int32 → Int32 → FI → FL → Option (Int32 × FI × FL)) (hK0 : ∀ (x1 : Int32) (x2 : Int32) (I : FI) (L : FL) (r : Int32 × FI × FL), K0 x1 x2 I L = some r → Bs cd_322 (sf 12 rs_12 false 3 (some (.int)) Ls xs (d + 6)) (6, [some (.ref 89), some (.int x1), some (.int x2)], [], hp kp nh rh tl rl I L) (some (.int r.1), hp kp nh rh tl rl r.2.1 r.2.2)) (x1 : Int32) (x2 : Int32) (I : FI) (L : FL) (r : Int32 × FI × FL) (hf : c_322_1 n K0 x1 x2 I L = some r) : Bs cd_322 (sf 12 rs_12 false 3 (some (.int)) Ls xs (d + 6)) (44, [some (.ref 89), some (.int x1), some (.int x2)], [], hp kp nh rh tl rl I L) (some (.int r.1), hp kp nh rh tl rl r.2.1 r.2.2) := by
  unfold c_322_1 at hf
  refine bs_st 2 (x' := (6, [some (.ref 89), some (.int x1), some (.int (x2 + (1 : Int32)))], [], hp kp nh rh tl rl I L)) rfl ?_
  exact hK0 x1 (x2 + (1 : Int32)) I L r hf
def b_322_0 (n : Nat) (K0 : Int32 → Int32 → FI → FL → Option (Int32 × FI × FL)) (x1 : Int32) (x2 : Int32) (I : FI) (L : FL) : Option (Int32 × FI × FL) :=
  (f_298 I L).bind fun q1 =>
  if q1 < x2 then
    some ((-1 : Int32), I, L)
  else
    (f_256 I L).bind fun q2 =>
    (f_297 n q2 x2 I L).bind fun q3 =>
    if q3.1 = 0 then
      c_322_1 n K0 x1 x2 q3.2.1 q3.2.2
    else
      (f_298 q3.2.1 q3.2.2).bind fun q4 =>
      (f_297 n x1 (q4 &&& (x2 ^^^ (-1 : Int32))) q3.2.1 q3.2.2).bind fun q5 =>
      if q5.1 = 0 then
        c_322_1 n K0 x1 x2 q5.2.1 q5.2.2
      else
        some (x2, q5.2.1, q5.2.2)
def c_322_0 (n : Nat) : Nat → Int32 → Int32 → FI → FL → Option (Int32 × FI × FL)
  | 0, _, _, _, _ => none
  | m + 1, x1, x2, I, L => b_322_0 n (c_322_0 n m) x1 x2 I L
set_option maxHeartbeats 1000000 in
set_option maxRecDepth 20000 in
theorem tc_322_0 (Ls : Nat) (xs : Nat → Int32) (d : Nat) (kp : Option Nat) (tl : List (Nat × Nat)) (rl : List (List (Option Nat))) (nh : Option Nat) (rh : Option Nat) (n : Nat) : ∀ (m : Nat) (x1 : Int32) (x2 : Int32) (I : FI) (L : FL) (r : Int32 × FI × FL), c_322_0 n m x1 x2 I L = some r → Bs cd_322 (sf 12 rs_12 false 3 (some (.int)) Ls xs (d + 6)) (6, [some (.ref 89), some (.int x1), some (.int x2)], [], hp kp nh rh tl rl I L) (some (.int r.1), hp kp nh rh tl rl r.2.1 r.2.2)
  | 0, x1, x2, I, L, r, hf => by cases hf
  | m + 1, x1, x2, I, L, r, hf => by
    unfold c_322_0 b_322_0 at hf
    have hK0 := tc_322_0 Ls xs d kp tl rl nh rh n m
    refine bs_st 2 (x' := (8, [some (.ref 89), some (.int x1), some (.int x2)], [.ref 89, .int x2], hp kp nh rh tl rl I L)) rfl ?_
    obtain ⟨q1, hq1, hf⟩ := Option.bind_eq_some_iff.mp hf
    refine bs_call (o := pEN Ls xs (d + 6) 298 [.ref 89] (hp kp nh rh tl rl I L)) (w := some (.int q1)) (h' := hp kp nh rh tl rl I L) (pc := 11) (lo := [some (.ref 89), some (.int x1), some (.int x2)]) (rest := [.int x2]) rfl (t_298 Ls xs (d + 4) kp tl rl nh rh I L q1 hq1) ?_
    refine bs_br (t := 50) (e := 14) (lo := [some (.ref 89), some (.int x1), some (.int x2)]) (st := []) (h := hp kp nh rh tl rl I L) rfl hf (fun hc hf => ?_) (fun hc hf => ?_)
    · refine bs_st 1 (x' := (51, [some (.ref 89), some (.int x1), some (.int x2)], [.int (-1 : Int32)], hp kp nh rh tl rl I L)) rfl ?_
      cases hf
      exact bs_ret rfl
    · refine bs_st 2 (x' := (16, [some (.ref 89), some (.int x1), some (.int x2)], [.ref 89, .ref 89], hp kp nh rh tl rl I L)) rfl ?_
      obtain ⟨q2, hq2, hf⟩ := Option.bind_eq_some_iff.mp hf
      refine bs_call (o := pEN Ls xs (d + 6) 256 [.ref 89] (hp kp nh rh tl rl I L)) (w := some (.int q2)) (h' := hp kp nh rh tl rl I L) (pc := 19) (lo := [some (.ref 89), some (.int x1), some (.int x2)]) (rest := [.ref 89]) rfl (t_256 Ls xs (d + 4) kp tl rl nh rh I L q2 hq2) ?_
      refine bs_st 1 (x' := (20, [some (.ref 89), some (.int x1), some (.int x2)], [.int x2, .int q2, .ref 89], hp kp nh rh tl rl I L)) rfl ?_
      obtain ⟨q3, hq3, hf⟩ := Option.bind_eq_some_iff.mp hf
      refine bs_call (o := pEN Ls xs (d + 6) 297 [.ref 89, .int q2, .int x2] (hp kp nh rh tl rl I L)) (w := some (.int q3.1)) (h' := hp kp nh rh tl rl q3.2.1 q3.2.2) (pc := 23) (lo := [some (.ref 89), some (.int x1), some (.int x2)]) (rest := []) rfl (t_297 Ls xs (d + 0) kp tl rl nh rh n q2 x2 I L q3 hq3) ?_
      refine bs_br (t := 44) (e := 26) (lo := [some (.ref 89), some (.int x1), some (.int x2)]) (st := []) (h := hp kp nh rh tl rl q3.2.1 q3.2.2) rfl hf (fun hc hf => ?_) (fun hc hf => ?_)
      · exact tc_322_1 Ls xs d kp tl rl nh rh n _ hK0 x1 x2 q3.2.1 q3.2.2 r hf
      · refine bs_st 3 (x' := (29, [some (.ref 89), some (.int x1), some (.int x2)], [.ref 89, .int x1, .ref 89], hp kp nh rh tl rl q3.2.1 q3.2.2)) rfl ?_
        obtain ⟨q4, hq4, hf⟩ := Option.bind_eq_some_iff.mp hf
        refine bs_call (o := pEN Ls xs (d + 6) 298 [.ref 89] (hp kp nh rh tl rl q3.2.1 q3.2.2)) (w := some (.int q4)) (h' := hp kp nh rh tl rl q3.2.1 q3.2.2) (pc := 32) (lo := [some (.ref 89), some (.int x1), some (.int x2)]) (rest := [.int x1, .ref 89]) rfl (t_298 Ls xs (d + 4) kp tl rl nh rh q3.2.1 q3.2.2 q4 hq4) ?_
        refine bs_st 4 (x' := (36, [some (.ref 89), some (.int x1), some (.int x2)], [.int (q4 &&& (x2 ^^^ (-1 : Int32))), .int x1, .ref 89], hp kp nh rh tl rl q3.2.1 q3.2.2)) rfl ?_
        obtain ⟨q5, hq5, hf⟩ := Option.bind_eq_some_iff.mp hf
        refine bs_call (o := pEN Ls xs (d + 6) 297 [.ref 89, .int x1, .int (q4 &&& (x2 ^^^ (-1 : Int32)))] (hp kp nh rh tl rl q3.2.1 q3.2.2)) (w := some (.int q5.1)) (h' := hp kp nh rh tl rl q5.2.1 q5.2.2) (pc := 39) (lo := [some (.ref 89), some (.int x1), some (.int x2)]) (rest := []) rfl (t_297 Ls xs (d + 0) kp tl rl nh rh n x1 (q4 &&& (x2 ^^^ (-1 : Int32))) q3.2.1 q3.2.2 q5 hq5) ?_
        refine bs_br (t := 44) (e := 42) (lo := [some (.ref 89), some (.int x1), some (.int x2)]) (st := []) (h := hp kp nh rh tl rl q5.2.1 q5.2.2) rfl hf (fun hc hf => ?_) (fun hc hf => ?_)
        · exact tc_322_1 Ls xs d kp tl rl nh rh n _ hK0 x1 x2 q5.2.1 q5.2.2 r hf
        · refine bs_st 1 (x' := (43, [some (.ref 89), some (.int x1), some (.int x2)], [.int x2], hp kp nh rh tl rl q5.2.1 q5.2.2)) rfl ?_
          cases hf
          exact bs_ret rfl
def f_322 (n : Nat) (x1 : Int32) (I : FI) (L : FL) : Option (Int32 × FI × FL) :=
  (f_252 n I L).bind fun q0 =>
  c_322_0 n n x1 (0 : Int32) q0.1 q0.2
set_option maxHeartbeats 1000000 in
set_option maxRecDepth 20000 in
theorem t_322 (Ls : Nat) (xs : Nat → Int32) (d : Nat) (kp : Option Nat) (tl : List (Nat × Nat)) (rl : List (List (Option Nat))) (nh : Option Nat) (rh : Option Nat) (n : Nat) (x1 : Int32) (I : FI) (L : FL) (r : Int32 × FI × FL) (hf : f_322 n x1 I L = some r) : pEN Ls xs (d + 7) 322 [.ref 89, .int x1] (hp kp nh rh tl rl I L) = some (some (.int r.1), hp kp nh rh tl rl r.2.1 r.2.2) := by
  refine en_run (d := d + 6) (cd := cd_322) (f := (sf 12 rs_12 false 3 (some (.int)) Ls xs (d + 6))) rfl rfl (x := (0, [some (.ref 89), some (.int x1), none], [], hp kp nh rh tl rl I L)) rfl rfl (Nat.le_of_ble_eq_true rfl) ?_
  unfold f_322 at hf
  refine bs_st 1 (x' := (1, [some (.ref 89), some (.int x1), none], [.ref 89], hp kp nh rh tl rl I L)) rfl ?_
  obtain ⟨q0, hq0, hf⟩ := Option.bind_eq_some_iff.mp hf
  refine bs_call (o := pEN Ls xs (d + 6) 252 [.ref 89] (hp kp nh rh tl rl I L)) (w := none) (h' := hp kp nh rh tl rl q0.1 q0.2) (pc := 4) (lo := [some (.ref 89), some (.int x1), none]) (rest := []) rfl (t_252 Ls xs (d + 4) kp tl rl nh rh n I L q0 hq0) ?_
  refine bs_st 2 (x' := (6, [some (.ref 89), some (.int x1), some (.int (0 : Int32))], [], hp kp nh rh tl rl q0.1 q0.2)) rfl ?_
  exact tc_322_0 Ls xs d kp tl rl nh rh n n x1 (0 : Int32) q0.1 q0.2 r hf
/-- LampRoundsModel.shares(I) on (89,) -/
def f_323 (n : Nat) (x1 : Int32) (I : FI) (L : FL) : Option (Int32 × FI × FL) :=
  (f_239 x1.toInt64 (u2 I 89 0 (0 : Int32)) L).bind fun q0 =>
  if q0 = 0 then
    some ((-2 : Int32), (u2 I 89 0 (0 : Int32)), L)
  else
    (f_322 n x1 (u2 I 89 0 (0 : Int32)) L).bind fun q1 =>
    some (q1.1, q1.2.1, q1.2.2)
set_option maxHeartbeats 1000000 in
set_option maxRecDepth 20000 in
theorem t_323 (Ls : Nat) (xs : Nat → Int32) (d : Nat) (kp : Option Nat) (tl : List (Nat × Nat)) (rl : List (List (Option Nat))) (nh : Option Nat) (rh : Option Nat) (n : Nat) (x1 : Int32) (I : FI) (L : FL) (r : Int32 × FI × FL) (hf : f_323 n x1 I L = some r) : pEN Ls xs (d + 8) 323 [.ref 89, .int x1] (hp kp nh rh tl rl I L) = some (some (.int r.1), hp kp nh rh tl rl r.2.1 r.2.2) := by
  refine en_run (d := d + 7) (cd := cd_323) (f := (sf 12 rs_12 false 2 (some (.int)) Ls xs (d + 7))) rfl rfl (x := (0, [some (.ref 89), some (.int x1)], [], hp kp nh rh tl rl I L)) rfl rfl (Nat.le_of_ble_eq_true rfl) ?_
  unfold f_323 at hf
  refine bs_st 6 (x' := (8, [some (.ref 89), some (.int x1)], [.long x1.toInt64, .ref 89], hp kp nh rh tl rl (u2 I 89 0 (0 : Int32)) L)) rfl ?_
  obtain ⟨q0, hq0, hf⟩ := Option.bind_eq_some_iff.mp hf
  refine bs_call (o := pEN Ls xs (d + 7) 239 [.ref 89, .long x1.toInt64] (hp kp nh rh tl rl (u2 I 89 0 (0 : Int32)) L)) (w := some (.int q0)) (h' := hp kp nh rh tl rl (u2 I 89 0 (0 : Int32)) L) (pc := 11) (lo := [some (.ref 89), some (.int x1)]) (rest := []) rfl (t_239 Ls xs (d + 5) kp tl rl nh rh x1.toInt64 (u2 I 89 0 (0 : Int32)) L q0 hq0) ?_
  refine bs_br (t := 22) (e := 14) (lo := [some (.ref 89), some (.int x1)]) (st := []) (h := hp kp nh rh tl rl (u2 I 89 0 (0 : Int32)) L) rfl hf (fun hc hf => ?_) (fun hc hf => ?_)
  · refine bs_st 1 (x' := (24, [some (.ref 89), some (.int x1)], [.int (-2 : Int32)], hp kp nh rh tl rl (u2 I 89 0 (0 : Int32)) L)) rfl ?_
    cases hf
    exact bs_ret rfl
  · refine bs_st 2 (x' := (16, [some (.ref 89), some (.int x1)], [.int x1, .ref 89], hp kp nh rh tl rl (u2 I 89 0 (0 : Int32)) L)) rfl ?_
    obtain ⟨q1, hq1, hf⟩ := Option.bind_eq_some_iff.mp hf
    refine bs_call (o := pEN Ls xs (d + 7) 322 [.ref 89, .int x1] (hp kp nh rh tl rl (u2 I 89 0 (0 : Int32)) L)) (w := some (.int q1.1)) (h' := hp kp nh rh tl rl q1.2.1 q1.2.2) (pc := 19) (lo := [some (.ref 89), some (.int x1)]) (rest := []) rfl (t_322 Ls xs (d + 0) kp tl rl nh rh n x1 (u2 I 89 0 (0 : Int32)) L q1 hq1) ?_
    refine bs_st 1 (x' := (24, [some (.ref 89), some (.int x1)], [.int q1.1], hp kp nh rh tl rl q1.2.1 q1.2.2)) rfl ?_
    cases hf
    exact bs_ret rfl
/-- LampRoundsModel.second() on (89,) -/
def b_324_0 (n : Nat) (K0 : Int32 → FI → FL → Option (Int32 × FI × FL)) (x1 : Int32) (I : FI) (L : FL) : Option (Int32 × FI × FL) :=
  (f_237 I L).bind fun q1 =>
  if q1 ≤ x1 then
    some ((-1 : Int32), I, L)
  else
    (f_322 n x1 I L).bind fun q2 =>
    if q2.1 = (-1 : Int32) then
      K0 (x1 + (1 : Int32)) q2.2.1 q2.2.2
    else
      some (x1, q2.2.1, q2.2.2)
def c_324_0 (n : Nat) : Nat → Int32 → FI → FL → Option (Int32 × FI × FL)
  | 0, _, _, _ => none
  | m + 1, x1, I, L => b_324_0 n (c_324_0 n m) x1 I L
set_option maxHeartbeats 1000000 in
set_option maxRecDepth 20000 in
theorem tc_324_0 (Ls : Nat) (xs : Nat → Int32) (d : Nat) (kp : Option Nat) (tl : List (Nat × Nat)) (rl : List (List (Option Nat))) (nh : Option Nat) (rh : Option Nat) (n : Nat) : ∀ (m : Nat) (x1 : Int32) (I : FI) (L : FL) (r : Int32 × FI × FL), c_324_0 n m x1 I L = some r → Bs cd_324 (sf 12 rs_12 false 2 (some (.int)) Ls xs (d + 7)) (17, [some (.ref 89), some (.int x1)], [], hp kp nh rh tl rl I L) (some (.int r.1), hp kp nh rh tl rl r.2.1 r.2.2)
  | 0, x1, I, L, r, hf => by cases hf
  | m + 1, x1, I, L, r, hf => by
    unfold c_324_0 b_324_0 at hf
    have hK0 := tc_324_0 Ls xs d kp tl rl nh rh n m
    refine bs_st 2 (x' := (19, [some (.ref 89), some (.int x1)], [.ref 89, .int x1], hp kp nh rh tl rl I L)) rfl ?_
    obtain ⟨q1, hq1, hf⟩ := Option.bind_eq_some_iff.mp hf
    refine bs_call (o := pEN Ls xs (d + 7) 237 [.ref 89] (hp kp nh rh tl rl I L)) (w := some (.int q1)) (h' := hp kp nh rh tl rl I L) (pc := 22) (lo := [some (.ref 89), some (.int x1)]) (rest := [.int x1]) rfl (t_237 Ls xs (d + 6) kp tl rl nh rh I L q1 hq1) ?_
    refine bs_br (t := 42) (e := 25) (lo := [some (.ref 89), some (.int x1)]) (st := []) (h := hp kp nh rh tl rl I L) rfl hf (fun hc hf => ?_) (fun hc hf => ?_)
    · refine bs_st 1 (x' := (43, [some (.ref 89), some (.int x1)], [.int (-1 : Int32)], hp kp nh rh tl rl I L)) rfl ?_
      cases hf
      exact bs_ret rfl
    · refine bs_st 2 (x' := (27, [some (.ref 89), some (.int x1)], [.int x1, .ref 89], hp kp nh rh tl rl I L)) rfl ?_
      obtain ⟨q2, hq2, hf⟩ := Option.bind_eq_some_iff.mp hf
      refine bs_call (o := pEN Ls xs (d + 7) 322 [.ref 89, .int x1] (hp kp nh rh tl rl I L)) (w := some (.int q2.1)) (h' := hp kp nh rh tl rl q2.2.1 q2.2.2) (pc := 30) (lo := [some (.ref 89), some (.int x1)]) (rest := []) rfl (t_322 Ls xs (d + 0) kp tl rl nh rh n x1 I L q2 hq2) ?_
      refine bs_st 1 (x' := (31, [some (.ref 89), some (.int x1)], [.int (-1 : Int32), .int q2.1], hp kp nh rh tl rl q2.2.1 q2.2.2)) rfl ?_
      refine bs_br (t := 36) (e := 34) (lo := [some (.ref 89), some (.int x1)]) (st := []) (h := hp kp nh rh tl rl q2.2.1 q2.2.2) rfl hf (fun hc hf => ?_) (fun hc hf => ?_)
      · refine bs_st 2 (x' := (17, [some (.ref 89), some (.int (x1 + (1 : Int32)))], [], hp kp nh rh tl rl q2.2.1 q2.2.2)) rfl ?_
        exact hK0 (x1 + (1 : Int32)) q2.2.1 q2.2.2 r hf
      · refine bs_st 1 (x' := (35, [some (.ref 89), some (.int x1)], [.int x1], hp kp nh rh tl rl q2.2.1 q2.2.2)) rfl ?_
        cases hf
        exact bs_ret rfl
def f_324 (n : Nat) (I : FI) (L : FL) : Option (Int32 × FI × FL) :=
  (f_236 (u2 I 89 0 (0 : Int32)) L).bind fun q0 =>
  if ¬ q0 = 0 then
    c_324_0 n n (0 : Int32) (u2 I 89 0 (0 : Int32)) L
  else
    some ((-2 : Int32), (u2 I 89 0 (0 : Int32)), L)
set_option maxHeartbeats 1000000 in
set_option maxRecDepth 20000 in
theorem t_324 (Ls : Nat) (xs : Nat → Int32) (d : Nat) (kp : Option Nat) (tl : List (Nat × Nat)) (rl : List (List (Option Nat))) (nh : Option Nat) (rh : Option Nat) (n : Nat) (I : FI) (L : FL) (r : Int32 × FI × FL) (hf : f_324 n I L = some r) : pEN Ls xs (d + 8) 324 [.ref 89] (hp kp nh rh tl rl I L) = some (some (.int r.1), hp kp nh rh tl rl r.2.1 r.2.2) := by
  refine en_run (d := d + 7) (cd := cd_324) (f := (sf 12 rs_12 false 2 (some (.int)) Ls xs (d + 7))) rfl rfl (x := (0, [some (.ref 89), none], [], hp kp nh rh tl rl I L)) rfl rfl (Nat.le_of_ble_eq_true rfl) ?_
  unfold f_324 at hf
  refine bs_st 4 (x' := (6, [some (.ref 89), none], [.ref 89], hp kp nh rh tl rl (u2 I 89 0 (0 : Int32)) L)) rfl ?_
  obtain ⟨q0, hq0, hf⟩ := Option.bind_eq_some_iff.mp hf
  refine bs_call (o := pEN Ls xs (d + 7) 236 [.ref 89] (hp kp nh rh tl rl (u2 I 89 0 (0 : Int32)) L)) (w := some (.int q0)) (h' := hp kp nh rh tl rl (u2 I 89 0 (0 : Int32)) L) (pc := 9) (lo := [some (.ref 89), none]) (rest := []) rfl (t_236 Ls xs (d + 6) kp tl rl nh rh (u2 I 89 0 (0 : Int32)) L q0 hq0) ?_
  refine bs_br (t := 15) (e := 12) (lo := [some (.ref 89), none]) (st := []) (h := hp kp nh rh tl rl (u2 I 89 0 (0 : Int32)) L) rfl hf (fun hc hf => ?_) (fun hc hf => ?_)
  · refine bs_st 2 (x' := (17, [some (.ref 89), some (.int (0 : Int32))], [], hp kp nh rh tl rl (u2 I 89 0 (0 : Int32)) L)) rfl ?_
    exact tc_324_0 Ls xs d kp tl rl nh rh n n (0 : Int32) (u2 I 89 0 (0 : Int32)) L r hf
  · refine bs_st 1 (x' := (14, [some (.ref 89), none], [.int (-2 : Int32)], hp kp nh rh tl rl (u2 I 89 0 (0 : Int32)) L)) rfl ?_
    cases hf
    exact bs_ret rfl
/-- LampRoundsModel.whyNot(I) on (89,) -/
def b_325_0 (n : Nat) (I : FI) (L : FL) (K0 : Int32 → Int32 → Option (Int32)) (x1 : Int32) (x2 : Int32) : Option (Int32) :=
  if pin x1 4 = true then (if I 91 x1.toNatClampNeg ≤ x2 then
      some ((0 : Int32))
    else
      if pin (((60 : Int32) * x1) + x2) 240 = true then ((f_239 (L 92 ((((60 : Int32) * x1) + x2).toNatClampNeg)) I L).bind fun q2 =>
        if q2 = 0 then
          some ((-2 : Int32))
        else
          if pin ((((60 : Int32) * x1) + x2) + (1 : Int32)) 240 = true then ((f_241 (L 92 (((((60 : Int32) * x1) + x2) + (1 : Int32)).toNatClampNeg)) I L).bind fun q3 =>
            if q3 = 0 then
              some ((-2 : Int32))
            else
              if pin ((((60 : Int32) * x1) + x2) + (2 : Int32)) 240 = true then ((f_201 (L 92 (((((60 : Int32) * x1) + x2) + (2 : Int32)).toNatClampNeg)) (0 : Int64) (99 : Int64) I L).bind fun q4 =>
                if ¬ q4 = 0 then
                  K0 x1 (x2 + (3 : Int32))
                else
                  some ((-2 : Int32))) else none) else none) else none) else none
def c_325_0 (n : Nat) (I : FI) (L : FL) : Nat → Int32 → Int32 → Option (Int32)
  | 0, _, _ => none
  | m + 1, x1, x2 => b_325_0 n I L (c_325_0 n I L m) x1 x2
set_option maxHeartbeats 1000000 in
set_option maxRecDepth 20000 in
theorem tc_325_0 (Ls : Nat) (xs : Nat → Int32) (d : Nat) (kp : Option Nat) (tl : List (Nat × Nat)) (rl : List (List (Option Nat))) (nh : Option Nat) (rh : Option Nat) (n : Nat) (I : FI) (L : FL) : ∀ (m : Nat) (w3 : Option Value) (x1 : Int32) (x2 : Int32) (r : Int32), c_325_0 n I L m x1 x2 = some r → Bs cd_325 (sf 12 rs_12 false 4 (some (.int)) Ls xs (d + 2)) (46, [some (.ref 89), some (.int x1), some (.int x2), w3], [], hp kp nh rh tl rl I L) (some (.int r), hp kp nh rh tl rl I L)
  | 0, w3, x1, x2, r, hf => by cases hf
  | m + 1, w3, x1, x2, r, hf => by
    unfold c_325_0 b_325_0 at hf
    have hK0 := tc_325_0 Ls xs d kp tl rl nh rh n I L m
    refine bs_st 4 (x' := (52, [some (.ref 89), some (.int x1), some (.int x2), w3], [.int x1, .ref 91, .int x2], hp kp nh rh tl rl I L)) rfl ?_
    refine bs_gd (x' := (53, [some (.ref 89), some (.int x1), some (.int x2), w3], [.int (I 91 x1.toNatClampNeg), .int x2], hp kp nh rh tl rl I L)) rfl hf (fun hc hf => ?_)
    refine bs_br (t := 118) (e := 56) (lo := [some (.ref 89), some (.int x1), some (.int x2), w3]) (st := []) (h := hp kp nh rh tl rl I L) rfl hf (fun hc hf => ?_) (fun hc hf => ?_)
    · refine bs_st 1 (x' := (119, [some (.ref 89), some (.int x1), some (.int x2), w3], [.int (0 : Int32)], hp kp nh rh tl rl I L)) rfl ?_
      cases hf
      exact bs_ret rfl
    · refine bs_st 10 (x' := (69, [some (.ref 89), some (.int x1), some (.int x2), some (.int (((60 : Int32) * x1) + x2))], [.int (((60 : Int32) * x1) + x2), .ref 92, .ref 89], hp kp nh rh tl rl I L)) rfl ?_
      refine bs_gd (x' := (70, [some (.ref 89), some (.int x1), some (.int x2), some (.int (((60 : Int32) * x1) + x2))], [.long (L 92 ((((60 : Int32) * x1) + x2).toNatClampNeg)), .ref 89], hp kp nh rh tl rl I L)) rfl hf (fun hc hf => ?_)
      obtain ⟨q2, hq2, hf⟩ := Option.bind_eq_some_iff.mp hf
      refine bs_call (o := pEN Ls xs (d + 2) 239 [.ref 89, .long (L 92 ((((60 : Int32) * x1) + x2).toNatClampNeg))] (hp kp nh rh tl rl I L)) (w := some (.int q2)) (h' := hp kp nh rh tl rl I L) (pc := 73) (lo := [some (.ref 89), some (.int x1), some (.int x2), some (.int (((60 : Int32) * x1) + x2))]) (rest := []) rfl (t_239 Ls xs (d + 0) kp tl rl nh rh (L 92 ((((60 : Int32) * x1) + x2).toNatClampNeg)) I L q2 hq2) ?_
      refine bs_br (t := 109) (e := 76) (lo := [some (.ref 89), some (.int x1), some (.int x2), some (.int (((60 : Int32) * x1) + x2))]) (st := []) (h := hp kp nh rh tl rl I L) rfl hf (fun hc hf => ?_) (fun hc hf => ?_)
      · refine bs_st 1 (x' := (111, [some (.ref 89), some (.int x1), some (.int x2), some (.int (((60 : Int32) * x1) + x2))], [.int (-2 : Int32)], hp kp nh rh tl rl I L)) rfl ?_
        cases hf
        exact bs_ret rfl
      · refine bs_st 6 (x' := (84, [some (.ref 89), some (.int x1), some (.int x2), some (.int (((60 : Int32) * x1) + x2))], [.int ((((60 : Int32) * x1) + x2) + (1 : Int32)), .ref 92, .ref 89], hp kp nh rh tl rl I L)) rfl ?_
        refine bs_gd (x' := (85, [some (.ref 89), some (.int x1), some (.int x2), some (.int (((60 : Int32) * x1) + x2))], [.long (L 92 (((((60 : Int32) * x1) + x2) + (1 : Int32)).toNatClampNeg)), .ref 89], hp kp nh rh tl rl I L)) rfl hf (fun hc hf => ?_)
        obtain ⟨q3, hq3, hf⟩ := Option.bind_eq_some_iff.mp hf
        refine bs_call (o := pEN Ls xs (d + 2) 241 [.ref 89, .long (L 92 (((((60 : Int32) * x1) + x2) + (1 : Int32)).toNatClampNeg))] (hp kp nh rh tl rl I L)) (w := some (.int q3)) (h' := hp kp nh rh tl rl I L) (pc := 88) (lo := [some (.ref 89), some (.int x1), some (.int x2), some (.int (((60 : Int32) * x1) + x2))]) (rest := []) rfl (t_241 Ls xs (d + 0) kp tl rl nh rh (L 92 (((((60 : Int32) * x1) + x2) + (1 : Int32)).toNatClampNeg)) I L q3 hq3) ?_
        refine bs_br (t := 109) (e := 91) (lo := [some (.ref 89), some (.int x1), some (.int x2), some (.int (((60 : Int32) * x1) + x2))]) (st := []) (h := hp kp nh rh tl rl I L) rfl hf (fun hc hf => ?_) (fun hc hf => ?_)
        · refine bs_st 1 (x' := (111, [some (.ref 89), some (.int x1), some (.int x2), some (.int (((60 : Int32) * x1) + x2))], [.int (-2 : Int32)], hp kp nh rh tl rl I L)) rfl ?_
          cases hf
          exact bs_ret rfl
        · refine bs_st 5 (x' := (98, [some (.ref 89), some (.int x1), some (.int x2), some (.int (((60 : Int32) * x1) + x2))], [.int ((((60 : Int32) * x1) + x2) + (2 : Int32)), .ref 92], hp kp nh rh tl rl I L)) rfl ?_
          refine bs_gd (x' := (99, [some (.ref 89), some (.int x1), some (.int x2), some (.int (((60 : Int32) * x1) + x2))], [.long (L 92 (((((60 : Int32) * x1) + x2) + (2 : Int32)).toNatClampNeg))], hp kp nh rh tl rl I L)) rfl hf (fun hc hf => ?_)
          refine bs_st 2 (x' := (103, [some (.ref 89), some (.int x1), some (.int x2), some (.int (((60 : Int32) * x1) + x2))], [.long (99 : Int64), .long (0 : Int64), .long (L 92 (((((60 : Int32) * x1) + x2) + (2 : Int32)).toNatClampNeg))], hp kp nh rh tl rl I L)) rfl ?_
          obtain ⟨q4, hq4, hf⟩ := Option.bind_eq_some_iff.mp hf
          refine bs_call (o := pEN Ls xs (d + 2) 201 [.long (L 92 (((((60 : Int32) * x1) + x2) + (2 : Int32)).toNatClampNeg)), .long (0 : Int64), .long (99 : Int64)] (hp kp nh rh tl rl I L)) (w := some (.int q4)) (h' := hp kp nh rh tl rl I L) (pc := 106) (lo := [some (.ref 89), some (.int x1), some (.int x2), some (.int (((60 : Int32) * x1) + x2))]) (rest := []) rfl (t_201 Ls xs (d + 1) kp tl rl nh rh (L 92 (((((60 : Int32) * x1) + x2) + (2 : Int32)).toNatClampNeg)) (0 : Int64) (99 : Int64) I L q4 hq4) ?_
          refine bs_br (t := 112) (e := 109) (lo := [some (.ref 89), some (.int x1), some (.int x2), some (.int (((60 : Int32) * x1) + x2))]) (st := []) (h := hp kp nh rh tl rl I L) rfl hf (fun hc hf => ?_) (fun hc hf => ?_)
          · refine bs_st 2 (x' := (46, [some (.ref 89), some (.int x1), some (.int (x2 + (3 : Int32))), some (.int (((60 : Int32) * x1) + x2))], [], hp kp nh rh tl rl I L)) rfl ?_
            exact hK0 (some (.int (((60 : Int32) * x1) + x2))) x1 (x2 + (3 : Int32)) r hf
          · refine bs_st 1 (x' := (111, [some (.ref 89), some (.int x1), some (.int x2), some (.int (((60 : Int32) * x1) + x2))], [.int (-2 : Int32)], hp kp nh rh tl rl I L)) rfl ?_
            cases hf
            exact bs_ret rfl
def f_325 (n : Nat) (x1 : Int32) (I : FI) (L : FL) : Option (Int32) :=
  (f_202 x1 I L).bind fun q0 =>
  if q0 = 0 then
    some ((-2 : Int32))
  else
    (f_236 I L).bind fun q1 =>
    if ¬ q1 = 0 then
      if pin x1 4 = true then (if ¬ I 90 x1.toNatClampNeg = (-1 : Int32) then
          if pin x1 4 = true then (if ((I 91 x1.toNatClampNeg) - (I 91 x1.toNatClampNeg) / (3 : Int32) * (3 : Int32)) = 0 then
              c_325_0 n I L n x1 (0 : Int32)
            else
              some ((-2 : Int32))) else none
        else
          some ((-6 : Int32))) else none
    else
      some ((-2 : Int32))
set_option maxHeartbeats 1000000 in
set_option maxRecDepth 20000 in
theorem t_325 (Ls : Nat) (xs : Nat → Int32) (d : Nat) (kp : Option Nat) (tl : List (Nat × Nat)) (rl : List (List (Option Nat))) (nh : Option Nat) (rh : Option Nat) (n : Nat) (x1 : Int32) (I : FI) (L : FL) (r : Int32) (hf : f_325 n x1 I L = some r) : pEN Ls xs (d + 3) 325 [.ref 89, .int x1] (hp kp nh rh tl rl I L) = some (some (.int r), hp kp nh rh tl rl I L) := by
  refine en_run (d := d + 2) (cd := cd_325) (f := (sf 12 rs_12 false 4 (some (.int)) Ls xs (d + 2))) rfl rfl (x := (0, [some (.ref 89), some (.int x1), none, none], [], hp kp nh rh tl rl I L)) rfl rfl (Nat.le_of_ble_eq_true rfl) ?_
  unfold f_325 at hf
  refine bs_st 1 (x' := (1, [some (.ref 89), some (.int x1), none, none], [.int x1], hp kp nh rh tl rl I L)) rfl ?_
  obtain ⟨q0, hq0, hf⟩ := Option.bind_eq_some_iff.mp hf
  refine bs_call (o := pEN Ls xs (d + 2) 202 [.int x1] (hp kp nh rh tl rl I L)) (w := some (.int q0)) (h' := hp kp nh rh tl rl I L) (pc := 4) (lo := [some (.ref 89), some (.int x1), none, none]) (rest := []) rfl (t_202 Ls xs (d + 0) kp tl rl nh rh x1 I L q0 hq0) ?_
  refine bs_br (t := 14) (e := 7) (lo := [some (.ref 89), some (.int x1), none, none]) (st := []) (h := hp kp nh rh tl rl I L) rfl hf (fun hc hf => ?_) (fun hc hf => ?_)
  · refine bs_st 1 (x' := (16, [some (.ref 89), some (.int x1), none, none], [.int (-2 : Int32)], hp kp nh rh tl rl I L)) rfl ?_
    cases hf
    exact bs_ret rfl
  · refine bs_st 1 (x' := (8, [some (.ref 89), some (.int x1), none, none], [.ref 89], hp kp nh rh tl rl I L)) rfl ?_
    obtain ⟨q1, hq1, hf⟩ := Option.bind_eq_some_iff.mp hf
    refine bs_call (o := pEN Ls xs (d + 2) 236 [.ref 89] (hp kp nh rh tl rl I L)) (w := some (.int q1)) (h' := hp kp nh rh tl rl I L) (pc := 11) (lo := [some (.ref 89), some (.int x1), none, none]) (rest := []) rfl (t_236 Ls xs (d + 1) kp tl rl nh rh I L q1 hq1) ?_
    refine bs_br (t := 17) (e := 14) (lo := [some (.ref 89), some (.int x1), none, none]) (st := []) (h := hp kp nh rh tl rl I L) rfl hf (fun hc hf => ?_) (fun hc hf => ?_)
    · refine bs_st 3 (x' := (22, [some (.ref 89), some (.int x1), none, none], [.int x1, .ref 90], hp kp nh rh tl rl I L)) rfl ?_
      refine bs_gd (x' := (23, [some (.ref 89), some (.int x1), none, none], [.int (I 90 x1.toNatClampNeg)], hp kp nh rh tl rl I L)) rfl hf (fun hc hf => ?_)
      refine bs_st 1 (x' := (24, [some (.ref 89), some (.int x1), none, none], [.int (-1 : Int32), .int (I 90 x1.toNatClampNeg)], hp kp nh rh tl rl I L)) rfl ?_
      refine bs_br (t := 30) (e := 27) (lo := [some (.ref 89), some (.int x1), none, none]) (st := []) (h := hp kp nh rh tl rl I L) rfl hf (fun hc hf => ?_) (fun hc hf => ?_)
      · refine bs_st 3 (x' := (35, [some (.ref 89), some (.int x1), none, none], [.int x1, .ref 91], hp kp nh rh tl rl I L)) rfl ?_
        refine bs_gd (x' := (36, [some (.ref 89), some (.int x1), none, none], [.int (I 91 x1.toNatClampNeg)], hp kp nh rh tl rl I L)) rfl hf (fun hc hf => ?_)
        refine bs_st 2 (x' := (38, [some (.ref 89), some (.int x1), none, none], [.int ((I 91 x1.toNatClampNeg) - (I 91 x1.toNatClampNeg) / (3 : Int32) * (3 : Int32))], hp kp nh rh tl rl I L)) rfl ?_
        refine bs_br (t := 44) (e := 41) (lo := [some (.ref 89), some (.int x1), none, none]) (st := []) (h := hp kp nh rh tl rl I L) rfl hf (fun hc hf => ?_) (fun hc hf => ?_)
        · refine bs_st 2 (x' := (46, [some (.ref 89), some (.int x1), some (.int (0 : Int32)), none], [], hp kp nh rh tl rl I L)) rfl ?_
          exact tc_325_0 Ls xs d kp tl rl nh rh n I L n none x1 (0 : Int32) r hf
        · refine bs_st 1 (x' := (43, [some (.ref 89), some (.int x1), none, none], [.int (-2 : Int32)], hp kp nh rh tl rl I L)) rfl ?_
          cases hf
          exact bs_ret rfl
      · refine bs_st 1 (x' := (29, [some (.ref 89), some (.int x1), none, none], [.int (-6 : Int32)], hp kp nh rh tl rl I L)) rfl ?_
        cases hf
        exact bs_ret rfl
    · refine bs_st 1 (x' := (16, [some (.ref 89), some (.int x1), none, none], [.int (-2 : Int32)], hp kp nh rh tl rl I L)) rfl ?_
      cases hf
      exact bs_ret rfl
/-- LampRoundsModel.isSo(I) on (89,) -/
def b_326_0 (n : Nat) (I : FI) (L : FL) (K0 : Int32 → Int32 → Option (Int32)) (x1 : Int32) (x2 : Int32) : Option (Int32) :=
  if pin x1 4 = true then (if I 91 x1.toNatClampNeg ≤ x2 then
      some ((1 : Int32))
    else
      if pin ((((60 : Int32) * x1) + x2) + (1 : Int32)) 240 = true then (if pin (((60 : Int32) * x1) + x2) 240 = true then (if pin (((4 : Int32) * ((L 92 (((((60 : Int32) * x1) + x2) + (1 : Int32)).toNatClampNeg)).toInt32)) + ((L 92 ((((60 : Int32) * x1) + x2).toNatClampNeg)).toInt32)) 120 = true then (if pin ((((60 : Int32) * x1) + x2) + (2 : Int32)) 240 = true then (if (lg_cmp ((I 106 ((((4 : Int32) * ((L 92 (((((60 : Int32) * x1) + x2) + (1 : Int32)).toNatClampNeg)).toInt32)) + ((L 92 ((((60 : Int32) * x1) + x2).toNatClampNeg)).toInt32)).toNatClampNeg)).toInt64) (L 92 (((((60 : Int32) * x1) + x2) + (2 : Int32)).toNatClampNeg))) = 0 then
                K0 x1 (x2 + (3 : Int32))
              else
                some ((0 : Int32))) else none) else none) else none) else none) else none
def c_326_0 (n : Nat) (I : FI) (L : FL) : Nat → Int32 → Int32 → Option (Int32)
  | 0, _, _ => none
  | m + 1, x1, x2 => b_326_0 n I L (c_326_0 n I L m) x1 x2
set_option maxHeartbeats 1000000 in
set_option maxRecDepth 20000 in
theorem tc_326_0 (Ls : Nat) (xs : Nat → Int32) (d : Nat) (kp : Option Nat) (tl : List (Nat × Nat)) (rl : List (List (Option Nat))) (nh : Option Nat) (rh : Option Nat) (n : Nat) (I : FI) (L : FL) : ∀ (m : Nat) (w3 : Option Value) (x1 : Int32) (x2 : Int32) (r : Int32), c_326_0 n I L m x1 x2 = some r → Bs cd_326 (sf 12 rs_12 false 4 (some (.boolean)) Ls xs (d + 0)) (2, [some (.ref 89), some (.int x1), some (.int x2), w3], [], hp kp nh rh tl rl I L) (some (.int r), hp kp nh rh tl rl I L)
  | 0, w3, x1, x2, r, hf => by cases hf
  | m + 1, w3, x1, x2, r, hf => by
    unfold c_326_0 b_326_0 at hf
    have hK0 := tc_326_0 Ls xs d kp tl rl nh rh n I L m
    refine bs_st 4 (x' := (8, [some (.ref 89), some (.int x1), some (.int x2), w3], [.int x1, .ref 91, .int x2], hp kp nh rh tl rl I L)) rfl ?_
    refine bs_gd (x' := (9, [some (.ref 89), some (.int x1), some (.int x2), w3], [.int (I 91 x1.toNatClampNeg), .int x2], hp kp nh rh tl rl I L)) rfl hf (fun hc hf => ?_)
    refine bs_br (t := 64) (e := 12) (lo := [some (.ref 89), some (.int x1), some (.int x2), w3]) (st := []) (h := hp kp nh rh tl rl I L) rfl hf (fun hc hf => ?_) (fun hc hf => ?_)
    · refine bs_st 1 (x' := (65, [some (.ref 89), some (.int x1), some (.int x2), w3], [.int (1 : Int32)], hp kp nh rh tl rl I L)) rfl ?_
      cases hf
      exact bs_ret rfl
    · refine bs_st 14 (x' := (31, [some (.ref 89), some (.int x1), some (.int x2), some (.int (((60 : Int32) * x1) + x2))], [.int ((((60 : Int32) * x1) + x2) + (1 : Int32)), .ref 92, .int (4 : Int32), .ref 106], hp kp nh rh tl rl I L)) rfl ?_
      refine bs_gd (x' := (32, [some (.ref 89), some (.int x1), some (.int x2), some (.int (((60 : Int32) * x1) + x2))], [.long (L 92 (((((60 : Int32) * x1) + x2) + (1 : Int32)).toNatClampNeg)), .int (4 : Int32), .ref 106], hp kp nh rh tl rl I L)) rfl hf (fun hc hf => ?_)
      refine bs_st 5 (x' := (39, [some (.ref 89), some (.int x1), some (.int x2), some (.int (((60 : Int32) * x1) + x2))], [.int (((60 : Int32) * x1) + x2), .ref 92, .int ((4 : Int32) * ((L 92 (((((60 : Int32) * x1) + x2) + (1 : Int32)).toNatClampNeg)).toInt32)), .ref 106], hp kp nh rh tl rl I L)) rfl ?_
      refine bs_gd (x' := (40, [some (.ref 89), some (.int x1), some (.int x2), some (.int (((60 : Int32) * x1) + x2))], [.long (L 92 ((((60 : Int32) * x1) + x2).toNatClampNeg)), .int ((4 : Int32) * ((L 92 (((((60 : Int32) * x1) + x2) + (1 : Int32)).toNatClampNeg)).toInt32)), .ref 106], hp kp nh rh tl rl I L)) rfl hf (fun hc hf => ?_)
      refine bs_st 2 (x' := (42, [some (.ref 89), some (.int x1), some (.int x2), some (.int (((60 : Int32) * x1) + x2))], [.int (((4 : Int32) * ((L 92 (((((60 : Int32) * x1) + x2) + (1 : Int32)).toNatClampNeg)).toInt32)) + ((L 92 ((((60 : Int32) * x1) + x2).toNatClampNeg)).toInt32)), .ref 106], hp kp nh rh tl rl I L)) rfl ?_
      refine bs_gd (x' := (43, [some (.ref 89), some (.int x1), some (.int x2), some (.int (((60 : Int32) * x1) + x2))], [.int (I 106 ((((4 : Int32) * ((L 92 (((((60 : Int32) * x1) + x2) + (1 : Int32)).toNatClampNeg)).toInt32)) + ((L 92 ((((60 : Int32) * x1) + x2).toNatClampNeg)).toInt32)).toNatClampNeg))], hp kp nh rh tl rl I L)) rfl hf (fun hc hf => ?_)
      refine bs_st 6 (x' := (51, [some (.ref 89), some (.int x1), some (.int x2), some (.int (((60 : Int32) * x1) + x2))], [.int ((((60 : Int32) * x1) + x2) + (2 : Int32)), .ref 92, .long ((I 106 ((((4 : Int32) * ((L 92 (((((60 : Int32) * x1) + x2) + (1 : Int32)).toNatClampNeg)).toInt32)) + ((L 92 ((((60 : Int32) * x1) + x2).toNatClampNeg)).toInt32)).toNatClampNeg)).toInt64)], hp kp nh rh tl rl I L)) rfl ?_
      refine bs_gd (x' := (52, [some (.ref 89), some (.int x1), some (.int x2), some (.int (((60 : Int32) * x1) + x2))], [.long (L 92 (((((60 : Int32) * x1) + x2) + (2 : Int32)).toNatClampNeg)), .long ((I 106 ((((4 : Int32) * ((L 92 (((((60 : Int32) * x1) + x2) + (1 : Int32)).toNatClampNeg)).toInt32)) + ((L 92 ((((60 : Int32) * x1) + x2).toNatClampNeg)).toInt32)).toNatClampNeg)).toInt64)], hp kp nh rh tl rl I L)) rfl hf (fun hc hf => ?_)
      refine bs_st 1 (x' := (53, [some (.ref 89), some (.int x1), some (.int x2), some (.int (((60 : Int32) * x1) + x2))], [.int (lg_cmp ((I 106 ((((4 : Int32) * ((L 92 (((((60 : Int32) * x1) + x2) + (1 : Int32)).toNatClampNeg)).toInt32)) + ((L 92 ((((60 : Int32) * x1) + x2).toNatClampNeg)).toInt32)).toNatClampNeg)).toInt64) (L 92 (((((60 : Int32) * x1) + x2) + (2 : Int32)).toNatClampNeg)))], hp kp nh rh tl rl I L)) rfl ?_
      refine bs_br (t := 58) (e := 56) (lo := [some (.ref 89), some (.int x1), some (.int x2), some (.int (((60 : Int32) * x1) + x2))]) (st := []) (h := hp kp nh rh tl rl I L) rfl hf (fun hc hf => ?_) (fun hc hf => ?_)
      · refine bs_st 2 (x' := (2, [some (.ref 89), some (.int x1), some (.int (x2 + (3 : Int32))), some (.int (((60 : Int32) * x1) + x2))], [], hp kp nh rh tl rl I L)) rfl ?_
        exact hK0 (some (.int (((60 : Int32) * x1) + x2))) x1 (x2 + (3 : Int32)) r hf
      · refine bs_st 1 (x' := (57, [some (.ref 89), some (.int x1), some (.int x2), some (.int (((60 : Int32) * x1) + x2))], [.int (0 : Int32)], hp kp nh rh tl rl I L)) rfl ?_
        cases hf
        exact bs_ret rfl
def f_326 (n : Nat) (x1 : Int32) (I : FI) (L : FL) : Option (Int32) :=
  c_326_0 n I L n x1 (0 : Int32)
set_option maxHeartbeats 1000000 in
set_option maxRecDepth 20000 in
theorem t_326 (Ls : Nat) (xs : Nat → Int32) (d : Nat) (kp : Option Nat) (tl : List (Nat × Nat)) (rl : List (List (Option Nat))) (nh : Option Nat) (rh : Option Nat) (n : Nat) (x1 : Int32) (I : FI) (L : FL) (r : Int32) (hf : f_326 n x1 I L = some r) : pEN Ls xs (d + 1) 326 [.ref 89, .int x1] (hp kp nh rh tl rl I L) = some (some (.int r), hp kp nh rh tl rl I L) := by
  refine en_run (d := d + 0) (cd := cd_326) (f := (sf 12 rs_12 false 4 (some (.boolean)) Ls xs (d + 0))) rfl rfl (x := (0, [some (.ref 89), some (.int x1), none, none], [], hp kp nh rh tl rl I L)) rfl rfl (Nat.le_of_ble_eq_true rfl) ?_
  unfold f_326 at hf
  refine bs_st 2 (x' := (2, [some (.ref 89), some (.int x1), some (.int (0 : Int32)), none], [], hp kp nh rh tl rl I L)) rfl ?_
  exact tc_326_0 Ls xs d kp tl rl nh rh n I L n none x1 (0 : Int32) r hf
/-- LampRoundsModel.laysBegins(I) on (89,) -/
def c_327_5 (n : Nat) (K2 : Int32 → FI → FL → Option (FI × FL)) (K3 : Int32 → Int32 → FI → FL → Option (FI × FL)) (x2 : Int32) (x3 : Int32) (I : FI) (L : FL) : Option (FI × FL) :=
  K3 x2 (x3 + (1 : Int32)) I L
set_option maxHeartbeats 1000000 in
set_option maxRecDepth 20000 in
theorem tc_327_5 (Ls : Nat) (xs : Nat → Int32) (d : Nat) (kp : Option Nat) (tl : List (Nat × Nat)) (rl : List (List (Option Nat))) (nh : Option Nat) (rh : Option Nat) (n : Nat) (K2 : Int32 → FI → FL → Option (FI × FL)) (K3 : Int32 → Int32 → FI → FL → Option (FI × FL)) (hK2 : ∀ (w1 : Option Value) (w3 : Option Value) (w4 : Option Value) (w5 : Option Value) (x2 : Int32) (I : FI) (L : FL) (r : FI × FL), K2 x2 I L = some r → Bs cd_327 (sf 12 rs_12 false 6 none Ls xs (d + 5)) (205, [some (.ref 89), w1, some (.int x2), w3, w4, w5], [], hp kp nh rh tl rl I L) (none, hp kp nh rh tl rl r.1 r.2)) (hK3 : ∀ (w1 : Option Value) (w4 : Option Value) (w5 : Option Value) (x2 : Int32) (x3 : Int32) (I : FI) (L : FL) (r : FI × FL), K3 x2 x3 I L = some r → Bs cd_327 (sf 12 rs_12 false 6 none Ls xs (d + 5)) (215, [some (.ref 89), w1, some (.int x2), some (.int x3), w4, w5], [], hp kp nh rh tl rl I L) (none, hp kp nh rh tl rl r.1 r.2)) (w1 : Option Value) (w4 : Option Value) (w5 : Option Value) (x2 : Int32) (x3 : Int32) (I : FI) (L : FL) (r : FI × FL) (hf : c_327_5 n K2 K3 x2 x3 I L = some r) : Bs cd_327 (sf 12 rs_12 false 6 none Ls xs (d + 5)) (314, [some (.ref 89), w1, some (.int x2), some (.int x3), w4, w5], [], hp kp nh rh tl rl I L) (none, hp kp nh rh tl rl r.1 r.2) := by
  unfold c_327_5 at hf
  refine bs_st 2 (x' := (215, [some (.ref 89), w1, some (.int x2), some (.int (x3 + (1 : Int32))), w4, w5], [], hp kp nh rh tl rl I L)) rfl ?_
  exact hK3 w1 w4 w5 x2 (x3 + (1 : Int32)) I L r hf
def c_327_6 (n : Nat) (K2 : Int32 → FI → FL → Option (FI × FL)) (K3 : Int32 → Int32 → FI → FL → Option (FI × FL)) (K4 : Int32 → Int32 → Int32 → Int32 → FI → FL → Option (FI × FL)) (x2 : Int32) (x3 : Int32) (x5 : Int32) (s0 : Int32) (I : FI) (L : FL) : Option (FI × FL) :=
  K4 x2 x3 s0 (x5 + (1 : Int32)) I L
set_option maxHeartbeats 1000000 in
set_option maxRecDepth 20000 in
theorem tc_327_6 (Ls : Nat) (xs : Nat → Int32) (d : Nat) (kp : Option Nat) (tl : List (Nat × Nat)) (rl : List (List (Option Nat))) (nh : Option Nat) (rh : Option Nat) (n : Nat) (K2 : Int32 → FI → FL → Option (FI × FL)) (K3 : Int32 → Int32 → FI → FL → Option (FI × FL)) (K4 : Int32 → Int32 → Int32 → Int32 → FI → FL → Option (FI × FL)) (hK2 : ∀ (w1 : Option Value) (w3 : Option Value) (w4 : Option Value) (w5 : Option Value) (x2 : Int32) (I : FI) (L : FL) (r : FI × FL), K2 x2 I L = some r → Bs cd_327 (sf 12 rs_12 false 6 none Ls xs (d + 5)) (205, [some (.ref 89), w1, some (.int x2), w3, w4, w5], [], hp kp nh rh tl rl I L) (none, hp kp nh rh tl rl r.1 r.2)) (hK3 : ∀ (w1 : Option Value) (w4 : Option Value) (w5 : Option Value) (x2 : Int32) (x3 : Int32) (I : FI) (L : FL) (r : FI × FL), K3 x2 x3 I L = some r → Bs cd_327 (sf 12 rs_12 false 6 none Ls xs (d + 5)) (215, [some (.ref 89), w1, some (.int x2), some (.int x3), w4, w5], [], hp kp nh rh tl rl I L) (none, hp kp nh rh tl rl r.1 r.2)) (hK4 : ∀ (w1 : Option Value) (x2 : Int32) (x3 : Int32) (x4 : Int32) (x5 : Int32) (I : FI) (L : FL) (r : FI × FL), K4 x2 x3 x4 x5 I L = some r → Bs cd_327 (sf 12 rs_12 false 6 none Ls xs (d + 5)) (229, [some (.ref 89), w1, some (.int x2), some (.int x3), some (.int x4), some (.int x5)], [], hp kp nh rh tl rl I L) (none, hp kp nh rh tl rl r.1 r.2)) (w1 : Option Value) (w4 : Option Value) (x2 : Int32) (x3 : Int32) (x5 : Int32) (s0 : Int32) (I : FI) (L : FL) (r : FI × FL) (hf : c_327_6 n K2 K3 K4 x2 x3 x5 s0 I L = some r) : Bs cd_327 (sf 12 rs_12 false 6 none Ls xs (d + 5)) (278, [some (.ref 89), w1, some (.int x2), some (.int x3), w4, some (.int x5)], [.int s0], hp kp nh rh tl rl I L) (none, hp kp nh rh tl rl r.1 r.2) := by
  unfold c_327_6 at hf
  refine bs_st 3 (x' := (229, [some (.ref 89), w1, some (.int x2), some (.int x3), some (.int s0), some (.int (x5 + (1 : Int32)))], [], hp kp nh rh tl rl I L)) rfl ?_
  exact hK4 w1 x2 x3 s0 (x5 + (1 : Int32)) I L r hf
def b_327_4 (n : Nat) (K2 : Int32 → FI → FL → Option (FI × FL)) (K3 : Int32 → Int32 → FI → FL → Option (FI × FL)) (K4 : Int32 → Int32 → Int32 → Int32 → FI → FL → Option (FI × FL)) (x2 : Int32) (x3 : Int32) (x4 : Int32) (x5 : Int32) (I : FI) (L : FL) : Option (FI × FL) :=
  if (10 : Int32) ≤ x5 then
    if x4 < I 89 43 then
      c_327_5 n K2 K3 x2 x3 (u2 (u2 I 89 42 (((100 : Int32) * x2) + x3)) 89 43 x4) L
    else
      c_327_5 n K2 K3 x2 x3 I L
  else
    if pin (((10 : Int32) * (((4 : Int32) * x3) + x2)) + x5) 1200 = true then (if I 113 ((((10 : Int32) * (((4 : Int32) * x3) + x2)) + x5).toNatClampNeg) ≤ x4 then
        c_327_6 n K2 K3 K4 x2 x3 x5 x4 I L
      else
        if pin (((10 : Int32) * (((4 : Int32) * x3) + x2)) + x5) 1200 = true then c_327_6 n K2 K3 K4 x2 x3 x5 (I 113 ((((10 : Int32) * (((4 : Int32) * x3) + x2)) + x5).toNatClampNeg)) I L else none) else none
def c_327_4 (n : Nat) (K2 : Int32 → FI → FL → Option (FI × FL)) (K3 : Int32 → Int32 → FI → FL → Option (FI × FL)) : Nat → Int32 → Int32 → Int32 → Int32 → FI → FL → Option (FI × FL)
  | 0, _, _, _, _, _, _ => none
  | m + 1, x2, x3, x4, x5, I, L => b_327_4 n K2 K3 (c_327_4 n K2 K3 m) x2 x3 x4 x5 I L
set_option maxHeartbeats 1000000 in
set_option maxRecDepth 20000 in
theorem tc_327_4 (Ls : Nat) (xs : Nat → Int32) (d : Nat) (kp : Option Nat) (tl : List (Nat × Nat)) (rl : List (List (Option Nat))) (nh : Option Nat) (rh : Option Nat) (n : Nat) (K2 : Int32 → FI → FL → Option (FI × FL)) (K3 : Int32 → Int32 → FI → FL → Option (FI × FL)) (hK2 : ∀ (w1 : Option Value) (w3 : Option Value) (w4 : Option Value) (w5 : Option Value) (x2 : Int32) (I : FI) (L : FL) (r : FI × FL), K2 x2 I L = some r → Bs cd_327 (sf 12 rs_12 false 6 none Ls xs (d + 5)) (205, [some (.ref 89), w1, some (.int x2), w3, w4, w5], [], hp kp nh rh tl rl I L) (none, hp kp nh rh tl rl r.1 r.2)) (hK3 : ∀ (w1 : Option Value) (w4 : Option Value) (w5 : Option Value) (x2 : Int32) (x3 : Int32) (I : FI) (L : FL) (r : FI × FL), K3 x2 x3 I L = some r → Bs cd_327 (sf 12 rs_12 false 6 none Ls xs (d + 5)) (215, [some (.ref 89), w1, some (.int x2), some (.int x3), w4, w5], [], hp kp nh rh tl rl I L) (none, hp kp nh rh tl rl r.1 r.2)) : ∀ (m : Nat) (w1 : Option Value) (x2 : Int32) (x3 : Int32) (x4 : Int32) (x5 : Int32) (I : FI) (L : FL) (r : FI × FL), c_327_4 n K2 K3 m x2 x3 x4 x5 I L = some r → Bs cd_327 (sf 12 rs_12 false 6 none Ls xs (d + 5)) (229, [some (.ref 89), w1, some (.int x2), some (.int x3), some (.int x4), some (.int x5)], [], hp kp nh rh tl rl I L) (none, hp kp nh rh tl rl r.1 r.2)
  | 0, w1, x2, x3, x4, x5, I, L, r, hf => by cases hf
  | m + 1, w1, x2, x3, x4, x5, I, L, r, hf => by
    unfold c_327_4 b_327_4 at hf
    have hK4 := tc_327_4 Ls xs d kp tl rl nh rh n K2 K3 hK2 hK3 m
    refine bs_st 2 (x' := (233, [some (.ref 89), w1, some (.int x2), some (.int x3), some (.int x4), some (.int x5)], [.int (10 : Int32), .int x5], hp kp nh rh tl rl I L)) rfl ?_
    refine bs_br (t := 286) (e := 236) (lo := [some (.ref 89), w1, some (.int x2), some (.int x3), some (.int x4), some (.int x5)]) (st := []) (h := hp kp nh rh tl rl I L) rfl hf (fun hc hf => ?_) (fun hc hf => ?_)
    · refine bs_st 3 (x' := (292, [some (.ref 89), w1, some (.int x2), some (.int x3), some (.int x4), some (.int x5)], [.int (I 89 43), .int x4], hp kp nh rh tl rl I L)) rfl ?_
      refine bs_br (t := 298) (e := 295) (lo := [some (.ref 89), w1, some (.int x2), some (.int x3), some (.int x4), some (.int x5)]) (st := []) (h := hp kp nh rh tl rl I L) rfl hf (fun hc hf => ?_) (fun hc hf => ?_)
      · refine bs_st 10 (x' := (314, [some (.ref 89), w1, some (.int x2), some (.int x3), some (.int x4), some (.int x5)], [], hp kp nh rh tl rl (u2 (u2 I 89 42 (((100 : Int32) * x2) + x3)) 89 43 x4) L)) rfl ?_
        exact tc_327_5 Ls xs d kp tl rl nh rh n _ _ hK2 hK3 w1 (some (.int x4)) (some (.int x5)) x2 x3 (u2 (u2 I 89 42 (((100 : Int32) * x2) + x3)) 89 43 x4) L r hf
      · refine bs_st 1 (x' := (314, [some (.ref 89), w1, some (.int x2), some (.int x3), some (.int x4), some (.int x5)], [], hp kp nh rh tl rl I L)) rfl ?_
        exact tc_327_5 Ls xs d kp tl rl nh rh n _ _ hK2 hK3 w1 (some (.int x4)) (some (.int x5)) x2 x3 I L r hf
    · refine bs_st 11 (x' := (251, [some (.ref 89), w1, some (.int x2), some (.int x3), some (.int x4), some (.int x5)], [.int (((10 : Int32) * (((4 : Int32) * x3) + x2)) + x5), .ref 113], hp kp nh rh tl rl I L)) rfl ?_
      refine bs_gd (x' := (252, [some (.ref 89), w1, some (.int x2), some (.int x3), some (.int x4), some (.int x5)], [.int (I 113 ((((10 : Int32) * (((4 : Int32) * x3) + x2)) + x5).toNatClampNeg))], hp kp nh rh tl rl I L)) rfl hf (fun hc hf => ?_)
      refine bs_st 1 (x' := (254, [some (.ref 89), w1, some (.int x2), some (.int x3), some (.int x4), some (.int x5)], [.int x4, .int (I 113 ((((10 : Int32) * (((4 : Int32) * x3) + x2)) + x5).toNatClampNeg))], hp kp nh rh tl rl I L)) rfl ?_
      refine bs_br (t := 276) (e := 257) (lo := [some (.ref 89), w1, some (.int x2), some (.int x3), some (.int x4), some (.int x5)]) (st := []) (h := hp kp nh rh tl rl I L) rfl hf (fun hc hf => ?_) (fun hc hf => ?_)
      · refine bs_st 1 (x' := (278, [some (.ref 89), w1, some (.int x2), some (.int x3), some (.int x4), some (.int x5)], [.int x4], hp kp nh rh tl rl I L)) rfl ?_
        exact tc_327_6 Ls xs d kp tl rl nh rh n _ _ _ hK2 hK3 hK4 w1 (some (.int x4)) x2 x3 x5 x4 I L r hf
      · refine bs_st 11 (x' := (272, [some (.ref 89), w1, some (.int x2), some (.int x3), some (.int x4), some (.int x5)], [.int (((10 : Int32) * (((4 : Int32) * x3) + x2)) + x5), .ref 113], hp kp nh rh tl rl I L)) rfl ?_
        refine bs_gd (x' := (273, [some (.ref 89), w1, some (.int x2), some (.int x3), some (.int x4), some (.int x5)], [.int (I 113 ((((10 : Int32) * (((4 : Int32) * x3) + x2)) + x5).toNatClampNeg))], hp kp nh rh tl rl I L)) rfl hf (fun hc hf => ?_)
        refine bs_st 1 (x' := (278, [some (.ref 89), w1, some (.int x2), some (.int x3), some (.int x4), some (.int x5)], [.int (I 113 ((((10 : Int32) * (((4 : Int32) * x3) + x2)) + x5).toNatClampNeg))], hp kp nh rh tl rl I L)) rfl ?_
        exact tc_327_6 Ls xs d kp tl rl nh rh n _ _ _ hK2 hK3 hK4 w1 (some (.int x4)) x2 x3 x5 (I 113 ((((10 : Int32) * (((4 : Int32) * x3) + x2)) + x5).toNatClampNeg)) I L r hf
def b_327_3 (n : Nat) (K2 : Int32 → FI → FL → Option (FI × FL)) (K3 : Int32 → Int32 → FI → FL → Option (FI × FL)) (x2 : Int32) (x3 : Int32) (I : FI) (L : FL) : Option (FI × FL) :=
  (f_238 I L).bind fun q1 =>
  if q1 ≤ x3 then
    K2 (x2 + (1 : Int32)) I L
  else
    c_327_4 n K2 K3 n x2 x3 (0 : Int32) (0 : Int32) I L
def c_327_3 (n : Nat) (K2 : Int32 → FI → FL → Option (FI × FL)) : Nat → Int32 → Int32 → FI → FL → Option (FI × FL)
  | 0, _, _, _, _ => none
  | m + 1, x2, x3, I, L => b_327_3 n K2 (c_327_3 n K2 m) x2 x3 I L
set_option maxHeartbeats 1000000 in
set_option maxRecDepth 20000 in
theorem tc_327_3 (Ls : Nat) (xs : Nat → Int32) (d : Nat) (kp : Option Nat) (tl : List (Nat × Nat)) (rl : List (List (Option Nat))) (nh : Option Nat) (rh : Option Nat) (n : Nat) (K2 : Int32 → FI → FL → Option (FI × FL)) (hK2 : ∀ (w1 : Option Value) (w3 : Option Value) (w4 : Option Value) (w5 : Option Value) (x2 : Int32) (I : FI) (L : FL) (r : FI × FL), K2 x2 I L = some r → Bs cd_327 (sf 12 rs_12 false 6 none Ls xs (d + 5)) (205, [some (.ref 89), w1, some (.int x2), w3, w4, w5], [], hp kp nh rh tl rl I L) (none, hp kp nh rh tl rl r.1 r.2)) : ∀ (m : Nat) (w1 : Option Value) (w4 : Option Value) (w5 : Option Value) (x2 : Int32) (x3 : Int32) (I : FI) (L : FL) (r : FI × FL), c_327_3 n K2 m x2 x3 I L = some r → Bs cd_327 (sf 12 rs_12 false 6 none Ls xs (d + 5)) (215, [some (.ref 89), w1, some (.int x2), some (.int x3), w4, w5], [], hp kp nh rh tl rl I L) (none, hp kp nh rh tl rl r.1 r.2)
  | 0, w1, w4, w5, x2, x3, I, L, r, hf => by cases hf
  | m + 1, w1, w4, w5, x2, x3, I, L, r, hf => by
    unfold c_327_3 b_327_3 at hf
    have hK3 := tc_327_3 Ls xs d kp tl rl nh rh n K2 hK2 m
    refine bs_st 2 (x' := (217, [some (.ref 89), w1, some (.int x2), some (.int x3), w4, w5], [.ref 89, .int x3], hp kp nh rh tl rl I L)) rfl ?_
    obtain ⟨q1, hq1, hf⟩ := Option.bind_eq_some_iff.mp hf
    refine bs_call (o := pEN Ls xs (d + 5) 238 [.ref 89] (hp kp nh rh tl rl I L)) (w := some (.int q1)) (h' := hp kp nh rh tl rl I L) (pc := 220) (lo := [some (.ref 89), w1, some (.int x2), some (.int x3), w4, w5]) (rest := [.int x3]) rfl (t_238 Ls xs (d + 4) kp tl rl nh rh I L q1 hq1) ?_
    refine bs_br (t := 320) (e := 223) (lo := [some (.ref 89), w1, some (.int x2), some (.int x3), w4, w5]) (st := []) (h := hp kp nh rh tl rl I L) rfl hf (fun hc hf => ?_) (fun hc hf => ?_)
    · refine bs_st 2 (x' := (205, [some (.ref 89), (pcl w1), some (.int (x2 + (1 : Int32))), some (.int x3), w4, w5], [], hp kp nh rh tl rl I L)) rfl ?_
      exact hK2 (pcl w1) (some (.int x3)) w4 w5 (x2 + (1 : Int32)) I L r hf
    · refine bs_st 4 (x' := (229, [some (.ref 89), w1, some (.int x2), some (.int x3), some (.int (0 : Int32)), some (.int (0 : Int32))], [], hp kp nh rh tl rl I L)) rfl ?_
      exact tc_327_4 Ls xs d kp tl rl nh rh n _ _ hK2 hK3 n w1 x2 x3 (0 : Int32) (0 : Int32) I L r hf
def b_327_2 (n : Nat) (K2 : Int32 → FI → FL → Option (FI × FL)) (x2 : Int32) (I : FI) (L : FL) : Option (FI × FL) :=
  (f_237 I L).bind fun q0 =>
  if q0 ≤ x2 then
    some (I, L)
  else
    c_327_3 n K2 n x2 (0 : Int32) I L
def c_327_2 (n : Nat) : Nat → Int32 → FI → FL → Option (FI × FL)
  | 0, _, _, _ => none
  | m + 1, x2, I, L => b_327_2 n (c_327_2 n m) x2 I L
set_option maxHeartbeats 1000000 in
set_option maxRecDepth 20000 in
theorem tc_327_2 (Ls : Nat) (xs : Nat → Int32) (d : Nat) (kp : Option Nat) (tl : List (Nat × Nat)) (rl : List (List (Option Nat))) (nh : Option Nat) (rh : Option Nat) (n : Nat) : ∀ (m : Nat) (w1 : Option Value) (w3 : Option Value) (w4 : Option Value) (w5 : Option Value) (x2 : Int32) (I : FI) (L : FL) (r : FI × FL), c_327_2 n m x2 I L = some r → Bs cd_327 (sf 12 rs_12 false 6 none Ls xs (d + 5)) (205, [some (.ref 89), w1, some (.int x2), w3, w4, w5], [], hp kp nh rh tl rl I L) (none, hp kp nh rh tl rl r.1 r.2)
  | 0, w1, w3, w4, w5, x2, I, L, r, hf => by cases hf
  | m + 1, w1, w3, w4, w5, x2, I, L, r, hf => by
    unfold c_327_2 b_327_2 at hf
    have hK2 := tc_327_2 Ls xs d kp tl rl nh rh n m
    refine bs_st 2 (x' := (207, [some (.ref 89), w1, some (.int x2), w3, w4, w5], [.ref 89, .int x2], hp kp nh rh tl rl I L)) rfl ?_
    obtain ⟨q0, hq0, hf⟩ := Option.bind_eq_some_iff.mp hf
    refine bs_call (o := pEN Ls xs (d + 5) 237 [.ref 89] (hp kp nh rh tl rl I L)) (w := some (.int q0)) (h' := hp kp nh rh tl rl I L) (pc := 210) (lo := [some (.ref 89), w1, some (.int x2), w3, w4, w5]) (rest := [.int x2]) rfl (t_237 Ls xs (d + 4) kp tl rl nh rh I L q0 hq0) ?_
    refine bs_br (t := 326) (e := 213) (lo := [some (.ref 89), w1, some (.int x2), w3, w4, w5]) (st := []) (h := hp kp nh rh tl rl I L) rfl hf (fun hc hf => ?_) (fun hc hf => ?_)
    · cases hf
      exact bs_ret rfl
    · refine bs_st 2 (x' := (215, [some (.ref 89), w1, some (.int x2), some (.int (0 : Int32)), w4, w5], [], hp kp nh rh tl rl I L)) rfl ?_
      exact tc_327_3 Ls xs d kp tl rl nh rh n _ hK2 n w1 w4 w5 x2 (0 : Int32) I L r hf
def c_327_9 (n : Nat) (K1 : Int32 → Int32 → FI → FL → Option (FI × FL)) (x1 : Int32) (x2 : Int32) (I : FI) (L : FL) : Option (FI × FL) :=
  K1 x1 (x2 + (1 : Int32)) I L
set_option maxHeartbeats 1000000 in
set_option maxRecDepth 20000 in
theorem tc_327_9 (Ls : Nat) (xs : Nat → Int32) (d : Nat) (kp : Option Nat) (tl : List (Nat × Nat)) (rl : List (List (Option Nat))) (nh : Option Nat) (rh : Option Nat) (n : Nat) (K1 : Int32 → Int32 → FI → FL → Option (FI × FL)) (hK1 : ∀ (w3 : Option Value) (w4 : Option Value) (w5 : Option Value) (x1 : Int32) (x2 : Int32) (I : FI) (L : FL) (r : FI × FL), K1 x1 x2 I L = some r → Bs cd_327 (sf 12 rs_12 false 6 none Ls xs (d + 5)) (34, [some (.ref 89), some (.int x1), some (.int x2), w3, w4, w5], [], hp kp nh rh tl rl I L) (none, hp kp nh rh tl rl r.1 r.2)) (w3 : Option Value) (w4 : Option Value) (w5 : Option Value) (x1 : Int32) (x2 : Int32) (I : FI) (L : FL) (r : FI × FL) (hf : c_327_9 n K1 x1 x2 I L = some r) : Bs cd_327 (sf 12 rs_12 false 6 none Ls xs (d + 5)) (184, [some (.ref 89), some (.int x1), some (.int x2), w3, w4, w5], [], hp kp nh rh tl rl I L) (none, hp kp nh rh tl rl r.1 r.2) := by
  unfold c_327_9 at hf
  refine bs_st 2 (x' := (34, [some (.ref 89), some (.int x1), some (.int (x2 + (1 : Int32))), w3, w4, w5], [], hp kp nh rh tl rl I L)) rfl ?_
  exact hK1 w3 w4 w5 x1 (x2 + (1 : Int32)) I L r hf
def c_327_11 (n : Nat) (K1 : Int32 → Int32 → FI → FL → Option (FI × FL)) (K8 : Int32 → Int32 → Int32 → FI → FL → Option (FI × FL)) (K10 : Int32 → Int32 → Int32 → Int32 → FI → FL → Option (FI × FL)) (x1 : Int32) (x2 : Int32) (x3 : Int32) (x4 : Int32) (s0 : Int32) (s1 : Int32) (I : FI) (L : FL) : Option (FI × FL) :=
  if pin (s1 + s0) 1200 = true then (if pin (s1 + s0) 1200 = true then K10 x1 x2 x3 (x4 + (1 : Int32)) (u2 I 113 ((s1 + s0).toNatClampNeg) ((I 113 ((s1 + s0).toNatClampNeg)) + (1 : Int32))) L else none) else none
set_option maxHeartbeats 1000000 in
set_option maxRecDepth 20000 in
theorem tc_327_11 (Ls : Nat) (xs : Nat → Int32) (d : Nat) (kp : Option Nat) (tl : List (Nat × Nat)) (rl : List (List (Option Nat))) (nh : Option Nat) (rh : Option Nat) (n : Nat) (K1 : Int32 → Int32 → FI → FL → Option (FI × FL)) (K8 : Int32 → Int32 → Int32 → FI → FL → Option (FI × FL)) (K10 : Int32 → Int32 → Int32 → Int32 → FI → FL → Option (FI × FL)) (hK1 : ∀ (w3 : Option Value) (w4 : Option Value) (w5 : Option Value) (x1 : Int32) (x2 : Int32) (I : FI) (L : FL) (r : FI × FL), K1 x1 x2 I L = some r → Bs cd_327 (sf 12 rs_12 false 6 none Ls xs (d + 5)) (34, [some (.ref 89), some (.int x1), some (.int x2), w3, w4, w5], [], hp kp nh rh tl rl I L) (none, hp kp nh rh tl rl r.1 r.2)) (hK8 : ∀ (w4 : Option Value) (w5 : Option Value) (x1 : Int32) (x2 : Int32) (x3 : Int32) (I : FI) (L : FL) (r : FI × FL), K8 x1 x2 x3 I L = some r → Bs cd_327 (sf 12 rs_12 false 6 none Ls xs (d + 5)) (101, [some (.ref 89), some (.int x1), some (.int x2), some (.int x3), w4, w5], [], hp kp nh rh tl rl I L) (none, hp kp nh rh tl rl r.1 r.2)) (hK10 : ∀ (w5 : Option Value) (x1 : Int32) (x2 : Int32) (x3 : Int32) (x4 : Int32) (I : FI) (L : FL) (r : FI × FL), K10 x1 x2 x3 x4 I L = some r → Bs cd_327 (sf 12 rs_12 false 6 none Ls xs (d + 5)) (112, [some (.ref 89), some (.int x1), some (.int x2), some (.int x3), some (.int x4), w5], [], hp kp nh rh tl rl I L) (none, hp kp nh rh tl rl r.1 r.2)) (w5 : Option Value) (x1 : Int32) (x2 : Int32) (x3 : Int32) (x4 : Int32) (s0 : Int32) (s1 : Int32) (I : FI) (L : FL) (r : FI × FL) (hf : c_327_11 n K1 K8 K10 x1 x2 x3 x4 s0 s1 I L = some r) : Bs cd_327 (sf 12 rs_12 false 6 none Ls xs (d + 5)) (166, [some (.ref 89), some (.int x1), some (.int x2), some (.int x3), some (.int x4), w5], [.int s0, .int s1, .ref 113], hp kp nh rh tl rl I L) (none, hp kp nh rh tl rl r.1 r.2) := by
  unfold c_327_11 at hf
  refine bs_st 2 (x' := (168, [some (.ref 89), some (.int x1), some (.int x2), some (.int x3), some (.int x4), w5], [.int (s1 + s0), .ref 113, .int (s1 + s0), .ref 113], hp kp nh rh tl rl I L)) rfl ?_
  refine bs_gd (x' := (169, [some (.ref 89), some (.int x1), some (.int x2), some (.int x3), some (.int x4), w5], [.int (I 113 ((s1 + s0).toNatClampNeg)), .int (s1 + s0), .ref 113], hp kp nh rh tl rl I L)) rfl hf (fun hc hf => ?_)
  refine bs_st 2 (x' := (171, [some (.ref 89), some (.int x1), some (.int x2), some (.int x3), some (.int x4), w5], [.int ((I 113 ((s1 + s0).toNatClampNeg)) + (1 : Int32)), .int (s1 + s0), .ref 113], hp kp nh rh tl rl I L)) rfl ?_
  refine bs_gd (x' := (172, [some (.ref 89), some (.int x1), some (.int x2), some (.int x3), some (.int x4), w5], [], hp kp nh rh tl rl (u2 I 113 ((s1 + s0).toNatClampNeg) ((I 113 ((s1 + s0).toNatClampNeg)) + (1 : Int32))) L)) rfl hf (fun hc hf => ?_)
  refine bs_st 2 (x' := (112, [some (.ref 89), some (.int x1), some (.int x2), some (.int x3), some (.int (x4 + (1 : Int32))), w5], [], hp kp nh rh tl rl (u2 I 113 ((s1 + s0).toNatClampNeg) ((I 113 ((s1 + s0).toNatClampNeg)) + (1 : Int32))) L)) rfl ?_
  exact hK10 w5 x1 x2 x3 (x4 + (1 : Int32)) (u2 I 113 ((s1 + s0).toNatClampNeg) ((I 113 ((s1 + s0).toNatClampNeg)) + (1 : Int32))) L r hf
def b_327_10 (n : Nat) (K1 : Int32 → Int32 → FI → FL → Option (FI × FL)) (K8 : Int32 → Int32 → Int32 → FI → FL → Option (FI × FL)) (K10 : Int32 → Int32 → Int32 → Int32 → FI → FL → Option (FI × FL)) (x1 : Int32) (x2 : Int32) (x3 : Int32) (x4 : Int32) (I : FI) (L : FL) : Option (FI × FL) :=
  (f_237 I L).bind fun q6 =>
  if q6 ≤ x4 then
    K8 x1 x2 (x3 + (1 : Int32)) I L
  else
    if pin (((4 : Int32) * x3) + x4) 120 = true then (if ¬ I 106 ((((4 : Int32) * x3) + x4).toNatClampNeg) = (99 : Int32) then
        if pin (((4 : Int32) * x3) + x4) 120 = true then c_327_11 n K1 K8 K10 x1 x2 x3 x4 (I 106 ((((4 : Int32) * x3) + x4).toNatClampNeg)) ((10 : Int32) * (((4 : Int32) * x3) + x4)) I L else none
      else
        c_327_11 n K1 K8 K10 x1 x2 x3 x4 (9 : Int32) ((10 : Int32) * (((4 : Int32) * x3) + x4)) I L) else none
def c_327_10 (n : Nat) (K1 : Int32 → Int32 → FI → FL → Option (FI × FL)) (K8 : Int32 → Int32 → Int32 → FI → FL → Option (FI × FL)) : Nat → Int32 → Int32 → Int32 → Int32 → FI → FL → Option (FI × FL)
  | 0, _, _, _, _, _, _ => none
  | m + 1, x1, x2, x3, x4, I, L => b_327_10 n K1 K8 (c_327_10 n K1 K8 m) x1 x2 x3 x4 I L
set_option maxHeartbeats 1000000 in
set_option maxRecDepth 20000 in
theorem tc_327_10 (Ls : Nat) (xs : Nat → Int32) (d : Nat) (kp : Option Nat) (tl : List (Nat × Nat)) (rl : List (List (Option Nat))) (nh : Option Nat) (rh : Option Nat) (n : Nat) (K1 : Int32 → Int32 → FI → FL → Option (FI × FL)) (K8 : Int32 → Int32 → Int32 → FI → FL → Option (FI × FL)) (hK1 : ∀ (w3 : Option Value) (w4 : Option Value) (w5 : Option Value) (x1 : Int32) (x2 : Int32) (I : FI) (L : FL) (r : FI × FL), K1 x1 x2 I L = some r → Bs cd_327 (sf 12 rs_12 false 6 none Ls xs (d + 5)) (34, [some (.ref 89), some (.int x1), some (.int x2), w3, w4, w5], [], hp kp nh rh tl rl I L) (none, hp kp nh rh tl rl r.1 r.2)) (hK8 : ∀ (w4 : Option Value) (w5 : Option Value) (x1 : Int32) (x2 : Int32) (x3 : Int32) (I : FI) (L : FL) (r : FI × FL), K8 x1 x2 x3 I L = some r → Bs cd_327 (sf 12 rs_12 false 6 none Ls xs (d + 5)) (101, [some (.ref 89), some (.int x1), some (.int x2), some (.int x3), w4, w5], [], hp kp nh rh tl rl I L) (none, hp kp nh rh tl rl r.1 r.2)) : ∀ (m : Nat) (w5 : Option Value) (x1 : Int32) (x2 : Int32) (x3 : Int32) (x4 : Int32) (I : FI) (L : FL) (r : FI × FL), c_327_10 n K1 K8 m x1 x2 x3 x4 I L = some r → Bs cd_327 (sf 12 rs_12 false 6 none Ls xs (d + 5)) (112, [some (.ref 89), some (.int x1), some (.int x2), some (.int x3), some (.int x4), w5], [], hp kp nh rh tl rl I L) (none, hp kp nh rh tl rl r.1 r.2)
  | 0, w5, x1, x2, x3, x4, I, L, r, hf => by cases hf
  | m + 1, w5, x1, x2, x3, x4, I, L, r, hf => by
    unfold c_327_10 b_327_10 at hf
    have hK10 := tc_327_10 Ls xs d kp tl rl nh rh n K1 K8 hK1 hK8 m
    refine bs_st 2 (x' := (115, [some (.ref 89), some (.int x1), some (.int x2), some (.int x3), some (.int x4), w5], [.ref 89, .int x4], hp kp nh rh tl rl I L)) rfl ?_
    obtain ⟨q6, hq6, hf⟩ := Option.bind_eq_some_iff.mp hf
    refine bs_call (o := pEN Ls xs (d + 5) 237 [.ref 89] (hp kp nh rh tl rl I L)) (w := some (.int q6)) (h' := hp kp nh rh tl rl I L) (pc := 118) (lo := [some (.ref 89), some (.int x1), some (.int x2), some (.int x3), some (.int x4), w5]) (rest := [.int x4]) rfl (t_237 Ls xs (d + 4) kp tl rl nh rh I L q6 hq6) ?_
    refine bs_br (t := 178) (e := 121) (lo := [some (.ref 89), some (.int x1), some (.int x2), some (.int x3), some (.int x4), w5]) (st := []) (h := hp kp nh rh tl rl I L) rfl hf (fun hc hf => ?_) (fun hc hf => ?_)
    · refine bs_st 2 (x' := (101, [some (.ref 89), some (.int x1), some (.int x2), some (.int (x3 + (1 : Int32))), some (.int x4), w5], [], hp kp nh rh tl rl I L)) rfl ?_
      exact hK8 (some (.int x4)) w5 x1 x2 (x3 + (1 : Int32)) I L r hf
    · refine bs_st 16 (x' := (144, [some (.ref 89), some (.int x1), some (.int x2), some (.int x3), some (.int x4), w5], [.int (((4 : Int32) * x3) + x4), .ref 106, .int ((10 : Int32) * (((4 : Int32) * x3) + x4)), .ref 113], hp kp nh rh tl rl I L)) rfl ?_
      refine bs_gd (x' := (145, [some (.ref 89), some (.int x1), some (.int x2), some (.int x3), some (.int x4), w5], [.int (I 106 ((((4 : Int32) * x3) + x4).toNatClampNeg)), .int ((10 : Int32) * (((4 : Int32) * x3) + x4)), .ref 113], hp kp nh rh tl rl I L)) rfl hf (fun hc hf => ?_)
      refine bs_st 1 (x' := (147, [some (.ref 89), some (.int x1), some (.int x2), some (.int x3), some (.int x4), w5], [.int (99 : Int32), .int (I 106 ((((4 : Int32) * x3) + x4).toNatClampNeg)), .int ((10 : Int32) * (((4 : Int32) * x3) + x4)), .ref 113], hp kp nh rh tl rl I L)) rfl ?_
      refine bs_br (t := 155) (e := 150) (lo := [some (.ref 89), some (.int x1), some (.int x2), some (.int x3), some (.int x4), w5]) (st := [.int ((10 : Int32) * (((4 : Int32) * x3) + x4)), .ref 113]) (h := hp kp nh rh tl rl I L) rfl hf (fun hc hf => ?_) (fun hc hf => ?_)
      · refine bs_st 7 (x' := (165, [some (.ref 89), some (.int x1), some (.int x2), some (.int x3), some (.int x4), w5], [.int (((4 : Int32) * x3) + x4), .ref 106, .int ((10 : Int32) * (((4 : Int32) * x3) + x4)), .ref 113], hp kp nh rh tl rl I L)) rfl ?_
        refine bs_gd (x' := (166, [some (.ref 89), some (.int x1), some (.int x2), some (.int x3), some (.int x4), w5], [.int (I 106 ((((4 : Int32) * x3) + x4).toNatClampNeg)), .int ((10 : Int32) * (((4 : Int32) * x3) + x4)), .ref 113], hp kp nh rh tl rl I L)) rfl hf (fun hc hf => ?_)
        exact tc_327_11 Ls xs d kp tl rl nh rh n _ _ _ hK1 hK8 hK10 w5 x1 x2 x3 x4 (I 106 ((((4 : Int32) * x3) + x4).toNatClampNeg)) ((10 : Int32) * (((4 : Int32) * x3) + x4)) I L r hf
      · refine bs_st 2 (x' := (166, [some (.ref 89), some (.int x1), some (.int x2), some (.int x3), some (.int x4), w5], [.int (9 : Int32), .int ((10 : Int32) * (((4 : Int32) * x3) + x4)), .ref 113], hp kp nh rh tl rl I L)) rfl ?_
        exact tc_327_11 Ls xs d kp tl rl nh rh n _ _ _ hK1 hK8 hK10 w5 x1 x2 x3 x4 (9 : Int32) ((10 : Int32) * (((4 : Int32) * x3) + x4)) I L r hf
def b_327_8 (n : Nat) (K1 : Int32 → Int32 → FI → FL → Option (FI × FL)) (K8 : Int32 → Int32 → Int32 → FI → FL → Option (FI × FL)) (x1 : Int32) (x2 : Int32) (x3 : Int32) (I : FI) (L : FL) : Option (FI × FL) :=
  (f_238 I L).bind fun q5 =>
  if q5 ≤ x3 then
    c_327_9 n K1 x1 x2 I L
  else
    c_327_10 n K1 K8 n x1 x2 x3 (0 : Int32) I L
def c_327_8 (n : Nat) (K1 : Int32 → Int32 → FI → FL → Option (FI × FL)) : Nat → Int32 → Int32 → Int32 → FI → FL → Option (FI × FL)
  | 0, _, _, _, _, _ => none
  | m + 1, x1, x2, x3, I, L => b_327_8 n K1 (c_327_8 n K1 m) x1 x2 x3 I L
set_option maxHeartbeats 1000000 in
set_option maxRecDepth 20000 in
theorem tc_327_8 (Ls : Nat) (xs : Nat → Int32) (d : Nat) (kp : Option Nat) (tl : List (Nat × Nat)) (rl : List (List (Option Nat))) (nh : Option Nat) (rh : Option Nat) (n : Nat) (K1 : Int32 → Int32 → FI → FL → Option (FI × FL)) (hK1 : ∀ (w3 : Option Value) (w4 : Option Value) (w5 : Option Value) (x1 : Int32) (x2 : Int32) (I : FI) (L : FL) (r : FI × FL), K1 x1 x2 I L = some r → Bs cd_327 (sf 12 rs_12 false 6 none Ls xs (d + 5)) (34, [some (.ref 89), some (.int x1), some (.int x2), w3, w4, w5], [], hp kp nh rh tl rl I L) (none, hp kp nh rh tl rl r.1 r.2)) : ∀ (m : Nat) (w4 : Option Value) (w5 : Option Value) (x1 : Int32) (x2 : Int32) (x3 : Int32) (I : FI) (L : FL) (r : FI × FL), c_327_8 n K1 m x1 x2 x3 I L = some r → Bs cd_327 (sf 12 rs_12 false 6 none Ls xs (d + 5)) (101, [some (.ref 89), some (.int x1), some (.int x2), some (.int x3), w4, w5], [], hp kp nh rh tl rl I L) (none, hp kp nh rh tl rl r.1 r.2)
  | 0, w4, w5, x1, x2, x3, I, L, r, hf => by cases hf
  | m + 1, w4, w5, x1, x2, x3, I, L, r, hf => by
    unfold c_327_8 b_327_8 at hf
    have hK8 := tc_327_8 Ls xs d kp tl rl nh rh n K1 hK1 m
    refine bs_st 2 (x' := (103, [some (.ref 89), some (.int x1), some (.int x2), some (.int x3), w4, w5], [.ref 89, .int x3], hp kp nh rh tl rl I L)) rfl ?_
    obtain ⟨q5, hq5, hf⟩ := Option.bind_eq_some_iff.mp hf
    refine bs_call (o := pEN Ls xs (d + 5) 238 [.ref 89] (hp kp nh rh tl rl I L)) (w := some (.int q5)) (h' := hp kp nh rh tl rl I L) (pc := 106) (lo := [some (.ref 89), some (.int x1), some (.int x2), some (.int x3), w4, w5]) (rest := [.int x3]) rfl (t_238 Ls xs (d + 4) kp tl rl nh rh I L q5 hq5) ?_
    refine bs_br (t := 184) (e := 109) (lo := [some (.ref 89), some (.int x1), some (.int x2), some (.int x3), w4, w5]) (st := []) (h := hp kp nh rh tl rl I L) rfl hf (fun hc hf => ?_) (fun hc hf => ?_)
    · exact tc_327_9 Ls xs d kp tl rl nh rh n _ hK1 (some (.int x3)) w4 w5 x1 x2 I L r hf
    · refine bs_st 2 (x' := (112, [some (.ref 89), some (.int x1), some (.int x2), some (.int x3), some (.int (0 : Int32)), w5], [], hp kp nh rh tl rl I L)) rfl ?_
      exact tc_327_10 Ls xs d kp tl rl nh rh n _ _ hK1 hK8 n w5 x1 x2 x3 (0 : Int32) I L r hf
def c_327_7 (n : Nat) (K1 : Int32 → Int32 → FI → FL → Option (FI × FL)) (x1 : Int32) (x2 : Int32) (s0 : Int32) (I : FI) (L : FL) : Option (FI × FL) :=
  c_327_8 n K1 n x1 x2 (0 : Int32) (u2 (u2 I 89 41 s0) 89 40 ((I 89 40) + (1 : Int32))) L
set_option maxHeartbeats 1000000 in
set_option maxRecDepth 20000 in
theorem tc_327_7 (Ls : Nat) (xs : Nat → Int32) (d : Nat) (kp : Option Nat) (tl : List (Nat × Nat)) (rl : List (List (Option Nat))) (nh : Option Nat) (rh : Option Nat) (n : Nat) (K1 : Int32 → Int32 → FI → FL → Option (FI × FL)) (hK1 : ∀ (w3 : Option Value) (w4 : Option Value) (w5 : Option Value) (x1 : Int32) (x2 : Int32) (I : FI) (L : FL) (r : FI × FL), K1 x1 x2 I L = some r → Bs cd_327 (sf 12 rs_12 false 6 none Ls xs (d + 5)) (34, [some (.ref 89), some (.int x1), some (.int x2), w3, w4, w5], [], hp kp nh rh tl rl I L) (none, hp kp nh rh tl rl r.1 r.2)) (w3 : Option Value) (w4 : Option Value) (w5 : Option Value) (x1 : Int32) (x2 : Int32) (s0 : Int32) (I : FI) (L : FL) (r : FI × FL) (hf : c_327_7 n K1 x1 x2 s0 I L = some r) : Bs cd_327 (sf 12 rs_12 false 6 none Ls xs (d + 5)) (86, [some (.ref 89), some (.int x1), some (.int x2), w3, w4, w5], [.int s0, .ref 89], hp kp nh rh tl rl I L) (none, hp kp nh rh tl rl r.1 r.2) := by
  unfold c_327_7 at hf
  refine bs_st 9 (x' := (101, [some (.ref 89), some (.int x1), some (.int x2), some (.int (0 : Int32)), w4, w5], [], hp kp nh rh tl rl (u2 (u2 I 89 41 s0) 89 40 ((I 89 40) + (1 : Int32))) L)) rfl ?_
  exact tc_327_8 Ls xs d kp tl rl nh rh n _ hK1 n w4 w5 x1 x2 (0 : Int32) (u2 (u2 I 89 41 s0) 89 40 ((I 89 40) + (1 : Int32))) L r hf
def b_327_1 (n : Nat) (K1 : Int32 → Int32 → FI → FL → Option (FI × FL)) (x1 : Int32) (x2 : Int32) (I : FI) (L : FL) : Option (FI × FL) :=
  if I 96 6 ≤ x2 then
    c_327_2 n n (0 : Int32) (u2 (u2 I 89 42 (-1 : Int32)) 89 43 (I 89 40)) L
  else
    (f_252 n I L).bind fun q2 =>
    (f_260 n (0 : Int32) (u2 q2.1 89 27 x2) q2.2).bind fun q3 =>
    (f_326 n x1 q3.1 q3.2).bind fun q4 =>
    if ¬ q4 = 0 then
      if ¬ q3.1 89 40 = 0 then
        c_327_7 n K1 x1 x2 (q3.1 89 41) q3.1 q3.2
      else
        c_327_7 n K1 x1 x2 x2 q3.1 q3.2
    else
      c_327_9 n K1 x1 x2 q3.1 q3.2
def c_327_1 (n : Nat) : Nat → Int32 → Int32 → FI → FL → Option (FI × FL)
  | 0, _, _, _, _ => none
  | m + 1, x1, x2, I, L => b_327_1 n (c_327_1 n m) x1 x2 I L
set_option maxHeartbeats 1000000 in
set_option maxRecDepth 20000 in
theorem tc_327_1 (Ls : Nat) (xs : Nat → Int32) (d : Nat) (kp : Option Nat) (tl : List (Nat × Nat)) (rl : List (List (Option Nat))) (nh : Option Nat) (rh : Option Nat) (n : Nat) : ∀ (m : Nat) (w3 : Option Value) (w4 : Option Value) (w5 : Option Value) (x1 : Int32) (x2 : Int32) (I : FI) (L : FL) (r : FI × FL), c_327_1 n m x1 x2 I L = some r → Bs cd_327 (sf 12 rs_12 false 6 none Ls xs (d + 5)) (34, [some (.ref 89), some (.int x1), some (.int x2), w3, w4, w5], [], hp kp nh rh tl rl I L) (none, hp kp nh rh tl rl r.1 r.2)
  | 0, w3, w4, w5, x1, x2, I, L, r, hf => by cases hf
  | m + 1, w3, w4, w5, x1, x2, I, L, r, hf => by
    unfold c_327_1 b_327_1 at hf
    have hK1 := tc_327_1 Ls xs d kp tl rl nh rh n m
    refine bs_st 5 (x' := (42, [some (.ref 89), some (.int x1), some (.int x2), w3, w4, w5], [.int (I 96 6), .int x2], hp kp nh rh tl rl I L)) rfl ?_
    refine bs_br (t := 190) (e := 45) (lo := [some (.ref 89), some (.int x1), some (.int x2), w3, w4, w5]) (st := []) (h := hp kp nh rh tl rl I L) rfl hf (fun hc hf => ?_) (fun hc hf => ?_)
    · refine bs_st 9 (x' := (205, [some (.ref 89), some (.int x1), some (.int (0 : Int32)), w3, w4, w5], [], hp kp nh rh tl rl (u2 (u2 I 89 42 (-1 : Int32)) 89 43 (I 89 40)) L)) rfl ?_
      exact tc_327_2 Ls xs d kp tl rl nh rh n n (some (.int x1)) w3 w4 w5 (0 : Int32) (u2 (u2 I 89 42 (-1 : Int32)) 89 43 (I 89 40)) L r hf
    · refine bs_st 1 (x' := (46, [some (.ref 89), some (.int x1), some (.int x2), w3, w4, w5], [.ref 89], hp kp nh rh tl rl I L)) rfl ?_
      obtain ⟨q2, hq2, hf⟩ := Option.bind_eq_some_iff.mp hf
      refine bs_call (o := pEN Ls xs (d + 5) 252 [.ref 89] (hp kp nh rh tl rl I L)) (w := none) (h' := hp kp nh rh tl rl q2.1 q2.2) (pc := 49) (lo := [some (.ref 89), some (.int x1), some (.int x2), w3, w4, w5]) (rest := []) rfl (t_252 Ls xs (d + 3) kp tl rl nh rh n I L q2 hq2) ?_
      refine bs_st 5 (x' := (56, [some (.ref 89), some (.int x1), some (.int x2), w3, w4, w5], [.int (0 : Int32), .ref 89], hp kp nh rh tl rl (u2 q2.1 89 27 x2) q2.2)) rfl ?_
      obtain ⟨q3, hq3, hf⟩ := Option.bind_eq_some_iff.mp hf
      refine bs_call (o := pEN Ls xs (d + 5) 260 [.ref 89, .int (0 : Int32)] (hp kp nh rh tl rl (u2 q2.1 89 27 x2) q2.2)) (w := none) (h' := hp kp nh rh tl rl q3.1 q3.2) (pc := 59) (lo := [some (.ref 89), some (.int x1), some (.int x2), w3, w4, w5]) (rest := []) rfl (t_260 Ls xs (d + 0) kp tl rl nh rh n (0 : Int32) (u2 q2.1 89 27 x2) q2.2 q3 hq3) ?_
      refine bs_st 2 (x' := (61, [some (.ref 89), some (.int x1), some (.int x2), w3, w4, w5], [.int x1, .ref 89], hp kp nh rh tl rl q3.1 q3.2)) rfl ?_
      obtain ⟨q4, hq4, hf⟩ := Option.bind_eq_some_iff.mp hf
      refine bs_call (o := pEN Ls xs (d + 5) 326 [.ref 89, .int x1] (hp kp nh rh tl rl q3.1 q3.2)) (w := some (.int q4)) (h' := hp kp nh rh tl rl q3.1 q3.2) (pc := 64) (lo := [some (.ref 89), some (.int x1), some (.int x2), w3, w4, w5]) (rest := []) rfl (t_326 Ls xs (d + 4) kp tl rl nh rh n x1 q3.1 q3.2 q4 hq4) ?_
      refine bs_br (t := 70) (e := 67) (lo := [some (.ref 89), some (.int x1), some (.int x2), w3, w4, w5]) (st := []) (h := hp kp nh rh tl rl q3.1 q3.2) rfl hf (fun hc hf => ?_) (fun hc hf => ?_)
      · refine bs_st 3 (x' := (75, [some (.ref 89), some (.int x1), some (.int x2), w3, w4, w5], [.int (q3.1 89 40), .ref 89], hp kp nh rh tl rl q3.1 q3.2)) rfl ?_
        refine bs_br (t := 82) (e := 78) (lo := [some (.ref 89), some (.int x1), some (.int x2), w3, w4, w5]) (st := [.ref 89]) (h := hp kp nh rh tl rl q3.1 q3.2) rfl hf (fun hc hf => ?_) (fun hc hf => ?_)
        · refine bs_st 2 (x' := (86, [some (.ref 89), some (.int x1), some (.int x2), w3, w4, w5], [.int (q3.1 89 41), .ref 89], hp kp nh rh tl rl q3.1 q3.2)) rfl ?_
          exact tc_327_7 Ls xs d kp tl rl nh rh n _ hK1 w3 w4 w5 x1 x2 (q3.1 89 41) q3.1 q3.2 r hf
        · refine bs_st 2 (x' := (86, [some (.ref 89), some (.int x1), some (.int x2), w3, w4, w5], [.int x2, .ref 89], hp kp nh rh tl rl q3.1 q3.2)) rfl ?_
          exact tc_327_7 Ls xs d kp tl rl nh rh n _ hK1 w3 w4 w5 x1 x2 x2 q3.1 q3.2 r hf
      · refine bs_st 1 (x' := (184, [some (.ref 89), some (.int x1), some (.int x2), w3, w4, w5], [], hp kp nh rh tl rl q3.1 q3.2)) rfl ?_
        exact tc_327_9 Ls xs d kp tl rl nh rh n _ hK1 w3 w4 w5 x1 x2 q3.1 q3.2 r hf
def b_327_0 (n : Nat) (K0 : Int32 → Int32 → FI → FL → Option (FI × FL)) (x1 : Int32) (x2 : Int32) (I : FI) (L : FL) : Option (FI × FL) :=
  if (1200 : Int32) ≤ x2 then
    c_327_1 n n x1 (0 : Int32) I L
  else
    if pin x2 1200 = true then K0 x1 (x2 + (1 : Int32)) (u2 I 113 x2.toNatClampNeg (0 : Int32)) L else none
def c_327_0 (n : Nat) : Nat → Int32 → Int32 → FI → FL → Option (FI × FL)
  | 0, _, _, _, _ => none
  | m + 1, x1, x2, I, L => b_327_0 n (c_327_0 n m) x1 x2 I L
set_option maxHeartbeats 1000000 in
set_option maxRecDepth 20000 in
theorem tc_327_0 (Ls : Nat) (xs : Nat → Int32) (d : Nat) (kp : Option Nat) (tl : List (Nat × Nat)) (rl : List (List (Option Nat))) (nh : Option Nat) (rh : Option Nat) (n : Nat) : ∀ (m : Nat) (w3 : Option Value) (w4 : Option Value) (w5 : Option Value) (x1 : Int32) (x2 : Int32) (I : FI) (L : FL) (r : FI × FL), c_327_0 n m x1 x2 I L = some r → Bs cd_327 (sf 12 rs_12 false 6 none Ls xs (d + 5)) (12, [some (.ref 89), some (.int x1), some (.int x2), w3, w4, w5], [], hp kp nh rh tl rl I L) (none, hp kp nh rh tl rl r.1 r.2)
  | 0, w3, w4, w5, x1, x2, I, L, r, hf => by cases hf
  | m + 1, w3, w4, w5, x1, x2, I, L, r, hf => by
    unfold c_327_0 b_327_0 at hf
    have hK0 := tc_327_0 Ls xs d kp tl rl nh rh n m
    refine bs_st 2 (x' := (16, [some (.ref 89), some (.int x1), some (.int x2), w3, w4, w5], [.int (1200 : Int32), .int x2], hp kp nh rh tl rl I L)) rfl ?_
    refine bs_br (t := 32) (e := 19) (lo := [some (.ref 89), some (.int x1), some (.int x2), w3, w4, w5]) (st := []) (h := hp kp nh rh tl rl I L) rfl hf (fun hc hf => ?_) (fun hc hf => ?_)
    · refine bs_st 2 (x' := (34, [some (.ref 89), some (.int x1), some (.int (0 : Int32)), w3, w4, w5], [], hp kp nh rh tl rl I L)) rfl ?_
      exact tc_327_1 Ls xs d kp tl rl nh rh n n w3 w4 w5 x1 (0 : Int32) I L r hf
    · refine bs_st 4 (x' := (25, [some (.ref 89), some (.int x1), some (.int x2), w3, w4, w5], [.int (0 : Int32), .int x2, .ref 113], hp kp nh rh tl rl I L)) rfl ?_
      refine bs_gd (x' := (26, [some (.ref 89), some (.int x1), some (.int x2), w3, w4, w5], [], hp kp nh rh tl rl (u2 I 113 x2.toNatClampNeg (0 : Int32)) L)) rfl hf (fun hc hf => ?_)
      refine bs_st 2 (x' := (12, [some (.ref 89), some (.int x1), some (.int (x2 + (1 : Int32))), w3, w4, w5], [], hp kp nh rh tl rl (u2 I 113 x2.toNatClampNeg (0 : Int32)) L)) rfl ?_
      exact hK0 w3 w4 w5 x1 (x2 + (1 : Int32)) (u2 I 113 x2.toNatClampNeg (0 : Int32)) L r hf
def f_327 (n : Nat) (x1 : Int32) (I : FI) (L : FL) : Option (FI × FL) :=
  c_327_0 n n x1 (0 : Int32) (u2 (u2 I 89 40 (0 : Int32)) 89 41 (-1 : Int32)) L
set_option maxHeartbeats 1000000 in
set_option maxRecDepth 20000 in
theorem t_327 (Ls : Nat) (xs : Nat → Int32) (d : Nat) (kp : Option Nat) (tl : List (Nat × Nat)) (rl : List (List (Option Nat))) (nh : Option Nat) (rh : Option Nat) (n : Nat) (x1 : Int32) (I : FI) (L : FL) (r : FI × FL) (hf : f_327 n x1 I L = some r) : pEN Ls xs (d + 6) 327 [.ref 89, .int x1] (hp kp nh rh tl rl I L) = some (none, hp kp nh rh tl rl r.1 r.2) := by
  refine en_run (d := d + 5) (cd := cd_327) (f := (sf 12 rs_12 false 6 none Ls xs (d + 5))) rfl rfl (x := (0, [some (.ref 89), some (.int x1), none, none, none, none], [], hp kp nh rh tl rl I L)) rfl rfl (Nat.le_of_ble_eq_true rfl) ?_
  unfold f_327 at hf
  refine bs_st 8 (x' := (12, [some (.ref 89), some (.int x1), some (.int (0 : Int32)), none, none, none], [], hp kp nh rh tl rl (u2 (u2 I 89 40 (0 : Int32)) 89 41 (-1 : Int32)) L)) rfl ?_
  exact tc_327_0 Ls xs d kp tl rl nh rh n n none none none x1 (0 : Int32) (u2 (u2 I 89 40 (0 : Int32)) 89 41 (-1 : Int32)) L r hf
/-- LampRoundsModel.begins(I) on (89,) -/
def f_328 (n : Nat) (x1 : Int32) (I : FI) (L : FL) : Option (Int32 × FI × FL) :=
  (f_325 n x1 (u2 I 89 0 (0 : Int32)) L).bind fun q0 =>
  if q0 = 0 then
    (f_327 n x1 (u2 I 89 0 (0 : Int32)) L).bind fun q1 =>
    some (q1.1 89 40, q1.1, q1.2)
  else
    some (q0, (u2 I 89 0 (0 : Int32)), L)
set_option maxHeartbeats 1000000 in
set_option maxRecDepth 20000 in
theorem t_328 (Ls : Nat) (xs : Nat → Int32) (d : Nat) (kp : Option Nat) (tl : List (Nat × Nat)) (rl : List (List (Option Nat))) (nh : Option Nat) (rh : Option Nat) (n : Nat) (x1 : Int32) (I : FI) (L : FL) (r : Int32 × FI × FL) (hf : f_328 n x1 I L = some r) : pEN Ls xs (d + 7) 328 [.ref 89, .int x1] (hp kp nh rh tl rl I L) = some (some (.int r.1), hp kp nh rh tl rl r.2.1 r.2.2) := by
  refine en_run (d := d + 6) (cd := cd_328) (f := (sf 12 rs_12 false 3 (some (.int)) Ls xs (d + 6))) rfl rfl (x := (0, [some (.ref 89), some (.int x1), none], [], hp kp nh rh tl rl I L)) rfl rfl (Nat.le_of_ble_eq_true rfl) ?_
  unfold f_328 at hf
  refine bs_st 5 (x' := (7, [some (.ref 89), some (.int x1), none], [.int x1, .ref 89], hp kp nh rh tl rl (u2 I 89 0 (0 : Int32)) L)) rfl ?_
  obtain ⟨q0, hq0, hf⟩ := Option.bind_eq_some_iff.mp hf
  refine bs_call (o := pEN Ls xs (d + 6) 325 [.ref 89, .int x1] (hp kp nh rh tl rl (u2 I 89 0 (0 : Int32)) L)) (w := some (.int q0)) (h' := hp kp nh rh tl rl (u2 I 89 0 (0 : Int32)) L) (pc := 10) (lo := [some (.ref 89), some (.int x1), none]) (rest := []) rfl (t_325 Ls xs (d + 3) kp tl rl nh rh n x1 (u2 I 89 0 (0 : Int32)) L q0 hq0) ?_
  refine bs_st 2 (x' := (12, [some (.ref 89), some (.int x1), some (.int q0)], [.int q0], hp kp nh rh tl rl (u2 I 89 0 (0 : Int32)) L)) rfl ?_
  refine bs_br (t := 17) (e := 15) (lo := [some (.ref 89), some (.int x1), some (.int q0)]) (st := []) (h := hp kp nh rh tl rl (u2 I 89 0 (0 : Int32)) L) rfl hf (fun hc hf => ?_) (fun hc hf => ?_)
  · refine bs_st 2 (x' := (19, [some (.ref 89), some (.int x1), some (.int q0)], [.int x1, .ref 89], hp kp nh rh tl rl (u2 I 89 0 (0 : Int32)) L)) rfl ?_
    obtain ⟨q1, hq1, hf⟩ := Option.bind_eq_some_iff.mp hf
    refine bs_call (o := pEN Ls xs (d + 6) 327 [.ref 89, .int x1] (hp kp nh rh tl rl (u2 I 89 0 (0 : Int32)) L)) (w := none) (h' := hp kp nh rh tl rl q1.1 q1.2) (pc := 22) (lo := [some (.ref 89), some (.int x1), some (.int q0)]) (rest := []) rfl (t_327 Ls xs (d + 0) kp tl rl nh rh n x1 (u2 I 89 0 (0 : Int32)) L q1 hq1) ?_
    refine bs_st 2 (x' := (26, [some (.ref 89), some (.int x1), some (.int q0)], [.int (q1.1 89 40)], hp kp nh rh tl rl q1.1 q1.2)) rfl ?_
    cases hf
    exact bs_ret rfl
  · refine bs_st 1 (x' := (16, [some (.ref 89), some (.int x1), some (.int q0)], [.int q0], hp kp nh rh tl rl (u2 I 89 0 (0 : Int32)) L)) rfl ?_
    cases hf
    exact bs_ret rfl
/-- LampRoundsModel.begun(I) on (89,) -/
def f_329 (n : Nat) (x1 : Int32) (I : FI) (L : FL) : Option (Int32 × FI × FL) :=
  (f_325 n x1 (u2 I 89 0 (0 : Int32)) L).bind fun q0 =>
  if q0 = 0 then
    (f_327 n x1 (u2 I 89 0 (0 : Int32)) L).bind fun q1 =>
    some (q1.1 89 41, q1.1, q1.2)
  else
    some (q0, (u2 I 89 0 (0 : Int32)), L)
set_option maxHeartbeats 1000000 in
set_option maxRecDepth 20000 in
theorem t_329 (Ls : Nat) (xs : Nat → Int32) (d : Nat) (kp : Option Nat) (tl : List (Nat × Nat)) (rl : List (List (Option Nat))) (nh : Option Nat) (rh : Option Nat) (n : Nat) (x1 : Int32) (I : FI) (L : FL) (r : Int32 × FI × FL) (hf : f_329 n x1 I L = some r) : pEN Ls xs (d + 7) 329 [.ref 89, .int x1] (hp kp nh rh tl rl I L) = some (some (.int r.1), hp kp nh rh tl rl r.2.1 r.2.2) := by
  refine en_run (d := d + 6) (cd := cd_329) (f := (sf 12 rs_12 false 3 (some (.int)) Ls xs (d + 6))) rfl rfl (x := (0, [some (.ref 89), some (.int x1), none], [], hp kp nh rh tl rl I L)) rfl rfl (Nat.le_of_ble_eq_true rfl) ?_
  unfold f_329 at hf
  refine bs_st 5 (x' := (7, [some (.ref 89), some (.int x1), none], [.int x1, .ref 89], hp kp nh rh tl rl (u2 I 89 0 (0 : Int32)) L)) rfl ?_
  obtain ⟨q0, hq0, hf⟩ := Option.bind_eq_some_iff.mp hf
  refine bs_call (o := pEN Ls xs (d + 6) 325 [.ref 89, .int x1] (hp kp nh rh tl rl (u2 I 89 0 (0 : Int32)) L)) (w := some (.int q0)) (h' := hp kp nh rh tl rl (u2 I 89 0 (0 : Int32)) L) (pc := 10) (lo := [some (.ref 89), some (.int x1), none]) (rest := []) rfl (t_325 Ls xs (d + 3) kp tl rl nh rh n x1 (u2 I 89 0 (0 : Int32)) L q0 hq0) ?_
  refine bs_st 2 (x' := (12, [some (.ref 89), some (.int x1), some (.int q0)], [.int q0], hp kp nh rh tl rl (u2 I 89 0 (0 : Int32)) L)) rfl ?_
  refine bs_br (t := 17) (e := 15) (lo := [some (.ref 89), some (.int x1), some (.int q0)]) (st := []) (h := hp kp nh rh tl rl (u2 I 89 0 (0 : Int32)) L) rfl hf (fun hc hf => ?_) (fun hc hf => ?_)
  · refine bs_st 2 (x' := (19, [some (.ref 89), some (.int x1), some (.int q0)], [.int x1, .ref 89], hp kp nh rh tl rl (u2 I 89 0 (0 : Int32)) L)) rfl ?_
    obtain ⟨q1, hq1, hf⟩ := Option.bind_eq_some_iff.mp hf
    refine bs_call (o := pEN Ls xs (d + 6) 327 [.ref 89, .int x1] (hp kp nh rh tl rl (u2 I 89 0 (0 : Int32)) L)) (w := none) (h' := hp kp nh rh tl rl q1.1 q1.2) (pc := 22) (lo := [some (.ref 89), some (.int x1), some (.int q0)]) (rest := []) rfl (t_327 Ls xs (d + 0) kp tl rl nh rh n x1 (u2 I 89 0 (0 : Int32)) L q1 hq1) ?_
    refine bs_st 2 (x' := (26, [some (.ref 89), some (.int x1), some (.int q0)], [.int (q1.1 89 41)], hp kp nh rh tl rl q1.1 q1.2)) rfl ?_
    cases hf
    exact bs_ret rfl
  · refine bs_st 1 (x' := (16, [some (.ref 89), some (.int x1), some (.int q0)], [.int q0], hp kp nh rh tl rl (u2 I 89 0 (0 : Int32)) L)) rfl ?_
    cases hf
    exact bs_ret rfl
/-- LampRoundsModel.window(I) on (89,) -/
def f_330 (n : Nat) (x1 : Int32) (I : FI) (L : FL) : Option (Int32 × FI × FL) :=
  (f_325 n x1 (u2 I 89 0 (0 : Int32)) L).bind fun q0 =>
  if q0 = 0 then
    (f_327 n x1 (u2 I 89 0 (0 : Int32)) L).bind fun q1 =>
    some (q1.1 89 42, q1.1, q1.2)
  else
    some (q0, (u2 I 89 0 (0 : Int32)), L)
set_option maxHeartbeats 1000000 in
set_option maxRecDepth 20000 in
theorem t_330 (Ls : Nat) (xs : Nat → Int32) (d : Nat) (kp : Option Nat) (tl : List (Nat × Nat)) (rl : List (List (Option Nat))) (nh : Option Nat) (rh : Option Nat) (n : Nat) (x1 : Int32) (I : FI) (L : FL) (r : Int32 × FI × FL) (hf : f_330 n x1 I L = some r) : pEN Ls xs (d + 7) 330 [.ref 89, .int x1] (hp kp nh rh tl rl I L) = some (some (.int r.1), hp kp nh rh tl rl r.2.1 r.2.2) := by
  refine en_run (d := d + 6) (cd := cd_330) (f := (sf 12 rs_12 false 3 (some (.int)) Ls xs (d + 6))) rfl rfl (x := (0, [some (.ref 89), some (.int x1), none], [], hp kp nh rh tl rl I L)) rfl rfl (Nat.le_of_ble_eq_true rfl) ?_
  unfold f_330 at hf
  refine bs_st 5 (x' := (7, [some (.ref 89), some (.int x1), none], [.int x1, .ref 89], hp kp nh rh tl rl (u2 I 89 0 (0 : Int32)) L)) rfl ?_
  obtain ⟨q0, hq0, hf⟩ := Option.bind_eq_some_iff.mp hf
  refine bs_call (o := pEN Ls xs (d + 6) 325 [.ref 89, .int x1] (hp kp nh rh tl rl (u2 I 89 0 (0 : Int32)) L)) (w := some (.int q0)) (h' := hp kp nh rh tl rl (u2 I 89 0 (0 : Int32)) L) (pc := 10) (lo := [some (.ref 89), some (.int x1), none]) (rest := []) rfl (t_325 Ls xs (d + 3) kp tl rl nh rh n x1 (u2 I 89 0 (0 : Int32)) L q0 hq0) ?_
  refine bs_st 2 (x' := (12, [some (.ref 89), some (.int x1), some (.int q0)], [.int q0], hp kp nh rh tl rl (u2 I 89 0 (0 : Int32)) L)) rfl ?_
  refine bs_br (t := 17) (e := 15) (lo := [some (.ref 89), some (.int x1), some (.int q0)]) (st := []) (h := hp kp nh rh tl rl (u2 I 89 0 (0 : Int32)) L) rfl hf (fun hc hf => ?_) (fun hc hf => ?_)
  · refine bs_st 2 (x' := (19, [some (.ref 89), some (.int x1), some (.int q0)], [.int x1, .ref 89], hp kp nh rh tl rl (u2 I 89 0 (0 : Int32)) L)) rfl ?_
    obtain ⟨q1, hq1, hf⟩ := Option.bind_eq_some_iff.mp hf
    refine bs_call (o := pEN Ls xs (d + 6) 327 [.ref 89, .int x1] (hp kp nh rh tl rl (u2 I 89 0 (0 : Int32)) L)) (w := none) (h' := hp kp nh rh tl rl q1.1 q1.2) (pc := 22) (lo := [some (.ref 89), some (.int x1), some (.int q0)]) (rest := []) rfl (t_327 Ls xs (d + 0) kp tl rl nh rh n x1 (u2 I 89 0 (0 : Int32)) L q1 hq1) ?_
    refine bs_st 2 (x' := (26, [some (.ref 89), some (.int x1), some (.int q0)], [.int (q1.1 89 42)], hp kp nh rh tl rl q1.1 q1.2)) rfl ?_
    cases hf
    exact bs_ret rfl
  · refine bs_st 1 (x' := (16, [some (.ref 89), some (.int x1), some (.int q0)], [.int q0], hp kp nh rh tl rl (u2 I 89 0 (0 : Int32)) L)) rfl ?_
    cases hf
    exact bs_ret rfl
/-- LampRoundsModel.leaves(I) on (89,) -/
def f_331 (n : Nat) (x1 : Int32) (I : FI) (L : FL) : Option (Int32 × FI × FL) :=
  (f_325 n x1 (u2 I 89 0 (0 : Int32)) L).bind fun q0 =>
  if q0 = 0 then
    (f_327 n x1 (u2 I 89 0 (0 : Int32)) L).bind fun q1 =>
    some (q1.1 89 43, q1.1, q1.2)
  else
    some (q0, (u2 I 89 0 (0 : Int32)), L)
set_option maxHeartbeats 1000000 in
set_option maxRecDepth 20000 in
theorem t_331 (Ls : Nat) (xs : Nat → Int32) (d : Nat) (kp : Option Nat) (tl : List (Nat × Nat)) (rl : List (List (Option Nat))) (nh : Option Nat) (rh : Option Nat) (n : Nat) (x1 : Int32) (I : FI) (L : FL) (r : Int32 × FI × FL) (hf : f_331 n x1 I L = some r) : pEN Ls xs (d + 7) 331 [.ref 89, .int x1] (hp kp nh rh tl rl I L) = some (some (.int r.1), hp kp nh rh tl rl r.2.1 r.2.2) := by
  refine en_run (d := d + 6) (cd := cd_331) (f := (sf 12 rs_12 false 3 (some (.int)) Ls xs (d + 6))) rfl rfl (x := (0, [some (.ref 89), some (.int x1), none], [], hp kp nh rh tl rl I L)) rfl rfl (Nat.le_of_ble_eq_true rfl) ?_
  unfold f_331 at hf
  refine bs_st 5 (x' := (7, [some (.ref 89), some (.int x1), none], [.int x1, .ref 89], hp kp nh rh tl rl (u2 I 89 0 (0 : Int32)) L)) rfl ?_
  obtain ⟨q0, hq0, hf⟩ := Option.bind_eq_some_iff.mp hf
  refine bs_call (o := pEN Ls xs (d + 6) 325 [.ref 89, .int x1] (hp kp nh rh tl rl (u2 I 89 0 (0 : Int32)) L)) (w := some (.int q0)) (h' := hp kp nh rh tl rl (u2 I 89 0 (0 : Int32)) L) (pc := 10) (lo := [some (.ref 89), some (.int x1), none]) (rest := []) rfl (t_325 Ls xs (d + 3) kp tl rl nh rh n x1 (u2 I 89 0 (0 : Int32)) L q0 hq0) ?_
  refine bs_st 2 (x' := (12, [some (.ref 89), some (.int x1), some (.int q0)], [.int q0], hp kp nh rh tl rl (u2 I 89 0 (0 : Int32)) L)) rfl ?_
  refine bs_br (t := 17) (e := 15) (lo := [some (.ref 89), some (.int x1), some (.int q0)]) (st := []) (h := hp kp nh rh tl rl (u2 I 89 0 (0 : Int32)) L) rfl hf (fun hc hf => ?_) (fun hc hf => ?_)
  · refine bs_st 2 (x' := (19, [some (.ref 89), some (.int x1), some (.int q0)], [.int x1, .ref 89], hp kp nh rh tl rl (u2 I 89 0 (0 : Int32)) L)) rfl ?_
    obtain ⟨q1, hq1, hf⟩ := Option.bind_eq_some_iff.mp hf
    refine bs_call (o := pEN Ls xs (d + 6) 327 [.ref 89, .int x1] (hp kp nh rh tl rl (u2 I 89 0 (0 : Int32)) L)) (w := none) (h' := hp kp nh rh tl rl q1.1 q1.2) (pc := 22) (lo := [some (.ref 89), some (.int x1), some (.int q0)]) (rest := []) rfl (t_327 Ls xs (d + 0) kp tl rl nh rh n x1 (u2 I 89 0 (0 : Int32)) L q1 hq1) ?_
    refine bs_st 2 (x' := (26, [some (.ref 89), some (.int x1), some (.int q0)], [.int (q1.1 89 43)], hp kp nh rh tl rl q1.1 q1.2)) rfl ?_
    cases hf
    exact bs_ret rfl
  · refine bs_st 1 (x' := (16, [some (.ref 89), some (.int x1), some (.int q0)], [.int q0], hp kp nh rh tl rl (u2 I 89 0 (0 : Int32)) L)) rfl ?_
    cases hf
    exact bs_ret rfl
/-- LampRoundsModel.darkBy(I) on (89,) -/
def f_332 (n : Nat) (x1 : Int32) (I : FI) (L : FL) : Option (Int32 × FI × FL) :=
  (f_252 n I L).bind fun q0 =>
  (f_260 n (0 : Int32) (u2 q0.1 89 25 x1) q0.2).bind fun q1 =>
  (f_264 n q1.1 q1.2).bind fun q2 =>
  some (q2, q1.1, q1.2)
set_option maxHeartbeats 1000000 in
set_option maxRecDepth 20000 in
theorem t_332 (Ls : Nat) (xs : Nat → Int32) (d : Nat) (kp : Option Nat) (tl : List (Nat × Nat)) (rl : List (List (Option Nat))) (nh : Option Nat) (rh : Option Nat) (n : Nat) (x1 : Int32) (I : FI) (L : FL) (r : Int32 × FI × FL) (hf : f_332 n x1 I L = some r) : pEN Ls xs (d + 6) 332 [.ref 89, .int x1] (hp kp nh rh tl rl I L) = some (some (.int r.1), hp kp nh rh tl rl r.2.1 r.2.2) := by
  refine en_run (d := d + 5) (cd := cd_332) (f := (sf 12 rs_12 false 2 (some (.int)) Ls xs (d + 5))) rfl rfl (x := (0, [some (.ref 89), some (.int x1)], [], hp kp nh rh tl rl I L)) rfl rfl (Nat.le_of_ble_eq_true rfl) ?_
  unfold f_332 at hf
  refine bs_st 1 (x' := (1, [some (.ref 89), some (.int x1)], [.ref 89], hp kp nh rh tl rl I L)) rfl ?_
  obtain ⟨q0, hq0, hf⟩ := Option.bind_eq_some_iff.mp hf
  refine bs_call (o := pEN Ls xs (d + 5) 252 [.ref 89] (hp kp nh rh tl rl I L)) (w := none) (h' := hp kp nh rh tl rl q0.1 q0.2) (pc := 4) (lo := [some (.ref 89), some (.int x1)]) (rest := []) rfl (t_252 Ls xs (d + 3) kp tl rl nh rh n I L q0 hq0) ?_
  refine bs_st 5 (x' := (11, [some (.ref 89), some (.int x1)], [.int (0 : Int32), .ref 89], hp kp nh rh tl rl (u2 q0.1 89 25 x1) q0.2)) rfl ?_
  obtain ⟨q1, hq1, hf⟩ := Option.bind_eq_some_iff.mp hf
  refine bs_call (o := pEN Ls xs (d + 5) 260 [.ref 89, .int (0 : Int32)] (hp kp nh rh tl rl (u2 q0.1 89 25 x1) q0.2)) (w := none) (h' := hp kp nh rh tl rl q1.1 q1.2) (pc := 14) (lo := [some (.ref 89), some (.int x1)]) (rest := []) rfl (t_260 Ls xs (d + 0) kp tl rl nh rh n (0 : Int32) (u2 q0.1 89 25 x1) q0.2 q1 hq1) ?_
  refine bs_st 1 (x' := (15, [some (.ref 89), some (.int x1)], [.ref 89], hp kp nh rh tl rl q1.1 q1.2)) rfl ?_
  obtain ⟨q2, hq2, hf⟩ := Option.bind_eq_some_iff.mp hf
  refine bs_call (o := pEN Ls xs (d + 5) 264 [.ref 89] (hp kp nh rh tl rl q1.1 q1.2)) (w := some (.int q2)) (h' := hp kp nh rh tl rl q1.1 q1.2) (pc := 18) (lo := [some (.ref 89), some (.int x1)]) (rest := []) rfl (t_264 Ls xs (d + 2) kp tl rl nh rh n q1.1 q1.2 q2 hq2) ?_
  cases hf
  exact bs_ret rfl
/-- LampRoundsModel.laws(I) on (89,) -/
def c_333_1 (n : Nat) (K0 : Int32 → Int32 → Int32 → FI → FL → Option (Int32 × FI × FL)) (x1 : Int32) (x4 : Int32) (s0 : Int32) (s1 : Int32) (I : FI) (L : FL) : Option (Int32 × FI × FL) :=
  K0 x1 (s1 ||| s0) (x4 + (1 : Int32)) I L
set_option maxHeartbeats 1000000 in
set_option maxRecDepth 20000 in
theorem tc_333_1 (Ls : Nat) (xs : Nat → Int32) (d : Nat) (kp : Option Nat) (tl : List (Nat × Nat)) (rl : List (List (Option Nat))) (nh : Option Nat) (rh : Option Nat) (n : Nat) (K0 : Int32 → Int32 → Int32 → FI → FL → Option (Int32 × FI × FL)) (hK0 : ∀ (w2 : Option Value) (x1 : Int32) (x3 : Int32) (x4 : Int32) (I : FI) (L : FL) (r : Int32 × FI × FL), K0 x1 x3 x4 I L = some r → Bs cd_333 (sf 12 rs_12 false 5 (some (.int)) Ls xs (d + 6)) (22, [some (.ref 89), some (.int x1), w2, some (.int x3), some (.int x4)], [], hp kp nh rh tl rl I L) (some (.int r.1), hp kp nh rh tl rl r.2.1 r.2.2)) (w2 : Option Value) (w3 : Option Value) (x1 : Int32) (x4 : Int32) (s0 : Int32) (s1 : Int32) (I : FI) (L : FL) (r : Int32 × FI × FL) (hf : c_333_1 n K0 x1 x4 s0 s1 I L = some r) : Bs cd_333 (sf 12 rs_12 false 5 (some (.int)) Ls xs (d + 6)) (52, [some (.ref 89), some (.int x1), w2, w3, some (.int x4)], [.int s0, .int s1], hp kp nh rh tl rl I L) (some (.int r.1), hp kp nh rh tl rl r.2.1 r.2.2) := by
  unfold c_333_1 at hf
  refine bs_st 4 (x' := (22, [some (.ref 89), some (.int x1), (pcl w2), some (.int (s1 ||| s0)), some (.int (x4 + (1 : Int32)))], [], hp kp nh rh tl rl I L)) rfl ?_
  exact hK0 (pcl w2) x1 (s1 ||| s0) (x4 + (1 : Int32)) I L r hf
def b_333_0 (n : Nat) (K0 : Int32 → Int32 → Int32 → FI → FL → Option (Int32 × FI × FL)) (x1 : Int32) (x3 : Int32) (x4 : Int32) (I : FI) (L : FL) : Option (Int32 × FI × FL) :=
  if (4 : Int32) ≤ x4 then
    some (x3, I, L)
  else
    (f_332 n x4 I L).bind fun q1 =>
    (f_326 n x1 q1.2.1 q1.2.2).bind fun q2 =>
    if q2 = 0 then
      c_333_1 n K0 x1 x4 (0 : Int32) x3 q1.2.1 q1.2.2
    else
      c_333_1 n K0 x1 x4 ((1 : Int32) <<< (x4 &&& 31)) x3 q1.2.1 q1.2.2
def c_333_0 (n : Nat) : Nat → Int32 → Int32 → Int32 → FI → FL → Option (Int32 × FI × FL)
  | 0, _, _, _, _, _ => none
  | m + 1, x1, x3, x4, I, L => b_333_0 n (c_333_0 n m) x1 x3 x4 I L
set_option maxHeartbeats 1000000 in
set_option maxRecDepth 20000 in
theorem tc_333_0 (Ls : Nat) (xs : Nat → Int32) (d : Nat) (kp : Option Nat) (tl : List (Nat × Nat)) (rl : List (List (Option Nat))) (nh : Option Nat) (rh : Option Nat) (n : Nat) : ∀ (m : Nat) (w2 : Option Value) (x1 : Int32) (x3 : Int32) (x4 : Int32) (I : FI) (L : FL) (r : Int32 × FI × FL), c_333_0 n m x1 x3 x4 I L = some r → Bs cd_333 (sf 12 rs_12 false 5 (some (.int)) Ls xs (d + 6)) (22, [some (.ref 89), some (.int x1), w2, some (.int x3), some (.int x4)], [], hp kp nh rh tl rl I L) (some (.int r.1), hp kp nh rh tl rl r.2.1 r.2.2)
  | 0, w2, x1, x3, x4, I, L, r, hf => by cases hf
  | m + 1, w2, x1, x3, x4, I, L, r, hf => by
    unfold c_333_0 b_333_0 at hf
    have hK0 := tc_333_0 Ls xs d kp tl rl nh rh n m
    refine bs_st 2 (x' := (25, [some (.ref 89), some (.int x1), w2, some (.int x3), some (.int x4)], [.int (4 : Int32), .int x4], hp kp nh rh tl rl I L)) rfl ?_
    refine bs_br (t := 60) (e := 28) (lo := [some (.ref 89), some (.int x1), w2, some (.int x3), some (.int x4)]) (st := []) (h := hp kp nh rh tl rl I L) rfl hf (fun hc hf => ?_) (fun hc hf => ?_)
    · refine bs_st 1 (x' := (61, [some (.ref 89), some (.int x1), w2, some (.int x3), some (.int x4)], [.int x3], hp kp nh rh tl rl I L)) rfl ?_
      cases hf
      exact bs_ret rfl
    · refine bs_st 2 (x' := (31, [some (.ref 89), some (.int x1), w2, some (.int x3), some (.int x4)], [.int x4, .ref 89], hp kp nh rh tl rl I L)) rfl ?_
      obtain ⟨q1, hq1, hf⟩ := Option.bind_eq_some_iff.mp hf
      refine bs_call (o := pEN Ls xs (d + 6) 332 [.ref 89, .int x4] (hp kp nh rh tl rl I L)) (w := some (.int q1.1)) (h' := hp kp nh rh tl rl q1.2.1 q1.2.2) (pc := 34) (lo := [some (.ref 89), some (.int x1), w2, some (.int x3), some (.int x4)]) (rest := []) rfl (t_332 Ls xs (d + 0) kp tl rl nh rh n x4 I L q1 hq1) ?_
      refine bs_st 4 (x' := (38, [some (.ref 89), some (.int x1), w2, some (.int x3), some (.int x4)], [.int x1, .ref 89, .int x3], hp kp nh rh tl rl q1.2.1 q1.2.2)) rfl ?_
      obtain ⟨q2, hq2, hf⟩ := Option.bind_eq_some_iff.mp hf
      refine bs_call (o := pEN Ls xs (d + 6) 326 [.ref 89, .int x1] (hp kp nh rh tl rl q1.2.1 q1.2.2)) (w := some (.int q2)) (h' := hp kp nh rh tl rl q1.2.1 q1.2.2) (pc := 41) (lo := [some (.ref 89), some (.int x1), w2, some (.int x3), some (.int x4)]) (rest := [.int x3]) rfl (t_326 Ls xs (d + 5) kp tl rl nh rh n x1 q1.2.1 q1.2.2 q2 hq2) ?_
      refine bs_br (t := 51) (e := 44) (lo := [some (.ref 89), some (.int x1), w2, some (.int x3), some (.int x4)]) (st := [.int x3]) (h := hp kp nh rh tl rl q1.2.1 q1.2.2) rfl hf (fun hc hf => ?_) (fun hc hf => ?_)
      · refine bs_st 1 (x' := (52, [some (.ref 89), some (.int x1), w2, some (.int x3), some (.int x4)], [.int (0 : Int32), .int x3], hp kp nh rh tl rl q1.2.1 q1.2.2)) rfl ?_
        exact tc_333_1 Ls xs d kp tl rl nh rh n _ hK0 w2 (some (.int x3)) x1 x4 (0 : Int32) x3 q1.2.1 q1.2.2 r hf
      · refine bs_st 4 (x' := (52, [some (.ref 89), some (.int x1), w2, some (.int x3), some (.int x4)], [.int ((1 : Int32) <<< (x4 &&& 31)), .int x3], hp kp nh rh tl rl q1.2.1 q1.2.2)) rfl ?_
        exact tc_333_1 Ls xs d kp tl rl nh rh n _ hK0 w2 (some (.int x3)) x1 x4 ((1 : Int32) <<< (x4 &&& 31)) x3 q1.2.1 q1.2.2 r hf
def f_333 (n : Nat) (x1 : Int32) (I : FI) (L : FL) : Option (Int32 × FI × FL) :=
  (f_325 n x1 (u2 I 89 0 (0 : Int32)) L).bind fun q0 =>
  if q0 = 0 then
    c_333_0 n n x1 (0 : Int32) (0 : Int32) (u2 I 89 0 (0 : Int32)) L
  else
    some (q0, (u2 I 89 0 (0 : Int32)), L)
set_option maxHeartbeats 1000000 in
set_option maxRecDepth 20000 in
theorem t_333 (Ls : Nat) (xs : Nat → Int32) (d : Nat) (kp : Option Nat) (tl : List (Nat × Nat)) (rl : List (List (Option Nat))) (nh : Option Nat) (rh : Option Nat) (n : Nat) (x1 : Int32) (I : FI) (L : FL) (r : Int32 × FI × FL) (hf : f_333 n x1 I L = some r) : pEN Ls xs (d + 7) 333 [.ref 89, .int x1] (hp kp nh rh tl rl I L) = some (some (.int r.1), hp kp nh rh tl rl r.2.1 r.2.2) := by
  refine en_run (d := d + 6) (cd := cd_333) (f := (sf 12 rs_12 false 5 (some (.int)) Ls xs (d + 6))) rfl rfl (x := (0, [some (.ref 89), some (.int x1), none, none, none], [], hp kp nh rh tl rl I L)) rfl rfl (Nat.le_of_ble_eq_true rfl) ?_
  unfold f_333 at hf
  refine bs_st 5 (x' := (7, [some (.ref 89), some (.int x1), none, none, none], [.int x1, .ref 89], hp kp nh rh tl rl (u2 I 89 0 (0 : Int32)) L)) rfl ?_
  obtain ⟨q0, hq0, hf⟩ := Option.bind_eq_some_iff.mp hf
  refine bs_call (o := pEN Ls xs (d + 6) 325 [.ref 89, .int x1] (hp kp nh rh tl rl (u2 I 89 0 (0 : Int32)) L)) (w := some (.int q0)) (h' := hp kp nh rh tl rl (u2 I 89 0 (0 : Int32)) L) (pc := 10) (lo := [some (.ref 89), some (.int x1), none, none, none]) (rest := []) rfl (t_325 Ls xs (d + 3) kp tl rl nh rh n x1 (u2 I 89 0 (0 : Int32)) L q0 hq0) ?_
  refine bs_st 2 (x' := (12, [some (.ref 89), some (.int x1), some (.int q0), none, none], [.int q0], hp kp nh rh tl rl (u2 I 89 0 (0 : Int32)) L)) rfl ?_
  refine bs_br (t := 17) (e := 15) (lo := [some (.ref 89), some (.int x1), some (.int q0), none, none]) (st := []) (h := hp kp nh rh tl rl (u2 I 89 0 (0 : Int32)) L) rfl hf (fun hc hf => ?_) (fun hc hf => ?_)
  · refine bs_st 4 (x' := (22, [some (.ref 89), some (.int x1), some (.int q0), some (.int (0 : Int32)), some (.int (0 : Int32))], [], hp kp nh rh tl rl (u2 I 89 0 (0 : Int32)) L)) rfl ?_
    exact tc_333_0 Ls xs d kp tl rl nh rh n n (some (.int q0)) x1 (0 : Int32) (0 : Int32) (u2 I 89 0 (0 : Int32)) L r hf
  · refine bs_st 1 (x' := (16, [some (.ref 89), some (.int x1), some (.int q0), none, none], [.int q0], hp kp nh rh tl rl (u2 I 89 0 (0 : Int32)) L)) rfl ?_
    cases hf
    exact bs_ret rfl
/-- LampRoundsModel.by(I) on (89,) -/
def f_334 (n : Nat) (x1 : Int32) (I : FI) (L : FL) : Option (Int32 × FI × FL) :=
  (f_236 (u2 I 89 0 (0 : Int32)) L).bind fun q0 =>
  if q0 = 0 then
    some ((-2 : Int32), (u2 I 89 0 (0 : Int32)), L)
  else
    (f_201 x1.toInt64 (0 : Int64) (3 : Int64) (u2 I 89 0 (0 : Int32)) L).bind fun q1 =>
    if q1 = 0 then
      some ((-2 : Int32), (u2 I 89 0 (0 : Int32)), L)
    else
      (f_332 n x1 (u2 I 89 0 (0 : Int32)) L).bind fun q2 =>
      (f_265 q2.1 q2.2.1 q2.2.2).bind fun q3 =>
      some (q3, q2.2.1, q2.2.2)
set_option maxHeartbeats 1000000 in
set_option maxRecDepth 20000 in
theorem t_334 (Ls : Nat) (xs : Nat → Int32) (d : Nat) (kp : Option Nat) (tl : List (Nat × Nat)) (rl : List (List (Option Nat))) (nh : Option Nat) (rh : Option Nat) (n : Nat) (x1 : Int32) (I : FI) (L : FL) (r : Int32 × FI × FL) (hf : f_334 n x1 I L = some r) : pEN Ls xs (d + 7) 334 [.ref 89, .int x1] (hp kp nh rh tl rl I L) = some (some (.int r.1), hp kp nh rh tl rl r.2.1 r.2.2) := by
  refine en_run (d := d + 6) (cd := cd_334) (f := (sf 12 rs_12 false 2 (some (.int)) Ls xs (d + 6))) rfl rfl (x := (0, [some (.ref 89), some (.int x1)], [], hp kp nh rh tl rl I L)) rfl rfl (Nat.le_of_ble_eq_true rfl) ?_
  unfold f_334 at hf
  refine bs_st 4 (x' := (6, [some (.ref 89), some (.int x1)], [.ref 89], hp kp nh rh tl rl (u2 I 89 0 (0 : Int32)) L)) rfl ?_
  obtain ⟨q0, hq0, hf⟩ := Option.bind_eq_some_iff.mp hf
  refine bs_call (o := pEN Ls xs (d + 6) 236 [.ref 89] (hp kp nh rh tl rl (u2 I 89 0 (0 : Int32)) L)) (w := some (.int q0)) (h' := hp kp nh rh tl rl (u2 I 89 0 (0 : Int32)) L) (pc := 9) (lo := [some (.ref 89), some (.int x1)]) (rest := []) rfl (t_236 Ls xs (d + 5) kp tl rl nh rh (u2 I 89 0 (0 : Int32)) L q0 hq0) ?_
  refine bs_br (t := 36) (e := 12) (lo := [some (.ref 89), some (.int x1)]) (st := []) (h := hp kp nh rh tl rl (u2 I 89 0 (0 : Int32)) L) rfl hf (fun hc hf => ?_) (fun hc hf => ?_)
  · refine bs_st 1 (x' := (38, [some (.ref 89), some (.int x1)], [.int (-2 : Int32)], hp kp nh rh tl rl (u2 I 89 0 (0 : Int32)) L)) rfl ?_
    cases hf
    exact bs_ret rfl
  · refine bs_st 4 (x' := (18, [some (.ref 89), some (.int x1)], [.long (3 : Int64), .long (0 : Int64), .long x1.toInt64], hp kp nh rh tl rl (u2 I 89 0 (0 : Int32)) L)) rfl ?_
    obtain ⟨q1, hq1, hf⟩ := Option.bind_eq_some_iff.mp hf
    refine bs_call (o := pEN Ls xs (d + 6) 201 [.long x1.toInt64, .long (0 : Int64), .long (3 : Int64)] (hp kp nh rh tl rl (u2 I 89 0 (0 : Int32)) L)) (w := some (.int q1)) (h' := hp kp nh rh tl rl (u2 I 89 0 (0 : Int32)) L) (pc := 21) (lo := [some (.ref 89), some (.int x1)]) (rest := []) rfl (t_201 Ls xs (d + 5) kp tl rl nh rh x1.toInt64 (0 : Int64) (3 : Int64) (u2 I 89 0 (0 : Int32)) L q1 hq1) ?_
    refine bs_br (t := 36) (e := 24) (lo := [some (.ref 89), some (.int x1)]) (st := []) (h := hp kp nh rh tl rl (u2 I 89 0 (0 : Int32)) L) rfl hf (fun hc hf => ?_) (fun hc hf => ?_)
    · refine bs_st 1 (x' := (38, [some (.ref 89), some (.int x1)], [.int (-2 : Int32)], hp kp nh rh tl rl (u2 I 89 0 (0 : Int32)) L)) rfl ?_
      cases hf
      exact bs_ret rfl
    · refine bs_st 3 (x' := (27, [some (.ref 89), some (.int x1)], [.int x1, .ref 89, .ref 89], hp kp nh rh tl rl (u2 I 89 0 (0 : Int32)) L)) rfl ?_
      obtain ⟨q2, hq2, hf⟩ := Option.bind_eq_some_iff.mp hf
      refine bs_call (o := pEN Ls xs (d + 6) 332 [.ref 89, .int x1] (hp kp nh rh tl rl (u2 I 89 0 (0 : Int32)) L)) (w := some (.int q2.1)) (h' := hp kp nh rh tl rl q2.2.1 q2.2.2) (pc := 30) (lo := [some (.ref 89), some (.int x1)]) (rest := [.ref 89]) rfl (t_332 Ls xs (d + 0) kp tl rl nh rh n x1 (u2 I 89 0 (0 : Int32)) L q2 hq2) ?_
      obtain ⟨q3, hq3, hf⟩ := Option.bind_eq_some_iff.mp hf
      refine bs_call (o := pEN Ls xs (d + 6) 265 [.ref 89, .int q2.1] (hp kp nh rh tl rl q2.2.1 q2.2.2)) (w := some (.int q3)) (h' := hp kp nh rh tl rl q2.2.1 q2.2.2) (pc := 33) (lo := [some (.ref 89), some (.int x1)]) (rest := []) rfl (t_265 Ls xs (d + 4) kp tl rl nh rh q2.1 q2.2.1 q2.2.2 q3 hq3) ?_
      refine bs_st 1 (x' := (38, [some (.ref 89), some (.int x1)], [.int q3], hp kp nh rh tl rl q2.2.1 q2.2.2)) rfl ?_
      cases hf
      exact bs_ret rfl
/-- LampRoundsModel.law() on (89,) -/
def c_335_1 (n : Nat) (K0 : Int32 → Int32 → FI → FL → Option (Int32 × FI × FL)) (x1 : Int32) (x2 : Int32) (I : FI) (L : FL) : Option (Int32 × FI × FL) :=
  K0 x1 (x2 + (1 : Int32)) I L
set_option maxHeartbeats 1000000 in
set_option maxRecDepth 20000 in
theorem tc_335_1 (Ls : Nat) (xs : Nat → Int32) (d : Nat) (kp : Option Nat) (tl : List (Nat × Nat)) (rl : List (List (Option Nat))) (nh : Option Nat) (rh : Option Nat) (n : Nat) (K0 : Int32 → Int32 → FI → FL → Option (Int32 × FI × FL)) (hK0 : ∀ (x1 : Int32) (x2 : Int32) (I : FI) (L : FL) (r : Int32 × FI × FL), K0 x1 x2 I L = some r → Bs cd_335 (sf 12 rs_12 false 3 (some (.int)) Ls xs (d + 6)) (19, [some (.ref 89), some (.int x1), some (.int x2)], [], hp kp nh rh tl rl I L) (some (.int r.1), hp kp nh rh tl rl r.2.1 r.2.2)) (x1 : Int32) (x2 : Int32) (I : FI) (L : FL) (r : Int32 × FI × FL) (hf : c_335_1 n K0 x1 x2 I L = some r) : Bs cd_335 (sf 12 rs_12 false 3 (some (.int)) Ls xs (d + 6)) (39, [some (.ref 89), some (.int x1), some (.int x2)], [], hp kp nh rh tl rl I L) (some (.int r.1), hp kp nh rh tl rl r.2.1 r.2.2) := by
  unfold c_335_1 at hf
  refine bs_st 2 (x' := (19, [some (.ref 89), some (.int x1), some (.int (x2 + (1 : Int32)))], [], hp kp nh rh tl rl I L)) rfl ?_
  exact hK0 x1 (x2 + (1 : Int32)) I L r hf
def b_335_0 (n : Nat) (K0 : Int32 → Int32 → FI → FL → Option (Int32 × FI × FL)) (x1 : Int32) (x2 : Int32) (I : FI) (L : FL) : Option (Int32 × FI × FL) :=
  if (4 : Int32) ≤ x2 then
    some (x1, I, L)
  else
    (f_332 n x2 I L).bind fun q1 =>
    (f_332 n x1 q1.2.1 q1.2.2).bind fun q2 =>
    if q1.1 ≤ q2.1 then
      c_335_1 n K0 x1 x2 q2.2.1 q2.2.2
    else
      c_335_1 n K0 x2 x2 q2.2.1 q2.2.2
def c_335_0 (n : Nat) : Nat → Int32 → Int32 → FI → FL → Option (Int32 × FI × FL)
  | 0, _, _, _, _ => none
  | m + 1, x1, x2, I, L => b_335_0 n (c_335_0 n m) x1 x2 I L
set_option maxHeartbeats 1000000 in
set_option maxRecDepth 20000 in
theorem tc_335_0 (Ls : Nat) (xs : Nat → Int32) (d : Nat) (kp : Option Nat) (tl : List (Nat × Nat)) (rl : List (List (Option Nat))) (nh : Option Nat) (rh : Option Nat) (n : Nat) : ∀ (m : Nat) (x1 : Int32) (x2 : Int32) (I : FI) (L : FL) (r : Int32 × FI × FL), c_335_0 n m x1 x2 I L = some r → Bs cd_335 (sf 12 rs_12 false 3 (some (.int)) Ls xs (d + 6)) (19, [some (.ref 89), some (.int x1), some (.int x2)], [], hp kp nh rh tl rl I L) (some (.int r.1), hp kp nh rh tl rl r.2.1 r.2.2)
  | 0, x1, x2, I, L, r, hf => by cases hf
  | m + 1, x1, x2, I, L, r, hf => by
    unfold c_335_0 b_335_0 at hf
    have hK0 := tc_335_0 Ls xs d kp tl rl nh rh n m
    refine bs_st 2 (x' := (21, [some (.ref 89), some (.int x1), some (.int x2)], [.int (4 : Int32), .int x2], hp kp nh rh tl rl I L)) rfl ?_
    refine bs_br (t := 45) (e := 24) (lo := [some (.ref 89), some (.int x1), some (.int x2)]) (st := []) (h := hp kp nh rh tl rl I L) rfl hf (fun hc hf => ?_) (fun hc hf => ?_)
    · refine bs_st 1 (x' := (46, [some (.ref 89), some (.int x1), some (.int x2)], [.int x1], hp kp nh rh tl rl I L)) rfl ?_
      cases hf
      exact bs_ret rfl
    · refine bs_st 2 (x' := (26, [some (.ref 89), some (.int x1), some (.int x2)], [.int x2, .ref 89], hp kp nh rh tl rl I L)) rfl ?_
      obtain ⟨q1, hq1, hf⟩ := Option.bind_eq_some_iff.mp hf
      refine bs_call (o := pEN Ls xs (d + 6) 332 [.ref 89, .int x2] (hp kp nh rh tl rl I L)) (w := some (.int q1.1)) (h' := hp kp nh rh tl rl q1.2.1 q1.2.2) (pc := 29) (lo := [some (.ref 89), some (.int x1), some (.int x2)]) (rest := []) rfl (t_332 Ls xs (d + 0) kp tl rl nh rh n x2 I L q1 hq1) ?_
      refine bs_st 2 (x' := (31, [some (.ref 89), some (.int x1), some (.int x2)], [.int x1, .ref 89, .int q1.1], hp kp nh rh tl rl q1.2.1 q1.2.2)) rfl ?_
      obtain ⟨q2, hq2, hf⟩ := Option.bind_eq_some_iff.mp hf
      refine bs_call (o := pEN Ls xs (d + 6) 332 [.ref 89, .int x1] (hp kp nh rh tl rl q1.2.1 q1.2.2)) (w := some (.int q2.1)) (h' := hp kp nh rh tl rl q2.2.1 q2.2.2) (pc := 34) (lo := [some (.ref 89), some (.int x1), some (.int x2)]) (rest := [.int q1.1]) rfl (t_332 Ls xs (d + 0) kp tl rl nh rh n x1 q1.2.1 q1.2.2 q2 hq2) ?_
      refine bs_br (t := 39) (e := 37) (lo := [some (.ref 89), some (.int x1), some (.int x2)]) (st := []) (h := hp kp nh rh tl rl q2.2.1 q2.2.2) rfl hf (fun hc hf => ?_) (fun hc hf => ?_)
      · exact tc_335_1 Ls xs d kp tl rl nh rh n _ hK0 x1 x2 q2.2.1 q2.2.2 r hf
      · refine bs_st 2 (x' := (39, [some (.ref 89), some (.int x2), some (.int x2)], [], hp kp nh rh tl rl q2.2.1 q2.2.2)) rfl ?_
        exact tc_335_1 Ls xs d kp tl rl nh rh n _ hK0 x2 x2 q2.2.1 q2.2.2 r hf
def f_335 (n : Nat) (I : FI) (L : FL) : Option (Int32 × FI × FL) :=
  (f_236 (u2 I 89 0 (0 : Int32)) L).bind fun q0 =>
  if ¬ q0 = 0 then
    c_335_0 n n (0 : Int32) (1 : Int32) (u2 I 89 0 (0 : Int32)) L
  else
    some ((-2 : Int32), (u2 I 89 0 (0 : Int32)), L)
set_option maxHeartbeats 1000000 in
set_option maxRecDepth 20000 in
theorem t_335 (Ls : Nat) (xs : Nat → Int32) (d : Nat) (kp : Option Nat) (tl : List (Nat × Nat)) (rl : List (List (Option Nat))) (nh : Option Nat) (rh : Option Nat) (n : Nat) (I : FI) (L : FL) (r : Int32 × FI × FL) (hf : f_335 n I L = some r) : pEN Ls xs (d + 7) 335 [.ref 89] (hp kp nh rh tl rl I L) = some (some (.int r.1), hp kp nh rh tl rl r.2.1 r.2.2) := by
  refine en_run (d := d + 6) (cd := cd_335) (f := (sf 12 rs_12 false 3 (some (.int)) Ls xs (d + 6))) rfl rfl (x := (0, [some (.ref 89), none, none], [], hp kp nh rh tl rl I L)) rfl rfl (Nat.le_of_ble_eq_true rfl) ?_
  unfold f_335 at hf
  refine bs_st 4 (x' := (6, [some (.ref 89), none, none], [.ref 89], hp kp nh rh tl rl (u2 I 89 0 (0 : Int32)) L)) rfl ?_
  obtain ⟨q0, hq0, hf⟩ := Option.bind_eq_some_iff.mp hf
  refine bs_call (o := pEN Ls xs (d + 6) 236 [.ref 89] (hp kp nh rh tl rl (u2 I 89 0 (0 : Int32)) L)) (w := some (.int q0)) (h' := hp kp nh rh tl rl (u2 I 89 0 (0 : Int32)) L) (pc := 9) (lo := [some (.ref 89), none, none]) (rest := []) rfl (t_236 Ls xs (d + 5) kp tl rl nh rh (u2 I 89 0 (0 : Int32)) L q0 hq0) ?_
  refine bs_br (t := 15) (e := 12) (lo := [some (.ref 89), none, none]) (st := []) (h := hp kp nh rh tl rl (u2 I 89 0 (0 : Int32)) L) rfl hf (fun hc hf => ?_) (fun hc hf => ?_)
  · refine bs_st 4 (x' := (19, [some (.ref 89), some (.int (0 : Int32)), some (.int (1 : Int32))], [], hp kp nh rh tl rl (u2 I 89 0 (0 : Int32)) L)) rfl ?_
    exact tc_335_0 Ls xs d kp tl rl nh rh n n (0 : Int32) (1 : Int32) (u2 I 89 0 (0 : Int32)) L r hf
  · refine bs_st 1 (x' := (14, [some (.ref 89), none, none], [.int (-2 : Int32)], hp kp nh rh tl rl (u2 I 89 0 (0 : Int32)) L)) rfl ?_
    cases hf
    exact bs_ret rfl
/-- LampRoundsModel.less(II) on (89,) -/
def f_336 (x1 : Int32) (x2 : Int32) (I : FI) (L : FL) : Option (Int32) :=
  if pin x1 4 = true then (if ((I 104 x1.toNatClampNeg) - x2) ≤ (1 : Int32) then
      some ((1 : Int32))
    else
      if pin x1 4 = true then some (((I 104 x1.toNatClampNeg) - x2)) else none) else none
set_option maxHeartbeats 1000000 in
set_option maxRecDepth 20000 in
theorem t_336 (Ls : Nat) (xs : Nat → Int32) (d : Nat) (kp : Option Nat) (tl : List (Nat × Nat)) (rl : List (List (Option Nat))) (nh : Option Nat) (rh : Option Nat) (x1 : Int32) (x2 : Int32) (I : FI) (L : FL) (r : Int32) (hf : f_336 x1 x2 I L = some r) : pEN Ls xs (d + 1) 336 [.ref 89, .int x1, .int x2] (hp kp nh rh tl rl I L) = some (some (.int r), hp kp nh rh tl rl I L) := by
  refine en_run (d := d + 0) (cd := cd_336) (f := (sf 12 rs_12 false 3 (some (.int)) Ls xs (d + 0))) rfl rfl (x := (0, [some (.ref 89), some (.int x1), some (.int x2)], [], hp kp nh rh tl rl I L)) rfl rfl (Nat.le_of_ble_eq_true rfl) ?_
  unfold f_336 at hf
  refine bs_st 3 (x' := (5, [some (.ref 89), some (.int x1), some (.int x2)], [.int x1, .ref 104], hp kp nh rh tl rl I L)) rfl ?_
  refine bs_gd (x' := (6, [some (.ref 89), some (.int x1), some (.int x2)], [.int (I 104 x1.toNatClampNeg)], hp kp nh rh tl rl I L)) rfl hf (fun hc hf => ?_)
  refine bs_st 3 (x' := (9, [some (.ref 89), some (.int x1), some (.int x2)], [.int (1 : Int32), .int ((I 104 x1.toNatClampNeg) - x2)], hp kp nh rh tl rl I L)) rfl ?_
  refine bs_br (t := 23) (e := 12) (lo := [some (.ref 89), some (.int x1), some (.int x2)]) (st := []) (h := hp kp nh rh tl rl I L) rfl hf (fun hc hf => ?_) (fun hc hf => ?_)
  · refine bs_st 1 (x' := (24, [some (.ref 89), some (.int x1), some (.int x2)], [.int (1 : Int32)], hp kp nh rh tl rl I L)) rfl ?_
    cases hf
    exact bs_ret rfl
  · refine bs_st 3 (x' := (17, [some (.ref 89), some (.int x1), some (.int x2)], [.int x1, .ref 104], hp kp nh rh tl rl I L)) rfl ?_
    refine bs_gd (x' := (18, [some (.ref 89), some (.int x1), some (.int x2)], [.int (I 104 x1.toNatClampNeg)], hp kp nh rh tl rl I L)) rfl hf (fun hc hf => ?_)
    refine bs_st 3 (x' := (24, [some (.ref 89), some (.int x1), some (.int x2)], [.int ((I 104 x1.toNatClampNeg) - x2)], hp kp nh rh tl rl I L)) rfl ?_
    cases hf
    exact bs_ret rfl
