/-- LampRounds.house() on (0,) -/
def f_115_1 (n : Nat) (rh : Option Nat) (I : FI) (L : FL) : Option (Int32 × Option Nat × FI × FL) :=
  (f_74 n I L).bind fun q0 =>
  if q0.1 14 1 = 0 then
    (f_17 (u2 q0.1 1 1 (0 : Int32)) q0.2).bind fun q1 =>
    (f_18 n q1.1 q1.2).bind fun q2 =>
    (f_186_1 n (u2 q2.1 11 2 (0 : Int32)) q2.2).bind fun q3 =>
    some (q3.1 3 0, (some 3), q3.1, q3.2)
  else
    some ((-4 : Int32), rh, (u2 q0.1 1 1 (0 : Int32)), q0.2)
set_option maxHeartbeats 1000000 in
theorem t_115_1 (Ls : Nat) (xs : Nat → Int32) (d : Nat) (nh : Option Nat) (rh : Option Nat) (n : Nat) (I : FI) (L : FL) (r : Int32 × Option Nat × FI × FL) (hf : f_115_1 n rh I L = some r) : pEN Ls xs (d + 9) 115 [.ref 0] (hp (some 114) nh rh TK (RK (some 3)) I L) = some (some (.int r.1), hp (some 114) nh r.2.1 TK (RK (some 3)) r.2.2.1 r.2.2.2) := by
  refine en_run (d := d + 8) (cd := cd_115) (f := (sf 11 rs_11 false 1 (some (.int)) Ls xs (d + 8))) rfl rfl (x := (0, [some (.ref 0)], [], hp (some 114) nh rh TK (RK (some 3)) I L)) rfl rfl (Nat.le_of_ble_eq_true rfl) ?_
  unfold f_115_1 at hf
  refine bs_st 4 (x' := (8, [some (.ref 0)], [.ref 1, .ref 14], hp (some 114) nh rh TK (RK (some 3)) I L)) rfl ?_
  obtain ⟨q0, hq0, hf⟩ := Option.bind_eq_some_iff.mp hf
  refine bs_call (o := pEN Ls xs (d + 8) 74 [.ref 14, .ref 1] (hp (some 114) nh rh TK (RK (some 3)) I L)) (w := none) (h' := hp (some 114) nh rh TK (RK (some 3)) q0.1 q0.2) (pc := 11) (lo := [some (.ref 0)]) (rest := []) rfl (t_74 Ls xs (d + 0) (some 114) TK (RK (some 3)) nh rh n I L q0 hq0) ?_
  refine bs_st 7 (x' := (26, [some (.ref 0)], [.int (q0.1 14 1)], hp (some 114) nh rh TK (RK (some 3)) (u2 q0.1 1 1 (0 : Int32)) q0.2)) rfl ?_
  refine bs_br (t := 32) (e := 29) (lo := [some (.ref 0)]) (st := []) (h := hp (some 114) nh rh TK (RK (some 3)) (u2 q0.1 1 1 (0 : Int32)) q0.2) rfl hf (fun hc hf => ?_) (fun hc hf => ?_)
  · refine bs_st 5 (x' := (43, [some (.ref 0)], [.ref 15, .ref 3], hp (some 114) nh rh TK (RK (some 3)) (u2 q0.1 1 1 (0 : Int32)) q0.2)) rfl ?_
    obtain ⟨q1, hq1, hf⟩ := Option.bind_eq_some_iff.mp hf
    refine bs_call (o := pEN Ls xs (d + 8) 17 [.ref 3, .ref 15] (hp (some 114) nh rh TK (RK (some 3)) (u2 q0.1 1 1 (0 : Int32)) q0.2)) (w := none) (h' := hp (some 114) nh rh TK (RK (some 3)) q1.1 q1.2) (pc := 46) (lo := [some (.ref 0)]) (rest := []) rfl (t_17 Ls xs (d + 7) (some 114) TK (RK (some 3)) nh rh (u2 q0.1 1 1 (0 : Int32)) q0.2 q1 hq1) ?_
    refine bs_st 2 (x' := (50, [some (.ref 0)], [.ref 3], hp (some 114) nh rh TK (RK (some 3)) q1.1 q1.2)) rfl ?_
    obtain ⟨q2, hq2, hf⟩ := Option.bind_eq_some_iff.mp hf
    refine bs_call (o := pEN Ls xs (d + 8) 18 [.ref 3] (hp (some 114) nh rh TK (RK (some 3)) q1.1 q1.2)) (w := none) (h' := hp (some 114) nh rh TK (RK (some 3)) q2.1 q2.2) (pc := 53) (lo := [some (.ref 0)]) (rest := []) rfl (t_18 Ls xs (d + 6) (some 114) TK (RK (some 3)) nh rh n q1.1 q1.2 q2 hq2) ?_
    refine bs_st 5 (x' := (62, [some (.ref 0)], [.ref 0], hp (some 114) nh rh TK (RK (some 3)) (u2 q2.1 11 2 (0 : Int32)) q2.2)) rfl ?_
    obtain ⟨q3, hq3, hf⟩ := Option.bind_eq_some_iff.mp hf
    refine bs_call (o := pEN Ls xs (d + 8) 186 [.ref 0] (hp (some 114) nh rh TK (RK (some 3)) (u2 q2.1 11 2 (0 : Int32)) q2.2)) (w := none) (h' := hp (some 114) nh (some 3) TK (RK (some 3)) q3.1 q3.2) (pc := 65) (lo := [some (.ref 0)]) (rest := []) rfl (t_186_1 Ls xs (d + 6) nh rh n (u2 q2.1 11 2 (0 : Int32)) q2.2 q3 hq3) ?_
    refine bs_st 3 (x' := (72, [some (.ref 0)], [.int (q3.1 3 0)], hp (some 114) nh (some 3) TK (RK (some 3)) q3.1 q3.2)) rfl ?_
    cases hf
    exact bs_ret rfl
  · refine bs_st 1 (x' := (31, [some (.ref 0)], [.int (-4 : Int32)], hp (some 114) nh rh TK (RK (some 3)) (u2 q0.1 1 1 (0 : Int32)) q0.2)) rfl ?_
    cases hf
    exact bs_ret rfl
/-- LampRounds.isRoom(I) on (0,) -/
def f_178 (x1 : Int32) (I : FI) (L : FL) : Option (Int32) :=
  if x1 < 0 then
    some ((0 : Int32))
  else
    if I 3 4 ≤ x1 then
      some ((0 : Int32))
    else
      some ((1 : Int32))
set_option maxHeartbeats 1000000 in
theorem t_178 (Ls : Nat) (xs : Nat → Int32) (d : Nat) (kp : Option Nat) (tl : List (Nat × Nat)) (rl : List (List (Option Nat))) (nh : Option Nat) (rh : Option Nat) (x1 : Int32) (I : FI) (L : FL) (r : Int32) (hf : f_178 x1 I L = some r) : pEN Ls xs (d + 1) 178 [.ref 0, .int x1] (hp kp nh rh tl rl I L) = some (some (.int r), hp kp nh rh tl rl I L) := by
  refine en_run (d := d + 0) (cd := cd_178) (f := (sf 11 rs_11 false 2 (some (.boolean)) Ls xs (d + 0))) rfl rfl (x := (0, [some (.ref 0), some (.int x1)], [], hp kp nh rh tl rl I L)) rfl rfl (Nat.le_of_ble_eq_true rfl) ?_
  unfold f_178 at hf
  refine bs_st 1 (x' := (1, [some (.ref 0), some (.int x1)], [.int x1], hp kp nh rh tl rl I L)) rfl ?_
  refine bs_br (t := 19) (e := 4) (lo := [some (.ref 0), some (.int x1)]) (st := []) (h := hp kp nh rh tl rl I L) rfl hf (fun hc hf => ?_) (fun hc hf => ?_)
  · refine bs_st 1 (x' := (20, [some (.ref 0), some (.int x1)], [.int (0 : Int32)], hp kp nh rh tl rl I L)) rfl ?_
    cases hf
    exact bs_ret rfl
  · refine bs_st 4 (x' := (12, [some (.ref 0), some (.int x1)], [.int (I 3 4), .int x1], hp kp nh rh tl rl I L)) rfl ?_
    refine bs_br (t := 19) (e := 15) (lo := [some (.ref 0), some (.int x1)]) (st := []) (h := hp kp nh rh tl rl I L) rfl hf (fun hc hf => ?_) (fun hc hf => ?_)
    · refine bs_st 1 (x' := (20, [some (.ref 0), some (.int x1)], [.int (0 : Int32)], hp kp nh rh tl rl I L)) rfl ?_
      cases hf
      exact bs_ret rfl
    · refine bs_st 2 (x' := (20, [some (.ref 0), some (.int x1)], [.int (1 : Int32)], hp kp nh rh tl rl I L)) rfl ?_
      cases hf
      exact bs_ret rfl
/-- LampRounds.isChoice(I) on () -/
def f_182 (x0 : Int32) (I : FI) (L : FL) : Option (Int32) :=
  if x0 = 0 then
    some ((1 : Int32))
  else
    if ¬ x0 = (1 : Int32) then
      some ((0 : Int32))
    else
      some ((1 : Int32))
set_option maxHeartbeats 1000000 in
theorem t_182 (Ls : Nat) (xs : Nat → Int32) (d : Nat) (kp : Option Nat) (tl : List (Nat × Nat)) (rl : List (List (Option Nat))) (nh : Option Nat) (rh : Option Nat) (x0 : Int32) (I : FI) (L : FL) (r : Int32) (hf : f_182 x0 I L = some r) : pEN Ls xs (d + 1) 182 [.int x0] (hp kp nh rh tl rl I L) = some (some (.int r), hp kp nh rh tl rl I L) := by
  refine en_run (d := d + 0) (cd := cd_182) (f := (sf 11 rs_11 false 1 (some (.boolean)) Ls xs (d + 0))) rfl rfl (x := (0, [some (.int x0)], [], hp kp nh rh tl rl I L)) rfl rfl (Nat.le_of_ble_eq_true rfl) ?_
  unfold f_182 at hf
  refine bs_st 1 (x' := (1, [some (.int x0)], [.int x0], hp kp nh rh tl rl I L)) rfl ?_
  refine bs_br (t := 9) (e := 4) (lo := [some (.int x0)]) (st := []) (h := hp kp nh rh tl rl I L) rfl hf (fun hc hf => ?_) (fun hc hf => ?_)
  · refine bs_st 2 (x' := (14, [some (.int x0)], [.int (1 : Int32)], hp kp nh rh tl rl I L)) rfl ?_
    cases hf
    exact bs_ret rfl
  · refine bs_st 2 (x' := (6, [some (.int x0)], [.int (1 : Int32), .int x0], hp kp nh rh tl rl I L)) rfl ?_
    refine bs_br (t := 13) (e := 9) (lo := [some (.int x0)]) (st := []) (h := hp kp nh rh tl rl I L) rfl hf (fun hc hf => ?_) (fun hc hf => ?_)
    · refine bs_st 1 (x' := (14, [some (.int x0)], [.int (0 : Int32)], hp kp nh rh tl rl I L)) rfl ?_
      cases hf
      exact bs_ret rfl
    · refine bs_st 2 (x' := (14, [some (.int x0)], [.int (1 : Int32)], hp kp nh rh tl rl I L)) rfl ?_
      cases hf
      exact bs_ret rfl
/-- LampRounds.room(II) on (0,) -/
def f_117 (x1 : Int32) (x2 : Int32) (I : FI) (L : FL) : Option (Int32) :=
  (f_178 x1 I L).bind fun q0 =>
  if q0 = 0 then
    some ((-2 : Int32))
  else
    (f_182 x2 I L).bind fun q1 =>
    if ¬ q1 = 0 then
      if ¬ x2 = 0 then
        if pin x1 4 = true then some (I 5 x1.toNatClampNeg) else none
      else
        if pin x1 4 = true then some (I 4 x1.toNatClampNeg) else none
    else
      some ((-2 : Int32))
set_option maxHeartbeats 1000000 in
theorem t_117 (Ls : Nat) (xs : Nat → Int32) (d : Nat) (kp : Option Nat) (tl : List (Nat × Nat)) (rl : List (List (Option Nat))) (nh : Option Nat) (rh : Option Nat) (x1 : Int32) (x2 : Int32) (I : FI) (L : FL) (r : Int32) (hf : f_117 x1 x2 I L = some r) : pEN Ls xs (d + 2) 117 [.ref 0, .int x1, .int x2] (hp kp nh rh tl rl I L) = some (some (.int r), hp kp nh rh tl rl I L) := by
  refine en_run (d := d + 1) (cd := cd_117) (f := (sf 11 rs_11 false 3 (some (.int)) Ls xs (d + 1))) rfl rfl (x := (0, [some (.ref 0), some (.int x1), some (.int x2)], [], hp kp nh rh tl rl I L)) rfl rfl (Nat.le_of_ble_eq_true rfl) ?_
  unfold f_117 at hf
  refine bs_st 2 (x' := (2, [some (.ref 0), some (.int x1), some (.int x2)], [.int x1, .ref 0], hp kp nh rh tl rl I L)) rfl ?_
  obtain ⟨q0, hq0, hf⟩ := Option.bind_eq_some_iff.mp hf
  refine bs_call (o := pEN Ls xs (d + 1) 178 [.ref 0, .int x1] (hp kp nh rh tl rl I L)) (w := some (.int q0)) (h' := hp kp nh rh tl rl I L) (pc := 5) (lo := [some (.ref 0), some (.int x1), some (.int x2)]) (rest := []) rfl (t_178 Ls xs (d + 0) kp tl rl nh rh x1 I L q0 hq0) ?_
  refine bs_br (t := 15) (e := 8) (lo := [some (.ref 0), some (.int x1), some (.int x2)]) (st := []) (h := hp kp nh rh tl rl I L) rfl hf (fun hc hf => ?_) (fun hc hf => ?_)
  · refine bs_st 1 (x' := (17, [some (.ref 0), some (.int x1), some (.int x2)], [.int (-2 : Int32)], hp kp nh rh tl rl I L)) rfl ?_
    cases hf
    exact bs_ret rfl
  · refine bs_st 1 (x' := (9, [some (.ref 0), some (.int x1), some (.int x2)], [.int x2], hp kp nh rh tl rl I L)) rfl ?_
    obtain ⟨q1, hq1, hf⟩ := Option.bind_eq_some_iff.mp hf
    refine bs_call (o := pEN Ls xs (d + 1) 182 [.int x2] (hp kp nh rh tl rl I L)) (w := some (.int q1)) (h' := hp kp nh rh tl rl I L) (pc := 12) (lo := [some (.ref 0), some (.int x1), some (.int x2)]) (rest := []) rfl (t_182 Ls xs (d + 0) kp tl rl nh rh x2 I L q1 hq1) ?_
    refine bs_br (t := 18) (e := 15) (lo := [some (.ref 0), some (.int x1), some (.int x2)]) (st := []) (h := hp kp nh rh tl rl I L) rfl hf (fun hc hf => ?_) (fun hc hf => ?_)
    · refine bs_st 1 (x' := (19, [some (.ref 0), some (.int x1), some (.int x2)], [.int x2], hp kp nh rh tl rl I L)) rfl ?_
      refine bs_br (t := 34) (e := 22) (lo := [some (.ref 0), some (.int x1), some (.int x2)]) (st := []) (h := hp kp nh rh tl rl I L) rfl hf (fun hc hf => ?_) (fun hc hf => ?_)
      · refine bs_st 4 (x' := (42, [some (.ref 0), some (.int x1), some (.int x2)], [.int x1, .ref 5], hp kp nh rh tl rl I L)) rfl ?_
        refine bs_gd (x' := (43, [some (.ref 0), some (.int x1), some (.int x2)], [.int (I 5 x1.toNatClampNeg)], hp kp nh rh tl rl I L)) rfl hf (fun hc hf => ?_)
        cases hf
        exact bs_ret rfl
      · refine bs_st 4 (x' := (30, [some (.ref 0), some (.int x1), some (.int x2)], [.int x1, .ref 4], hp kp nh rh tl rl I L)) rfl ?_
        refine bs_gd (x' := (31, [some (.ref 0), some (.int x1), some (.int x2)], [.int (I 4 x1.toNatClampNeg)], hp kp nh rh tl rl I L)) rfl hf (fun hc hf => ?_)
        refine bs_st 1 (x' := (43, [some (.ref 0), some (.int x1), some (.int x2)], [.int (I 4 x1.toNatClampNeg)], hp kp nh rh tl rl I L)) rfl ?_
        cases hf
        exact bs_ret rfl
    · refine bs_st 1 (x' := (17, [some (.ref 0), some (.int x1), some (.int x2)], [.int (-2 : Int32)], hp kp nh rh tl rl I L)) rfl ?_
      cases hf
      exact bs_ret rfl
/-- LampRounds.doors(I) on (0,) -/
def f_118 (x1 : Int32) (I : FI) (L : FL) : Option (Int32) :=
  (f_178 x1 I L).bind fun q0 =>
  if q0 = 0 then
    some ((-2 : Int32))
  else
    if pin x1 4 = true then some (I 6 x1.toNatClampNeg) else none
set_option maxHeartbeats 1000000 in
theorem t_118 (Ls : Nat) (xs : Nat → Int32) (d : Nat) (kp : Option Nat) (tl : List (Nat × Nat)) (rl : List (List (Option Nat))) (nh : Option Nat) (rh : Option Nat) (x1 : Int32) (I : FI) (L : FL) (r : Int32) (hf : f_118 x1 I L = some r) : pEN Ls xs (d + 2) 118 [.ref 0, .int x1] (hp kp nh rh tl rl I L) = some (some (.int r), hp kp nh rh tl rl I L) := by
  refine en_run (d := d + 1) (cd := cd_118) (f := (sf 11 rs_11 false 2 (some (.int)) Ls xs (d + 1))) rfl rfl (x := (0, [some (.ref 0), some (.int x1)], [], hp kp nh rh tl rl I L)) rfl rfl (Nat.le_of_ble_eq_true rfl) ?_
  unfold f_118 at hf
  refine bs_st 2 (x' := (2, [some (.ref 0), some (.int x1)], [.int x1, .ref 0], hp kp nh rh tl rl I L)) rfl ?_
  obtain ⟨q0, hq0, hf⟩ := Option.bind_eq_some_iff.mp hf
  refine bs_call (o := pEN Ls xs (d + 1) 178 [.ref 0, .int x1] (hp kp nh rh tl rl I L)) (w := some (.int q0)) (h' := hp kp nh rh tl rl I L) (pc := 5) (lo := [some (.ref 0), some (.int x1)]) (rest := []) rfl (t_178 Ls xs (d + 0) kp tl rl nh rh x1 I L q0 hq0) ?_
  refine bs_br (t := 20) (e := 8) (lo := [some (.ref 0), some (.int x1)]) (st := []) (h := hp kp nh rh tl rl I L) rfl hf (fun hc hf => ?_) (fun hc hf => ?_)
  · refine bs_st 1 (x' := (22, [some (.ref 0), some (.int x1)], [.int (-2 : Int32)], hp kp nh rh tl rl I L)) rfl ?_
    cases hf
    exact bs_ret rfl
  · refine bs_st 4 (x' := (16, [some (.ref 0), some (.int x1)], [.int x1, .ref 6], hp kp nh rh tl rl I L)) rfl ?_
    refine bs_gd (x' := (17, [some (.ref 0), some (.int x1)], [.int (I 6 x1.toNatClampNeg)], hp kp nh rh tl rl I L)) rfl hf (fun hc hf => ?_)
    refine bs_st 1 (x' := (22, [some (.ref 0), some (.int x1)], [.int (I 6 x1.toNatClampNeg)], hp kp nh rh tl rl I L)) rfl ?_
    cases hf
    exact bs_ret rfl
/-- House.minutesBetween(II) on (3,) -/
def f_20 (x1 : Int32) (x2 : Int32) (I : FI) (L : FL) : Option (Int32) :=
  if pin ((x1 * (4 : Int32)) + x2) 16 = true then some (I 7 (((x1 * (4 : Int32)) + x2).toNatClampNeg)) else none
set_option maxHeartbeats 1000000 in
theorem t_20 (Ls : Nat) (xs : Nat → Int32) (d : Nat) (kp : Option Nat) (tl : List (Nat × Nat)) (rl : List (List (Option Nat))) (nh : Option Nat) (rh : Option Nat) (x1 : Int32) (x2 : Int32) (I : FI) (L : FL) (r : Int32) (hf : f_20 x1 x2 I L = some r) : pEN Ls xs (d + 1) 20 [.ref 3, .int x1, .int x2] (hp kp nh rh tl rl I L) = some (some (.int r), hp kp nh rh tl rl I L) := by
  refine en_run (d := d + 0) (cd := cd_20) (f := (sf 3 rs_3 false 3 (some (.int)) Ls xs (d + 0))) rfl rfl (x := (0, [some (.ref 3), some (.int x1), some (.int x2)], [], hp kp nh rh tl rl I L)) rfl rfl (Nat.le_of_ble_eq_true rfl) ?_
  unfold f_20 at hf
  refine bs_st 7 (x' := (9, [some (.ref 3), some (.int x1), some (.int x2)], [.int ((x1 * (4 : Int32)) + x2), .ref 7], hp kp nh rh tl rl I L)) rfl ?_
  refine bs_gd (x' := (10, [some (.ref 3), some (.int x1), some (.int x2)], [.int (I 7 (((x1 * (4 : Int32)) + x2).toNatClampNeg))], hp kp nh rh tl rl I L)) rfl hf (fun hc hf => ?_)
  cases hf
  exact bs_ret rfl
/-- LampRounds.far(II) on (0,) -/
def f_119 (x1 : Int32) (x2 : Int32) (I : FI) (L : FL) : Option (Int32) :=
  (f_178 x1 I L).bind fun q0 =>
  if q0 = 0 then
    some ((-2 : Int32))
  else
    (f_178 x2 I L).bind fun q1 =>
    if ¬ q1 = 0 then
      (f_20 x1 x2 I L).bind fun q2 =>
      some (q2)
    else
      some ((-2 : Int32))
set_option maxHeartbeats 1000000 in
theorem t_119 (Ls : Nat) (xs : Nat → Int32) (d : Nat) (kp : Option Nat) (tl : List (Nat × Nat)) (rl : List (List (Option Nat))) (nh : Option Nat) (rh : Option Nat) (x1 : Int32) (x2 : Int32) (I : FI) (L : FL) (r : Int32) (hf : f_119 x1 x2 I L = some r) : pEN Ls xs (d + 2) 119 [.ref 0, .int x1, .int x2] (hp kp nh rh tl rl I L) = some (some (.int r), hp kp nh rh tl rl I L) := by
  refine en_run (d := d + 1) (cd := cd_119) (f := (sf 11 rs_11 false 3 (some (.int)) Ls xs (d + 1))) rfl rfl (x := (0, [some (.ref 0), some (.int x1), some (.int x2)], [], hp kp nh rh tl rl I L)) rfl rfl (Nat.le_of_ble_eq_true rfl) ?_
  unfold f_119 at hf
  refine bs_st 2 (x' := (2, [some (.ref 0), some (.int x1), some (.int x2)], [.int x1, .ref 0], hp kp nh rh tl rl I L)) rfl ?_
  obtain ⟨q0, hq0, hf⟩ := Option.bind_eq_some_iff.mp hf
  refine bs_call (o := pEN Ls xs (d + 1) 178 [.ref 0, .int x1] (hp kp nh rh tl rl I L)) (w := some (.int q0)) (h' := hp kp nh rh tl rl I L) (pc := 5) (lo := [some (.ref 0), some (.int x1), some (.int x2)]) (rest := []) rfl (t_178 Ls xs (d + 0) kp tl rl nh rh x1 I L q0 hq0) ?_
  refine bs_br (t := 16) (e := 8) (lo := [some (.ref 0), some (.int x1), some (.int x2)]) (st := []) (h := hp kp nh rh tl rl I L) rfl hf (fun hc hf => ?_) (fun hc hf => ?_)
  · refine bs_st 1 (x' := (18, [some (.ref 0), some (.int x1), some (.int x2)], [.int (-2 : Int32)], hp kp nh rh tl rl I L)) rfl ?_
    cases hf
    exact bs_ret rfl
  · refine bs_st 2 (x' := (10, [some (.ref 0), some (.int x1), some (.int x2)], [.int x2, .ref 0], hp kp nh rh tl rl I L)) rfl ?_
    obtain ⟨q1, hq1, hf⟩ := Option.bind_eq_some_iff.mp hf
    refine bs_call (o := pEN Ls xs (d + 1) 178 [.ref 0, .int x2] (hp kp nh rh tl rl I L)) (w := some (.int q1)) (h' := hp kp nh rh tl rl I L) (pc := 13) (lo := [some (.ref 0), some (.int x1), some (.int x2)]) (rest := []) rfl (t_178 Ls xs (d + 0) kp tl rl nh rh x2 I L q1 hq1) ?_
    refine bs_br (t := 19) (e := 16) (lo := [some (.ref 0), some (.int x1), some (.int x2)]) (st := []) (h := hp kp nh rh tl rl I L) rfl hf (fun hc hf => ?_) (fun hc hf => ?_)
    · refine bs_st 4 (x' := (25, [some (.ref 0), some (.int x1), some (.int x2)], [.int x2, .int x1, .ref 3], hp kp nh rh tl rl I L)) rfl ?_
      obtain ⟨q2, hq2, hf⟩ := Option.bind_eq_some_iff.mp hf
      refine bs_call (o := pEN Ls xs (d + 1) 20 [.ref 3, .int x1, .int x2] (hp kp nh rh tl rl I L)) (w := some (.int q2)) (h' := hp kp nh rh tl rl I L) (pc := 28) (lo := [some (.ref 0), some (.int x1), some (.int x2)]) (rest := []) rfl (t_20 Ls xs (d + 0) kp tl rl nh rh x1 x2 I L q2 hq2) ?_
      cases hf
      exact bs_ret rfl
    · refine bs_st 1 (x' := (18, [some (.ref 0), some (.int x1), some (.int x2)], [.int (-2 : Int32)], hp kp nh rh tl rl I L)) rfl ?_
      cases hf
      exact bs_ret rfl
/-- LampRounds.hasHouse() on (0,) -/
def f_177 (I : FI) (L : FL) : Option (Int32) :=
  if I 3 0 ≤ 0 then
    some ((0 : Int32))
  else
    some ((1 : Int32))
set_option maxHeartbeats 1000000 in
theorem t_177 (Ls : Nat) (xs : Nat → Int32) (d : Nat) (kp : Option Nat) (tl : List (Nat × Nat)) (rl : List (List (Option Nat))) (nh : Option Nat) (rh : Option Nat) (I : FI) (L : FL) (r : Int32) (hf : f_177 I L = some r) : pEN Ls xs (d + 1) 177 [.ref 0] (hp kp nh rh tl rl I L) = some (some (.int r), hp kp nh rh tl rl I L) := by
  refine en_run (d := d + 0) (cd := cd_177) (f := (sf 11 rs_11 false 1 (some (.boolean)) Ls xs (d + 0))) rfl rfl (x := (0, [some (.ref 0)], [], hp kp nh rh tl rl I L)) rfl rfl (Nat.le_of_ble_eq_true rfl) ?_
  unfold f_177 at hf
  refine bs_st 3 (x' := (7, [some (.ref 0)], [.int (I 3 0)], hp kp nh rh tl rl I L)) rfl ?_
  refine bs_br (t := 14) (e := 10) (lo := [some (.ref 0)]) (st := []) (h := hp kp nh rh tl rl I L) rfl hf (fun hc hf => ?_) (fun hc hf => ?_)
  · refine bs_st 1 (x' := (15, [some (.ref 0)], [.int (0 : Int32)], hp kp nh rh tl rl I L)) rfl ?_
    cases hf
    exact bs_ret rfl
  · refine bs_st 2 (x' := (15, [some (.ref 0)], [.int (1 : Int32)], hp kp nh rh tl rl I L)) rfl ?_
    cases hf
    exact bs_ret rfl
/-- LampRounds.round(I) on (0,) -/
def f_120 (x1 : Int32) (I : FI) (L : FL) : Option (Int32) :=
  if x1 < 0 then
    some ((-2 : Int32))
  else
    (f_177 I L).bind fun q0 =>
    if ¬ q0 = 0 then
      if I 3 7 ≤ x1 then
        some ((-1 : Int32))
      else
        if pin x1 12 = true then some (I 10 x1.toNatClampNeg) else none
    else
      some ((-2 : Int32))
set_option maxHeartbeats 1000000 in
theorem t_120 (Ls : Nat) (xs : Nat → Int32) (d : Nat) (kp : Option Nat) (tl : List (Nat × Nat)) (rl : List (List (Option Nat))) (nh : Option Nat) (rh : Option Nat) (x1 : Int32) (I : FI) (L : FL) (r : Int32) (hf : f_120 x1 I L = some r) : pEN Ls xs (d + 2) 120 [.ref 0, .int x1] (hp kp nh rh tl rl I L) = some (some (.int r), hp kp nh rh tl rl I L) := by
  refine en_run (d := d + 1) (cd := cd_120) (f := (sf 11 rs_11 false 2 (some (.int)) Ls xs (d + 1))) rfl rfl (x := (0, [some (.ref 0), some (.int x1)], [], hp kp nh rh tl rl I L)) rfl rfl (Nat.le_of_ble_eq_true rfl) ?_
  unfold f_120 at hf
  refine bs_st 1 (x' := (1, [some (.ref 0), some (.int x1)], [.int x1], hp kp nh rh tl rl I L)) rfl ?_
  refine bs_br (t := 11) (e := 4) (lo := [some (.ref 0), some (.int x1)]) (st := []) (h := hp kp nh rh tl rl I L) rfl hf (fun hc hf => ?_) (fun hc hf => ?_)
  · refine bs_st 1 (x' := (13, [some (.ref 0), some (.int x1)], [.int (-2 : Int32)], hp kp nh rh tl rl I L)) rfl ?_
    cases hf
    exact bs_ret rfl
  · refine bs_st 1 (x' := (5, [some (.ref 0), some (.int x1)], [.ref 0], hp kp nh rh tl rl I L)) rfl ?_
    obtain ⟨q0, hq0, hf⟩ := Option.bind_eq_some_iff.mp hf
    refine bs_call (o := pEN Ls xs (d + 1) 177 [.ref 0] (hp kp nh rh tl rl I L)) (w := some (.int q0)) (h' := hp kp nh rh tl rl I L) (pc := 8) (lo := [some (.ref 0), some (.int x1)]) (rest := []) rfl (t_177 Ls xs (d + 0) kp tl rl nh rh I L q0 hq0) ?_
    refine bs_br (t := 14) (e := 11) (lo := [some (.ref 0), some (.int x1)]) (st := []) (h := hp kp nh rh tl rl I L) rfl hf (fun hc hf => ?_) (fun hc hf => ?_)
    · refine bs_st 4 (x' := (22, [some (.ref 0), some (.int x1)], [.int (I 3 7), .int x1], hp kp nh rh tl rl I L)) rfl ?_
      refine bs_br (t := 37) (e := 25) (lo := [some (.ref 0), some (.int x1)]) (st := []) (h := hp kp nh rh tl rl I L) rfl hf (fun hc hf => ?_) (fun hc hf => ?_)
      · refine bs_st 1 (x' := (38, [some (.ref 0), some (.int x1)], [.int (-1 : Int32)], hp kp nh rh tl rl I L)) rfl ?_
        cases hf
        exact bs_ret rfl
      · refine bs_st 4 (x' := (33, [some (.ref 0), some (.int x1)], [.int x1, .ref 10], hp kp nh rh tl rl I L)) rfl ?_
        refine bs_gd (x' := (34, [some (.ref 0), some (.int x1)], [.int (I 10 x1.toNatClampNeg)], hp kp nh rh tl rl I L)) rfl hf (fun hc hf => ?_)
        refine bs_st 1 (x' := (38, [some (.ref 0), some (.int x1)], [.int (I 10 x1.toNatClampNeg)], hp kp nh rh tl rl I L)) rfl ?_
        cases hf
        exact bs_ret rfl
    · refine bs_st 1 (x' := (13, [some (.ref 0), some (.int x1)], [.int (-2 : Int32)], hp kp nh rh tl rl I L)) rfl ?_
      cases hf
      exact bs_ret rfl
/-- LampRounds.isMode(I) on (0,) -/
def f_181 (x1 : Int32) (I : FI) (L : FL) : Option (Int32) :=
  (f_182 x1 I L).bind fun q0 =>
  if q0 = 0 then
    some ((0 : Int32))
  else
    (f_177 I L).bind fun q1 =>
    if q1 = 0 then
      some ((0 : Int32))
    else
      some ((1 : Int32))
set_option maxHeartbeats 1000000 in
theorem t_181 (Ls : Nat) (xs : Nat → Int32) (d : Nat) (kp : Option Nat) (tl : List (Nat × Nat)) (rl : List (List (Option Nat))) (nh : Option Nat) (rh : Option Nat) (x1 : Int32) (I : FI) (L : FL) (r : Int32) (hf : f_181 x1 I L = some r) : pEN Ls xs (d + 2) 181 [.ref 0, .int x1] (hp kp nh rh tl rl I L) = some (some (.int r), hp kp nh rh tl rl I L) := by
  refine en_run (d := d + 1) (cd := cd_181) (f := (sf 11 rs_11 false 2 (some (.boolean)) Ls xs (d + 1))) rfl rfl (x := (0, [some (.ref 0), some (.int x1)], [], hp kp nh rh tl rl I L)) rfl rfl (Nat.le_of_ble_eq_true rfl) ?_
  unfold f_181 at hf
  refine bs_st 1 (x' := (1, [some (.ref 0), some (.int x1)], [.int x1], hp kp nh rh tl rl I L)) rfl ?_
  obtain ⟨q0, hq0, hf⟩ := Option.bind_eq_some_iff.mp hf
  refine bs_call (o := pEN Ls xs (d + 1) 182 [.int x1] (hp kp nh rh tl rl I L)) (w := some (.int q0)) (h' := hp kp nh rh tl rl I L) (pc := 4) (lo := [some (.ref 0), some (.int x1)]) (rest := []) rfl (t_182 Ls xs (d + 0) kp tl rl nh rh x1 I L q0 hq0) ?_
  refine bs_br (t := 18) (e := 7) (lo := [some (.ref 0), some (.int x1)]) (st := []) (h := hp kp nh rh tl rl I L) rfl hf (fun hc hf => ?_) (fun hc hf => ?_)
  · refine bs_st 1 (x' := (19, [some (.ref 0), some (.int x1)], [.int (0 : Int32)], hp kp nh rh tl rl I L)) rfl ?_
    cases hf
    exact bs_ret rfl
  · refine bs_st 1 (x' := (8, [some (.ref 0), some (.int x1)], [.ref 0], hp kp nh rh tl rl I L)) rfl ?_
    obtain ⟨q1, hq1, hf⟩ := Option.bind_eq_some_iff.mp hf
    refine bs_call (o := pEN Ls xs (d + 1) 177 [.ref 0] (hp kp nh rh tl rl I L)) (w := some (.int q1)) (h' := hp kp nh rh tl rl I L) (pc := 11) (lo := [some (.ref 0), some (.int x1)]) (rest := []) rfl (t_177 Ls xs (d + 0) kp tl rl nh rh I L q1 hq1) ?_
    refine bs_br (t := 18) (e := 14) (lo := [some (.ref 0), some (.int x1)]) (st := []) (h := hp kp nh rh tl rl I L) rfl hf (fun hc hf => ?_) (fun hc hf => ?_)
    · refine bs_st 1 (x' := (19, [some (.ref 0), some (.int x1)], [.int (0 : Int32)], hp kp nh rh tl rl I L)) rfl ?_
      cases hf
      exact bs_ret rfl
    · refine bs_st 2 (x' := (19, [some (.ref 0), some (.int x1)], [.int (1 : Int32)], hp kp nh rh tl rl I L)) rfl ?_
      cases hf
      exact bs_ret rfl
/-- LampRounds.isMinute(I) on (0,) -/
def f_180 (x1 : Int32) (I : FI) (L : FL) : Option (Int32) :=
  if x1 < 0 then
    some ((0 : Int32))
  else
    if I 3 3 ≤ x1 then
      some ((0 : Int32))
    else
      some ((1 : Int32))
set_option maxHeartbeats 1000000 in
theorem t_180 (Ls : Nat) (xs : Nat → Int32) (d : Nat) (kp : Option Nat) (tl : List (Nat × Nat)) (rl : List (List (Option Nat))) (nh : Option Nat) (rh : Option Nat) (x1 : Int32) (I : FI) (L : FL) (r : Int32) (hf : f_180 x1 I L = some r) : pEN Ls xs (d + 1) 180 [.ref 0, .int x1] (hp kp nh rh tl rl I L) = some (some (.int r), hp kp nh rh tl rl I L) := by
  refine en_run (d := d + 0) (cd := cd_180) (f := (sf 11 rs_11 false 2 (some (.boolean)) Ls xs (d + 0))) rfl rfl (x := (0, [some (.ref 0), some (.int x1)], [], hp kp nh rh tl rl I L)) rfl rfl (Nat.le_of_ble_eq_true rfl) ?_
  unfold f_180 at hf
  refine bs_st 1 (x' := (1, [some (.ref 0), some (.int x1)], [.int x1], hp kp nh rh tl rl I L)) rfl ?_
  refine bs_br (t := 19) (e := 4) (lo := [some (.ref 0), some (.int x1)]) (st := []) (h := hp kp nh rh tl rl I L) rfl hf (fun hc hf => ?_) (fun hc hf => ?_)
  · refine bs_st 1 (x' := (20, [some (.ref 0), some (.int x1)], [.int (0 : Int32)], hp kp nh rh tl rl I L)) rfl ?_
    cases hf
    exact bs_ret rfl
  · refine bs_st 4 (x' := (12, [some (.ref 0), some (.int x1)], [.int (I 3 3), .int x1], hp kp nh rh tl rl I L)) rfl ?_
    refine bs_br (t := 19) (e := 15) (lo := [some (.ref 0), some (.int x1)]) (st := []) (h := hp kp nh rh tl rl I L) rfl hf (fun hc hf => ?_) (fun hc hf => ?_)
    · refine bs_st 1 (x' := (20, [some (.ref 0), some (.int x1)], [.int (0 : Int32)], hp kp nh rh tl rl I L)) rfl ?_
      cases hf
      exact bs_ret rfl
    · refine bs_st 2 (x' := (20, [some (.ref 0), some (.int x1)], [.int (1 : Int32)], hp kp nh rh tl rl I L)) rfl ?_
      cases hf
      exact bs_ret rfl
/-- Night.prepare(LLampRounds$House;LLampRounds$Acts;I) on (26, 3, 11) -/
def c_53_3 (n : Nat) (K2 : Int32 → FI → FL → Option (FI × FL)) (x4 : Int32) (I : FI) (L : FL) : Option (FI × FL) :=
  K2 (x4 + (1 : Int32)) I L
set_option maxHeartbeats 1000000 in
theorem tc_53_3 (Ls : Nat) (xs : Nat → Int32) (d : Nat) (kp : Option Nat) (tl : List (Nat × Nat)) (rl : List (List (Option Nat))) (nh : Option Nat) (rh : Option Nat) (n : Nat) (K2 : Int32 → FI → FL → Option (FI × FL)) (hK2 : ∀ (w1 : Option Value) (w3 : Option Value) (x4 : Int32) (I : FI) (L : FL) (r : FI × FL), K2 x4 I L = some r → Bs cd_53 (sf 6 rs_6 false 5 none Ls xs (d + 0)) (136, [some (.ref 26), w1, some (.ref 11), w3, some (.int x4)], [], hp kp (some 3) rh tl rl I L) (none, hp kp (some 3) rh tl rl r.1 r.2)) (w1 : Option Value) (w3 : Option Value) (x4 : Int32) (I : FI) (L : FL) (r : FI × FL) (hf : c_53_3 n K2 x4 I L = some r) : Bs cd_53 (sf 6 rs_6 false 5 none Ls xs (d + 0)) (201, [some (.ref 26), w1, some (.ref 11), w3, some (.int x4)], [], hp kp (some 3) rh tl rl I L) (none, hp kp (some 3) rh tl rl r.1 r.2) := by
  unfold c_53_3 at hf
  refine bs_st 2 (x' := (136, [some (.ref 26), w1, some (.ref 11), (pcl w3), some (.int (x4 + (1 : Int32)))], [], hp kp (some 3) rh tl rl I L)) rfl ?_
  exact hK2 w1 (pcl w3) (x4 + (1 : Int32)) I L r hf
def b_53_2 (n : Nat) (K2 : Int32 → FI → FL → Option (FI × FL)) (x4 : Int32) (I : FI) (L : FL) : Option (FI × FL) :=
  if I 11 2 ≤ x4 then
    some (I, L)
  else
    if pin x4 30 = true then (if ¬ I 12 x4.toNatClampNeg = (-1 : Int32) then
        if pin x4 30 = true then (if pin (I 13 x4.toNatClampNeg) 30 = true then (if pin x4 30 = true then (if pin (I 13 x4.toNatClampNeg) 30 = true then c_53_3 n K2 x4 (u2 I 28 ((I 13 x4.toNatClampNeg).toNatClampNeg) ((I 28 ((I 13 x4.toNatClampNeg).toNatClampNeg)) ||| ((1 : Int32) <<< ((I 12 x4.toNatClampNeg) &&& 31)))) L else none) else none) else none) else none
      else
        if pin x4 30 = true then c_53_3 n K2 x4 (u2 I 26 9 ((I 26 9) ||| ((1 : Int32) <<< ((I 13 x4.toNatClampNeg) &&& 31)))) L else none) else none
def c_53_2 (n : Nat) : Nat → Int32 → FI → FL → Option (FI × FL)
  | 0, _, _, _ => none
  | m + 1, x4, I, L => b_53_2 n (c_53_2 n m) x4 I L
set_option maxHeartbeats 1000000 in
theorem tc_53_2 (Ls : Nat) (xs : Nat → Int32) (d : Nat) (kp : Option Nat) (tl : List (Nat × Nat)) (rl : List (List (Option Nat))) (nh : Option Nat) (rh : Option Nat) (n : Nat) : ∀ (m : Nat) (w1 : Option Value) (w3 : Option Value) (x4 : Int32) (I : FI) (L : FL) (r : FI × FL), c_53_2 n m x4 I L = some r → Bs cd_53 (sf 6 rs_6 false 5 none Ls xs (d + 0)) (136, [some (.ref 26), w1, some (.ref 11), w3, some (.int x4)], [], hp kp (some 3) rh tl rl I L) (none, hp kp (some 3) rh tl rl r.1 r.2)
  | 0, w1, w3, x4, I, L, r, hf => by cases hf
  | m + 1, w1, w3, x4, I, L, r, hf => by
    unfold c_53_2 b_53_2 at hf
    have hK2 := tc_53_2 Ls xs d kp tl rl nh rh n m
    refine bs_st 3 (x' := (142, [some (.ref 26), w1, some (.ref 11), w3, some (.int x4)], [.int (I 11 2), .int x4], hp kp (some 3) rh tl rl I L)) rfl ?_
    refine bs_br (t := 207) (e := 145) (lo := [some (.ref 26), w1, some (.ref 11), w3, some (.int x4)]) (st := []) (h := hp kp (some 3) rh tl rl I L) rfl hf (fun hc hf => ?_) (fun hc hf => ?_)
    · cases hf
      exact bs_ret rfl
    · refine bs_st 3 (x' := (151, [some (.ref 26), w1, some (.ref 11), w3, some (.int x4)], [.int x4, .ref 12], hp kp (some 3) rh tl rl I L)) rfl ?_
      refine bs_gd (x' := (152, [some (.ref 26), w1, some (.ref 11), w3, some (.int x4)], [.int (I 12 x4.toNatClampNeg)], hp kp (some 3) rh tl rl I L)) rfl hf (fun hc hf => ?_)
      refine bs_st 1 (x' := (153, [some (.ref 26), w1, some (.ref 11), w3, some (.int x4)], [.int (-1 : Int32), .int (I 12 x4.toNatClampNeg)], hp kp (some 3) rh tl rl I L)) rfl ?_
      refine bs_br (t := 177) (e := 156) (lo := [some (.ref 26), w1, some (.ref 11), w3, some (.int x4)]) (st := []) (h := hp kp (some 3) rh tl rl I L) rfl hf (fun hc hf => ?_) (fun hc hf => ?_)
      · refine bs_st 5 (x' := (187, [some (.ref 26), w1, some (.ref 11), w3, some (.int x4)], [.int x4, .ref 13, .ref 28], hp kp (some 3) rh tl rl I L)) rfl ?_
        refine bs_gd (x' := (188, [some (.ref 26), w1, some (.ref 11), w3, some (.int x4)], [.int (I 13 x4.toNatClampNeg), .ref 28], hp kp (some 3) rh tl rl I L)) rfl hf (fun hc hf => ?_)
        refine bs_st 1 (x' := (189, [some (.ref 26), w1, some (.ref 11), w3, some (.int x4)], [.int (I 13 x4.toNatClampNeg), .ref 28, .int (I 13 x4.toNatClampNeg), .ref 28], hp kp (some 3) rh tl rl I L)) rfl ?_
        refine bs_gd (x' := (190, [some (.ref 26), w1, some (.ref 11), w3, some (.int x4)], [.int (I 28 ((I 13 x4.toNatClampNeg).toNatClampNeg)), .int (I 13 x4.toNatClampNeg), .ref 28], hp kp (some 3) rh tl rl I L)) rfl hf (fun hc hf => ?_)
        refine bs_st 4 (x' := (197, [some (.ref 26), w1, some (.ref 11), w3, some (.int x4)], [.int x4, .ref 12, .int (1 : Int32), .int (I 28 ((I 13 x4.toNatClampNeg).toNatClampNeg)), .int (I 13 x4.toNatClampNeg), .ref 28], hp kp (some 3) rh tl rl I L)) rfl ?_
        refine bs_gd (x' := (198, [some (.ref 26), w1, some (.ref 11), w3, some (.int x4)], [.int (I 12 x4.toNatClampNeg), .int (1 : Int32), .int (I 28 ((I 13 x4.toNatClampNeg).toNatClampNeg)), .int (I 13 x4.toNatClampNeg), .ref 28], hp kp (some 3) rh tl rl I L)) rfl hf (fun hc hf => ?_)
        refine bs_st 2 (x' := (200, [some (.ref 26), w1, some (.ref 11), w3, some (.int x4)], [.int ((I 28 ((I 13 x4.toNatClampNeg).toNatClampNeg)) ||| ((1 : Int32) <<< ((I 12 x4.toNatClampNeg) &&& 31))), .int (I 13 x4.toNatClampNeg), .ref 28], hp kp (some 3) rh tl rl I L)) rfl ?_
        refine bs_gd (x' := (201, [some (.ref 26), w1, some (.ref 11), w3, some (.int x4)], [], hp kp (some 3) rh tl rl (u2 I 28 ((I 13 x4.toNatClampNeg).toNatClampNeg) ((I 28 ((I 13 x4.toNatClampNeg).toNatClampNeg)) ||| ((1 : Int32) <<< ((I 12 x4.toNatClampNeg) &&& 31)))) L)) rfl hf (fun hc hf => ?_)
        exact tc_53_3 Ls xs d kp tl rl nh rh n _ hK2 w1 w3 x4 (u2 I 28 ((I 13 x4.toNatClampNeg).toNatClampNeg) ((I 28 ((I 13 x4.toNatClampNeg).toNatClampNeg)) ||| ((1 : Int32) <<< ((I 12 x4.toNatClampNeg) &&& 31)))) L r hf
      · refine bs_st 7 (x' := (168, [some (.ref 26), w1, some (.ref 11), w3, some (.int x4)], [.int x4, .ref 13, .int (1 : Int32), .int (I 26 9), .ref 26], hp kp (some 3) rh tl rl I L)) rfl ?_
        refine bs_gd (x' := (169, [some (.ref 26), w1, some (.ref 11), w3, some (.int x4)], [.int (I 13 x4.toNatClampNeg), .int (1 : Int32), .int (I 26 9), .ref 26], hp kp (some 3) rh tl rl I L)) rfl hf (fun hc hf => ?_)
        refine bs_st 4 (x' := (201, [some (.ref 26), w1, some (.ref 11), w3, some (.int x4)], [], hp kp (some 3) rh tl rl (u2 I 26 9 ((I 26 9) ||| ((1 : Int32) <<< ((I 13 x4.toNatClampNeg) &&& 31)))) L)) rfl ?_
        exact tc_53_3 Ls xs d kp tl rl nh rh n _ hK2 w1 w3 x4 (u2 I 26 9 ((I 26 9) ||| ((1 : Int32) <<< ((I 13 x4.toNatClampNeg) &&& 31)))) L r hf
def c_53_4 (n : Nat) (K1 : Int32 → Int32 → FI → FL → Option (FI × FL)) (x3 : Int32) (x4 : Int32) (I : FI) (L : FL) : Option (FI × FL) :=
  K1 x3 (x4 + (1 : Int32)) I L
set_option maxHeartbeats 1000000 in
theorem tc_53_4 (Ls : Nat) (xs : Nat → Int32) (d : Nat) (kp : Option Nat) (tl : List (Nat × Nat)) (rl : List (List (Option Nat))) (nh : Option Nat) (rh : Option Nat) (n : Nat) (K1 : Int32 → Int32 → FI → FL → Option (FI × FL)) (hK1 : ∀ (x3 : Int32) (x4 : Int32) (I : FI) (L : FL) (r : FI × FL), K1 x3 x4 I L = some r → Bs cd_53 (sf 6 rs_6 false 5 none Ls xs (d + 0)) (85, [some (.ref 26), some (.ref 3), some (.ref 11), some (.int x3), some (.int x4)], [], hp kp (some 3) rh tl rl I L) (none, hp kp (some 3) rh tl rl r.1 r.2)) (x3 : Int32) (x4 : Int32) (I : FI) (L : FL) (r : FI × FL) (hf : c_53_4 n K1 x3 x4 I L = some r) : Bs cd_53 (sf 6 rs_6 false 5 none Ls xs (d + 0)) (127, [some (.ref 26), some (.ref 3), some (.ref 11), some (.int x3), some (.int x4)], [], hp kp (some 3) rh tl rl I L) (none, hp kp (some 3) rh tl rl r.1 r.2) := by
  unfold c_53_4 at hf
  refine bs_st 2 (x' := (85, [some (.ref 26), some (.ref 3), some (.ref 11), some (.int x3), some (.int (x4 + (1 : Int32)))], [], hp kp (some 3) rh tl rl I L)) rfl ?_
  exact hK1 x3 (x4 + (1 : Int32)) I L r hf
def b_53_1 (n : Nat) (K1 : Int32 → Int32 → FI → FL → Option (FI × FL)) (x3 : Int32) (x4 : Int32) (I : FI) (L : FL) : Option (FI × FL) :=
  if I 3 6 ≤ x4 then
    c_53_2 n n (0 : Int32) I L
  else
    if ((x3 >>> (x4 &&& 31)) &&& (1 : Int32)) = 0 then
      c_53_4 n K1 x3 x4 I L
    else
      if pin x4 5 = true then (if pin (I 9 x4.toNatClampNeg) 30 = true then (if pin x4 5 = true then (if pin (I 9 x4.toNatClampNeg) 30 = true then c_53_4 n K1 x3 x4 (u2 I 28 ((I 9 x4.toNatClampNeg).toNatClampNeg) ((I 28 ((I 9 x4.toNatClampNeg).toNatClampNeg)) ||| ((1 : Int32) <<< ((I 8 x4.toNatClampNeg) &&& 31)))) L else none) else none) else none) else none
def c_53_1 (n : Nat) : Nat → Int32 → Int32 → FI → FL → Option (FI × FL)
  | 0, _, _, _, _ => none
  | m + 1, x3, x4, I, L => b_53_1 n (c_53_1 n m) x3 x4 I L
set_option maxHeartbeats 1000000 in
theorem tc_53_1 (Ls : Nat) (xs : Nat → Int32) (d : Nat) (kp : Option Nat) (tl : List (Nat × Nat)) (rl : List (List (Option Nat))) (nh : Option Nat) (rh : Option Nat) (n : Nat) : ∀ (m : Nat) (x3 : Int32) (x4 : Int32) (I : FI) (L : FL) (r : FI × FL), c_53_1 n m x3 x4 I L = some r → Bs cd_53 (sf 6 rs_6 false 5 none Ls xs (d + 0)) (85, [some (.ref 26), some (.ref 3), some (.ref 11), some (.int x3), some (.int x4)], [], hp kp (some 3) rh tl rl I L) (none, hp kp (some 3) rh tl rl r.1 r.2)
  | 0, x3, x4, I, L, r, hf => by cases hf
  | m + 1, x3, x4, I, L, r, hf => by
    unfold c_53_1 b_53_1 at hf
    have hK1 := tc_53_1 Ls xs d kp tl rl nh rh n m
    refine bs_st 3 (x' := (91, [some (.ref 26), some (.ref 3), some (.ref 11), some (.int x3), some (.int x4)], [.int (I 3 6), .int x4], hp kp (some 3) rh tl rl I L)) rfl ?_
    refine bs_br (t := 133) (e := 94) (lo := [some (.ref 26), some (.ref 3), some (.ref 11), some (.int x3), some (.int x4)]) (st := []) (h := hp kp (some 3) rh tl rl I L) rfl hf (fun hc hf => ?_) (fun hc hf => ?_)
    · refine bs_st 2 (x' := (136, [some (.ref 26), some (.ref 3), some (.ref 11), some (.int x3), some (.int (0 : Int32))], [], hp kp (some 3) rh tl rl I L)) rfl ?_
      exact tc_53_2 Ls xs d kp tl rl nh rh n n (some (.ref 3)) (some (.int x3)) (0 : Int32) I L r hf
    · refine bs_st 5 (x' := (100, [some (.ref 26), some (.ref 3), some (.ref 11), some (.int x3), some (.int x4)], [.int ((x3 >>> (x4 &&& 31)) &&& (1 : Int32))], hp kp (some 3) rh tl rl I L)) rfl ?_
      refine bs_br (t := 127) (e := 103) (lo := [some (.ref 26), some (.ref 3), some (.ref 11), some (.int x3), some (.int x4)]) (st := []) (h := hp kp (some 3) rh tl rl I L) rfl hf (fun hc hf => ?_) (fun hc hf => ?_)
      · exact tc_53_4 Ls xs d kp tl rl nh rh n _ hK1 x3 x4 I L r hf
      · refine bs_st 5 (x' := (113, [some (.ref 26), some (.ref 3), some (.ref 11), some (.int x3), some (.int x4)], [.int x4, .ref 9, .ref 28], hp kp (some 3) rh tl rl I L)) rfl ?_
        refine bs_gd (x' := (114, [some (.ref 26), some (.ref 3), some (.ref 11), some (.int x3), some (.int x4)], [.int (I 9 x4.toNatClampNeg), .ref 28], hp kp (some 3) rh tl rl I L)) rfl hf (fun hc hf => ?_)
        refine bs_st 1 (x' := (115, [some (.ref 26), some (.ref 3), some (.ref 11), some (.int x3), some (.int x4)], [.int (I 9 x4.toNatClampNeg), .ref 28, .int (I 9 x4.toNatClampNeg), .ref 28], hp kp (some 3) rh tl rl I L)) rfl ?_
        refine bs_gd (x' := (116, [some (.ref 26), some (.ref 3), some (.ref 11), some (.int x3), some (.int x4)], [.int (I 28 ((I 9 x4.toNatClampNeg).toNatClampNeg)), .int (I 9 x4.toNatClampNeg), .ref 28], hp kp (some 3) rh tl rl I L)) rfl hf (fun hc hf => ?_)
        refine bs_st 4 (x' := (123, [some (.ref 26), some (.ref 3), some (.ref 11), some (.int x3), some (.int x4)], [.int x4, .ref 8, .int (1 : Int32), .int (I 28 ((I 9 x4.toNatClampNeg).toNatClampNeg)), .int (I 9 x4.toNatClampNeg), .ref 28], hp kp (some 3) rh tl rl I L)) rfl ?_
        refine bs_gd (x' := (124, [some (.ref 26), some (.ref 3), some (.ref 11), some (.int x3), some (.int x4)], [.int (I 8 x4.toNatClampNeg), .int (1 : Int32), .int (I 28 ((I 9 x4.toNatClampNeg).toNatClampNeg)), .int (I 9 x4.toNatClampNeg), .ref 28], hp kp (some 3) rh tl rl I L)) rfl hf (fun hc hf => ?_)
        refine bs_st 2 (x' := (126, [some (.ref 26), some (.ref 3), some (.ref 11), some (.int x3), some (.int x4)], [.int ((I 28 ((I 9 x4.toNatClampNeg).toNatClampNeg)) ||| ((1 : Int32) <<< ((I 8 x4.toNatClampNeg) &&& 31))), .int (I 9 x4.toNatClampNeg), .ref 28], hp kp (some 3) rh tl rl I L)) rfl ?_
        refine bs_gd (x' := (127, [some (.ref 26), some (.ref 3), some (.ref 11), some (.int x3), some (.int x4)], [], hp kp (some 3) rh tl rl (u2 I 28 ((I 9 x4.toNatClampNeg).toNatClampNeg) ((I 28 ((I 9 x4.toNatClampNeg).toNatClampNeg)) ||| ((1 : Int32) <<< ((I 8 x4.toNatClampNeg) &&& 31)))) L)) rfl hf (fun hc hf => ?_)
        exact tc_53_4 Ls xs d kp tl rl nh rh n _ hK1 x3 x4 (u2 I 28 ((I 9 x4.toNatClampNeg).toNatClampNeg) ((I 28 ((I 9 x4.toNatClampNeg).toNatClampNeg)) ||| ((1 : Int32) <<< ((I 8 x4.toNatClampNeg) &&& 31)))) L r hf
def b_53_0 (n : Nat) (K0 : Int32 → Int32 → FI → FL → Option (FI × FL)) (x3 : Int32) (x4 : Int32) (I : FI) (L : FL) : Option (FI × FL) :=
  if (30 : Int32) ≤ x4 then
    c_53_1 n n x3 (0 : Int32) I L
  else
    if pin x4 30 = true then K0 x3 (x4 + (1 : Int32)) (u2 I 28 x4.toNatClampNeg (0 : Int32)) L else none
def c_53_0 (n : Nat) : Nat → Int32 → Int32 → FI → FL → Option (FI × FL)
  | 0, _, _, _, _ => none
  | m + 1, x3, x4, I, L => b_53_0 n (c_53_0 n m) x3 x4 I L
set_option maxHeartbeats 1000000 in
theorem tc_53_0 (Ls : Nat) (xs : Nat → Int32) (d : Nat) (kp : Option Nat) (tl : List (Nat × Nat)) (rl : List (List (Option Nat))) (nh : Option Nat) (rh : Option Nat) (n : Nat) : ∀ (m : Nat) (x3 : Int32) (x4 : Int32) (I : FI) (L : FL) (r : FI × FL), c_53_0 n m x3 x4 I L = some r → Bs cd_53 (sf 6 rs_6 false 5 none Ls xs (d + 0)) (61, [some (.ref 26), some (.ref 3), some (.ref 11), some (.int x3), some (.int x4)], [], hp kp (some 3) rh tl rl I L) (none, hp kp (some 3) rh tl rl r.1 r.2)
  | 0, x3, x4, I, L, r, hf => by cases hf
  | m + 1, x3, x4, I, L, r, hf => by
    unfold c_53_0 b_53_0 at hf
    have hK0 := tc_53_0 Ls xs d kp tl rl nh rh n m
    refine bs_st 2 (x' := (65, [some (.ref 26), some (.ref 3), some (.ref 11), some (.int x3), some (.int x4)], [.int (30 : Int32), .int x4], hp kp (some 3) rh tl rl I L)) rfl ?_
    refine bs_br (t := 82) (e := 68) (lo := [some (.ref 26), some (.ref 3), some (.ref 11), some (.int x3), some (.int x4)]) (st := []) (h := hp kp (some 3) rh tl rl I L) rfl hf (fun hc hf => ?_) (fun hc hf => ?_)
    · refine bs_st 2 (x' := (85, [some (.ref 26), some (.ref 3), some (.ref 11), some (.int x3), some (.int (0 : Int32))], [], hp kp (some 3) rh tl rl I L)) rfl ?_
      exact tc_53_1 Ls xs d kp tl rl nh rh n n x3 (0 : Int32) I L r hf
    · refine bs_st 4 (x' := (75, [some (.ref 26), some (.ref 3), some (.ref 11), some (.int x3), some (.int x4)], [.int (0 : Int32), .int x4, .ref 28], hp kp (some 3) rh tl rl I L)) rfl ?_
      refine bs_gd (x' := (76, [some (.ref 26), some (.ref 3), some (.ref 11), some (.int x3), some (.int x4)], [], hp kp (some 3) rh tl rl (u2 I 28 x4.toNatClampNeg (0 : Int32)) L)) rfl hf (fun hc hf => ?_)
      refine bs_st 2 (x' := (61, [some (.ref 26), some (.ref 3), some (.ref 11), some (.int x3), some (.int (x4 + (1 : Int32)))], [], hp kp (some 3) rh tl rl (u2 I 28 x4.toNatClampNeg (0 : Int32)) L)) rfl ?_
      exact hK0 x3 (x4 + (1 : Int32)) (u2 I 28 x4.toNatClampNeg (0 : Int32)) L r hf
def f_53 (n : Nat) (x3 : Int32) (I : FI) (L : FL) : Option (FI × FL) :=
  c_53_0 n n x3 (0 : Int32) (c2 (u2 (u2 (u2 (u2 (u2 (u2 I 26 10 (I 3 4)) 26 11 (I 3 3)) 26 6 (I 3 1)) 26 7 (0 : Int32)) 26 8 (0 : Int32)) 26 9 (0 : Int32)) 4 27 0 0 4) L
set_option maxHeartbeats 1000000 in
theorem t_53 (Ls : Nat) (xs : Nat → Int32) (d : Nat) (kp : Option Nat) (tl : List (Nat × Nat)) (rl : List (List (Option Nat))) (nh : Option Nat) (rh : Option Nat) (n : Nat) (x3 : Int32) (I : FI) (L : FL) (r : FI × FL) (hf : f_53 n x3 I L = some r) : pEN Ls xs (d + 1) 53 [.ref 26, .ref 3, .ref 11, .int x3] (hp kp nh rh tl rl I L) = some (none, hp kp (some 3) rh tl rl r.1 r.2) := by
  refine en_run (d := d + 0) (cd := cd_53) (f := (sf 6 rs_6 false 5 none Ls xs (d + 0))) rfl rfl (x := (0, [some (.ref 26), some (.ref 3), some (.ref 11), some (.int x3), none], [], hp kp nh rh tl rl I L)) rfl rfl (Nat.le_of_ble_eq_true rfl) ?_
  unfold f_53 at hf
  refine bs_st 2 (x' := (2, [some (.ref 26), some (.ref 3), some (.ref 11), some (.int x3), none], [.ref 3, .ref 26], hp kp nh rh tl rl I L)) rfl ?_
  refine bs_pr_nh rfl ?_
  refine bs_st 24 (x' := (49, [some (.ref 26), some (.ref 3), some (.ref 11), some (.int x3), none], [.int (0 : Int32), .ref 4], hp kp (some 3) rh tl rl (u2 (u2 (u2 (u2 (u2 (u2 I 26 10 (I 3 4)) 26 11 (I 3 3)) 26 6 (I 3 1)) 26 7 (0 : Int32)) 26 8 (0 : Int32)) 26 9 (0 : Int32)) L)) rfl ?_
  refine bs_st 7 (x' := (61, [some (.ref 26), some (.ref 3), some (.ref 11), some (.int x3), some (.int (0 : Int32))], [], hp kp (some 3) rh tl rl (c2 (u2 (u2 (u2 (u2 (u2 (u2 I 26 10 (I 3 4)) 26 11 (I 3 3)) 26 6 (I 3 1)) 26 7 (0 : Int32)) 26 8 (0 : Int32)) 26 9 (0 : Int32)) 4 27 0 0 4) L)) rfl ?_
  exact tc_53_0 Ls xs d kp tl rl nh rh n n x3 (0 : Int32) (c2 (u2 (u2 (u2 (u2 (u2 (u2 I 26 10 (I 3 4)) 26 11 (I 3 3)) 26 6 (I 3 1)) 26 7 (0 : Int32)) 26 8 (0 : Int32)) 26 9 (0 : Int32)) 4 27 0 0 4) L r hf
/-- House.canGo(II) on (3,) -/
def f_21 (x1 : Int32) (x2 : Int32) (I : FI) (L : FL) : Option (Int32) :=
  if x1 = x2 then
    some ((1 : Int32))
  else
    if pin x1 4 = true then (if (((I 6 x1.toNatClampNeg) >>> (x2 &&& 31)) &&& (1 : Int32)) = 0 then
        some ((0 : Int32))
      else
        some ((1 : Int32))) else none
set_option maxHeartbeats 1000000 in
theorem t_21 (Ls : Nat) (xs : Nat → Int32) (d : Nat) (kp : Option Nat) (tl : List (Nat × Nat)) (rl : List (List (Option Nat))) (rh : Option Nat) (x1 : Int32) (x2 : Int32) (I : FI) (L : FL) (r : Int32) (hf : f_21 x1 x2 I L = some r) : pEN Ls xs (d + 1) 21 [.ref 3, .int x1, .int x2] (hp kp (some 3) rh tl rl I L) = some (some (.int r), hp kp (some 3) rh tl rl I L) := by
  refine en_run (d := d + 0) (cd := cd_21) (f := (sf 3 rs_3 false 3 (some (.boolean)) Ls xs (d + 0))) rfl rfl (x := (0, [some (.ref 3), some (.int x1), some (.int x2)], [], hp kp (some 3) rh tl rl I L)) rfl rfl (Nat.le_of_ble_eq_true rfl) ?_
  unfold f_21 at hf
  refine bs_st 2 (x' := (2, [some (.ref 3), some (.int x1), some (.int x2)], [.int x2, .int x1], hp kp (some 3) rh tl rl I L)) rfl ?_
  refine bs_br (t := 18) (e := 5) (lo := [some (.ref 3), some (.int x1), some (.int x2)]) (st := []) (h := hp kp (some 3) rh tl rl I L) rfl hf (fun hc hf => ?_) (fun hc hf => ?_)
  · refine bs_st 2 (x' := (23, [some (.ref 3), some (.int x1), some (.int x2)], [.int (1 : Int32)], hp kp (some 3) rh tl rl I L)) rfl ?_
    cases hf
    exact bs_ret rfl
  · refine bs_st 3 (x' := (10, [some (.ref 3), some (.int x1), some (.int x2)], [.int x1, .ref 6], hp kp (some 3) rh tl rl I L)) rfl ?_
    refine bs_gd (x' := (11, [some (.ref 3), some (.int x1), some (.int x2)], [.int (I 6 x1.toNatClampNeg)], hp kp (some 3) rh tl rl I L)) rfl hf (fun hc hf => ?_)
    refine bs_st 4 (x' := (15, [some (.ref 3), some (.int x1), some (.int x2)], [.int (((I 6 x1.toNatClampNeg) >>> (x2 &&& 31)) &&& (1 : Int32))], hp kp (some 3) rh tl rl I L)) rfl ?_
    refine bs_br (t := 22) (e := 18) (lo := [some (.ref 3), some (.int x1), some (.int x2)]) (st := []) (h := hp kp (some 3) rh tl rl I L) rfl hf (fun hc hf => ?_) (fun hc hf => ?_)
    · refine bs_st 1 (x' := (23, [some (.ref 3), some (.int x1), some (.int x2)], [.int (0 : Int32)], hp kp (some 3) rh tl rl I L)) rfl ?_
      cases hf
      exact bs_ret rfl
    · refine bs_st 2 (x' := (23, [some (.ref 3), some (.int x1), some (.int x2)], [.int (1 : Int32)], hp kp (some 3) rh tl rl I L)) rfl ?_
      cases hf
      exact bs_ret rfl
/-- Night.ageOf(II) on (26,) -/
def f_60 (x1 : Int32) (x2 : Int32) (I : FI) (L : FL) : Option (Int32) :=
  if pin ((x2 * (4 : Int32)) + x1) 120 = true then some (I 31 (((x2 * (4 : Int32)) + x1).toNatClampNeg)) else none
set_option maxHeartbeats 1000000 in
theorem t_60 (Ls : Nat) (xs : Nat → Int32) (d : Nat) (kp : Option Nat) (tl : List (Nat × Nat)) (rl : List (List (Option Nat))) (rh : Option Nat) (x1 : Int32) (x2 : Int32) (I : FI) (L : FL) (r : Int32) (hf : f_60 x1 x2 I L = some r) : pEN Ls xs (d + 1) 60 [.ref 26, .int x1, .int x2] (hp kp (some 3) rh tl rl I L) = some (some (.int r), hp kp (some 3) rh tl rl I L) := by
  refine en_run (d := d + 0) (cd := cd_60) (f := (sf 6 rs_6 false 3 (some (.int)) Ls xs (d + 0))) rfl rfl (x := (0, [some (.ref 26), some (.int x1), some (.int x2)], [], hp kp (some 3) rh tl rl I L)) rfl rfl (Nat.le_of_ble_eq_true rfl) ?_
  unfold f_60 at hf
  refine bs_st 7 (x' := (9, [some (.ref 26), some (.int x1), some (.int x2)], [.int ((x2 * (4 : Int32)) + x1), .ref 31], hp kp (some 3) rh tl rl I L)) rfl ?_
  refine bs_gd (x' := (10, [some (.ref 26), some (.int x1), some (.int x2)], [.int (I 31 (((x2 * (4 : Int32)) + x1).toNatClampNeg))], hp kp (some 3) rh tl rl I L)) rfl hf (fun hc hf => ?_)
  cases hf
  exact bs_ret rfl
/-- Night.patience(II) on (26,) -/
def f_61 (x1 : Int32) (x2 : Int32) (I : FI) (L : FL) : Option (Int32) :=
  (f_60 x1 x2 I L).bind fun q0 =>
  if ¬ q0 = (99 : Int32) then
    if pin x1 4 = true then some (((I 27 x1.toNatClampNeg) - q0)) else none
  else
    some ((-1 : Int32))
set_option maxHeartbeats 1000000 in
theorem t_61 (Ls : Nat) (xs : Nat → Int32) (d : Nat) (kp : Option Nat) (tl : List (Nat × Nat)) (rl : List (List (Option Nat))) (rh : Option Nat) (x1 : Int32) (x2 : Int32) (I : FI) (L : FL) (r : Int32) (hf : f_61 x1 x2 I L = some r) : pEN Ls xs (d + 2) 61 [.ref 26, .int x1, .int x2] (hp kp (some 3) rh tl rl I L) = some (some (.int r), hp kp (some 3) rh tl rl I L) := by
  refine en_run (d := d + 1) (cd := cd_61) (f := (sf 6 rs_6 false 4 (some (.int)) Ls xs (d + 1))) rfl rfl (x := (0, [some (.ref 26), some (.int x1), some (.int x2), none], [], hp kp (some 3) rh tl rl I L)) rfl rfl (Nat.le_of_ble_eq_true rfl) ?_
  unfold f_61 at hf
  refine bs_st 3 (x' := (3, [some (.ref 26), some (.int x1), some (.int x2), none], [.int x2, .int x1, .ref 26], hp kp (some 3) rh tl rl I L)) rfl ?_
  obtain ⟨q0, hq0, hf⟩ := Option.bind_eq_some_iff.mp hf
  refine bs_call (o := pEN Ls xs (d + 1) 60 [.ref 26, .int x1, .int x2] (hp kp (some 3) rh tl rl I L)) (w := some (.int q0)) (h' := hp kp (some 3) rh tl rl I L) (pc := 6) (lo := [some (.ref 26), some (.int x1), some (.int x2), none]) (rest := []) rfl (t_60 Ls xs (d + 0) kp tl rl rh x1 x2 I L q0 hq0) ?_
  refine bs_st 3 (x' := (10, [some (.ref 26), some (.int x1), some (.int x2), some (.int q0)], [.int (99 : Int32), .int q0], hp kp (some 3) rh tl rl I L)) rfl ?_
  refine bs_br (t := 17) (e := 13) (lo := [some (.ref 26), some (.int x1), some (.int x2), some (.int q0)]) (st := []) (h := hp kp (some 3) rh tl rl I L) rfl hf (fun hc hf => ?_) (fun hc hf => ?_)
  · refine bs_st 3 (x' := (22, [some (.ref 26), some (.int x1), some (.int x2), some (.int q0)], [.int x1, .ref 27], hp kp (some 3) rh tl rl I L)) rfl ?_
    refine bs_gd (x' := (23, [some (.ref 26), some (.int x1), some (.int x2), some (.int q0)], [.int (I 27 x1.toNatClampNeg)], hp kp (some 3) rh tl rl I L)) rfl hf (fun hc hf => ?_)
    refine bs_st 2 (x' := (25, [some (.ref 26), some (.int x1), some (.int x2), some (.int q0)], [.int ((I 27 x1.toNatClampNeg) - q0)], hp kp (some 3) rh tl rl I L)) rfl ?_
    cases hf
    exact bs_ret rfl
  · refine bs_st 2 (x' := (25, [some (.ref 26), some (.int x1), some (.int x2), some (.int q0)], [.int (-1 : Int32)], hp kp (some 3) rh tl rl I L)) rfl ?_
    cases hf
    exact bs_ret rfl
/-- Night.mostUrgent(I) on (26,) -/
def c_62_1 (n : Nat) (I : FI) (L : FL) (K0 : Int32 → Int32 → Int32 → Option (Int32)) (x1 : Int32) (x2 : Int32) (x3 : Int32) : Option (Int32) :=
  K0 x1 x2 (x3 + (1 : Int32))
set_option maxHeartbeats 1000000 in
theorem tc_62_1 (Ls : Nat) (xs : Nat → Int32) (d : Nat) (kp : Option Nat) (tl : List (Nat × Nat)) (rl : List (List (Option Nat))) (rh : Option Nat) (n : Nat) (I : FI) (L : FL) (K0 : Int32 → Int32 → Int32 → Option (Int32)) (hK0 : ∀ (w4 : Option Value) (x1 : Int32) (x2 : Int32) (x3 : Int32) (r : Int32), K0 x1 x2 x3 = some r → Bs cd_62 (sf 6 rs_6 false 5 (some (.int)) Ls xs (d + 2)) (4, [some (.ref 26), some (.int x1), some (.int x2), some (.int x3), w4], [], hp kp (some 3) rh tl rl I L) (some (.int r), hp kp (some 3) rh tl rl I L)) (w4 : Option Value) (x1 : Int32) (x2 : Int32) (x3 : Int32) (r : Int32) (hf : c_62_1 n I L K0 x1 x2 x3 = some r) : Bs cd_62 (sf 6 rs_6 false 5 (some (.int)) Ls xs (d + 2)) (44, [some (.ref 26), some (.int x1), some (.int x2), some (.int x3), w4], [], hp kp (some 3) rh tl rl I L) (some (.int r), hp kp (some 3) rh tl rl I L) := by
  unfold c_62_1 at hf
  refine bs_st 2 (x' := (4, [some (.ref 26), some (.int x1), some (.int x2), some (.int (x3 + (1 : Int32))), w4], [], hp kp (some 3) rh tl rl I L)) rfl ?_
  exact hK0 w4 x1 x2 (x3 + (1 : Int32)) r hf
def c_62_2 (n : Nat) (I : FI) (L : FL) (K0 : Int32 → Int32 → Int32 → Option (Int32)) (x1 : Int32) (x3 : Int32) : Option (Int32) :=
  c_62_1 n I L K0 x1 x3 x3
set_option maxHeartbeats 1000000 in
theorem tc_62_2 (Ls : Nat) (xs : Nat → Int32) (d : Nat) (kp : Option Nat) (tl : List (Nat × Nat)) (rl : List (List (Option Nat))) (rh : Option Nat) (n : Nat) (I : FI) (L : FL) (K0 : Int32 → Int32 → Int32 → Option (Int32)) (hK0 : ∀ (w4 : Option Value) (x1 : Int32) (x2 : Int32) (x3 : Int32) (r : Int32), K0 x1 x2 x3 = some r → Bs cd_62 (sf 6 rs_6 false 5 (some (.int)) Ls xs (d + 2)) (4, [some (.ref 26), some (.int x1), some (.int x2), some (.int x3), w4], [], hp kp (some 3) rh tl rl I L) (some (.int r), hp kp (some 3) rh tl rl I L)) (w2 : Option Value) (w4 : Option Value) (x1 : Int32) (x3 : Int32) (r : Int32) (hf : c_62_2 n I L K0 x1 x3 = some r) : Bs cd_62 (sf 6 rs_6 false 5 (some (.int)) Ls xs (d + 2)) (42, [some (.ref 26), some (.int x1), w2, some (.int x3), w4], [], hp kp (some 3) rh tl rl I L) (some (.int r), hp kp (some 3) rh tl rl I L) := by
  unfold c_62_2 at hf
  refine bs_st 2 (x' := (44, [some (.ref 26), some (.int x1), some (.int x3), some (.int x3), w4], [], hp kp (some 3) rh tl rl I L)) rfl ?_
  exact tc_62_1 Ls xs d kp tl rl rh n I L _ hK0 w4 x1 x3 x3 r hf
def b_62_0 (n : Nat) (I : FI) (L : FL) (K0 : Int32 → Int32 → Int32 → Option (Int32)) (x1 : Int32) (x2 : Int32) (x3 : Int32) : Option (Int32) :=
  if I 26 10 ≤ x3 then
    some (x2)
  else
    (f_61 x3 x1 I L).bind fun q0 =>
    if q0 = (-1 : Int32) then
      c_62_1 n I L K0 x1 x2 x3
    else
      if x2 = (-1 : Int32) then
        c_62_2 n I L K0 x1 x3
      else
        (f_61 x2 x1 I L).bind fun q1 =>
        if q1 ≤ q0 then
          c_62_1 n I L K0 x1 x2 x3
        else
          c_62_2 n I L K0 x1 x3
def c_62_0 (n : Nat) (I : FI) (L : FL) : Nat → Int32 → Int32 → Int32 → Option (Int32)
  | 0, _, _, _ => none
  | m + 1, x1, x2, x3 => b_62_0 n I L (c_62_0 n I L m) x1 x2 x3
set_option maxHeartbeats 1000000 in
theorem tc_62_0 (Ls : Nat) (xs : Nat → Int32) (d : Nat) (kp : Option Nat) (tl : List (Nat × Nat)) (rl : List (List (Option Nat))) (rh : Option Nat) (n : Nat) (I : FI) (L : FL) : ∀ (m : Nat) (w4 : Option Value) (x1 : Int32) (x2 : Int32) (x3 : Int32) (r : Int32), c_62_0 n I L m x1 x2 x3 = some r → Bs cd_62 (sf 6 rs_6 false 5 (some (.int)) Ls xs (d + 2)) (4, [some (.ref 26), some (.int x1), some (.int x2), some (.int x3), w4], [], hp kp (some 3) rh tl rl I L) (some (.int r), hp kp (some 3) rh tl rl I L)
  | 0, w4, x1, x2, x3, r, hf => by cases hf
  | m + 1, w4, x1, x2, x3, r, hf => by
    unfold c_62_0 b_62_0 at hf
    have hK0 := tc_62_0 Ls xs d kp tl rl rh n I L m
    refine bs_st 3 (x' := (9, [some (.ref 26), some (.int x1), some (.int x2), some (.int x3), w4], [.int (I 26 10), .int x3], hp kp (some 3) rh tl rl I L)) rfl ?_
    refine bs_br (t := 50) (e := 12) (lo := [some (.ref 26), some (.int x1), some (.int x2), some (.int x3), w4]) (st := []) (h := hp kp (some 3) rh tl rl I L) rfl hf (fun hc hf => ?_) (fun hc hf => ?_)
    · refine bs_st 1 (x' := (51, [some (.ref 26), some (.int x1), some (.int x2), some (.int x3), w4], [.int x2], hp kp (some 3) rh tl rl I L)) rfl ?_
      cases hf
      exact bs_ret rfl
    · refine bs_st 3 (x' := (15, [some (.ref 26), some (.int x1), some (.int x2), some (.int x3), w4], [.int x1, .int x3, .ref 26], hp kp (some 3) rh tl rl I L)) rfl ?_
      obtain ⟨q0, hq0, hf⟩ := Option.bind_eq_some_iff.mp hf
      refine bs_call (o := pEN Ls xs (d + 2) 61 [.ref 26, .int x3, .int x1] (hp kp (some 3) rh tl rl I L)) (w := some (.int q0)) (h' := hp kp (some 3) rh tl rl I L) (pc := 18) (lo := [some (.ref 26), some (.int x1), some (.int x2), some (.int x3), w4]) (rest := []) rfl (t_61 Ls xs (d + 0) kp tl rl rh x3 x1 I L q0 hq0) ?_
      refine bs_st 3 (x' := (23, [some (.ref 26), some (.int x1), some (.int x2), some (.int x3), some (.int q0)], [.int (-1 : Int32), .int q0], hp kp (some 3) rh tl rl I L)) rfl ?_
      refine bs_br (t := 44) (e := 26) (lo := [some (.ref 26), some (.int x1), some (.int x2), some (.int x3), some (.int q0)]) (st := []) (h := hp kp (some 3) rh tl rl I L) rfl hf (fun hc hf => ?_) (fun hc hf => ?_)
      · exact tc_62_1 Ls xs d kp tl rl rh n I L _ hK0 (some (.int q0)) x1 x2 x3 r hf
      · refine bs_st 2 (x' := (28, [some (.ref 26), some (.int x1), some (.int x2), some (.int x3), some (.int q0)], [.int (-1 : Int32), .int x2], hp kp (some 3) rh tl rl I L)) rfl ?_
        refine bs_br (t := 42) (e := 31) (lo := [some (.ref 26), some (.int x1), some (.int x2), some (.int x3), some (.int q0)]) (st := []) (h := hp kp (some 3) rh tl rl I L) rfl hf (fun hc hf => ?_) (fun hc hf => ?_)
        · exact tc_62_2 Ls xs d kp tl rl rh n I L _ hK0 (some (.int x2)) (some (.int q0)) x1 x3 r hf
        · refine bs_st 4 (x' := (36, [some (.ref 26), some (.int x1), some (.int x2), some (.int x3), some (.int q0)], [.int x1, .int x2, .ref 26, .int q0], hp kp (some 3) rh tl rl I L)) rfl ?_
          obtain ⟨q1, hq1, hf⟩ := Option.bind_eq_some_iff.mp hf
          refine bs_call (o := pEN Ls xs (d + 2) 61 [.ref 26, .int x2, .int x1] (hp kp (some 3) rh tl rl I L)) (w := some (.int q1)) (h' := hp kp (some 3) rh tl rl I L) (pc := 39) (lo := [some (.ref 26), some (.int x1), some (.int x2), some (.int x3), some (.int q0)]) (rest := [.int q0]) rfl (t_61 Ls xs (d + 0) kp tl rl rh x2 x1 I L q1 hq1) ?_
          refine bs_br (t := 44) (e := 42) (lo := [some (.ref 26), some (.int x1), some (.int x2), some (.int x3), some (.int q0)]) (st := []) (h := hp kp (some 3) rh tl rl I L) rfl hf (fun hc hf => ?_) (fun hc hf => ?_)
          · exact tc_62_1 Ls xs d kp tl rl rh n I L _ hK0 (some (.int q0)) x1 x2 x3 r hf
          · exact tc_62_2 Ls xs d kp tl rl rh n I L _ hK0 (some (.int x2)) (some (.int q0)) x1 x3 r hf
def f_62 (n : Nat) (x1 : Int32) (I : FI) (L : FL) : Option (Int32) :=
  c_62_0 n I L n x1 (-1 : Int32) (0 : Int32)
set_option maxHeartbeats 1000000 in
theorem t_62 (Ls : Nat) (xs : Nat → Int32) (d : Nat) (kp : Option Nat) (tl : List (Nat × Nat)) (rl : List (List (Option Nat))) (rh : Option Nat) (n : Nat) (x1 : Int32) (I : FI) (L : FL) (r : Int32) (hf : f_62 n x1 I L = some r) : pEN Ls xs (d + 3) 62 [.ref 26, .int x1] (hp kp (some 3) rh tl rl I L) = some (some (.int r), hp kp (some 3) rh tl rl I L) := by
  refine en_run (d := d + 2) (cd := cd_62) (f := (sf 6 rs_6 false 5 (some (.int)) Ls xs (d + 2))) rfl rfl (x := (0, [some (.ref 26), some (.int x1), none, none, none], [], hp kp (some 3) rh tl rl I L)) rfl rfl (Nat.le_of_ble_eq_true rfl) ?_
  unfold f_62 at hf
  refine bs_st 4 (x' := (4, [some (.ref 26), some (.int x1), some (.int (-1 : Int32)), some (.int (0 : Int32)), none], [], hp kp (some 3) rh tl rl I L)) rfl ?_
  exact tc_62_0 Ls xs d kp tl rl rh n I L n none x1 (-1 : Int32) (0 : Int32) r hf
/-- House.minutesBetween(II) on (3,) -/
def f_20_1 (x1 : Int32) (x2 : Int32) (I : FI) (L : FL) : Option (Int32) :=
  if pin ((x1 * (4 : Int32)) + x2) 16 = true then some (I 7 (((x1 * (4 : Int32)) + x2).toNatClampNeg)) else none
set_option maxHeartbeats 1000000 in
theorem t_20_1 (Ls : Nat) (xs : Nat → Int32) (d : Nat) (kp : Option Nat) (tl : List (Nat × Nat)) (rl : List (List (Option Nat))) (rh : Option Nat) (x1 : Int32) (x2 : Int32) (I : FI) (L : FL) (r : Int32) (hf : f_20_1 x1 x2 I L = some r) : pEN Ls xs (d + 1) 20 [.ref 3, .int x1, .int x2] (hp kp (some 3) rh tl rl I L) = some (some (.int r), hp kp (some 3) rh tl rl I L) := by
  refine en_run (d := d + 0) (cd := cd_20) (f := (sf 3 rs_3 false 3 (some (.int)) Ls xs (d + 0))) rfl rfl (x := (0, [some (.ref 3), some (.int x1), some (.int x2)], [], hp kp (some 3) rh tl rl I L)) rfl rfl (Nat.le_of_ble_eq_true rfl) ?_
  unfold f_20_1 at hf
  refine bs_st 7 (x' := (9, [some (.ref 3), some (.int x1), some (.int x2)], [.int ((x1 * (4 : Int32)) + x2), .ref 7], hp kp (some 3) rh tl rl I L)) rfl ?_
  refine bs_gd (x' := (10, [some (.ref 3), some (.int x1), some (.int x2)], [.int (I 7 (((x1 * (4 : Int32)) + x2).toNatClampNeg))], hp kp (some 3) rh tl rl I L)) rfl hf (fun hc hf => ?_)
  cases hf
  exact bs_ret rfl
/-- House.towards(II) on (3,) -/
def c_22_1 (n : Nat) (I : FI) (L : FL) (K0 : Int32 → Int32 → Int32 → Int32 → Option (Int32)) (x1 : Int32) (x2 : Int32) (x3 : Int32) (x4 : Int32) : Option (Int32) :=
  K0 x1 x2 x3 (x4 + (1 : Int32))
set_option maxHeartbeats 1000000 in
theorem tc_22_1 (Ls : Nat) (xs : Nat → Int32) (d : Nat) (kp : Option Nat) (tl : List (Nat × Nat)) (rl : List (List (Option Nat))) (rh : Option Nat) (n : Nat) (I : FI) (L : FL) (K0 : Int32 → Int32 → Int32 → Int32 → Option (Int32)) (hK0 : ∀ (x1 : Int32) (x2 : Int32) (x3 : Int32) (x4 : Int32) (r : Int32), K0 x1 x2 x3 x4 = some r → Bs cd_22 (sf 3 rs_3 false 5 (some (.int)) Ls xs (d + 1)) (10, [some (.ref 3), some (.int x1), some (.int x2), some (.int x3), some (.int x4)], [], hp kp (some 3) rh tl rl I L) (some (.int r), hp kp (some 3) rh tl rl I L)) (x1 : Int32) (x2 : Int32) (x3 : Int32) (x4 : Int32) (r : Int32) (hf : c_22_1 n I L K0 x1 x2 x3 x4 = some r) : Bs cd_22 (sf 3 rs_3 false 5 (some (.int)) Ls xs (d + 1)) (53, [some (.ref 3), some (.int x1), some (.int x2), some (.int x3), some (.int x4)], [], hp kp (some 3) rh tl rl I L) (some (.int r), hp kp (some 3) rh tl rl I L) := by
  unfold c_22_1 at hf
  refine bs_st 2 (x' := (10, [some (.ref 3), some (.int x1), some (.int x2), some (.int x3), some (.int (x4 + (1 : Int32)))], [], hp kp (some 3) rh tl rl I L)) rfl ?_
  exact hK0 x1 x2 x3 (x4 + (1 : Int32)) r hf
def b_22_0 (n : Nat) (I : FI) (L : FL) (K0 : Int32 → Int32 → Int32 → Int32 → Option (Int32)) (x1 : Int32) (x2 : Int32) (x3 : Int32) (x4 : Int32) : Option (Int32) :=
  if I 3 4 ≤ x4 then
    some (x1)
  else
    if x3 ≤ 0 then
      some (x1)
    else
      if pin x1 4 = true then (if (((I 6 x1.toNatClampNeg) >>> (x4 &&& 31)) &&& (1 : Int32)) = 0 then
          c_22_1 n I L K0 x1 x2 x3 x4
        else
          (f_20_1 x4 x2 I L).bind fun q1 =>
          if ¬ q1 = (x3 - (1 : Int32)) then
            c_22_1 n I L K0 x1 x2 x3 x4
          else
            some (x4)) else none
def c_22_0 (n : Nat) (I : FI) (L : FL) : Nat → Int32 → Int32 → Int32 → Int32 → Option (Int32)
  | 0, _, _, _, _ => none
  | m + 1, x1, x2, x3, x4 => b_22_0 n I L (c_22_0 n I L m) x1 x2 x3 x4
set_option maxHeartbeats 1000000 in
theorem tc_22_0 (Ls : Nat) (xs : Nat → Int32) (d : Nat) (kp : Option Nat) (tl : List (Nat × Nat)) (rl : List (List (Option Nat))) (rh : Option Nat) (n : Nat) (I : FI) (L : FL) : ∀ (m : Nat) (x1 : Int32) (x2 : Int32) (x3 : Int32) (x4 : Int32) (r : Int32), c_22_0 n I L m x1 x2 x3 x4 = some r → Bs cd_22 (sf 3 rs_3 false 5 (some (.int)) Ls xs (d + 1)) (10, [some (.ref 3), some (.int x1), some (.int x2), some (.int x3), some (.int x4)], [], hp kp (some 3) rh tl rl I L) (some (.int r), hp kp (some 3) rh tl rl I L)
  | 0, x1, x2, x3, x4, r, hf => by cases hf
  | m + 1, x1, x2, x3, x4, r, hf => by
    unfold c_22_0 b_22_0 at hf
    have hK0 := tc_22_0 Ls xs d kp tl rl rh n I L m
    refine bs_st 3 (x' := (16, [some (.ref 3), some (.int x1), some (.int x2), some (.int x3), some (.int x4)], [.int (I 3 4), .int x4], hp kp (some 3) rh tl rl I L)) rfl ?_
    refine bs_br (t := 59) (e := 19) (lo := [some (.ref 3), some (.int x1), some (.int x2), some (.int x3), some (.int x4)]) (st := []) (h := hp kp (some 3) rh tl rl I L) rfl hf (fun hc hf => ?_) (fun hc hf => ?_)
    · refine bs_st 1 (x' := (60, [some (.ref 3), some (.int x1), some (.int x2), some (.int x3), some (.int x4)], [.int x1], hp kp (some 3) rh tl rl I L)) rfl ?_
      cases hf
      exact bs_ret rfl
    · refine bs_st 1 (x' := (20, [some (.ref 3), some (.int x1), some (.int x2), some (.int x3), some (.int x4)], [.int x3], hp kp (some 3) rh tl rl I L)) rfl ?_
      refine bs_br (t := 59) (e := 23) (lo := [some (.ref 3), some (.int x1), some (.int x2), some (.int x3), some (.int x4)]) (st := []) (h := hp kp (some 3) rh tl rl I L) rfl hf (fun hc hf => ?_) (fun hc hf => ?_)
      · refine bs_st 1 (x' := (60, [some (.ref 3), some (.int x1), some (.int x2), some (.int x3), some (.int x4)], [.int x1], hp kp (some 3) rh tl rl I L)) rfl ?_
        cases hf
        exact bs_ret rfl
      · refine bs_st 3 (x' := (28, [some (.ref 3), some (.int x1), some (.int x2), some (.int x3), some (.int x4)], [.int x1, .ref 6], hp kp (some 3) rh tl rl I L)) rfl ?_
        refine bs_gd (x' := (29, [some (.ref 3), some (.int x1), some (.int x2), some (.int x3), some (.int x4)], [.int (I 6 x1.toNatClampNeg)], hp kp (some 3) rh tl rl I L)) rfl hf (fun hc hf => ?_)
        refine bs_st 4 (x' := (34, [some (.ref 3), some (.int x1), some (.int x2), some (.int x3), some (.int x4)], [.int (((I 6 x1.toNatClampNeg) >>> (x4 &&& 31)) &&& (1 : Int32))], hp kp (some 3) rh tl rl I L)) rfl ?_
        refine bs_br (t := 53) (e := 37) (lo := [some (.ref 3), some (.int x1), some (.int x2), some (.int x3), some (.int x4)]) (st := []) (h := hp kp (some 3) rh tl rl I L) rfl hf (fun hc hf => ?_) (fun hc hf => ?_)
        · exact tc_22_1 Ls xs d kp tl rl rh n I L _ hK0 x1 x2 x3 x4 r hf
        · refine bs_st 3 (x' := (41, [some (.ref 3), some (.int x1), some (.int x2), some (.int x3), some (.int x4)], [.int x2, .int x4, .ref 3], hp kp (some 3) rh tl rl I L)) rfl ?_
          obtain ⟨q1, hq1, hf⟩ := Option.bind_eq_some_iff.mp hf
          refine bs_call (o := pEN Ls xs (d + 1) 20 [.ref 3, .int x4, .int x2] (hp kp (some 3) rh tl rl I L)) (w := some (.int q1)) (h' := hp kp (some 3) rh tl rl I L) (pc := 44) (lo := [some (.ref 3), some (.int x1), some (.int x2), some (.int x3), some (.int x4)]) (rest := []) rfl (t_20_1 Ls xs (d + 0) kp tl rl rh x4 x2 I L q1 hq1) ?_
          refine bs_st 3 (x' := (47, [some (.ref 3), some (.int x1), some (.int x2), some (.int x3), some (.int x4)], [.int (x3 - (1 : Int32)), .int q1], hp kp (some 3) rh tl rl I L)) rfl ?_
          refine bs_br (t := 53) (e := 50) (lo := [some (.ref 3), some (.int x1), some (.int x2), some (.int x3), some (.int x4)]) (st := []) (h := hp kp (some 3) rh tl rl I L) rfl hf (fun hc hf => ?_) (fun hc hf => ?_)
          · exact tc_22_1 Ls xs d kp tl rl rh n I L _ hK0 x1 x2 x3 x4 r hf
          · refine bs_st 1 (x' := (52, [some (.ref 3), some (.int x1), some (.int x2), some (.int x3), some (.int x4)], [.int x4], hp kp (some 3) rh tl rl I L)) rfl ?_
            cases hf
            exact bs_ret rfl
def f_22 (n : Nat) (x1 : Int32) (x2 : Int32) (I : FI) (L : FL) : Option (Int32) :=
  (f_20_1 x1 x2 I L).bind fun q0 =>
  c_22_0 n I L n x1 x2 q0 (0 : Int32)
set_option maxHeartbeats 1000000 in
theorem t_22 (Ls : Nat) (xs : Nat → Int32) (d : Nat) (kp : Option Nat) (tl : List (Nat × Nat)) (rl : List (List (Option Nat))) (rh : Option Nat) (n : Nat) (x1 : Int32) (x2 : Int32) (I : FI) (L : FL) (r : Int32) (hf : f_22 n x1 x2 I L = some r) : pEN Ls xs (d + 2) 22 [.ref 3, .int x1, .int x2] (hp kp (some 3) rh tl rl I L) = some (some (.int r), hp kp (some 3) rh tl rl I L) := by
  refine en_run (d := d + 1) (cd := cd_22) (f := (sf 3 rs_3 false 5 (some (.int)) Ls xs (d + 1))) rfl rfl (x := (0, [some (.ref 3), some (.int x1), some (.int x2), none, none], [], hp kp (some 3) rh tl rl I L)) rfl rfl (Nat.le_of_ble_eq_true rfl) ?_
  unfold f_22 at hf
  refine bs_st 3 (x' := (3, [some (.ref 3), some (.int x1), some (.int x2), none, none], [.int x2, .int x1, .ref 3], hp kp (some 3) rh tl rl I L)) rfl ?_
  obtain ⟨q0, hq0, hf⟩ := Option.bind_eq_some_iff.mp hf
  refine bs_call (o := pEN Ls xs (d + 1) 20 [.ref 3, .int x1, .int x2] (hp kp (some 3) rh tl rl I L)) (w := some (.int q0)) (h' := hp kp (some 3) rh tl rl I L) (pc := 6) (lo := [some (.ref 3), some (.int x1), some (.int x2), none, none]) (rest := []) rfl (t_20_1 Ls xs (d + 0) kp tl rl rh x1 x2 I L q0 hq0) ?_
  refine bs_st 3 (x' := (10, [some (.ref 3), some (.int x1), some (.int x2), some (.int q0), some (.int (0 : Int32))], [], hp kp (some 3) rh tl rl I L)) rfl ?_
  exact tc_22_0 Ls xs d kp tl rl rh n I L n x1 x2 q0 (0 : Int32) r hf
/-- Night.whereabouts(I) on (26,) -/
def f_56 (n : Nat) (x1 : Int32) (I : FI) (L : FL) : Option (Int32) :=
  if ¬ I 26 10 = 0 then
    if ¬ x1 = 0 then
      if pin (x1 - (1 : Int32)) 30 = true then (if ¬ I 26 8 = (1 : Int32) then
          if ¬ I 3 7 = 0 then
            if I 3 7 = 0 then none else (if pin (((I 26 7) + x1) - ((I 26 7) + x1) / (I 3 7) * (I 3 7)) 12 = true then ((f_21 (I 29 ((x1 - (1 : Int32)).toNatClampNeg)) (I 10 ((((I 26 7) + x1) - ((I 26 7) + x1) / (I 3 7) * (I 3 7)).toNatClampNeg)) I L).bind fun q0 =>
                if q0 = 0 then
                  some (I 29 ((x1 - (1 : Int32)).toNatClampNeg))
                else
                  some (I 10 ((((I 26 7) + x1) - ((I 26 7) + x1) / (I 3 7) * (I 3 7)).toNatClampNeg))) else none)
          else
            some (I 29 ((x1 - (1 : Int32)).toNatClampNeg))
        else
          (f_62 n (x1 - (1 : Int32)) I L).bind fun q1 =>
          if ¬ q1 = (-1 : Int32) then
            (f_22 n (I 29 ((x1 - (1 : Int32)).toNatClampNeg)) q1 I L).bind fun q2 =>
            some (q2)
          else
            some (I 29 ((x1 - (1 : Int32)).toNatClampNeg))) else none
    else
      if I 3 7 ≤ 0 then
        some ((0 : Int32))
      else
        if pin (I 26 7) 12 = true then some (I 10 ((I 26 7).toNatClampNeg)) else none
  else
    some ((-1 : Int32))
set_option maxHeartbeats 1000000 in
theorem t_56 (Ls : Nat) (xs : Nat → Int32) (d : Nat) (kp : Option Nat) (tl : List (Nat × Nat)) (rl : List (List (Option Nat))) (rh : Option Nat) (n : Nat) (x1 : Int32) (I : FI) (L : FL) (r : Int32) (hf : f_56 n x1 I L = some r) : pEN Ls xs (d + 4) 56 [.ref 26, .int x1] (hp kp (some 3) rh tl rl I L) = some (some (.int r), hp kp (some 3) rh tl rl I L) := by
  refine en_run (d := d + 3) (cd := cd_56) (f := (sf 6 rs_6 false 4 (some (.int)) Ls xs (d + 3))) rfl rfl (x := (0, [some (.ref 26), some (.int x1), none, none], [], hp kp (some 3) rh tl rl I L)) rfl rfl (Nat.le_of_ble_eq_true rfl) ?_
  unfold f_56 at hf
  refine bs_st 2 (x' := (4, [some (.ref 26), some (.int x1), none, none], [.int (I 26 10)], hp kp (some 3) rh tl rl I L)) rfl ?_
  refine bs_br (t := 9) (e := 7) (lo := [some (.ref 26), some (.int x1), none, none]) (st := []) (h := hp kp (some 3) rh tl rl I L) rfl hf (fun hc hf => ?_) (fun hc hf => ?_)
  · refine bs_st 1 (x' := (10, [some (.ref 26), some (.int x1), none, none], [.int x1], hp kp (some 3) rh tl rl I L)) rfl ?_
    refine bs_br (t := 40) (e := 13) (lo := [some (.ref 26), some (.int x1), none, none]) (st := []) (h := hp kp (some 3) rh tl rl I L) rfl hf (fun hc hf => ?_) (fun hc hf => ?_)
    · refine bs_st 5 (x' := (47, [some (.ref 26), some (.int x1), none, none], [.int (x1 - (1 : Int32)), .ref 29], hp kp (some 3) rh tl rl I L)) rfl ?_
      refine bs_gd (x' := (48, [some (.ref 26), some (.int x1), none, none], [.int (I 29 ((x1 - (1 : Int32)).toNatClampNeg))], hp kp (some 3) rh tl rl I L)) rfl hf (fun hc hf => ?_)
      refine bs_st 4 (x' := (54, [some (.ref 26), some (.int x1), some (.int (I 29 ((x1 - (1 : Int32)).toNatClampNeg))), none], [.int (1 : Int32), .int (I 26 8)], hp kp (some 3) rh tl rl I L)) rfl ?_
      refine bs_br (t := 84) (e := 57) (lo := [some (.ref 26), some (.int x1), some (.int (I 29 ((x1 - (1 : Int32)).toNatClampNeg))), none]) (st := []) (h := hp kp (some 3) rh tl rl I L) rfl hf (fun hc hf => ?_) (fun hc hf => ?_)
      · refine bs_st 3 (x' := (91, [some (.ref 26), some (.int x1), some (.int (I 29 ((x1 - (1 : Int32)).toNatClampNeg))), none], [.int (I 3 7)], hp kp (some 3) rh tl rl I L)) rfl ?_
        refine bs_br (t := 96) (e := 94) (lo := [some (.ref 26), some (.int x1), some (.int (I 29 ((x1 - (1 : Int32)).toNatClampNeg))), none]) (st := []) (h := hp kp (some 3) rh tl rl I L) rfl hf (fun hc hf => ?_) (fun hc hf => ?_)
        · refine bs_st 10 (x' := (116, [some (.ref 26), some (.int x1), some (.int (I 29 ((x1 - (1 : Int32)).toNatClampNeg))), none], [.int (I 3 7), .int ((I 26 7) + x1), .ref 10], hp kp (some 3) rh tl rl I L)) rfl ?_
          refine bs_dv (x' := (117, [some (.ref 26), some (.int x1), some (.int (I 29 ((x1 - (1 : Int32)).toNatClampNeg))), none], [.int (((I 26 7) + x1) - ((I 26 7) + x1) / (I 3 7) * (I 3 7)), .ref 10], hp kp (some 3) rh tl rl I L)) rfl hf (fun hc hf => ?_)
          refine bs_gd (x' := (118, [some (.ref 26), some (.int x1), some (.int (I 29 ((x1 - (1 : Int32)).toNatClampNeg))), none], [.int (I 10 ((((I 26 7) + x1) - ((I 26 7) + x1) / (I 3 7) * (I 3 7)).toNatClampNeg))], hp kp (some 3) rh tl rl I L)) rfl hf (fun hc hf => ?_)
          refine bs_st 5 (x' := (125, [some (.ref 26), some (.int x1), some (.int (I 29 ((x1 - (1 : Int32)).toNatClampNeg))), some (.int (I 10 ((((I 26 7) + x1) - ((I 26 7) + x1) / (I 3 7) * (I 3 7)).toNatClampNeg)))], [.int (I 10 ((((I 26 7) + x1) - ((I 26 7) + x1) / (I 3 7) * (I 3 7)).toNatClampNeg)), .int (I 29 ((x1 - (1 : Int32)).toNatClampNeg)), .ref 3], hp kp (some 3) rh tl rl I L)) rfl ?_
          obtain ⟨q0, hq0, hf⟩ := Option.bind_eq_some_iff.mp hf
          refine bs_call (o := pEN Ls xs (d + 3) 21 [.ref 3, .int (I 29 ((x1 - (1 : Int32)).toNatClampNeg)), .int (I 10 ((((I 26 7) + x1) - ((I 26 7) + x1) / (I 3 7) * (I 3 7)).toNatClampNeg))] (hp kp (some 3) rh tl rl I L)) (w := some (.int q0)) (h' := hp kp (some 3) rh tl rl I L) (pc := 128) (lo := [some (.ref 26), some (.int x1), some (.int (I 29 ((x1 - (1 : Int32)).toNatClampNeg))), some (.int (I 10 ((((I 26 7) + x1) - ((I 26 7) + x1) / (I 3 7) * (I 3 7)).toNatClampNeg)))]) (rest := []) rfl (t_21 Ls xs (d + 2) kp tl rl rh (I 29 ((x1 - (1 : Int32)).toNatClampNeg)) (I 10 ((((I 26 7) + x1) - ((I 26 7) + x1) / (I 3 7) * (I 3 7)).toNatClampNeg)) I L q0 hq0) ?_
          refine bs_br (t := 135) (e := 131) (lo := [some (.ref 26), some (.int x1), some (.int (I 29 ((x1 - (1 : Int32)).toNatClampNeg))), some (.int (I 10 ((((I 26 7) + x1) - ((I 26 7) + x1) / (I 3 7) * (I 3 7)).toNatClampNeg)))]) (st := []) (h := hp kp (some 3) rh tl rl I L) rfl hf (fun hc hf => ?_) (fun hc hf => ?_)
          · refine bs_st 1 (x' := (136, [some (.ref 26), some (.int x1), some (.int (I 29 ((x1 - (1 : Int32)).toNatClampNeg))), some (.int (I 10 ((((I 26 7) + x1) - ((I 26 7) + x1) / (I 3 7) * (I 3 7)).toNatClampNeg)))], [.int (I 29 ((x1 - (1 : Int32)).toNatClampNeg))], hp kp (some 3) rh tl rl I L)) rfl ?_
            cases hf
            exact bs_ret rfl
          · refine bs_st 2 (x' := (136, [some (.ref 26), some (.int x1), some (.int (I 29 ((x1 - (1 : Int32)).toNatClampNeg))), some (.int (I 10 ((((I 26 7) + x1) - ((I 26 7) + x1) / (I 3 7) * (I 3 7)).toNatClampNeg)))], [.int (I 10 ((((I 26 7) + x1) - ((I 26 7) + x1) / (I 3 7) * (I 3 7)).toNatClampNeg))], hp kp (some 3) rh tl rl I L)) rfl ?_
            cases hf
            exact bs_ret rfl
        · refine bs_st 1 (x' := (95, [some (.ref 26), some (.int x1), some (.int (I 29 ((x1 - (1 : Int32)).toNatClampNeg))), none], [.int (I 29 ((x1 - (1 : Int32)).toNatClampNeg))], hp kp (some 3) rh tl rl I L)) rfl ?_
          cases hf
          exact bs_ret rfl
      · refine bs_st 4 (x' := (61, [some (.ref 26), some (.int x1), some (.int (I 29 ((x1 - (1 : Int32)).toNatClampNeg))), none], [.int (x1 - (1 : Int32)), .ref 26], hp kp (some 3) rh tl rl I L)) rfl ?_
        obtain ⟨q1, hq1, hf⟩ := Option.bind_eq_some_iff.mp hf
        refine bs_call (o := pEN Ls xs (d + 3) 62 [.ref 26, .int (x1 - (1 : Int32))] (hp kp (some 3) rh tl rl I L)) (w := some (.int q1)) (h' := hp kp (some 3) rh tl rl I L) (pc := 64) (lo := [some (.ref 26), some (.int x1), some (.int (I 29 ((x1 - (1 : Int32)).toNatClampNeg))), none]) (rest := []) rfl (t_62 Ls xs (d + 0) kp tl rl rh n (x1 - (1 : Int32)) I L q1 hq1) ?_
        refine bs_st 3 (x' := (67, [some (.ref 26), some (.int x1), some (.int (I 29 ((x1 - (1 : Int32)).toNatClampNeg))), some (.int q1)], [.int (-1 : Int32), .int q1], hp kp (some 3) rh tl rl I L)) rfl ?_
        refine bs_br (t := 74) (e := 70) (lo := [some (.ref 26), some (.int x1), some (.int (I 29 ((x1 - (1 : Int32)).toNatClampNeg))), some (.int q1)]) (st := []) (h := hp kp (some 3) rh tl rl I L) rfl hf (fun hc hf => ?_) (fun hc hf => ?_)
        · refine bs_st 4 (x' := (80, [some (.ref 26), some (.int x1), some (.int (I 29 ((x1 - (1 : Int32)).toNatClampNeg))), some (.int q1)], [.int q1, .int (I 29 ((x1 - (1 : Int32)).toNatClampNeg)), .ref 3], hp kp (some 3) rh tl rl I L)) rfl ?_
          obtain ⟨q2, hq2, hf⟩ := Option.bind_eq_some_iff.mp hf
          refine bs_call (o := pEN Ls xs (d + 3) 22 [.ref 3, .int (I 29 ((x1 - (1 : Int32)).toNatClampNeg)), .int q1] (hp kp (some 3) rh tl rl I L)) (w := some (.int q2)) (h' := hp kp (some 3) rh tl rl I L) (pc := 83) (lo := [some (.ref 26), some (.int x1), some (.int (I 29 ((x1 - (1 : Int32)).toNatClampNeg))), some (.int q1)]) (rest := []) rfl (t_22 Ls xs (d + 1) kp tl rl rh n (I 29 ((x1 - (1 : Int32)).toNatClampNeg)) q1 I L q2 hq2) ?_
          cases hf
          exact bs_ret rfl
        · refine bs_st 2 (x' := (83, [some (.ref 26), some (.int x1), some (.int (I 29 ((x1 - (1 : Int32)).toNatClampNeg))), some (.int q1)], [.int (I 29 ((x1 - (1 : Int32)).toNatClampNeg))], hp kp (some 3) rh tl rl I L)) rfl ?_
          cases hf
          exact bs_ret rfl
    · refine bs_st 3 (x' := (20, [some (.ref 26), some (.int x1), none, none], [.int (I 3 7)], hp kp (some 3) rh tl rl I L)) rfl ?_
      refine bs_br (t := 38) (e := 23) (lo := [some (.ref 26), some (.int x1), none, none]) (st := []) (h := hp kp (some 3) rh tl rl I L) rfl hf (fun hc hf => ?_) (fun hc hf => ?_)
      · refine bs_st 1 (x' := (39, [some (.ref 26), some (.int x1), none, none], [.int (0 : Int32)], hp kp (some 3) rh tl rl I L)) rfl ?_
        cases hf
        exact bs_ret rfl
      · refine bs_st 5 (x' := (34, [some (.ref 26), some (.int x1), none, none], [.int (I 26 7), .ref 10], hp kp (some 3) rh tl rl I L)) rfl ?_
        refine bs_gd (x' := (35, [some (.ref 26), some (.int x1), none, none], [.int (I 10 ((I 26 7).toNatClampNeg))], hp kp (some 3) rh tl rl I L)) rfl hf (fun hc hf => ?_)
        refine bs_st 1 (x' := (39, [some (.ref 26), some (.int x1), none, none], [.int (I 10 ((I 26 7).toNatClampNeg))], hp kp (some 3) rh tl rl I L)) rfl ?_
        cases hf
        exact bs_ret rfl
  · refine bs_st 1 (x' := (8, [some (.ref 26), some (.int x1), none, none], [.int (-1 : Int32)], hp kp (some 3) rh tl rl I L)) rfl ?_
    cases hf
    exact bs_ret rfl
/-- Night.watching(I) on (26,) -/
def f_57 (x1 : Int32) (I : FI) (L : FL) : Option (Int32) :=
  if x1 < 0 then
    some ((-1 : Int32))
  else
    if (((I 26 9) >>> (x1 &&& 31)) &&& (1 : Int32)) = 0 then
      if pin x1 30 = true then some (I 29 x1.toNatClampNeg) else none
    else
      some ((-1 : Int32))
set_option maxHeartbeats 1000000 in
theorem t_57 (Ls : Nat) (xs : Nat → Int32) (d : Nat) (kp : Option Nat) (tl : List (Nat × Nat)) (rl : List (List (Option Nat))) (rh : Option Nat) (x1 : Int32) (I : FI) (L : FL) (r : Int32) (hf : f_57 x1 I L = some r) : pEN Ls xs (d + 1) 57 [.ref 26, .int x1] (hp kp (some 3) rh tl rl I L) = some (some (.int r), hp kp (some 3) rh tl rl I L) := by
  refine en_run (d := d + 0) (cd := cd_57) (f := (sf 6 rs_6 false 2 (some (.int)) Ls xs (d + 0))) rfl rfl (x := (0, [some (.ref 26), some (.int x1)], [], hp kp (some 3) rh tl rl I L)) rfl rfl (Nat.le_of_ble_eq_true rfl) ?_
  unfold f_57 at hf
  refine bs_st 1 (x' := (1, [some (.ref 26), some (.int x1)], [.int x1], hp kp (some 3) rh tl rl I L)) rfl ?_
  refine bs_br (t := 15) (e := 4) (lo := [some (.ref 26), some (.int x1)]) (st := []) (h := hp kp (some 3) rh tl rl I L) rfl hf (fun hc hf => ?_) (fun hc hf => ?_)
  · refine bs_st 1 (x' := (16, [some (.ref 26), some (.int x1)], [.int (-1 : Int32)], hp kp (some 3) rh tl rl I L)) rfl ?_
    cases hf
    exact bs_ret rfl
  · refine bs_st 6 (x' := (12, [some (.ref 26), some (.int x1)], [.int (((I 26 9) >>> (x1 &&& 31)) &&& (1 : Int32))], hp kp (some 3) rh tl rl I L)) rfl ?_
    refine bs_br (t := 17) (e := 15) (lo := [some (.ref 26), some (.int x1)]) (st := []) (h := hp kp (some 3) rh tl rl I L) rfl hf (fun hc hf => ?_) (fun hc hf => ?_)
    · refine bs_st 3 (x' := (22, [some (.ref 26), some (.int x1)], [.int x1, .ref 29], hp kp (some 3) rh tl rl I L)) rfl ?_
      refine bs_gd (x' := (23, [some (.ref 26), some (.int x1)], [.int (I 29 x1.toNatClampNeg)], hp kp (some 3) rh tl rl I L)) rfl hf (fun hc hf => ?_)
      cases hf
      exact bs_ret rfl
    · refine bs_st 1 (x' := (16, [some (.ref 26), some (.int x1)], [.int (-1 : Int32)], hp kp (some 3) rh tl rl I L)) rfl ?_
      cases hf
      exact bs_ret rfl
/-- Night.agedFlame(III) on (26,) -/
def c_59_0 (I : FI) (L : FL) (x1 : Int32) (x2 : Int32) (x3 : Int32) (s0 : Int32) : Option (Int32) :=
  if ¬ I 26 6 = (2 : Int32) then
    some ((0 : Int32))
  else
    if ¬ s0 = 0 then
      some ((0 : Int32))
    else
      (f_57 (x2 - (1 : Int32)) I L).bind fun q1 =>
      if q1 = x1 then
        some ((0 : Int32))
      else
        some (x3)
set_option maxHeartbeats 1000000 in
theorem tc_59_0 (Ls : Nat) (xs : Nat → Int32) (d : Nat) (kp : Option Nat) (tl : List (Nat × Nat)) (rl : List (List (Option Nat))) (rh : Option Nat) (I : FI) (L : FL) (w4 : Option Value) (w5 : Option Value) (x1 : Int32) (x2 : Int32) (x3 : Int32) (s0 : Int32) (r : Int32) (hf : c_59_0 I L x1 x2 x3 s0 = some r) : Bs cd_59 (sf 6 rs_6 false 6 (some (.int)) Ls xs (d + 1)) (97, [some (.ref 26), some (.int x1), some (.int x2), some (.int x3), w4, w5], [.int s0], hp kp (some 3) rh tl rl I L) (some (.int r), hp kp (some 3) rh tl rl I L) := by
  unfold c_59_0 at hf
  refine bs_st 4 (x' := (104, [some (.ref 26), some (.int x1), some (.int x2), some (.int x3), (pcl w4), some (.int s0)], [.int (2 : Int32), .int (I 26 6)], hp kp (some 3) rh tl rl I L)) rfl ?_
  refine bs_br (t := 125) (e := 107) (lo := [some (.ref 26), some (.int x1), some (.int x2), some (.int x3), (pcl w4), some (.int s0)]) (st := []) (h := hp kp (some 3) rh tl rl I L) rfl hf (fun hc hf => ?_) (fun hc hf => ?_)
  · refine bs_st 1 (x' := (126, [some (.ref 26), some (.int x1), some (.int x2), some (.int x3), (pcl w4), some (.int s0)], [.int (0 : Int32)], hp kp (some 3) rh tl rl I L)) rfl ?_
    cases hf
    exact bs_ret rfl
  · refine bs_st 1 (x' := (109, [some (.ref 26), some (.int x1), some (.int x2), some (.int x3), (pcl w4), some (.int s0)], [.int s0], hp kp (some 3) rh tl rl I L)) rfl ?_
    refine bs_br (t := 125) (e := 112) (lo := [some (.ref 26), some (.int x1), some (.int x2), some (.int x3), (pcl w4), some (.int s0)]) (st := []) (h := hp kp (some 3) rh tl rl I L) rfl hf (fun hc hf => ?_) (fun hc hf => ?_)
    · refine bs_st 1 (x' := (126, [some (.ref 26), some (.int x1), some (.int x2), some (.int x3), (pcl w4), some (.int s0)], [.int (0 : Int32)], hp kp (some 3) rh tl rl I L)) rfl ?_
      cases hf
      exact bs_ret rfl
    · refine bs_st 4 (x' := (116, [some (.ref 26), some (.int x1), some (.int x2), some (.int x3), (pcl w4), some (.int s0)], [.int (x2 - (1 : Int32)), .ref 26], hp kp (some 3) rh tl rl I L)) rfl ?_
      obtain ⟨q1, hq1, hf⟩ := Option.bind_eq_some_iff.mp hf
      refine bs_call (o := pEN Ls xs (d + 1) 57 [.ref 26, .int (x2 - (1 : Int32))] (hp kp (some 3) rh tl rl I L)) (w := some (.int q1)) (h' := hp kp (some 3) rh tl rl I L) (pc := 119) (lo := [some (.ref 26), some (.int x1), some (.int x2), some (.int x3), (pcl w4), some (.int s0)]) (rest := []) rfl (t_57 Ls xs (d + 0) kp tl rl rh (x2 - (1 : Int32)) I L q1 hq1) ?_
      refine bs_st 1 (x' := (120, [some (.ref 26), some (.int x1), some (.int x2), some (.int x3), (pcl w4), some (.int s0)], [.int x1, .int q1], hp kp (some 3) rh tl rl I L)) rfl ?_
      refine bs_br (t := 125) (e := 123) (lo := [some (.ref 26), some (.int x1), some (.int x2), some (.int x3), (pcl w4), some (.int s0)]) (st := []) (h := hp kp (some 3) rh tl rl I L) rfl hf (fun hc hf => ?_) (fun hc hf => ?_)
      · refine bs_st 1 (x' := (126, [some (.ref 26), some (.int x1), some (.int x2), some (.int x3), (pcl w4), some (.int s0)], [.int (0 : Int32)], hp kp (some 3) rh tl rl I L)) rfl ?_
        cases hf
        exact bs_ret rfl
      · refine bs_st 1 (x' := (124, [some (.ref 26), some (.int x1), some (.int x2), some (.int x3), (pcl w4), some (.int s0)], [.int x3], hp kp (some 3) rh tl rl I L)) rfl ?_
        cases hf
        exact bs_ret rfl
def c_59_2 (I : FI) (L : FL) (x3 : Int32) (s0 : Int32) : Option (Int32) :=
  if s0 = 0 then
    some ((x3 + (1 : Int32)))
  else
    some (x3)
set_option maxHeartbeats 1000000 in
theorem tc_59_2 (Ls : Nat) (xs : Nat → Int32) (d : Nat) (kp : Option Nat) (tl : List (Nat × Nat)) (rl : List (List (Option Nat))) (rh : Option Nat) (I : FI) (L : FL) (w0 : Option Value) (w1 : Option Value) (w2 : Option Value) (w4 : Option Value) (w5 : Option Value) (x3 : Int32) (s0 : Int32) (r : Int32) (hf : c_59_2 I L x3 s0 = some r) : Bs cd_59 (sf 6 rs_6 false 6 (some (.int)) Ls xs (d + 1)) (52, [w0, w1, w2, some (.int x3), w4, w5], [.int s0], hp kp (some 3) rh tl rl I L) (some (.int r), hp kp (some 3) rh tl rl I L) := by
  unfold c_59_2 at hf
  refine bs_st 2 (x' := (56, [w0, w1, w2, some (.int x3), (pcl w4), some (.int s0)], [.int s0], hp kp (some 3) rh tl rl I L)) rfl ?_
  refine bs_br (t := 63) (e := 59) (lo := [w0, w1, w2, some (.int x3), (pcl w4), some (.int s0)]) (st := []) (h := hp kp (some 3) rh tl rl I L) rfl hf (fun hc hf => ?_) (fun hc hf => ?_)
  · refine bs_st 3 (x' := (66, [w0, w1, w2, some (.int x3), (pcl w4), some (.int s0)], [.int (x3 + (1 : Int32))], hp kp (some 3) rh tl rl I L)) rfl ?_
    cases hf
    exact bs_ret rfl
  · refine bs_st 2 (x' := (66, [w0, w1, w2, some (.int x3), (pcl w4), some (.int s0)], [.int x3], hp kp (some 3) rh tl rl I L)) rfl ?_
    cases hf
    exact bs_ret rfl
def c_59_1 (I : FI) (L : FL) (x3 : Int32) : Option (Int32) :=
  c_59_2 I L x3 (0 : Int32)
set_option maxHeartbeats 1000000 in
theorem tc_59_1 (Ls : Nat) (xs : Nat → Int32) (d : Nat) (kp : Option Nat) (tl : List (Nat × Nat)) (rl : List (List (Option Nat))) (rh : Option Nat) (I : FI) (L : FL) (w0 : Option Value) (w1 : Option Value) (w2 : Option Value) (w4 : Option Value) (w5 : Option Value) (x3 : Int32) (r : Int32) (hf : c_59_1 I L x3 = some r) : Bs cd_59 (sf 6 rs_6 false 6 (some (.int)) Ls xs (d + 1)) (51, [w0, w1, w2, some (.int x3), w4, w5], [], hp kp (some 3) rh tl rl I L) (some (.int r), hp kp (some 3) rh tl rl I L) := by
  unfold c_59_1 at hf
  refine bs_st 1 (x' := (52, [w0, w1, w2, some (.int x3), w4, w5], [.int (0 : Int32)], hp kp (some 3) rh tl rl I L)) rfl ?_
  exact tc_59_2 Ls xs d kp tl rl rh I L w0 w1 w2 w4 w5 x3 (0 : Int32) r hf
def f_59 (x1 : Int32) (x2 : Int32) (x3 : Int32) (I : FI) (L : FL) : Option (Int32) :=
  (f_57 x2 I L).bind fun q0 =>
  if pin x2 30 = true then (if ¬ (((I 30 x2.toNatClampNeg) >>> (x1 &&& 31)) &&& (1 : Int32)) = 0 then
      if ¬ I 26 6 = (1 : Int32) then
        if pin x2 30 = true then (if (((I 28 x2.toNatClampNeg) >>> (x1 &&& 31)) &&& (1 : Int32)) = 0 then
            c_59_0 I L x1 x2 x3 (0 : Int32)
          else
            c_59_0 I L x1 x2 x3 (1 : Int32)) else none
      else
        some ((x3 / (2 : Int32)))
    else
      if ¬ I 26 6 = (3 : Int32) then
        c_59_1 I L x3
      else
        if q0 = (-1 : Int32) then
          c_59_1 I L x3
        else
          (f_21 q0 x1 I L).bind fun q2 =>
          if q2 = 0 then
            c_59_1 I L x3
          else
            c_59_2 I L x3 (1 : Int32)) else none
set_option maxHeartbeats 1000000 in
theorem t_59 (Ls : Nat) (xs : Nat → Int32) (d : Nat) (kp : Option Nat) (tl : List (Nat × Nat)) (rl : List (List (Option Nat))) (rh : Option Nat) (x1 : Int32) (x2 : Int32) (x3 : Int32) (I : FI) (L : FL) (r : Int32) (hf : f_59 x1 x2 x3 I L = some r) : pEN Ls xs (d + 2) 59 [.ref 26, .int x1, .int x2, .int x3] (hp kp (some 3) rh tl rl I L) = some (some (.int r), hp kp (some 3) rh tl rl I L) := by
  refine en_run (d := d + 1) (cd := cd_59) (f := (sf 6 rs_6 false 6 (some (.int)) Ls xs (d + 1))) rfl rfl (x := (0, [some (.ref 26), some (.int x1), some (.int x2), some (.int x3), none, none], [], hp kp (some 3) rh tl rl I L)) rfl rfl (Nat.le_of_ble_eq_true rfl) ?_
  unfold f_59 at hf
  refine bs_st 2 (x' := (2, [some (.ref 26), some (.int x1), some (.int x2), some (.int x3), none, none], [.int x2, .ref 26], hp kp (some 3) rh tl rl I L)) rfl ?_
  obtain ⟨q0, hq0, hf⟩ := Option.bind_eq_some_iff.mp hf
  refine bs_call (o := pEN Ls xs (d + 1) 57 [.ref 26, .int x2] (hp kp (some 3) rh tl rl I L)) (w := some (.int q0)) (h' := hp kp (some 3) rh tl rl I L) (pc := 5) (lo := [some (.ref 26), some (.int x1), some (.int x2), some (.int x3), none, none]) (rest := []) rfl (t_57 Ls xs (d + 0) kp tl rl rh x2 I L q0 hq0) ?_
  refine bs_st 4 (x' := (12, [some (.ref 26), some (.int x1), some (.int x2), some (.int x3), some (.int q0), none], [.int x2, .ref 30], hp kp (some 3) rh tl rl I L)) rfl ?_
  refine bs_gd (x' := (13, [some (.ref 26), some (.int x1), some (.int x2), some (.int x3), some (.int q0), none], [.int (I 30 x2.toNatClampNeg)], hp kp (some 3) rh tl rl I L)) rfl hf (fun hc hf => ?_)
  refine bs_st 4 (x' := (17, [some (.ref 26), some (.int x1), some (.int x2), some (.int x3), some (.int q0), none], [.int (((I 30 x2.toNatClampNeg) >>> (x1 &&& 31)) &&& (1 : Int32))], hp kp (some 3) rh tl rl I L)) rfl ?_
  refine bs_br (t := 67) (e := 20) (lo := [some (.ref 26), some (.int x1), some (.int x2), some (.int x3), some (.int q0), none]) (st := []) (h := hp kp (some 3) rh tl rl I L) rfl hf (fun hc hf => ?_) (fun hc hf => ?_)
  · refine bs_st 3 (x' := (72, [some (.ref 26), some (.int x1), some (.int x2), some (.int x3), some (.int q0), none], [.int (1 : Int32), .int (I 26 6)], hp kp (some 3) rh tl rl I L)) rfl ?_
    refine bs_br (t := 79) (e := 75) (lo := [some (.ref 26), some (.int x1), some (.int x2), some (.int x3), some (.int q0), none]) (st := []) (h := hp kp (some 3) rh tl rl I L) rfl hf (fun hc hf => ?_) (fun hc hf => ?_)
    · refine bs_st 3 (x' := (84, [some (.ref 26), some (.int x1), some (.int x2), some (.int x3), some (.int q0), none], [.int x2, .ref 28], hp kp (some 3) rh tl rl I L)) rfl ?_
      refine bs_gd (x' := (85, [some (.ref 26), some (.int x1), some (.int x2), some (.int x3), some (.int q0), none], [.int (I 28 x2.toNatClampNeg)], hp kp (some 3) rh tl rl I L)) rfl hf (fun hc hf => ?_)
      refine bs_st 4 (x' := (89, [some (.ref 26), some (.int x1), some (.int x2), some (.int x3), some (.int q0), none], [.int (((I 28 x2.toNatClampNeg) >>> (x1 &&& 31)) &&& (1 : Int32))], hp kp (some 3) rh tl rl I L)) rfl ?_
      refine bs_br (t := 96) (e := 92) (lo := [some (.ref 26), some (.int x1), some (.int x2), some (.int x3), some (.int q0), none]) (st := []) (h := hp kp (some 3) rh tl rl I L) rfl hf (fun hc hf => ?_) (fun hc hf => ?_)
      · refine bs_st 1 (x' := (97, [some (.ref 26), some (.int x1), some (.int x2), some (.int x3), some (.int q0), none], [.int (0 : Int32)], hp kp (some 3) rh tl rl I L)) rfl ?_
        exact tc_59_0 Ls xs d kp tl rl rh I L (some (.int q0)) none x1 x2 x3 (0 : Int32) r hf
      · refine bs_st 2 (x' := (97, [some (.ref 26), some (.int x1), some (.int x2), some (.int x3), some (.int q0), none], [.int (1 : Int32)], hp kp (some 3) rh tl rl I L)) rfl ?_
        exact tc_59_0 Ls xs d kp tl rl rh I L (some (.int q0)) none x1 x2 x3 (1 : Int32) r hf
    · refine bs_st 3 (x' := (78, [some (.ref 26), some (.int x1), some (.int x2), some (.int x3), some (.int q0), none], [.int (x3 / (2 : Int32))], hp kp (some 3) rh tl rl I L)) rfl ?_
      cases hf
      exact bs_ret rfl
  · refine bs_st 3 (x' := (25, [some (.ref 26), some (.int x1), some (.int x2), some (.int x3), some (.int q0), none], [.int (3 : Int32), .int (I 26 6)], hp kp (some 3) rh tl rl I L)) rfl ?_
    refine bs_br (t := 51) (e := 28) (lo := [some (.ref 26), some (.int x1), some (.int x2), some (.int x3), some (.int q0), none]) (st := []) (h := hp kp (some 3) rh tl rl I L) rfl hf (fun hc hf => ?_) (fun hc hf => ?_)
    · exact tc_59_1 Ls xs d kp tl rl rh I L (some (.ref 26)) (some (.int x1)) (some (.int x2)) (some (.int q0)) none x3 r hf
    · refine bs_st 2 (x' := (31, [some (.ref 26), some (.int x1), some (.int x2), some (.int x3), some (.int q0), none], [.int (-1 : Int32), .int q0], hp kp (some 3) rh tl rl I L)) rfl ?_
      refine bs_br (t := 51) (e := 34) (lo := [some (.ref 26), some (.int x1), some (.int x2), some (.int x3), some (.int q0), none]) (st := []) (h := hp kp (some 3) rh tl rl I L) rfl hf (fun hc hf => ?_) (fun hc hf => ?_)
      · exact tc_59_1 Ls xs d kp tl rl rh I L (some (.ref 26)) (some (.int x1)) (some (.int x2)) (some (.int q0)) none x3 r hf
      · refine bs_st 4 (x' := (41, [some (.ref 26), some (.int x1), some (.int x2), some (.int x3), some (.int q0), none], [.int x1, .int q0, .ref 3], hp kp (some 3) rh tl rl I L)) rfl ?_
        obtain ⟨q2, hq2, hf⟩ := Option.bind_eq_some_iff.mp hf
        refine bs_call (o := pEN Ls xs (d + 1) 21 [.ref 3, .int q0, .int x1] (hp kp (some 3) rh tl rl I L)) (w := some (.int q2)) (h' := hp kp (some 3) rh tl rl I L) (pc := 44) (lo := [some (.ref 26), some (.int x1), some (.int x2), some (.int x3), some (.int q0), none]) (rest := []) rfl (t_21 Ls xs (d + 0) kp tl rl rh q0 x1 I L q2 hq2) ?_
        refine bs_br (t := 51) (e := 47) (lo := [some (.ref 26), some (.int x1), some (.int x2), some (.int x3), some (.int q0), none]) (st := []) (h := hp kp (some 3) rh tl rl I L) rfl hf (fun hc hf => ?_) (fun hc hf => ?_)
        · exact tc_59_1 Ls xs d kp tl rl rh I L (some (.ref 26)) (some (.int x1)) (some (.int x2)) (some (.int q0)) none x3 r hf
        · refine bs_st 2 (x' := (52, [some (.ref 26), some (.int x1), some (.int x2), some (.int x3), some (.int q0), none], [.int (1 : Int32)], hp kp (some 3) rh tl rl I L)) rfl ?_
          exact tc_59_2 Ls xs d kp tl rl rh I L (some (.ref 26)) (some (.int x1)) (some (.int x2)) (some (.int q0)) none x3 (1 : Int32) r hf
/-- Night.ageFlames(I) on (26,) -/
def c_58_4 (n : Nat) (K1 : Int32 → Int32 → FI → FL → Option (FI × FL)) (x1 : Int32) (x3 : Int32) (x5 : Int32) (I : FI) (L : FL) : Option (FI × FL) :=
  if pin ((x1 * (4 : Int32)) + x3) 120 = true then K1 x1 (x3 + (1 : Int32)) (u2 I 31 (((x1 * (4 : Int32)) + x3).toNatClampNeg) x5) L else none
set_option maxHeartbeats 1000000 in
theorem tc_58_4 (Ls : Nat) (xs : Nat → Int32) (d : Nat) (kp : Option Nat) (tl : List (Nat × Nat)) (rl : List (List (Option Nat))) (rh : Option Nat) (n : Nat) (K1 : Int32 → Int32 → FI → FL → Option (FI × FL)) (hK1 : ∀ (w2 : Option Value) (w4 : Option Value) (w5 : Option Value) (x1 : Int32) (x3 : Int32) (I : FI) (L : FL) (r : FI × FL), K1 x1 x3 I L = some r → Bs cd_58 (sf 6 rs_6 false 6 none Ls xs (d + 2)) (33, [some (.ref 26), some (.int x1), w2, some (.int x3), w4, w5], [], hp kp (some 3) rh tl rl I L) (none, hp kp (some 3) rh tl rl r.1 r.2)) (w2 : Option Value) (w4 : Option Value) (x1 : Int32) (x3 : Int32) (x5 : Int32) (I : FI) (L : FL) (r : FI × FL) (hf : c_58_4 n K1 x1 x3 x5 I L = some r) : Bs cd_58 (sf 6 rs_6 false 6 none Ls xs (d + 2)) (110, [some (.ref 26), some (.int x1), w2, some (.int x3), w4, some (.int x5)], [], hp kp (some 3) rh tl rl I L) (none, hp kp (some 3) rh tl rl r.1 r.2) := by
  unfold c_58_4 at hf
  refine bs_st 8 (x' := (121, [some (.ref 26), some (.int x1), w2, some (.int x3), w4, some (.int x5)], [.int x5, .int ((x1 * (4 : Int32)) + x3), .ref 31], hp kp (some 3) rh tl rl I L)) rfl ?_
  refine bs_gd (x' := (122, [some (.ref 26), some (.int x1), w2, some (.int x3), w4, some (.int x5)], [], hp kp (some 3) rh tl rl (u2 I 31 (((x1 * (4 : Int32)) + x3).toNatClampNeg) x5) L)) rfl hf (fun hc hf => ?_)
  refine bs_st 2 (x' := (33, [some (.ref 26), some (.int x1), (pcl w2), some (.int (x3 + (1 : Int32))), w4, some (.int x5)], [], hp kp (some 3) rh tl rl (u2 I 31 (((x1 * (4 : Int32)) + x3).toNatClampNeg) x5) L)) rfl ?_
  exact hK1 (pcl w2) w4 (some (.int x5)) x1 (x3 + (1 : Int32)) (u2 I 31 (((x1 * (4 : Int32)) + x3).toNatClampNeg) x5) L r hf
def c_58_3 (n : Nat) (K1 : Int32 → Int32 → FI → FL → Option (FI × FL)) (x1 : Int32) (x3 : Int32) (s0 : Int32) (I : FI) (L : FL) : Option (FI × FL) :=
  if s0 = (99 : Int32) then
    c_58_4 n K1 x1 x3 s0 I L
  else
    if pin x3 4 = true then (if s0 ≤ I 27 x3.toNatClampNeg then
        c_58_4 n K1 x1 x3 s0 I L
      else
        if pin x3 4 = true then c_58_4 n K1 x1 x3 (99 : Int32) (u2 I 32 x3.toNatClampNeg x1) L else none) else none
set_option maxHeartbeats 1000000 in
theorem tc_58_3 (Ls : Nat) (xs : Nat → Int32) (d : Nat) (kp : Option Nat) (tl : List (Nat × Nat)) (rl : List (List (Option Nat))) (rh : Option Nat) (n : Nat) (K1 : Int32 → Int32 → FI → FL → Option (FI × FL)) (hK1 : ∀ (w2 : Option Value) (w4 : Option Value) (w5 : Option Value) (x1 : Int32) (x3 : Int32) (I : FI) (L : FL) (r : FI × FL), K1 x1 x3 I L = some r → Bs cd_58 (sf 6 rs_6 false 6 none Ls xs (d + 2)) (33, [some (.ref 26), some (.int x1), w2, some (.int x3), w4, w5], [], hp kp (some 3) rh tl rl I L) (none, hp kp (some 3) rh tl rl r.1 r.2)) (w2 : Option Value) (w4 : Option Value) (w5 : Option Value) (x1 : Int32) (x3 : Int32) (s0 : Int32) (I : FI) (L : FL) (r : FI × FL) (hf : c_58_3 n K1 x1 x3 s0 I L = some r) : Bs cd_58 (sf 6 rs_6 false 6 none Ls xs (d + 2)) (79, [some (.ref 26), some (.int x1), w2, some (.int x3), w4, w5], [.int s0], hp kp (some 3) rh tl rl I L) (none, hp kp (some 3) rh tl rl r.1 r.2) := by
  unfold c_58_3 at hf
  refine bs_st 3 (x' := (85, [some (.ref 26), some (.int x1), w2, some (.int x3), (pcl w4), some (.int s0)], [.int (99 : Int32), .int s0], hp kp (some 3) rh tl rl I L)) rfl ?_
  refine bs_br (t := 110) (e := 88) (lo := [some (.ref 26), some (.int x1), w2, some (.int x3), (pcl w4), some (.int s0)]) (st := []) (h := hp kp (some 3) rh tl rl I L) rfl hf (fun hc hf => ?_) (fun hc hf => ?_)
  · exact tc_58_4 Ls xs d kp tl rl rh n _ hK1 w2 (pcl w4) x1 x3 s0 I L r hf
  · refine bs_st 4 (x' := (95, [some (.ref 26), some (.int x1), w2, some (.int x3), (pcl w4), some (.int s0)], [.int x3, .ref 27, .int s0], hp kp (some 3) rh tl rl I L)) rfl ?_
    refine bs_gd (x' := (96, [some (.ref 26), some (.int x1), w2, some (.int x3), (pcl w4), some (.int s0)], [.int (I 27 x3.toNatClampNeg), .int s0], hp kp (some 3) rh tl rl I L)) rfl hf (fun hc hf => ?_)
    refine bs_br (t := 110) (e := 99) (lo := [some (.ref 26), some (.int x1), w2, some (.int x3), (pcl w4), some (.int s0)]) (st := []) (h := hp kp (some 3) rh tl rl I L) rfl hf (fun hc hf => ?_) (fun hc hf => ?_)
    · exact tc_58_4 Ls xs d kp tl rl rh n _ hK1 w2 (pcl w4) x1 x3 s0 I L r hf
    · refine bs_st 6 (x' := (109, [some (.ref 26), some (.int x1), w2, some (.int x3), (pcl (pcl w4)), some (.int (99 : Int32))], [.int x1, .int x3, .ref 32], hp kp (some 3) rh tl rl I L)) rfl ?_
      refine bs_gd (x' := (110, [some (.ref 26), some (.int x1), w2, some (.int x3), (pcl (pcl w4)), some (.int (99 : Int32))], [], hp kp (some 3) rh tl rl (u2 I 32 x3.toNatClampNeg x1) L)) rfl hf (fun hc hf => ?_)
      exact tc_58_4 Ls xs d kp tl rl rh n _ hK1 w2 (pcl (pcl w4)) x1 x3 (99 : Int32) (u2 I 32 x3.toNatClampNeg x1) L r hf
def c_58_2 (n : Nat) (K1 : Int32 → Int32 → FI → FL → Option (FI × FL)) (x1 : Int32) (x3 : Int32) (s0 : Int32) (I : FI) (L : FL) : Option (FI × FL) :=
  if ¬ s0 = (99 : Int32) then
    (f_59 x3 x1 s0 I L).bind fun q2 =>
    c_58_3 n K1 x1 x3 q2 I L
  else
    c_58_3 n K1 x1 x3 (99 : Int32) I L
set_option maxHeartbeats 1000000 in
theorem tc_58_2 (Ls : Nat) (xs : Nat → Int32) (d : Nat) (kp : Option Nat) (tl : List (Nat × Nat)) (rl : List (List (Option Nat))) (rh : Option Nat) (n : Nat) (K1 : Int32 → Int32 → FI → FL → Option (FI × FL)) (hK1 : ∀ (w2 : Option Value) (w4 : Option Value) (w5 : Option Value) (x1 : Int32) (x3 : Int32) (I : FI) (L : FL) (r : FI × FL), K1 x1 x3 I L = some r → Bs cd_58 (sf 6 rs_6 false 6 none Ls xs (d + 2)) (33, [some (.ref 26), some (.int x1), w2, some (.int x3), w4, w5], [], hp kp (some 3) rh tl rl I L) (none, hp kp (some 3) rh tl rl r.1 r.2)) (w2 : Option Value) (w4 : Option Value) (w5 : Option Value) (x1 : Int32) (x3 : Int32) (s0 : Int32) (I : FI) (L : FL) (r : FI × FL) (hf : c_58_2 n K1 x1 x3 s0 I L = some r) : Bs cd_58 (sf 6 rs_6 false 6 none Ls xs (d + 2)) (57, [some (.ref 26), some (.int x1), w2, some (.int x3), w4, w5], [.int s0], hp kp (some 3) rh tl rl I L) (none, hp kp (some 3) rh tl rl r.1 r.2) := by
  unfold c_58_2 at hf
  refine bs_st 3 (x' := (63, [some (.ref 26), some (.int x1), w2, some (.int x3), some (.int s0), w5], [.int (99 : Int32), .int s0], hp kp (some 3) rh tl rl I L)) rfl ?_
  refine bs_br (t := 71) (e := 66) (lo := [some (.ref 26), some (.int x1), w2, some (.int x3), some (.int s0), w5]) (st := []) (h := hp kp (some 3) rh tl rl I L) rfl hf (fun hc hf => ?_) (fun hc hf => ?_)
  · refine bs_st 4 (x' := (76, [some (.ref 26), some (.int x1), w2, some (.int x3), some (.int s0), w5], [.int s0, .int x1, .int x3, .ref 26], hp kp (some 3) rh tl rl I L)) rfl ?_
    obtain ⟨q2, hq2, hf⟩ := Option.bind_eq_some_iff.mp hf
    refine bs_call (o := pEN Ls xs (d + 2) 59 [.ref 26, .int x3, .int x1, .int s0] (hp kp (some 3) rh tl rl I L)) (w := some (.int q2)) (h' := hp kp (some 3) rh tl rl I L) (pc := 79) (lo := [some (.ref 26), some (.int x1), w2, some (.int x3), some (.int s0), w5]) (rest := []) rfl (t_59 Ls xs (d + 0) kp tl rl rh x3 x1 s0 I L q2 hq2) ?_
    exact tc_58_3 Ls xs d kp tl rl rh n _ hK1 w2 (some (.int s0)) w5 x1 x3 q2 I L r hf
  · refine bs_st 2 (x' := (79, [some (.ref 26), some (.int x1), w2, some (.int x3), some (.int s0), w5], [.int (99 : Int32)], hp kp (some 3) rh tl rl I L)) rfl ?_
    exact tc_58_3 Ls xs d kp tl rl rh n _ hK1 w2 (some (.int s0)) w5 x1 x3 (99 : Int32) I L r hf
def b_58_1 (n : Nat) (K1 : Int32 → Int32 → FI → FL → Option (FI × FL)) (x1 : Int32) (x3 : Int32) (I : FI) (L : FL) : Option (FI × FL) :=
  if I 26 10 ≤ x3 then
    some (I, L)
  else
    if ¬ x1 = 0 then
      (f_60 x3 (x1 - (1 : Int32)) I L).bind fun q1 =>
      c_58_2 n K1 x1 x3 q1 I L
    else
      c_58_2 n K1 x1 x3 (0 : Int32) I L
def c_58_1 (n : Nat) : Nat → Int32 → Int32 → FI → FL → Option (FI × FL)
  | 0, _, _, _, _ => none
  | m + 1, x1, x3, I, L => b_58_1 n (c_58_1 n m) x1 x3 I L
set_option maxHeartbeats 1000000 in
theorem tc_58_1 (Ls : Nat) (xs : Nat → Int32) (d : Nat) (kp : Option Nat) (tl : List (Nat × Nat)) (rl : List (List (Option Nat))) (rh : Option Nat) (n : Nat) : ∀ (m : Nat) (w2 : Option Value) (w4 : Option Value) (w5 : Option Value) (x1 : Int32) (x3 : Int32) (I : FI) (L : FL) (r : FI × FL), c_58_1 n m x1 x3 I L = some r → Bs cd_58 (sf 6 rs_6 false 6 none Ls xs (d + 2)) (33, [some (.ref 26), some (.int x1), w2, some (.int x3), w4, w5], [], hp kp (some 3) rh tl rl I L) (none, hp kp (some 3) rh tl rl r.1 r.2)
  | 0, w2, w4, w5, x1, x3, I, L, r, hf => by cases hf
  | m + 1, w2, w4, w5, x1, x3, I, L, r, hf => by
    unfold c_58_1 b_58_1 at hf
    have hK1 := tc_58_1 Ls xs d kp tl rl rh n m
    refine bs_st 3 (x' := (38, [some (.ref 26), some (.int x1), w2, some (.int x3), w4, w5], [.int (I 26 10), .int x3], hp kp (some 3) rh tl rl I L)) rfl ?_
    refine bs_br (t := 128) (e := 41) (lo := [some (.ref 26), some (.int x1), w2, some (.int x3), w4, w5]) (st := []) (h := hp kp (some 3) rh tl rl I L) rfl hf (fun hc hf => ?_) (fun hc hf => ?_)
    · cases hf
      exact bs_ret rfl
    · refine bs_st 1 (x' := (42, [some (.ref 26), some (.int x1), w2, some (.int x3), w4, w5], [.int x1], hp kp (some 3) rh tl rl I L)) rfl ?_
      refine bs_br (t := 49) (e := 45) (lo := [some (.ref 26), some (.int x1), w2, some (.int x3), w4, w5]) (st := []) (h := hp kp (some 3) rh tl rl I L) rfl hf (fun hc hf => ?_) (fun hc hf => ?_)
      · refine bs_st 5 (x' := (54, [some (.ref 26), some (.int x1), w2, some (.int x3), w4, w5], [.int (x1 - (1 : Int32)), .int x3, .ref 26], hp kp (some 3) rh tl rl I L)) rfl ?_
        obtain ⟨q1, hq1, hf⟩ := Option.bind_eq_some_iff.mp hf
        refine bs_call (o := pEN Ls xs (d + 2) 60 [.ref 26, .int x3, .int (x1 - (1 : Int32))] (hp kp (some 3) rh tl rl I L)) (w := some (.int q1)) (h' := hp kp (some 3) rh tl rl I L) (pc := 57) (lo := [some (.ref 26), some (.int x1), w2, some (.int x3), w4, w5]) (rest := []) rfl (t_60 Ls xs (d + 1) kp tl rl rh x3 (x1 - (1 : Int32)) I L q1 hq1) ?_
        exact tc_58_2 Ls xs d kp tl rl rh n _ hK1 w2 w4 w5 x1 x3 q1 I L r hf
      · refine bs_st 2 (x' := (57, [some (.ref 26), some (.int x1), w2, some (.int x3), w4, w5], [.int (0 : Int32)], hp kp (some 3) rh tl rl I L)) rfl ?_
        exact tc_58_2 Ls xs d kp tl rl rh n _ hK1 w2 w4 w5 x1 x3 (0 : Int32) I L r hf
def c_58_0 (n : Nat) (x1 : Int32) (s0 : Int32) (s1 : Int32) (s2 : Int32) (I : FI) (L : FL) : Option (FI × FL) :=
  if pin s2 30 = true then c_58_1 n n x1 (0 : Int32) (u2 I 30 s2.toNatClampNeg (s1 ||| s0)) L else none
set_option maxHeartbeats 1000000 in
theorem tc_58_0 (Ls : Nat) (xs : Nat → Int32) (d : Nat) (kp : Option Nat) (tl : List (Nat × Nat)) (rl : List (List (Option Nat))) (rh : Option Nat) (n : Nat) (w2 : Option Value) (w3 : Option Value) (w4 : Option Value) (w5 : Option Value) (x1 : Int32) (s0 : Int32) (s1 : Int32) (s2 : Int32) (I : FI) (L : FL) (r : FI × FL) (hf : c_58_0 n x1 s0 s1 s2 I L = some r) : Bs cd_58 (sf 6 rs_6 false 6 none Ls xs (d + 2)) (29, [some (.ref 26), some (.int x1), w2, w3, w4, w5], [.int s0, .int s1, .int s2, .ref 30], hp kp (some 3) rh tl rl I L) (none, hp kp (some 3) rh tl rl r.1 r.2) := by
  unfold c_58_0 at hf
  refine bs_st 1 (x' := (30, [some (.ref 26), some (.int x1), w2, w3, w4, w5], [.int (s1 ||| s0), .int s2, .ref 30], hp kp (some 3) rh tl rl I L)) rfl ?_
  refine bs_gd (x' := (31, [some (.ref 26), some (.int x1), w2, w3, w4, w5], [], hp kp (some 3) rh tl rl (u2 I 30 s2.toNatClampNeg (s1 ||| s0)) L)) rfl hf (fun hc hf => ?_)
  refine bs_st 2 (x' := (33, [some (.ref 26), some (.int x1), (pcl w2), some (.int (0 : Int32)), w4, w5], [], hp kp (some 3) rh tl rl (u2 I 30 s2.toNatClampNeg (s1 ||| s0)) L)) rfl ?_
  exact tc_58_1 Ls xs d kp tl rl rh n n (pcl w2) w4 w5 x1 (0 : Int32) (u2 I 30 s2.toNatClampNeg (s1 ||| s0)) L r hf
def f_58 (n : Nat) (x1 : Int32) (I : FI) (L : FL) : Option (FI × FL) :=
  (f_57 x1 I L).bind fun q0 =>
  if pin x1 30 = true then (if ¬ q0 = (-1 : Int32) then
      c_58_0 n x1 ((1 : Int32) <<< (q0 &&& 31)) (I 28 x1.toNatClampNeg) x1 I L
    else
      c_58_0 n x1 (0 : Int32) (I 28 x1.toNatClampNeg) x1 I L) else none
set_option maxHeartbeats 1000000 in
theorem t_58 (Ls : Nat) (xs : Nat → Int32) (d : Nat) (kp : Option Nat) (tl : List (Nat × Nat)) (rl : List (List (Option Nat))) (rh : Option Nat) (n : Nat) (x1 : Int32) (I : FI) (L : FL) (r : FI × FL) (hf : f_58 n x1 I L = some r) : pEN Ls xs (d + 3) 58 [.ref 26, .int x1] (hp kp (some 3) rh tl rl I L) = some (none, hp kp (some 3) rh tl rl r.1 r.2) := by
  refine en_run (d := d + 2) (cd := cd_58) (f := (sf 6 rs_6 false 6 none Ls xs (d + 2))) rfl rfl (x := (0, [some (.ref 26), some (.int x1), none, none, none, none], [], hp kp (some 3) rh tl rl I L)) rfl rfl (Nat.le_of_ble_eq_true rfl) ?_
  unfold f_58 at hf
  refine bs_st 2 (x' := (2, [some (.ref 26), some (.int x1), none, none, none, none], [.int x1, .ref 26], hp kp (some 3) rh tl rl I L)) rfl ?_
  obtain ⟨q0, hq0, hf⟩ := Option.bind_eq_some_iff.mp hf
  refine bs_call (o := pEN Ls xs (d + 2) 57 [.ref 26, .int x1] (hp kp (some 3) rh tl rl I L)) (w := some (.int q0)) (h' := hp kp (some 3) rh tl rl I L) (pc := 5) (lo := [some (.ref 26), some (.int x1), none, none, none, none]) (rest := []) rfl (t_57 Ls xs (d + 1) kp tl rl rh x1 I L q0 hq0) ?_
  refine bs_st 7 (x' := (16, [some (.ref 26), some (.int x1), some (.int q0), none, none, none], [.int x1, .ref 28, .int x1, .ref 30], hp kp (some 3) rh tl rl I L)) rfl ?_
  refine bs_gd (x' := (17, [some (.ref 26), some (.int x1), some (.int q0), none, none, none], [.int (I 28 x1.toNatClampNeg), .int x1, .ref 30], hp kp (some 3) rh tl rl I L)) rfl hf (fun hc hf => ?_)
  refine bs_st 2 (x' := (19, [some (.ref 26), some (.int x1), some (.int q0), none, none, none], [.int (-1 : Int32), .int q0, .int (I 28 x1.toNatClampNeg), .int x1, .ref 30], hp kp (some 3) rh tl rl I L)) rfl ?_
  refine bs_br (t := 26) (e := 22) (lo := [some (.ref 26), some (.int x1), some (.int q0), none, none, none]) (st := [.int (I 28 x1.toNatClampNeg), .int x1, .ref 30]) (h := hp kp (some 3) rh tl rl I L) rfl hf (fun hc hf => ?_) (fun hc hf => ?_)
  · refine bs_st 3 (x' := (29, [some (.ref 26), some (.int x1), some (.int q0), none, none, none], [.int ((1 : Int32) <<< (q0 &&& 31)), .int (I 28 x1.toNatClampNeg), .int x1, .ref 30], hp kp (some 3) rh tl rl I L)) rfl ?_
    exact tc_58_0 Ls xs d kp tl rl rh n (some (.int q0)) none none none x1 ((1 : Int32) <<< (q0 &&& 31)) (I 28 x1.toNatClampNeg) x1 I L r hf
  · refine bs_st 2 (x' := (29, [some (.ref 26), some (.int x1), some (.int q0), none, none, none], [.int (0 : Int32), .int (I 28 x1.toNatClampNeg), .int x1, .ref 30], hp kp (some 3) rh tl rl I L)) rfl ?_
    exact tc_58_0 Ls xs d kp tl rl rh n (some (.int q0)) none none none x1 (0 : Int32) (I 28 x1.toNatClampNeg) x1 I L r hf
/-- Night.pass() on (26,) -/
def b_55_1 (n : Nat) (K1 : Int32 → FI → FL → Option (FI × FL)) (x1 : Int32) (I : FI) (L : FL) : Option (FI × FL) :=
  if I 26 11 ≤ x1 then
    some (I, L)
  else
    (f_56 n x1 I L).bind fun q0 =>
    if pin x1 30 = true then ((f_58 n x1 (u2 I 29 x1.toNatClampNeg q0) L).bind fun q1 =>
      K1 (x1 + (1 : Int32)) q1.1 q1.2) else none
def c_55_1 (n : Nat) : Nat → Int32 → FI → FL → Option (FI × FL)
  | 0, _, _, _ => none
  | m + 1, x1, I, L => b_55_1 n (c_55_1 n m) x1 I L
set_option maxHeartbeats 1000000 in
theorem tc_55_1 (Ls : Nat) (xs : Nat → Int32) (d : Nat) (kp : Option Nat) (tl : List (Nat × Nat)) (rl : List (List (Option Nat))) (rh : Option Nat) (n : Nat) : ∀ (m : Nat) (x1 : Int32) (I : FI) (L : FL) (r : FI × FL), c_55_1 n m x1 I L = some r → Bs cd_55 (sf 6 rs_6 false 2 none Ls xs (d + 4)) (22, [some (.ref 26), some (.int x1)], [], hp kp (some 3) rh tl rl I L) (none, hp kp (some 3) rh tl rl r.1 r.2)
  | 0, x1, I, L, r, hf => by cases hf
  | m + 1, x1, I, L, r, hf => by
    unfold c_55_1 b_55_1 at hf
    have hK1 := tc_55_1 Ls xs d kp tl rl rh n m
    refine bs_st 3 (x' := (27, [some (.ref 26), some (.int x1)], [.int (I 26 11), .int x1], hp kp (some 3) rh tl rl I L)) rfl ?_
    refine bs_br (t := 52) (e := 30) (lo := [some (.ref 26), some (.int x1)]) (st := []) (h := hp kp (some 3) rh tl rl I L) rfl hf (fun hc hf => ?_) (fun hc hf => ?_)
    · cases hf
      exact bs_ret rfl
    · refine bs_st 5 (x' := (37, [some (.ref 26), some (.int x1)], [.int x1, .ref 26, .int x1, .ref 29], hp kp (some 3) rh tl rl I L)) rfl ?_
      obtain ⟨q0, hq0, hf⟩ := Option.bind_eq_some_iff.mp hf
      refine bs_call (o := pEN Ls xs (d + 4) 56 [.ref 26, .int x1] (hp kp (some 3) rh tl rl I L)) (w := some (.int q0)) (h' := hp kp (some 3) rh tl rl I L) (pc := 40) (lo := [some (.ref 26), some (.int x1)]) (rest := [.int x1, .ref 29]) rfl (t_56 Ls xs (d + 0) kp tl rl rh n x1 I L q0 hq0) ?_
      refine bs_gd (x' := (41, [some (.ref 26), some (.int x1)], [], hp kp (some 3) rh tl rl (u2 I 29 x1.toNatClampNeg q0) L)) rfl hf (fun hc hf => ?_)
      refine bs_st 2 (x' := (43, [some (.ref 26), some (.int x1)], [.int x1, .ref 26], hp kp (some 3) rh tl rl (u2 I 29 x1.toNatClampNeg q0) L)) rfl ?_
      obtain ⟨q1, hq1, hf⟩ := Option.bind_eq_some_iff.mp hf
      refine bs_call (o := pEN Ls xs (d + 4) 58 [.ref 26, .int x1] (hp kp (some 3) rh tl rl (u2 I 29 x1.toNatClampNeg q0) L)) (w := none) (h' := hp kp (some 3) rh tl rl q1.1 q1.2) (pc := 46) (lo := [some (.ref 26), some (.int x1)]) (rest := []) rfl (t_58 Ls xs (d + 1) kp tl rl rh n x1 (u2 I 29 x1.toNatClampNeg q0) L q1 hq1) ?_
      refine bs_st 2 (x' := (22, [some (.ref 26), some (.int (x1 + (1 : Int32)))], [], hp kp (some 3) rh tl rl q1.1 q1.2)) rfl ?_
      exact hK1 (x1 + (1 : Int32)) q1.1 q1.2 r hf
def b_55_0 (n : Nat) (K0 : Int32 → FI → FL → Option (FI × FL)) (x1 : Int32) (I : FI) (L : FL) : Option (FI × FL) :=
  if (4 : Int32) ≤ x1 then
    c_55_1 n n (0 : Int32) I L
  else
    if pin x1 4 = true then K0 (x1 + (1 : Int32)) (u2 I 32 x1.toNatClampNeg (-1 : Int32)) L else none
def c_55_0 (n : Nat) : Nat → Int32 → FI → FL → Option (FI × FL)
  | 0, _, _, _ => none
  | m + 1, x1, I, L => b_55_0 n (c_55_0 n m) x1 I L
set_option maxHeartbeats 1000000 in
theorem tc_55_0 (Ls : Nat) (xs : Nat → Int32) (d : Nat) (kp : Option Nat) (tl : List (Nat × Nat)) (rl : List (List (Option Nat))) (rh : Option Nat) (n : Nat) : ∀ (m : Nat) (x1 : Int32) (I : FI) (L : FL) (r : FI × FL), c_55_0 n m x1 I L = some r → Bs cd_55 (sf 6 rs_6 false 2 none Ls xs (d + 4)) (2, [some (.ref 26), some (.int x1)], [], hp kp (some 3) rh tl rl I L) (none, hp kp (some 3) rh tl rl r.1 r.2)
  | 0, x1, I, L, r, hf => by cases hf
  | m + 1, x1, I, L, r, hf => by
    unfold c_55_0 b_55_0 at hf
    have hK0 := tc_55_0 Ls xs d kp tl rl rh n m
    refine bs_st 2 (x' := (4, [some (.ref 26), some (.int x1)], [.int (4 : Int32), .int x1], hp kp (some 3) rh tl rl I L)) rfl ?_
    refine bs_br (t := 20) (e := 7) (lo := [some (.ref 26), some (.int x1)]) (st := []) (h := hp kp (some 3) rh tl rl I L) rfl hf (fun hc hf => ?_) (fun hc hf => ?_)
    · refine bs_st 2 (x' := (22, [some (.ref 26), some (.int (0 : Int32))], [], hp kp (some 3) rh tl rl I L)) rfl ?_
      exact tc_55_1 Ls xs d kp tl rl rh n n (0 : Int32) I L r hf
    · refine bs_st 4 (x' := (13, [some (.ref 26), some (.int x1)], [.int (-1 : Int32), .int x1, .ref 32], hp kp (some 3) rh tl rl I L)) rfl ?_
      refine bs_gd (x' := (14, [some (.ref 26), some (.int x1)], [], hp kp (some 3) rh tl rl (u2 I 32 x1.toNatClampNeg (-1 : Int32)) L)) rfl hf (fun hc hf => ?_)
      refine bs_st 2 (x' := (2, [some (.ref 26), some (.int (x1 + (1 : Int32)))], [], hp kp (some 3) rh tl rl (u2 I 32 x1.toNatClampNeg (-1 : Int32)) L)) rfl ?_
      exact hK0 (x1 + (1 : Int32)) (u2 I 32 x1.toNatClampNeg (-1 : Int32)) L r hf
def f_55 (n : Nat) (I : FI) (L : FL) : Option (FI × FL) :=
  c_55_0 n n (0 : Int32) I L
set_option maxHeartbeats 1000000 in
theorem t_55 (Ls : Nat) (xs : Nat → Int32) (d : Nat) (kp : Option Nat) (tl : List (Nat × Nat)) (rl : List (List (Option Nat))) (rh : Option Nat) (n : Nat) (I : FI) (L : FL) (r : FI × FL) (hf : f_55 n I L = some r) : pEN Ls xs (d + 5) 55 [.ref 26] (hp kp (some 3) rh tl rl I L) = some (none, hp kp (some 3) rh tl rl r.1 r.2) := by
  refine en_run (d := d + 4) (cd := cd_55) (f := (sf 6 rs_6 false 2 none Ls xs (d + 4))) rfl rfl (x := (0, [some (.ref 26), none], [], hp kp (some 3) rh tl rl I L)) rfl rfl (Nat.le_of_ble_eq_true rfl) ?_
  unfold f_55 at hf
  refine bs_st 2 (x' := (2, [some (.ref 26), some (.int (0 : Int32))], [], hp kp (some 3) rh tl rl I L)) rfl ?_
  exact tc_55_0 Ls xs d kp tl rl rh n n (0 : Int32) I L r hf
/-- LampRounds.tonight(I) on (0,) -/
def f_191 (n : Nat) (x1 : Int32) (I : FI) (L : FL) : Option (FI × FL) :=
  (f_53 n (31 : Int32) I L).bind fun q0 =>
  (f_55 n (u2 q0.1 26 8 x1) q0.2).bind fun q1 =>
  some (q1.1, q1.2)
set_option maxHeartbeats 1000000 in
theorem t_191 (Ls : Nat) (xs : Nat → Int32) (d : Nat) (kp : Option Nat) (tl : List (Nat × Nat)) (rl : List (List (Option Nat))) (nh : Option Nat) (rh : Option Nat) (n : Nat) (x1 : Int32) (I : FI) (L : FL) (r : FI × FL) (hf : f_191 n x1 I L = some r) : pEN Ls xs (d + 6) 191 [.ref 0, .int x1] (hp kp nh rh tl rl I L) = some (some (.ref 26), hp kp (some 3) rh tl rl r.1 r.2) := by
  refine en_run (d := d + 5) (cd := cd_191) (f := (sf 11 rs_11 false 2 (some (.object "LampRounds$Night")) Ls xs (d + 5))) rfl rfl (x := (0, [some (.ref 0), some (.int x1)], [], hp kp nh rh tl rl I L)) rfl rfl (Nat.le_of_ble_eq_true rfl) ?_
  unfold f_191 at hf
  refine bs_st 7 (x' := (14, [some (.ref 0), some (.int x1)], [.int (31 : Int32), .ref 11, .ref 3, .ref 26], hp kp nh rh tl rl I L)) rfl ?_
  obtain ⟨q0, hq0, hf⟩ := Option.bind_eq_some_iff.mp hf
  refine bs_call (o := pEN Ls xs (d + 5) 53 [.ref 26, .ref 3, .ref 11, .int (31 : Int32)] (hp kp nh rh tl rl I L)) (w := none) (h' := hp kp (some 3) rh tl rl q0.1 q0.2) (pc := 17) (lo := [some (.ref 0), some (.int x1)]) (rest := []) rfl (t_53 Ls xs (d + 4) kp tl rl nh rh n (31 : Int32) I L q0 hq0) ?_
  refine bs_st 6 (x' := (29, [some (.ref 0), some (.int x1)], [.ref 26], hp kp (some 3) rh tl rl (u2 q0.1 26 8 x1) q0.2)) rfl ?_
  obtain ⟨q1, hq1, hf⟩ := Option.bind_eq_some_iff.mp hf
  refine bs_call (o := pEN Ls xs (d + 5) 55 [.ref 26] (hp kp (some 3) rh tl rl (u2 q0.1 26 8 x1) q0.2)) (w := none) (h' := hp kp (some 3) rh tl rl q1.1 q1.2) (pc := 32) (lo := [some (.ref 0), some (.int x1)]) (rest := []) rfl (t_55 Ls xs (d + 0) kp tl rl rh n (u2 q0.1 26 8 x1) q0.2 q1 hq1) ?_
  refine bs_st 2 (x' := (36, [some (.ref 0), some (.int x1)], [.ref 26], hp kp (some 3) rh tl rl q1.1 q1.2)) rfl ?_
  cases hf
  exact bs_ret rfl
/-- LampRounds.at(II) on (0,) -/
def f_121 (n : Nat) (nh : Option Nat) (x1 : Int32) (x2 : Int32) (I : FI) (L : FL) : Option (Int32 × Option Nat × FI × FL) :=
  (f_181 x1 I L).bind fun q0 =>
  if q0 = 0 then
    some ((-2 : Int32), nh, I, L)
  else
    (f_180 x2 I L).bind fun q1 =>
    if ¬ q1 = 0 then
      (f_191 n x1 I L).bind fun q2 =>
      if pin x2 30 = true then some (q2.1 29 x2.toNatClampNeg, (some 3), q2.1, q2.2) else none
    else
      some ((-2 : Int32), nh, I, L)
set_option maxHeartbeats 1000000 in
theorem t_121 (Ls : Nat) (xs : Nat → Int32) (d : Nat) (kp : Option Nat) (tl : List (Nat × Nat)) (rl : List (List (Option Nat))) (nh : Option Nat) (rh : Option Nat) (n : Nat) (x1 : Int32) (x2 : Int32) (I : FI) (L : FL) (r : Int32 × Option Nat × FI × FL) (hf : f_121 n nh x1 x2 I L = some r) : pEN Ls xs (d + 7) 121 [.ref 0, .int x1, .int x2] (hp kp nh rh tl rl I L) = some (some (.int r.1), hp kp r.2.1 rh tl rl r.2.2.1 r.2.2.2) := by
  refine en_run (d := d + 6) (cd := cd_121) (f := (sf 11 rs_11 false 3 (some (.int)) Ls xs (d + 6))) rfl rfl (x := (0, [some (.ref 0), some (.int x1), some (.int x2)], [], hp kp nh rh tl rl I L)) rfl rfl (Nat.le_of_ble_eq_true rfl) ?_
  unfold f_121 at hf
  refine bs_st 2 (x' := (2, [some (.ref 0), some (.int x1), some (.int x2)], [.int x1, .ref 0], hp kp nh rh tl rl I L)) rfl ?_
  obtain ⟨q0, hq0, hf⟩ := Option.bind_eq_some_iff.mp hf
  refine bs_call (o := pEN Ls xs (d + 6) 181 [.ref 0, .int x1] (hp kp nh rh tl rl I L)) (w := some (.int q0)) (h' := hp kp nh rh tl rl I L) (pc := 5) (lo := [some (.ref 0), some (.int x1), some (.int x2)]) (rest := []) rfl (t_181 Ls xs (d + 4) kp tl rl nh rh x1 I L q0 hq0) ?_
  refine bs_br (t := 16) (e := 8) (lo := [some (.ref 0), some (.int x1), some (.int x2)]) (st := []) (h := hp kp nh rh tl rl I L) rfl hf (fun hc hf => ?_) (fun hc hf => ?_)
  · refine bs_st 1 (x' := (18, [some (.ref 0), some (.int x1), some (.int x2)], [.int (-2 : Int32)], hp kp nh rh tl rl I L)) rfl ?_
    cases hf
    exact bs_ret rfl
  · refine bs_st 2 (x' := (10, [some (.ref 0), some (.int x1), some (.int x2)], [.int x2, .ref 0], hp kp nh rh tl rl I L)) rfl ?_
    obtain ⟨q1, hq1, hf⟩ := Option.bind_eq_some_iff.mp hf
    refine bs_call (o := pEN Ls xs (d + 6) 180 [.ref 0, .int x2] (hp kp nh rh tl rl I L)) (w := some (.int q1)) (h' := hp kp nh rh tl rl I L) (pc := 13) (lo := [some (.ref 0), some (.int x1), some (.int x2)]) (rest := []) rfl (t_180 Ls xs (d + 5) kp tl rl nh rh x2 I L q1 hq1) ?_
    refine bs_br (t := 19) (e := 16) (lo := [some (.ref 0), some (.int x1), some (.int x2)]) (st := []) (h := hp kp nh rh tl rl I L) rfl hf (fun hc hf => ?_) (fun hc hf => ?_)
    · refine bs_st 2 (x' := (21, [some (.ref 0), some (.int x1), some (.int x2)], [.int x1, .ref 0], hp kp nh rh tl rl I L)) rfl ?_
      obtain ⟨q2, hq2, hf⟩ := Option.bind_eq_some_iff.mp hf
      refine bs_call (o := pEN Ls xs (d + 6) 191 [.ref 0, .int x1] (hp kp nh rh tl rl I L)) (w := some (.ref 26)) (h' := hp kp (some 3) rh tl rl q2.1 q2.2) (pc := 24) (lo := [some (.ref 0), some (.int x1), some (.int x2)]) (rest := []) rfl (t_191 Ls xs (d + 0) kp tl rl nh rh n x1 I L q2 hq2) ?_
      refine bs_st 2 (x' := (28, [some (.ref 0), some (.int x1), some (.int x2)], [.int x2, .ref 29], hp kp (some 3) rh tl rl q2.1 q2.2)) rfl ?_
      refine bs_gd (x' := (29, [some (.ref 0), some (.int x1), some (.int x2)], [.int (q2.1 29 x2.toNatClampNeg)], hp kp (some 3) rh tl rl q2.1 q2.2)) rfl hf (fun hc hf => ?_)
      cases hf
      exact bs_ret rfl
    · refine bs_st 1 (x' := (18, [some (.ref 0), some (.int x1), some (.int x2)], [.int (-2 : Int32)], hp kp nh rh tl rl I L)) rfl ?_
      cases hf
      exact bs_ret rfl
/-- LampRounds.age(III) on (0,) -/
def f_122 (n : Nat) (nh : Option Nat) (x1 : Int32) (x2 : Int32) (x3 : Int32) (I : FI) (L : FL) : Option (Int32 × Option Nat × FI × FL) :=
  (f_181 x1 I L).bind fun q0 =>
  if q0 = 0 then
    some ((-2 : Int32), nh, I, L)
  else
    (f_178 x2 I L).bind fun q1 =>
    if q1 = 0 then
      some ((-2 : Int32), nh, I, L)
    else
      (f_180 x3 I L).bind fun q2 =>
      if ¬ q2 = 0 then
        (f_191 n x1 I L).bind fun q3 =>
        (f_60 x2 x3 q3.1 q3.2).bind fun q4 =>
        some (q4, (some 3), q3.1, q3.2)
      else
        some ((-2 : Int32), nh, I, L)
set_option maxHeartbeats 1000000 in
theorem t_122 (Ls : Nat) (xs : Nat → Int32) (d : Nat) (kp : Option Nat) (tl : List (Nat × Nat)) (rl : List (List (Option Nat))) (nh : Option Nat) (rh : Option Nat) (n : Nat) (x1 : Int32) (x2 : Int32) (x3 : Int32) (I : FI) (L : FL) (r : Int32 × Option Nat × FI × FL) (hf : f_122 n nh x1 x2 x3 I L = some r) : pEN Ls xs (d + 7) 122 [.ref 0, .int x1, .int x2, .int x3] (hp kp nh rh tl rl I L) = some (some (.int r.1), hp kp r.2.1 rh tl rl r.2.2.1 r.2.2.2) := by
  refine en_run (d := d + 6) (cd := cd_122) (f := (sf 11 rs_11 false 4 (some (.int)) Ls xs (d + 6))) rfl rfl (x := (0, [some (.ref 0), some (.int x1), some (.int x2), some (.int x3)], [], hp kp nh rh tl rl I L)) rfl rfl (Nat.le_of_ble_eq_true rfl) ?_
  unfold f_122 at hf
  refine bs_st 2 (x' := (2, [some (.ref 0), some (.int x1), some (.int x2), some (.int x3)], [.int x1, .ref 0], hp kp nh rh tl rl I L)) rfl ?_
  obtain ⟨q0, hq0, hf⟩ := Option.bind_eq_some_iff.mp hf
  refine bs_call (o := pEN Ls xs (d + 6) 181 [.ref 0, .int x1] (hp kp nh rh tl rl I L)) (w := some (.int q0)) (h' := hp kp nh rh tl rl I L) (pc := 5) (lo := [some (.ref 0), some (.int x1), some (.int x2), some (.int x3)]) (rest := []) rfl (t_181 Ls xs (d + 4) kp tl rl nh rh x1 I L q0 hq0) ?_
  refine bs_br (t := 24) (e := 8) (lo := [some (.ref 0), some (.int x1), some (.int x2), some (.int x3)]) (st := []) (h := hp kp nh rh tl rl I L) rfl hf (fun hc hf => ?_) (fun hc hf => ?_)
  · refine bs_st 1 (x' := (26, [some (.ref 0), some (.int x1), some (.int x2), some (.int x3)], [.int (-2 : Int32)], hp kp nh rh tl rl I L)) rfl ?_
    cases hf
    exact bs_ret rfl
  · refine bs_st 2 (x' := (10, [some (.ref 0), some (.int x1), some (.int x2), some (.int x3)], [.int x2, .ref 0], hp kp nh rh tl rl I L)) rfl ?_
    obtain ⟨q1, hq1, hf⟩ := Option.bind_eq_some_iff.mp hf
    refine bs_call (o := pEN Ls xs (d + 6) 178 [.ref 0, .int x2] (hp kp nh rh tl rl I L)) (w := some (.int q1)) (h' := hp kp nh rh tl rl I L) (pc := 13) (lo := [some (.ref 0), some (.int x1), some (.int x2), some (.int x3)]) (rest := []) rfl (t_178 Ls xs (d + 5) kp tl rl nh rh x2 I L q1 hq1) ?_
    refine bs_br (t := 24) (e := 16) (lo := [some (.ref 0), some (.int x1), some (.int x2), some (.int x3)]) (st := []) (h := hp kp nh rh tl rl I L) rfl hf (fun hc hf => ?_) (fun hc hf => ?_)
    · refine bs_st 1 (x' := (26, [some (.ref 0), some (.int x1), some (.int x2), some (.int x3)], [.int (-2 : Int32)], hp kp nh rh tl rl I L)) rfl ?_
      cases hf
      exact bs_ret rfl
    · refine bs_st 2 (x' := (18, [some (.ref 0), some (.int x1), some (.int x2), some (.int x3)], [.int x3, .ref 0], hp kp nh rh tl rl I L)) rfl ?_
      obtain ⟨q2, hq2, hf⟩ := Option.bind_eq_some_iff.mp hf
      refine bs_call (o := pEN Ls xs (d + 6) 180 [.ref 0, .int x3] (hp kp nh rh tl rl I L)) (w := some (.int q2)) (h' := hp kp nh rh tl rl I L) (pc := 21) (lo := [some (.ref 0), some (.int x1), some (.int x2), some (.int x3)]) (rest := []) rfl (t_180 Ls xs (d + 5) kp tl rl nh rh x3 I L q2 hq2) ?_
      refine bs_br (t := 27) (e := 24) (lo := [some (.ref 0), some (.int x1), some (.int x2), some (.int x3)]) (st := []) (h := hp kp nh rh tl rl I L) rfl hf (fun hc hf => ?_) (fun hc hf => ?_)
      · refine bs_st 2 (x' := (29, [some (.ref 0), some (.int x1), some (.int x2), some (.int x3)], [.int x1, .ref 0], hp kp nh rh tl rl I L)) rfl ?_
        obtain ⟨q3, hq3, hf⟩ := Option.bind_eq_some_iff.mp hf
        refine bs_call (o := pEN Ls xs (d + 6) 191 [.ref 0, .int x1] (hp kp nh rh tl rl I L)) (w := some (.ref 26)) (h' := hp kp (some 3) rh tl rl q3.1 q3.2) (pc := 32) (lo := [some (.ref 0), some (.int x1), some (.int x2), some (.int x3)]) (rest := []) rfl (t_191 Ls xs (d + 0) kp tl rl nh rh n x1 I L q3 hq3) ?_
        refine bs_st 2 (x' := (34, [some (.ref 0), some (.int x1), some (.int x2), some (.int x3)], [.int x3, .int x2, .ref 26], hp kp (some 3) rh tl rl q3.1 q3.2)) rfl ?_
        obtain ⟨q4, hq4, hf⟩ := Option.bind_eq_some_iff.mp hf
        refine bs_call (o := pEN Ls xs (d + 6) 60 [.ref 26, .int x2, .int x3] (hp kp (some 3) rh tl rl q3.1 q3.2)) (w := some (.int q4)) (h' := hp kp (some 3) rh tl rl q3.1 q3.2) (pc := 37) (lo := [some (.ref 0), some (.int x1), some (.int x2), some (.int x3)]) (rest := []) rfl (t_60 Ls xs (d + 5) kp tl rl rh x2 x3 q3.1 q3.2 q4 hq4) ?_
        cases hf
        exact bs_ret rfl
      · refine bs_st 1 (x' := (26, [some (.ref 0), some (.int x1), some (.int x2), some (.int x3)], [.int (-2 : Int32)], hp kp nh rh tl rl I L)) rfl ?_
        cases hf
        exact bs_ret rfl
/-- LampRounds.left(III) on (0,) -/
def f_123 (n : Nat) (nh : Option Nat) (x1 : Int32) (x2 : Int32) (x3 : Int32) (I : FI) (L : FL) : Option (Int32 × Option Nat × FI × FL) :=
  (f_181 x1 I L).bind fun q0 =>
  if q0 = 0 then
    some ((-2 : Int32), nh, I, L)
  else
    (f_178 x2 I L).bind fun q1 =>
    if q1 = 0 then
      some ((-2 : Int32), nh, I, L)
    else
      (f_180 x3 I L).bind fun q2 =>
      if ¬ q2 = 0 then
        (f_191 n x1 I L).bind fun q3 =>
        (f_61 x2 x3 q3.1 q3.2).bind fun q4 =>
        some (q4, (some 3), q3.1, q3.2)
      else
        some ((-2 : Int32), nh, I, L)
set_option maxHeartbeats 1000000 in
theorem t_123 (Ls : Nat) (xs : Nat → Int32) (d : Nat) (kp : Option Nat) (tl : List (Nat × Nat)) (rl : List (List (Option Nat))) (nh : Option Nat) (rh : Option Nat) (n : Nat) (x1 : Int32) (x2 : Int32) (x3 : Int32) (I : FI) (L : FL) (r : Int32 × Option Nat × FI × FL) (hf : f_123 n nh x1 x2 x3 I L = some r) : pEN Ls xs (d + 7) 123 [.ref 0, .int x1, .int x2, .int x3] (hp kp nh rh tl rl I L) = some (some (.int r.1), hp kp r.2.1 rh tl rl r.2.2.1 r.2.2.2) := by
  refine en_run (d := d + 6) (cd := cd_123) (f := (sf 11 rs_11 false 4 (some (.int)) Ls xs (d + 6))) rfl rfl (x := (0, [some (.ref 0), some (.int x1), some (.int x2), some (.int x3)], [], hp kp nh rh tl rl I L)) rfl rfl (Nat.le_of_ble_eq_true rfl) ?_
  unfold f_123 at hf
  refine bs_st 2 (x' := (2, [some (.ref 0), some (.int x1), some (.int x2), some (.int x3)], [.int x1, .ref 0], hp kp nh rh tl rl I L)) rfl ?_
  obtain ⟨q0, hq0, hf⟩ := Option.bind_eq_some_iff.mp hf
  refine bs_call (o := pEN Ls xs (d + 6) 181 [.ref 0, .int x1] (hp kp nh rh tl rl I L)) (w := some (.int q0)) (h' := hp kp nh rh tl rl I L) (pc := 5) (lo := [some (.ref 0), some (.int x1), some (.int x2), some (.int x3)]) (rest := []) rfl (t_181 Ls xs (d + 4) kp tl rl nh rh x1 I L q0 hq0) ?_
  refine bs_br (t := 24) (e := 8) (lo := [some (.ref 0), some (.int x1), some (.int x2), some (.int x3)]) (st := []) (h := hp kp nh rh tl rl I L) rfl hf (fun hc hf => ?_) (fun hc hf => ?_)
  · refine bs_st 1 (x' := (26, [some (.ref 0), some (.int x1), some (.int x2), some (.int x3)], [.int (-2 : Int32)], hp kp nh rh tl rl I L)) rfl ?_
    cases hf
    exact bs_ret rfl
  · refine bs_st 2 (x' := (10, [some (.ref 0), some (.int x1), some (.int x2), some (.int x3)], [.int x2, .ref 0], hp kp nh rh tl rl I L)) rfl ?_
    obtain ⟨q1, hq1, hf⟩ := Option.bind_eq_some_iff.mp hf
    refine bs_call (o := pEN Ls xs (d + 6) 178 [.ref 0, .int x2] (hp kp nh rh tl rl I L)) (w := some (.int q1)) (h' := hp kp nh rh tl rl I L) (pc := 13) (lo := [some (.ref 0), some (.int x1), some (.int x2), some (.int x3)]) (rest := []) rfl (t_178 Ls xs (d + 5) kp tl rl nh rh x2 I L q1 hq1) ?_
    refine bs_br (t := 24) (e := 16) (lo := [some (.ref 0), some (.int x1), some (.int x2), some (.int x3)]) (st := []) (h := hp kp nh rh tl rl I L) rfl hf (fun hc hf => ?_) (fun hc hf => ?_)
    · refine bs_st 1 (x' := (26, [some (.ref 0), some (.int x1), some (.int x2), some (.int x3)], [.int (-2 : Int32)], hp kp nh rh tl rl I L)) rfl ?_
      cases hf
      exact bs_ret rfl
    · refine bs_st 2 (x' := (18, [some (.ref 0), some (.int x1), some (.int x2), some (.int x3)], [.int x3, .ref 0], hp kp nh rh tl rl I L)) rfl ?_
      obtain ⟨q2, hq2, hf⟩ := Option.bind_eq_some_iff.mp hf
      refine bs_call (o := pEN Ls xs (d + 6) 180 [.ref 0, .int x3] (hp kp nh rh tl rl I L)) (w := some (.int q2)) (h' := hp kp nh rh tl rl I L) (pc := 21) (lo := [some (.ref 0), some (.int x1), some (.int x2), some (.int x3)]) (rest := []) rfl (t_180 Ls xs (d + 5) kp tl rl nh rh x3 I L q2 hq2) ?_
      refine bs_br (t := 27) (e := 24) (lo := [some (.ref 0), some (.int x1), some (.int x2), some (.int x3)]) (st := []) (h := hp kp nh rh tl rl I L) rfl hf (fun hc hf => ?_) (fun hc hf => ?_)
      · refine bs_st 2 (x' := (29, [some (.ref 0), some (.int x1), some (.int x2), some (.int x3)], [.int x1, .ref 0], hp kp nh rh tl rl I L)) rfl ?_
        obtain ⟨q3, hq3, hf⟩ := Option.bind_eq_some_iff.mp hf
        refine bs_call (o := pEN Ls xs (d + 6) 191 [.ref 0, .int x1] (hp kp nh rh tl rl I L)) (w := some (.ref 26)) (h' := hp kp (some 3) rh tl rl q3.1 q3.2) (pc := 32) (lo := [some (.ref 0), some (.int x1), some (.int x2), some (.int x3)]) (rest := []) rfl (t_191 Ls xs (d + 0) kp tl rl nh rh n x1 I L q3 hq3) ?_
        refine bs_st 2 (x' := (34, [some (.ref 0), some (.int x1), some (.int x2), some (.int x3)], [.int x3, .int x2, .ref 26], hp kp (some 3) rh tl rl q3.1 q3.2)) rfl ?_
        obtain ⟨q4, hq4, hf⟩ := Option.bind_eq_some_iff.mp hf
        refine bs_call (o := pEN Ls xs (d + 6) 61 [.ref 26, .int x2, .int x3] (hp kp (some 3) rh tl rl q3.1 q3.2)) (w := some (.int q4)) (h' := hp kp (some 3) rh tl rl q3.1 q3.2) (pc := 37) (lo := [some (.ref 0), some (.int x1), some (.int x2), some (.int x3)]) (rest := []) rfl (t_61 Ls xs (d + 4) kp tl rl rh x2 x3 q3.1 q3.2 q4 hq4) ?_
        cases hf
        exact bs_ret rfl
      · refine bs_st 1 (x' := (26, [some (.ref 0), some (.int x1), some (.int x2), some (.int x3)], [.int (-2 : Int32)], hp kp nh rh tl rl I L)) rfl ?_
        cases hf
        exact bs_ret rfl
/-- Night.burning(I) on (26,) -/
def c_63_1 (n : Nat) (I : FI) (L : FL) (K0 : Int32 → Int32 → Int32 → Option (Int32)) (x1 : Int32) (x2 : Int32) (x3 : Int32) : Option (Int32) :=
  K0 x1 x2 (x3 + (1 : Int32))
set_option maxHeartbeats 1000000 in
theorem tc_63_1 (Ls : Nat) (xs : Nat → Int32) (d : Nat) (kp : Option Nat) (tl : List (Nat × Nat)) (rl : List (List (Option Nat))) (rh : Option Nat) (n : Nat) (I : FI) (L : FL) (K0 : Int32 → Int32 → Int32 → Option (Int32)) (hK0 : ∀ (x1 : Int32) (x2 : Int32) (x3 : Int32) (r : Int32), K0 x1 x2 x3 = some r → Bs cd_63 (sf 6 rs_6 false 4 (some (.int)) Ls xs (d + 1)) (4, [some (.ref 26), some (.int x1), some (.int x2), some (.int x3)], [], hp kp (some 3) rh tl rl I L) (some (.int r), hp kp (some 3) rh tl rl I L)) (x1 : Int32) (x2 : Int32) (x3 : Int32) (r : Int32) (hf : c_63_1 n I L K0 x1 x2 x3 = some r) : Bs cd_63 (sf 6 rs_6 false 4 (some (.int)) Ls xs (d + 1)) (29, [some (.ref 26), some (.int x1), some (.int x2), some (.int x3)], [], hp kp (some 3) rh tl rl I L) (some (.int r), hp kp (some 3) rh tl rl I L) := by
  unfold c_63_1 at hf
  refine bs_st 2 (x' := (4, [some (.ref 26), some (.int x1), some (.int x2), some (.int (x3 + (1 : Int32)))], [], hp kp (some 3) rh tl rl I L)) rfl ?_
  exact hK0 x1 x2 (x3 + (1 : Int32)) r hf
def b_63_0 (n : Nat) (I : FI) (L : FL) (K0 : Int32 → Int32 → Int32 → Option (Int32)) (x1 : Int32) (x2 : Int32) (x3 : Int32) : Option (Int32) :=
  if I 26 10 ≤ x3 then
    some (x2)
  else
    (f_60 x3 x1 I L).bind fun q0 =>
    if q0 = (99 : Int32) then
      c_63_1 n I L K0 x1 x2 x3
    else
      c_63_1 n I L K0 x1 (x2 ||| ((1 : Int32) <<< (x3 &&& 31))) x3
def c_63_0 (n : Nat) (I : FI) (L : FL) : Nat → Int32 → Int32 → Int32 → Option (Int32)
  | 0, _, _, _ => none
  | m + 1, x1, x2, x3 => b_63_0 n I L (c_63_0 n I L m) x1 x2 x3
set_option maxHeartbeats 1000000 in
theorem tc_63_0 (Ls : Nat) (xs : Nat → Int32) (d : Nat) (kp : Option Nat) (tl : List (Nat × Nat)) (rl : List (List (Option Nat))) (rh : Option Nat) (n : Nat) (I : FI) (L : FL) : ∀ (m : Nat) (x1 : Int32) (x2 : Int32) (x3 : Int32) (r : Int32), c_63_0 n I L m x1 x2 x3 = some r → Bs cd_63 (sf 6 rs_6 false 4 (some (.int)) Ls xs (d + 1)) (4, [some (.ref 26), some (.int x1), some (.int x2), some (.int x3)], [], hp kp (some 3) rh tl rl I L) (some (.int r), hp kp (some 3) rh tl rl I L)
  | 0, x1, x2, x3, r, hf => by cases hf
  | m + 1, x1, x2, x3, r, hf => by
    unfold c_63_0 b_63_0 at hf
    have hK0 := tc_63_0 Ls xs d kp tl rl rh n I L m
    refine bs_st 3 (x' := (9, [some (.ref 26), some (.int x1), some (.int x2), some (.int x3)], [.int (I 26 10), .int x3], hp kp (some 3) rh tl rl I L)) rfl ?_
    refine bs_br (t := 35) (e := 12) (lo := [some (.ref 26), some (.int x1), some (.int x2), some (.int x3)]) (st := []) (h := hp kp (some 3) rh tl rl I L) rfl hf (fun hc hf => ?_) (fun hc hf => ?_)
    · refine bs_st 1 (x' := (36, [some (.ref 26), some (.int x1), some (.int x2), some (.int x3)], [.int x2], hp kp (some 3) rh tl rl I L)) rfl ?_
      cases hf
      exact bs_ret rfl
    · refine bs_st 3 (x' := (15, [some (.ref 26), some (.int x1), some (.int x2), some (.int x3)], [.int x1, .int x3, .ref 26], hp kp (some 3) rh tl rl I L)) rfl ?_
      obtain ⟨q0, hq0, hf⟩ := Option.bind_eq_some_iff.mp hf
      refine bs_call (o := pEN Ls xs (d + 1) 60 [.ref 26, .int x3, .int x1] (hp kp (some 3) rh tl rl I L)) (w := some (.int q0)) (h' := hp kp (some 3) rh tl rl I L) (pc := 18) (lo := [some (.ref 26), some (.int x1), some (.int x2), some (.int x3)]) (rest := []) rfl (t_60 Ls xs (d + 0) kp tl rl rh x3 x1 I L q0 hq0) ?_
      refine bs_st 1 (x' := (20, [some (.ref 26), some (.int x1), some (.int x2), some (.int x3)], [.int (99 : Int32), .int q0], hp kp (some 3) rh tl rl I L)) rfl ?_
      refine bs_br (t := 29) (e := 23) (lo := [some (.ref 26), some (.int x1), some (.int x2), some (.int x3)]) (st := []) (h := hp kp (some 3) rh tl rl I L) rfl hf (fun hc hf => ?_) (fun hc hf => ?_)
      · exact tc_63_1 Ls xs d kp tl rl rh n I L _ hK0 x1 x2 x3 r hf
      · refine bs_st 6 (x' := (29, [some (.ref 26), some (.int x1), some (.int (x2 ||| ((1 : Int32) <<< (x3 &&& 31)))), some (.int x3)], [], hp kp (some 3) rh tl rl I L)) rfl ?_
        exact tc_63_1 Ls xs d kp tl rl rh n I L _ hK0 x1 (x2 ||| ((1 : Int32) <<< (x3 &&& 31))) x3 r hf
def f_63 (n : Nat) (x1 : Int32) (I : FI) (L : FL) : Option (Int32) :=
  c_63_0 n I L n x1 (0 : Int32) (0 : Int32)
set_option maxHeartbeats 1000000 in
theorem t_63 (Ls : Nat) (xs : Nat → Int32) (d : Nat) (kp : Option Nat) (tl : List (Nat × Nat)) (rl : List (List (Option Nat))) (rh : Option Nat) (n : Nat) (x1 : Int32) (I : FI) (L : FL) (r : Int32) (hf : f_63 n x1 I L = some r) : pEN Ls xs (d + 2) 63 [.ref 26, .int x1] (hp kp (some 3) rh tl rl I L) = some (some (.int r), hp kp (some 3) rh tl rl I L) := by
  refine en_run (d := d + 1) (cd := cd_63) (f := (sf 6 rs_6 false 4 (some (.int)) Ls xs (d + 1))) rfl rfl (x := (0, [some (.ref 26), some (.int x1), none, none], [], hp kp (some 3) rh tl rl I L)) rfl rfl (Nat.le_of_ble_eq_true rfl) ?_
  unfold f_63 at hf
  refine bs_st 4 (x' := (4, [some (.ref 26), some (.int x1), some (.int (0 : Int32)), some (.int (0 : Int32))], [], hp kp (some 3) rh tl rl I L)) rfl ?_
  exact tc_63_0 Ls xs d kp tl rl rh n I L n x1 (0 : Int32) (0 : Int32) r hf
/-- LampRounds.burns(II) on (0,) -/
def f_124 (n : Nat) (nh : Option Nat) (x1 : Int32) (x2 : Int32) (I : FI) (L : FL) : Option (Int32 × Option Nat × FI × FL) :=
  (f_181 x1 I L).bind fun q0 =>
  if q0 = 0 then
    some ((-2 : Int32), nh, I, L)
  else
    (f_180 x2 I L).bind fun q1 =>
    if ¬ q1 = 0 then
      (f_191 n x1 I L).bind fun q2 =>
      (f_63 n x2 q2.1 q2.2).bind fun q3 =>
      some (q3, (some 3), q2.1, q2.2)
    else
      some ((-2 : Int32), nh, I, L)
set_option maxHeartbeats 1000000 in
theorem t_124 (Ls : Nat) (xs : Nat → Int32) (d : Nat) (kp : Option Nat) (tl : List (Nat × Nat)) (rl : List (List (Option Nat))) (nh : Option Nat) (rh : Option Nat) (n : Nat) (x1 : Int32) (x2 : Int32) (I : FI) (L : FL) (r : Int32 × Option Nat × FI × FL) (hf : f_124 n nh x1 x2 I L = some r) : pEN Ls xs (d + 7) 124 [.ref 0, .int x1, .int x2] (hp kp nh rh tl rl I L) = some (some (.int r.1), hp kp r.2.1 rh tl rl r.2.2.1 r.2.2.2) := by
  refine en_run (d := d + 6) (cd := cd_124) (f := (sf 11 rs_11 false 3 (some (.int)) Ls xs (d + 6))) rfl rfl (x := (0, [some (.ref 0), some (.int x1), some (.int x2)], [], hp kp nh rh tl rl I L)) rfl rfl (Nat.le_of_ble_eq_true rfl) ?_
  unfold f_124 at hf
  refine bs_st 2 (x' := (2, [some (.ref 0), some (.int x1), some (.int x2)], [.int x1, .ref 0], hp kp nh rh tl rl I L)) rfl ?_
  obtain ⟨q0, hq0, hf⟩ := Option.bind_eq_some_iff.mp hf
  refine bs_call (o := pEN Ls xs (d + 6) 181 [.ref 0, .int x1] (hp kp nh rh tl rl I L)) (w := some (.int q0)) (h' := hp kp nh rh tl rl I L) (pc := 5) (lo := [some (.ref 0), some (.int x1), some (.int x2)]) (rest := []) rfl (t_181 Ls xs (d + 4) kp tl rl nh rh x1 I L q0 hq0) ?_
  refine bs_br (t := 16) (e := 8) (lo := [some (.ref 0), some (.int x1), some (.int x2)]) (st := []) (h := hp kp nh rh tl rl I L) rfl hf (fun hc hf => ?_) (fun hc hf => ?_)
  · refine bs_st 1 (x' := (18, [some (.ref 0), some (.int x1), some (.int x2)], [.int (-2 : Int32)], hp kp nh rh tl rl I L)) rfl ?_
    cases hf
    exact bs_ret rfl
  · refine bs_st 2 (x' := (10, [some (.ref 0), some (.int x1), some (.int x2)], [.int x2, .ref 0], hp kp nh rh tl rl I L)) rfl ?_
    obtain ⟨q1, hq1, hf⟩ := Option.bind_eq_some_iff.mp hf
    refine bs_call (o := pEN Ls xs (d + 6) 180 [.ref 0, .int x2] (hp kp nh rh tl rl I L)) (w := some (.int q1)) (h' := hp kp nh rh tl rl I L) (pc := 13) (lo := [some (.ref 0), some (.int x1), some (.int x2)]) (rest := []) rfl (t_180 Ls xs (d + 5) kp tl rl nh rh x2 I L q1 hq1) ?_
    refine bs_br (t := 19) (e := 16) (lo := [some (.ref 0), some (.int x1), some (.int x2)]) (st := []) (h := hp kp nh rh tl rl I L) rfl hf (fun hc hf => ?_) (fun hc hf => ?_)
    · refine bs_st 2 (x' := (21, [some (.ref 0), some (.int x1), some (.int x2)], [.int x1, .ref 0], hp kp nh rh tl rl I L)) rfl ?_
      obtain ⟨q2, hq2, hf⟩ := Option.bind_eq_some_iff.mp hf
      refine bs_call (o := pEN Ls xs (d + 6) 191 [.ref 0, .int x1] (hp kp nh rh tl rl I L)) (w := some (.ref 26)) (h' := hp kp (some 3) rh tl rl q2.1 q2.2) (pc := 24) (lo := [some (.ref 0), some (.int x1), some (.int x2)]) (rest := []) rfl (t_191 Ls xs (d + 0) kp tl rl nh rh n x1 I L q2 hq2) ?_
      refine bs_st 1 (x' := (25, [some (.ref 0), some (.int x1), some (.int x2)], [.int x2, .ref 26], hp kp (some 3) rh tl rl q2.1 q2.2)) rfl ?_
      obtain ⟨q3, hq3, hf⟩ := Option.bind_eq_some_iff.mp hf
      refine bs_call (o := pEN Ls xs (d + 6) 63 [.ref 26, .int x2] (hp kp (some 3) rh tl rl q2.1 q2.2)) (w := some (.int q3)) (h' := hp kp (some 3) rh tl rl q2.1 q2.2) (pc := 28) (lo := [some (.ref 0), some (.int x1), some (.int x2)]) (rest := []) rfl (t_63 Ls xs (d + 4) kp tl rl rh n x2 q2.1 q2.2 q3 hq3) ?_
      cases hf
      exact bs_ret rfl
    · refine bs_st 1 (x' := (18, [some (.ref 0), some (.int x1), some (.int x2)], [.int (-2 : Int32)], hp kp nh rh tl rl I L)) rfl ?_
      cases hf
      exact bs_ret rfl
/-- LampRounds.out(II) on (0,) -/
def f_125 (n : Nat) (nh : Option Nat) (x1 : Int32) (x2 : Int32) (I : FI) (L : FL) : Option (Int32 × Option Nat × FI × FL) :=
  (f_181 x1 I L).bind fun q0 =>
  if q0 = 0 then
    some ((-2 : Int32), nh, I, L)
  else
    (f_178 x2 I L).bind fun q1 =>
    if ¬ q1 = 0 then
      (f_191 n x1 I L).bind fun q2 =>
      if pin x2 4 = true then some (q2.1 32 x2.toNatClampNeg, (some 3), q2.1, q2.2) else none
    else
      some ((-2 : Int32), nh, I, L)
set_option maxHeartbeats 1000000 in
theorem t_125 (Ls : Nat) (xs : Nat → Int32) (d : Nat) (kp : Option Nat) (tl : List (Nat × Nat)) (rl : List (List (Option Nat))) (nh : Option Nat) (rh : Option Nat) (n : Nat) (x1 : Int32) (x2 : Int32) (I : FI) (L : FL) (r : Int32 × Option Nat × FI × FL) (hf : f_125 n nh x1 x2 I L = some r) : pEN Ls xs (d + 7) 125 [.ref 0, .int x1, .int x2] (hp kp nh rh tl rl I L) = some (some (.int r.1), hp kp r.2.1 rh tl rl r.2.2.1 r.2.2.2) := by
  refine en_run (d := d + 6) (cd := cd_125) (f := (sf 11 rs_11 false 3 (some (.int)) Ls xs (d + 6))) rfl rfl (x := (0, [some (.ref 0), some (.int x1), some (.int x2)], [], hp kp nh rh tl rl I L)) rfl rfl (Nat.le_of_ble_eq_true rfl) ?_
  unfold f_125 at hf
  refine bs_st 2 (x' := (2, [some (.ref 0), some (.int x1), some (.int x2)], [.int x1, .ref 0], hp kp nh rh tl rl I L)) rfl ?_
  obtain ⟨q0, hq0, hf⟩ := Option.bind_eq_some_iff.mp hf
  refine bs_call (o := pEN Ls xs (d + 6) 181 [.ref 0, .int x1] (hp kp nh rh tl rl I L)) (w := some (.int q0)) (h' := hp kp nh rh tl rl I L) (pc := 5) (lo := [some (.ref 0), some (.int x1), some (.int x2)]) (rest := []) rfl (t_181 Ls xs (d + 4) kp tl rl nh rh x1 I L q0 hq0) ?_
  refine bs_br (t := 16) (e := 8) (lo := [some (.ref 0), some (.int x1), some (.int x2)]) (st := []) (h := hp kp nh rh tl rl I L) rfl hf (fun hc hf => ?_) (fun hc hf => ?_)
  · refine bs_st 1 (x' := (18, [some (.ref 0), some (.int x1), some (.int x2)], [.int (-2 : Int32)], hp kp nh rh tl rl I L)) rfl ?_
    cases hf
    exact bs_ret rfl
  · refine bs_st 2 (x' := (10, [some (.ref 0), some (.int x1), some (.int x2)], [.int x2, .ref 0], hp kp nh rh tl rl I L)) rfl ?_
    obtain ⟨q1, hq1, hf⟩ := Option.bind_eq_some_iff.mp hf
    refine bs_call (o := pEN Ls xs (d + 6) 178 [.ref 0, .int x2] (hp kp nh rh tl rl I L)) (w := some (.int q1)) (h' := hp kp nh rh tl rl I L) (pc := 13) (lo := [some (.ref 0), some (.int x1), some (.int x2)]) (rest := []) rfl (t_178 Ls xs (d + 5) kp tl rl nh rh x2 I L q1 hq1) ?_
    refine bs_br (t := 19) (e := 16) (lo := [some (.ref 0), some (.int x1), some (.int x2)]) (st := []) (h := hp kp nh rh tl rl I L) rfl hf (fun hc hf => ?_) (fun hc hf => ?_)
    · refine bs_st 2 (x' := (21, [some (.ref 0), some (.int x1), some (.int x2)], [.int x1, .ref 0], hp kp nh rh tl rl I L)) rfl ?_
      obtain ⟨q2, hq2, hf⟩ := Option.bind_eq_some_iff.mp hf
      refine bs_call (o := pEN Ls xs (d + 6) 191 [.ref 0, .int x1] (hp kp nh rh tl rl I L)) (w := some (.ref 26)) (h' := hp kp (some 3) rh tl rl q2.1 q2.2) (pc := 24) (lo := [some (.ref 0), some (.int x1), some (.int x2)]) (rest := []) rfl (t_191 Ls xs (d + 0) kp tl rl nh rh n x1 I L q2 hq2) ?_
      refine bs_st 2 (x' := (28, [some (.ref 0), some (.int x1), some (.int x2)], [.int x2, .ref 32], hp kp (some 3) rh tl rl q2.1 q2.2)) rfl ?_
      refine bs_gd (x' := (29, [some (.ref 0), some (.int x1), some (.int x2)], [.int (q2.1 32 x2.toNatClampNeg)], hp kp (some 3) rh tl rl q2.1 q2.2)) rfl hf (fun hc hf => ?_)
      cases hf
      exact bs_ret rfl
    · refine bs_st 1 (x' := (18, [some (.ref 0), some (.int x1), some (.int x2)], [.int (-2 : Int32)], hp kp nh rh tl rl I L)) rfl ?_
      cases hf
      exact bs_ret rfl
/-- Night.firstOut() on (26,) -/
def c_65_1 (n : Nat) (I : FI) (L : FL) (K0 : Int32 → Int32 → Option (Int32)) (x1 : Int32) (x2 : Int32) : Option (Int32) :=
  K0 x1 (x2 + (1 : Int32))
set_option maxHeartbeats 1000000 in
theorem tc_65_1 (Ls : Nat) (xs : Nat → Int32) (d : Nat) (kp : Option Nat) (tl : List (Nat × Nat)) (rl : List (List (Option Nat))) (rh : Option Nat) (n : Nat) (I : FI) (L : FL) (K0 : Int32 → Int32 → Option (Int32)) (hK0 : ∀ (x1 : Int32) (x2 : Int32) (r : Int32), K0 x1 x2 = some r → Bs cd_65 (sf 6 rs_6 false 3 (some (.int)) Ls xs (d + 0)) (4, [some (.ref 26), some (.int x1), some (.int x2)], [], hp kp (some 3) rh tl rl I L) (some (.int r), hp kp (some 3) rh tl rl I L)) (x1 : Int32) (x2 : Int32) (r : Int32) (hf : c_65_1 n I L K0 x1 x2 = some r) : Bs cd_65 (sf 6 rs_6 false 3 (some (.int)) Ls xs (d + 0)) (44, [some (.ref 26), some (.int x1), some (.int x2)], [], hp kp (some 3) rh tl rl I L) (some (.int r), hp kp (some 3) rh tl rl I L) := by
  unfold c_65_1 at hf
  refine bs_st 2 (x' := (4, [some (.ref 26), some (.int x1), some (.int (x2 + (1 : Int32)))], [], hp kp (some 3) rh tl rl I L)) rfl ?_
  exact hK0 x1 (x2 + (1 : Int32)) r hf
def c_65_2 (n : Nat) (I : FI) (L : FL) (K0 : Int32 → Int32 → Option (Int32)) (x2 : Int32) : Option (Int32) :=
  c_65_1 n I L K0 x2 x2
set_option maxHeartbeats 1000000 in
theorem tc_65_2 (Ls : Nat) (xs : Nat → Int32) (d : Nat) (kp : Option Nat) (tl : List (Nat × Nat)) (rl : List (List (Option Nat))) (rh : Option Nat) (n : Nat) (I : FI) (L : FL) (K0 : Int32 → Int32 → Option (Int32)) (hK0 : ∀ (x1 : Int32) (x2 : Int32) (r : Int32), K0 x1 x2 = some r → Bs cd_65 (sf 6 rs_6 false 3 (some (.int)) Ls xs (d + 0)) (4, [some (.ref 26), some (.int x1), some (.int x2)], [], hp kp (some 3) rh tl rl I L) (some (.int r), hp kp (some 3) rh tl rl I L)) (w1 : Option Value) (x2 : Int32) (r : Int32) (hf : c_65_2 n I L K0 x2 = some r) : Bs cd_65 (sf 6 rs_6 false 3 (some (.int)) Ls xs (d + 0)) (42, [some (.ref 26), w1, some (.int x2)], [], hp kp (some 3) rh tl rl I L) (some (.int r), hp kp (some 3) rh tl rl I L) := by
  unfold c_65_2 at hf
  refine bs_st 2 (x' := (44, [some (.ref 26), some (.int x2), some (.int x2)], [], hp kp (some 3) rh tl rl I L)) rfl ?_
  exact tc_65_1 Ls xs d kp tl rl rh n I L _ hK0 x2 x2 r hf
def b_65_0 (n : Nat) (I : FI) (L : FL) (K0 : Int32 → Int32 → Option (Int32)) (x1 : Int32) (x2 : Int32) : Option (Int32) :=
  if I 26 10 ≤ x2 then
    some (x1)
  else
    if pin x2 4 = true then (if I 32 x2.toNatClampNeg = (-1 : Int32) then
        c_65_1 n I L K0 x1 x2
      else
        if x1 = (-1 : Int32) then
          c_65_2 n I L K0 x2
        else
          if pin x2 4 = true then (if pin x1 4 = true then (if I 32 x1.toNatClampNeg ≤ I 32 x2.toNatClampNeg then
                c_65_1 n I L K0 x1 x2
              else
                c_65_2 n I L K0 x2) else none) else none) else none
def c_65_0 (n : Nat) (I : FI) (L : FL) : Nat → Int32 → Int32 → Option (Int32)
  | 0, _, _ => none
  | m + 1, x1, x2 => b_65_0 n I L (c_65_0 n I L m) x1 x2
set_option maxHeartbeats 1000000 in
theorem tc_65_0 (Ls : Nat) (xs : Nat → Int32) (d : Nat) (kp : Option Nat) (tl : List (Nat × Nat)) (rl : List (List (Option Nat))) (rh : Option Nat) (n : Nat) (I : FI) (L : FL) : ∀ (m : Nat) (x1 : Int32) (x2 : Int32) (r : Int32), c_65_0 n I L m x1 x2 = some r → Bs cd_65 (sf 6 rs_6 false 3 (some (.int)) Ls xs (d + 0)) (4, [some (.ref 26), some (.int x1), some (.int x2)], [], hp kp (some 3) rh tl rl I L) (some (.int r), hp kp (some 3) rh tl rl I L)
  | 0, x1, x2, r, hf => by cases hf
  | m + 1, x1, x2, r, hf => by
    unfold c_65_0 b_65_0 at hf
    have hK0 := tc_65_0 Ls xs d kp tl rl rh n I L m
    refine bs_st 3 (x' := (9, [some (.ref 26), some (.int x1), some (.int x2)], [.int (I 26 10), .int x2], hp kp (some 3) rh tl rl I L)) rfl ?_
    refine bs_br (t := 50) (e := 12) (lo := [some (.ref 26), some (.int x1), some (.int x2)]) (st := []) (h := hp kp (some 3) rh tl rl I L) rfl hf (fun hc hf => ?_) (fun hc hf => ?_)
    · refine bs_st 1 (x' := (51, [some (.ref 26), some (.int x1), some (.int x2)], [.int x1], hp kp (some 3) rh tl rl I L)) rfl ?_
      cases hf
      exact bs_ret rfl
    · refine bs_st 3 (x' := (17, [some (.ref 26), some (.int x1), some (.int x2)], [.int x2, .ref 32], hp kp (some 3) rh tl rl I L)) rfl ?_
      refine bs_gd (x' := (18, [some (.ref 26), some (.int x1), some (.int x2)], [.int (I 32 x2.toNatClampNeg)], hp kp (some 3) rh tl rl I L)) rfl hf (fun hc hf => ?_)
      refine bs_st 1 (x' := (19, [some (.ref 26), some (.int x1), some (.int x2)], [.int (-1 : Int32), .int (I 32 x2.toNatClampNeg)], hp kp (some 3) rh tl rl I L)) rfl ?_
      refine bs_br (t := 44) (e := 22) (lo := [some (.ref 26), some (.int x1), some (.int x2)]) (st := []) (h := hp kp (some 3) rh tl rl I L) rfl hf (fun hc hf => ?_) (fun hc hf => ?_)
      · exact tc_65_1 Ls xs d kp tl rl rh n I L _ hK0 x1 x2 r hf
      · refine bs_st 2 (x' := (24, [some (.ref 26), some (.int x1), some (.int x2)], [.int (-1 : Int32), .int x1], hp kp (some 3) rh tl rl I L)) rfl ?_
        refine bs_br (t := 42) (e := 27) (lo := [some (.ref 26), some (.int x1), some (.int x2)]) (st := []) (h := hp kp (some 3) rh tl rl I L) rfl hf (fun hc hf => ?_) (fun hc hf => ?_)
        · exact tc_65_2 Ls xs d kp tl rl rh n I L _ hK0 (some (.int x1)) x2 r hf
        · refine bs_st 3 (x' := (32, [some (.ref 26), some (.int x1), some (.int x2)], [.int x2, .ref 32], hp kp (some 3) rh tl rl I L)) rfl ?_
          refine bs_gd (x' := (33, [some (.ref 26), some (.int x1), some (.int x2)], [.int (I 32 x2.toNatClampNeg)], hp kp (some 3) rh tl rl I L)) rfl hf (fun hc hf => ?_)
          refine bs_st 3 (x' := (38, [some (.ref 26), some (.int x1), some (.int x2)], [.int x1, .ref 32, .int (I 32 x2.toNatClampNeg)], hp kp (some 3) rh tl rl I L)) rfl ?_
          refine bs_gd (x' := (39, [some (.ref 26), some (.int x1), some (.int x2)], [.int (I 32 x1.toNatClampNeg), .int (I 32 x2.toNatClampNeg)], hp kp (some 3) rh tl rl I L)) rfl hf (fun hc hf => ?_)
          refine bs_br (t := 44) (e := 42) (lo := [some (.ref 26), some (.int x1), some (.int x2)]) (st := []) (h := hp kp (some 3) rh tl rl I L) rfl hf (fun hc hf => ?_) (fun hc hf => ?_)
          · exact tc_65_1 Ls xs d kp tl rl rh n I L _ hK0 x1 x2 r hf
          · exact tc_65_2 Ls xs d kp tl rl rh n I L _ hK0 (some (.int x1)) x2 r hf
def f_65 (n : Nat) (I : FI) (L : FL) : Option (Int32) :=
  c_65_0 n I L n (-1 : Int32) (0 : Int32)
set_option maxHeartbeats 1000000 in
theorem t_65 (Ls : Nat) (xs : Nat → Int32) (d : Nat) (kp : Option Nat) (tl : List (Nat × Nat)) (rl : List (List (Option Nat))) (rh : Option Nat) (n : Nat) (I : FI) (L : FL) (r : Int32) (hf : f_65 n I L = some r) : pEN Ls xs (d + 1) 65 [.ref 26] (hp kp (some 3) rh tl rl I L) = some (some (.int r), hp kp (some 3) rh tl rl I L) := by
  refine en_run (d := d + 0) (cd := cd_65) (f := (sf 6 rs_6 false 3 (some (.int)) Ls xs (d + 0))) rfl rfl (x := (0, [some (.ref 26), none, none], [], hp kp (some 3) rh tl rl I L)) rfl rfl (Nat.le_of_ble_eq_true rfl) ?_
  unfold f_65 at hf
  refine bs_st 4 (x' := (4, [some (.ref 26), some (.int (-1 : Int32)), some (.int (0 : Int32))], [], hp kp (some 3) rh tl rl I L)) rfl ?_
  exact tc_65_0 Ls xs d kp tl rl rh n I L n (-1 : Int32) (0 : Int32) r hf
/-- Night.darkness() on (26,) -/
def f_66 (n : Nat) (I : FI) (L : FL) : Option (Int32) :=
  (f_65 n I L).bind fun q0 =>
  if ¬ q0 = (-1 : Int32) then
    if pin q0 4 = true then some (I 32 q0.toNatClampNeg) else none
  else
    some ((-1 : Int32))
set_option maxHeartbeats 1000000 in
theorem t_66 (Ls : Nat) (xs : Nat → Int32) (d : Nat) (kp : Option Nat) (tl : List (Nat × Nat)) (rl : List (List (Option Nat))) (rh : Option Nat) (n : Nat) (I : FI) (L : FL) (r : Int32) (hf : f_66 n I L = some r) : pEN Ls xs (d + 2) 66 [.ref 26] (hp kp (some 3) rh tl rl I L) = some (some (.int r), hp kp (some 3) rh tl rl I L) := by
  refine en_run (d := d + 1) (cd := cd_66) (f := (sf 6 rs_6 false 2 (some (.int)) Ls xs (d + 1))) rfl rfl (x := (0, [some (.ref 26), none], [], hp kp (some 3) rh tl rl I L)) rfl rfl (Nat.le_of_ble_eq_true rfl) ?_
  unfold f_66 at hf
  refine bs_st 1 (x' := (1, [some (.ref 26), none], [.ref 26], hp kp (some 3) rh tl rl I L)) rfl ?_
  obtain ⟨q0, hq0, hf⟩ := Option.bind_eq_some_iff.mp hf
  refine bs_call (o := pEN Ls xs (d + 1) 65 [.ref 26] (hp kp (some 3) rh tl rl I L)) (w := some (.int q0)) (h' := hp kp (some 3) rh tl rl I L) (pc := 4) (lo := [some (.ref 26), none]) (rest := []) rfl (t_65 Ls xs (d + 0) kp tl rl rh n I L q0 hq0) ?_
  refine bs_st 3 (x' := (7, [some (.ref 26), some (.int q0)], [.int (-1 : Int32), .int q0], hp kp (some 3) rh tl rl I L)) rfl ?_
  refine bs_br (t := 14) (e := 10) (lo := [some (.ref 26), some (.int q0)]) (st := []) (h := hp kp (some 3) rh tl rl I L) rfl hf (fun hc hf => ?_) (fun hc hf => ?_)
  · refine bs_st 3 (x' := (19, [some (.ref 26), some (.int q0)], [.int q0, .ref 32], hp kp (some 3) rh tl rl I L)) rfl ?_
    refine bs_gd (x' := (20, [some (.ref 26), some (.int q0)], [.int (I 32 q0.toNatClampNeg)], hp kp (some 3) rh tl rl I L)) rfl hf (fun hc hf => ?_)
    cases hf
    exact bs_ret rfl
  · refine bs_st 2 (x' := (20, [some (.ref 26), some (.int q0)], [.int (-1 : Int32)], hp kp (some 3) rh tl rl I L)) rfl ?_
    cases hf
    exact bs_ret rfl
/-- LampRounds.dark(I) on (0,) -/
def f_126 (n : Nat) (nh : Option Nat) (x1 : Int32) (I : FI) (L : FL) : Option (Int32 × Option Nat × FI × FL) :=
  (f_181 x1 I L).bind fun q0 =>
  if q0 = 0 then
    some ((-2 : Int32), nh, I, L)
  else
    (f_191 n x1 I L).bind fun q1 =>
    (f_66 n q1.1 q1.2).bind fun q2 =>
    some (q2, (some 3), q1.1, q1.2)
set_option maxHeartbeats 1000000 in
theorem t_126 (Ls : Nat) (xs : Nat → Int32) (d : Nat) (kp : Option Nat) (tl : List (Nat × Nat)) (rl : List (List (Option Nat))) (nh : Option Nat) (rh : Option Nat) (n : Nat) (x1 : Int32) (I : FI) (L : FL) (r : Int32 × Option Nat × FI × FL) (hf : f_126 n nh x1 I L = some r) : pEN Ls xs (d + 7) 126 [.ref 0, .int x1] (hp kp nh rh tl rl I L) = some (some (.int r.1), hp kp r.2.1 rh tl rl r.2.2.1 r.2.2.2) := by
  refine en_run (d := d + 6) (cd := cd_126) (f := (sf 11 rs_11 false 2 (some (.int)) Ls xs (d + 6))) rfl rfl (x := (0, [some (.ref 0), some (.int x1)], [], hp kp nh rh tl rl I L)) rfl rfl (Nat.le_of_ble_eq_true rfl) ?_
  unfold f_126 at hf
  refine bs_st 2 (x' := (2, [some (.ref 0), some (.int x1)], [.int x1, .ref 0], hp kp nh rh tl rl I L)) rfl ?_
  obtain ⟨q0, hq0, hf⟩ := Option.bind_eq_some_iff.mp hf
  refine bs_call (o := pEN Ls xs (d + 6) 181 [.ref 0, .int x1] (hp kp nh rh tl rl I L)) (w := some (.int q0)) (h' := hp kp nh rh tl rl I L) (pc := 5) (lo := [some (.ref 0), some (.int x1)]) (rest := []) rfl (t_181 Ls xs (d + 4) kp tl rl nh rh x1 I L q0 hq0) ?_
  refine bs_br (t := 19) (e := 8) (lo := [some (.ref 0), some (.int x1)]) (st := []) (h := hp kp nh rh tl rl I L) rfl hf (fun hc hf => ?_) (fun hc hf => ?_)
  · refine bs_st 1 (x' := (21, [some (.ref 0), some (.int x1)], [.int (-2 : Int32)], hp kp nh rh tl rl I L)) rfl ?_
    cases hf
    exact bs_ret rfl
  · refine bs_st 2 (x' := (10, [some (.ref 0), some (.int x1)], [.int x1, .ref 0], hp kp nh rh tl rl I L)) rfl ?_
    obtain ⟨q1, hq1, hf⟩ := Option.bind_eq_some_iff.mp hf
    refine bs_call (o := pEN Ls xs (d + 6) 191 [.ref 0, .int x1] (hp kp nh rh tl rl I L)) (w := some (.ref 26)) (h' := hp kp (some 3) rh tl rl q1.1 q1.2) (pc := 13) (lo := [some (.ref 0), some (.int x1)]) (rest := []) rfl (t_191 Ls xs (d + 0) kp tl rl nh rh n x1 I L q1 hq1) ?_
    obtain ⟨q2, hq2, hf⟩ := Option.bind_eq_some_iff.mp hf
    refine bs_call (o := pEN Ls xs (d + 6) 66 [.ref 26] (hp kp (some 3) rh tl rl q1.1 q1.2)) (w := some (.int q2)) (h' := hp kp (some 3) rh tl rl q1.1 q1.2) (pc := 16) (lo := [some (.ref 0), some (.int x1)]) (rest := []) rfl (t_66 Ls xs (d + 4) kp tl rl rh n q1.1 q1.2 q2 hq2) ?_
    refine bs_st 1 (x' := (21, [some (.ref 0), some (.int x1)], [.int q2], hp kp (some 3) rh tl rl q1.1 q1.2)) rfl ?_
    cases hf
    exact bs_ret rfl
/-- LampRounds.first(I) on (0,) -/
def f_127 (n : Nat) (nh : Option Nat) (x1 : Int32) (I : FI) (L : FL) : Option (Int32 × Option Nat × FI × FL) :=
  (f_181 x1 I L).bind fun q0 =>
  if q0 = 0 then
    some ((-2 : Int32), nh, I, L)
  else
    (f_191 n x1 I L).bind fun q1 =>
    (f_65 n q1.1 q1.2).bind fun q2 =>
    some (q2, (some 3), q1.1, q1.2)
set_option maxHeartbeats 1000000 in
theorem t_127 (Ls : Nat) (xs : Nat → Int32) (d : Nat) (kp : Option Nat) (tl : List (Nat × Nat)) (rl : List (List (Option Nat))) (nh : Option Nat) (rh : Option Nat) (n : Nat) (x1 : Int32) (I : FI) (L : FL) (r : Int32 × Option Nat × FI × FL) (hf : f_127 n nh x1 I L = some r) : pEN Ls xs (d + 7) 127 [.ref 0, .int x1] (hp kp nh rh tl rl I L) = some (some (.int r.1), hp kp r.2.1 rh tl rl r.2.2.1 r.2.2.2) := by
  refine en_run (d := d + 6) (cd := cd_127) (f := (sf 11 rs_11 false 2 (some (.int)) Ls xs (d + 6))) rfl rfl (x := (0, [some (.ref 0), some (.int x1)], [], hp kp nh rh tl rl I L)) rfl rfl (Nat.le_of_ble_eq_true rfl) ?_
  unfold f_127 at hf
  refine bs_st 2 (x' := (2, [some (.ref 0), some (.int x1)], [.int x1, .ref 0], hp kp nh rh tl rl I L)) rfl ?_
  obtain ⟨q0, hq0, hf⟩ := Option.bind_eq_some_iff.mp hf
  refine bs_call (o := pEN Ls xs (d + 6) 181 [.ref 0, .int x1] (hp kp nh rh tl rl I L)) (w := some (.int q0)) (h' := hp kp nh rh tl rl I L) (pc := 5) (lo := [some (.ref 0), some (.int x1)]) (rest := []) rfl (t_181 Ls xs (d + 4) kp tl rl nh rh x1 I L q0 hq0) ?_
  refine bs_br (t := 19) (e := 8) (lo := [some (.ref 0), some (.int x1)]) (st := []) (h := hp kp nh rh tl rl I L) rfl hf (fun hc hf => ?_) (fun hc hf => ?_)
  · refine bs_st 1 (x' := (21, [some (.ref 0), some (.int x1)], [.int (-2 : Int32)], hp kp nh rh tl rl I L)) rfl ?_
    cases hf
    exact bs_ret rfl
  · refine bs_st 2 (x' := (10, [some (.ref 0), some (.int x1)], [.int x1, .ref 0], hp kp nh rh tl rl I L)) rfl ?_
    obtain ⟨q1, hq1, hf⟩ := Option.bind_eq_some_iff.mp hf
    refine bs_call (o := pEN Ls xs (d + 6) 191 [.ref 0, .int x1] (hp kp nh rh tl rl I L)) (w := some (.ref 26)) (h' := hp kp (some 3) rh tl rl q1.1 q1.2) (pc := 13) (lo := [some (.ref 0), some (.int x1)]) (rest := []) rfl (t_191 Ls xs (d + 0) kp tl rl nh rh n x1 I L q1 hq1) ?_
    obtain ⟨q2, hq2, hf⟩ := Option.bind_eq_some_iff.mp hf
    refine bs_call (o := pEN Ls xs (d + 6) 65 [.ref 26] (hp kp (some 3) rh tl rl q1.1 q1.2)) (w := some (.int q2)) (h' := hp kp (some 3) rh tl rl q1.1 q1.2) (pc := 16) (lo := [some (.ref 0), some (.int x1)]) (rest := []) rfl (t_65 Ls xs (d + 5) kp tl rl rh n q1.1 q1.2 q2 hq2) ?_
    refine bs_st 1 (x' := (21, [some (.ref 0), some (.int x1)], [.int q2], hp kp (some 3) rh tl rl q1.1 q1.2)) rfl ?_
    cases hf
    exact bs_ret rfl
/-- Night.timesLooked(I) on (26,) -/
def b_67_0 (n : Nat) (I : FI) (L : FL) (K0 : Int32 → Int32 → Int32 → Option (Int32)) (x1 : Int32) (x2 : Int32) (x3 : Int32) : Option (Int32) :=
  if I 26 11 ≤ x3 then
    some (x2)
  else
    if pin x3 30 = true then K0 x1 (x2 + (((I 30 x3.toNatClampNeg) >>> (x1 &&& 31)) &&& (1 : Int32))) (x3 + (1 : Int32)) else none
def c_67_0 (n : Nat) (I : FI) (L : FL) : Nat → Int32 → Int32 → Int32 → Option (Int32)
  | 0, _, _, _ => none
  | m + 1, x1, x2, x3 => b_67_0 n I L (c_67_0 n I L m) x1 x2 x3
set_option maxHeartbeats 1000000 in
theorem tc_67_0 (Ls : Nat) (xs : Nat → Int32) (d : Nat) (kp : Option Nat) (tl : List (Nat × Nat)) (rl : List (List (Option Nat))) (rh : Option Nat) (n : Nat) (I : FI) (L : FL) : ∀ (m : Nat) (x1 : Int32) (x2 : Int32) (x3 : Int32) (r : Int32), c_67_0 n I L m x1 x2 x3 = some r → Bs cd_67 (sf 6 rs_6 false 4 (some (.int)) Ls xs (d + 0)) (4, [some (.ref 26), some (.int x1), some (.int x2), some (.int x3)], [], hp kp (some 3) rh tl rl I L) (some (.int r), hp kp (some 3) rh tl rl I L)
  | 0, x1, x2, x3, r, hf => by cases hf
  | m + 1, x1, x2, x3, r, hf => by
    unfold c_67_0 b_67_0 at hf
    have hK0 := tc_67_0 Ls xs d kp tl rl rh n I L m
    refine bs_st 3 (x' := (9, [some (.ref 26), some (.int x1), some (.int x2), some (.int x3)], [.int (I 26 11), .int x3], hp kp (some 3) rh tl rl I L)) rfl ?_
    refine bs_br (t := 31) (e := 12) (lo := [some (.ref 26), some (.int x1), some (.int x2), some (.int x3)]) (st := []) (h := hp kp (some 3) rh tl rl I L) rfl hf (fun hc hf => ?_) (fun hc hf => ?_)
    · refine bs_st 1 (x' := (32, [some (.ref 26), some (.int x1), some (.int x2), some (.int x3)], [.int x2], hp kp (some 3) rh tl rl I L)) rfl ?_
      cases hf
      exact bs_ret rfl
    · refine bs_st 4 (x' := (18, [some (.ref 26), some (.int x1), some (.int x2), some (.int x3)], [.int x3, .ref 30, .int x2], hp kp (some 3) rh tl rl I L)) rfl ?_
      refine bs_gd (x' := (19, [some (.ref 26), some (.int x1), some (.int x2), some (.int x3)], [.int (I 30 x3.toNatClampNeg), .int x2], hp kp (some 3) rh tl rl I L)) rfl hf (fun hc hf => ?_)
      refine bs_st 8 (x' := (4, [some (.ref 26), some (.int x1), some (.int (x2 + (((I 30 x3.toNatClampNeg) >>> (x1 &&& 31)) &&& (1 : Int32)))), some (.int (x3 + (1 : Int32)))], [], hp kp (some 3) rh tl rl I L)) rfl ?_
      exact hK0 x1 (x2 + (((I 30 x3.toNatClampNeg) >>> (x1 &&& 31)) &&& (1 : Int32))) (x3 + (1 : Int32)) r hf
def f_67 (n : Nat) (x1 : Int32) (I : FI) (L : FL) : Option (Int32) :=
  c_67_0 n I L n x1 (0 : Int32) (0 : Int32)
set_option maxHeartbeats 1000000 in
theorem t_67 (Ls : Nat) (xs : Nat → Int32) (d : Nat) (kp : Option Nat) (tl : List (Nat × Nat)) (rl : List (List (Option Nat))) (rh : Option Nat) (n : Nat) (x1 : Int32) (I : FI) (L : FL) (r : Int32) (hf : f_67 n x1 I L = some r) : pEN Ls xs (d + 1) 67 [.ref 26, .int x1] (hp kp (some 3) rh tl rl I L) = some (some (.int r), hp kp (some 3) rh tl rl I L) := by
  refine en_run (d := d + 0) (cd := cd_67) (f := (sf 6 rs_6 false 4 (some (.int)) Ls xs (d + 0))) rfl rfl (x := (0, [some (.ref 26), some (.int x1), none, none], [], hp kp (some 3) rh tl rl I L)) rfl rfl (Nat.le_of_ble_eq_true rfl) ?_
  unfold f_67 at hf
  refine bs_st 4 (x' := (4, [some (.ref 26), some (.int x1), some (.int (0 : Int32)), some (.int (0 : Int32))], [], hp kp (some 3) rh tl rl I L)) rfl ?_
  exact tc_67_0 Ls xs d kp tl rl rh n I L n x1 (0 : Int32) (0 : Int32) r hf
/-- LampRounds.looks(II) on (0,) -/
def f_128 (n : Nat) (nh : Option Nat) (x1 : Int32) (x2 : Int32) (I : FI) (L : FL) : Option (Int32 × Option Nat × FI × FL) :=
  (f_181 x1 I L).bind fun q0 =>
  if q0 = 0 then
    some ((-2 : Int32), nh, I, L)
  else
    (f_178 x2 I L).bind fun q1 =>
    if ¬ q1 = 0 then
      (f_191 n x1 I L).bind fun q2 =>
      (f_67 n x2 q2.1 q2.2).bind fun q3 =>
      some (q3, (some 3), q2.1, q2.2)
    else
      some ((-2 : Int32), nh, I, L)
set_option maxHeartbeats 1000000 in
theorem t_128 (Ls : Nat) (xs : Nat → Int32) (d : Nat) (kp : Option Nat) (tl : List (Nat × Nat)) (rl : List (List (Option Nat))) (nh : Option Nat) (rh : Option Nat) (n : Nat) (x1 : Int32) (x2 : Int32) (I : FI) (L : FL) (r : Int32 × Option Nat × FI × FL) (hf : f_128 n nh x1 x2 I L = some r) : pEN Ls xs (d + 7) 128 [.ref 0, .int x1, .int x2] (hp kp nh rh tl rl I L) = some (some (.int r.1), hp kp r.2.1 rh tl rl r.2.2.1 r.2.2.2) := by
  refine en_run (d := d + 6) (cd := cd_128) (f := (sf 11 rs_11 false 3 (some (.int)) Ls xs (d + 6))) rfl rfl (x := (0, [some (.ref 0), some (.int x1), some (.int x2)], [], hp kp nh rh tl rl I L)) rfl rfl (Nat.le_of_ble_eq_true rfl) ?_
  unfold f_128 at hf
  refine bs_st 2 (x' := (2, [some (.ref 0), some (.int x1), some (.int x2)], [.int x1, .ref 0], hp kp nh rh tl rl I L)) rfl ?_
  obtain ⟨q0, hq0, hf⟩ := Option.bind_eq_some_iff.mp hf
  refine bs_call (o := pEN Ls xs (d + 6) 181 [.ref 0, .int x1] (hp kp nh rh tl rl I L)) (w := some (.int q0)) (h' := hp kp nh rh tl rl I L) (pc := 5) (lo := [some (.ref 0), some (.int x1), some (.int x2)]) (rest := []) rfl (t_181 Ls xs (d + 4) kp tl rl nh rh x1 I L q0 hq0) ?_
  refine bs_br (t := 16) (e := 8) (lo := [some (.ref 0), some (.int x1), some (.int x2)]) (st := []) (h := hp kp nh rh tl rl I L) rfl hf (fun hc hf => ?_) (fun hc hf => ?_)
  · refine bs_st 1 (x' := (18, [some (.ref 0), some (.int x1), some (.int x2)], [.int (-2 : Int32)], hp kp nh rh tl rl I L)) rfl ?_
    cases hf
    exact bs_ret rfl
  · refine bs_st 2 (x' := (10, [some (.ref 0), some (.int x1), some (.int x2)], [.int x2, .ref 0], hp kp nh rh tl rl I L)) rfl ?_
    obtain ⟨q1, hq1, hf⟩ := Option.bind_eq_some_iff.mp hf
    refine bs_call (o := pEN Ls xs (d + 6) 178 [.ref 0, .int x2] (hp kp nh rh tl rl I L)) (w := some (.int q1)) (h' := hp kp nh rh tl rl I L) (pc := 13) (lo := [some (.ref 0), some (.int x1), some (.int x2)]) (rest := []) rfl (t_178 Ls xs (d + 5) kp tl rl nh rh x2 I L q1 hq1) ?_
    refine bs_br (t := 19) (e := 16) (lo := [some (.ref 0), some (.int x1), some (.int x2)]) (st := []) (h := hp kp nh rh tl rl I L) rfl hf (fun hc hf => ?_) (fun hc hf => ?_)
    · refine bs_st 2 (x' := (21, [some (.ref 0), some (.int x1), some (.int x2)], [.int x1, .ref 0], hp kp nh rh tl rl I L)) rfl ?_
      obtain ⟨q2, hq2, hf⟩ := Option.bind_eq_some_iff.mp hf
      refine bs_call (o := pEN Ls xs (d + 6) 191 [.ref 0, .int x1] (hp kp nh rh tl rl I L)) (w := some (.ref 26)) (h' := hp kp (some 3) rh tl rl q2.1 q2.2) (pc := 24) (lo := [some (.ref 0), some (.int x1), some (.int x2)]) (rest := []) rfl (t_191 Ls xs (d + 0) kp tl rl nh rh n x1 I L q2 hq2) ?_
      refine bs_st 1 (x' := (25, [some (.ref 0), some (.int x1), some (.int x2)], [.int x2, .ref 26], hp kp (some 3) rh tl rl q2.1 q2.2)) rfl ?_
      obtain ⟨q3, hq3, hf⟩ := Option.bind_eq_some_iff.mp hf
      refine bs_call (o := pEN Ls xs (d + 6) 67 [.ref 26, .int x2] (hp kp (some 3) rh tl rl q2.1 q2.2)) (w := some (.int q3)) (h' := hp kp (some 3) rh tl rl q2.1 q2.2) (pc := 28) (lo := [some (.ref 0), some (.int x1), some (.int x2)]) (rest := []) rfl (t_67 Ls xs (d + 5) kp tl rl rh n x2 q2.1 q2.2 q3 hq3) ?_
      cases hf
      exact bs_ret rfl
    · refine bs_st 1 (x' := (18, [some (.ref 0), some (.int x1), some (.int x2)], [.int (-2 : Int32)], hp kp nh rh tl rl I L)) rfl ?_
      cases hf
      exact bs_ret rfl
/-- java/lang/Math.max(II) on () -/
def f_358 (x0 : Int32) (x1 : Int32) (I : FI) (L : FL) : Option (Int32) :=
  if x0 < x1 then
    some (x1)
  else
    some (x0)
set_option maxHeartbeats 1000000 in
theorem t_358 (Ls : Nat) (xs : Nat → Int32) (d : Nat) (kp : Option Nat) (tl : List (Nat × Nat)) (rl : List (List (Option Nat))) (rh : Option Nat) (x0 : Int32) (x1 : Int32) (I : FI) (L : FL) (r : Int32) (hf : f_358 x0 x1 I L = some r) : pEN Ls xs (d + 1) 358 [.int x0, .int x1] (hp kp (some 3) rh tl rl I L) = some (some (.int r), hp kp (some 3) rh tl rl I L) := by
  refine en_run (d := d + 0) (cd := cd_358) (f := (sf 14 rs_14 false 2 (some (.int)) Ls xs (d + 0))) rfl rfl (x := (0, [some (.int x0), some (.int x1)], [], hp kp (some 3) rh tl rl I L)) rfl rfl (Nat.le_of_ble_eq_true rfl) ?_
  unfold f_358 at hf
  refine bs_st 2 (x' := (2, [some (.int x0), some (.int x1)], [.int x1, .int x0], hp kp (some 3) rh tl rl I L)) rfl ?_
  refine bs_br (t := 9) (e := 5) (lo := [some (.int x0), some (.int x1)]) (st := []) (h := hp kp (some 3) rh tl rl I L) rfl hf (fun hc hf => ?_) (fun hc hf => ?_)
  · refine bs_st 1 (x' := (10, [some (.int x0), some (.int x1)], [.int x1], hp kp (some 3) rh tl rl I L)) rfl ?_
    cases hf
    exact bs_ret rfl
  · refine bs_st 2 (x' := (10, [some (.int x0), some (.int x1)], [.int x0], hp kp (some 3) rh tl rl I L)) rfl ?_
    cases hf
    exact bs_ret rfl
/-- Night.greatestAge(I) on (26,) -/
def b_68_0 (n : Nat) (I : FI) (L : FL) (K0 : Int32 → Int32 → Int32 → Option (Int32)) (x1 : Int32) (x2 : Int32) (x3 : Int32) : Option (Int32) :=
  if I 26 11 ≤ x3 then
    some (x2)
  else
    (f_60 x1 x3 I L).bind fun q0 =>
    (f_358 x2 q0 I L).bind fun q1 =>
    K0 x1 q1 (x3 + (1 : Int32))
def c_68_0 (n : Nat) (I : FI) (L : FL) : Nat → Int32 → Int32 → Int32 → Option (Int32)
  | 0, _, _, _ => none
  | m + 1, x1, x2, x3 => b_68_0 n I L (c_68_0 n I L m) x1 x2 x3
set_option maxHeartbeats 1000000 in
theorem tc_68_0 (Ls : Nat) (xs : Nat → Int32) (d : Nat) (kp : Option Nat) (tl : List (Nat × Nat)) (rl : List (List (Option Nat))) (rh : Option Nat) (n : Nat) (I : FI) (L : FL) : ∀ (m : Nat) (x1 : Int32) (x2 : Int32) (x3 : Int32) (r : Int32), c_68_0 n I L m x1 x2 x3 = some r → Bs cd_68 (sf 6 rs_6 false 4 (some (.int)) Ls xs (d + 1)) (4, [some (.ref 26), some (.int x1), some (.int x2), some (.int x3)], [], hp kp (some 3) rh tl rl I L) (some (.int r), hp kp (some 3) rh tl rl I L)
  | 0, x1, x2, x3, r, hf => by cases hf
  | m + 1, x1, x2, x3, r, hf => by
    unfold c_68_0 b_68_0 at hf
    have hK0 := tc_68_0 Ls xs d kp tl rl rh n I L m
    refine bs_st 3 (x' := (9, [some (.ref 26), some (.int x1), some (.int x2), some (.int x3)], [.int (I 26 11), .int x3], hp kp (some 3) rh tl rl I L)) rfl ?_
    refine bs_br (t := 29) (e := 12) (lo := [some (.ref 26), some (.int x1), some (.int x2), some (.int x3)]) (st := []) (h := hp kp (some 3) rh tl rl I L) rfl hf (fun hc hf => ?_) (fun hc hf => ?_)
    · refine bs_st 1 (x' := (30, [some (.ref 26), some (.int x1), some (.int x2), some (.int x3)], [.int x2], hp kp (some 3) rh tl rl I L)) rfl ?_
      cases hf
      exact bs_ret rfl
    · refine bs_st 4 (x' := (16, [some (.ref 26), some (.int x1), some (.int x2), some (.int x3)], [.int x3, .int x1, .ref 26, .int x2], hp kp (some 3) rh tl rl I L)) rfl ?_
      obtain ⟨q0, hq0, hf⟩ := Option.bind_eq_some_iff.mp hf
      refine bs_call (o := pEN Ls xs (d + 1) 60 [.ref 26, .int x1, .int x3] (hp kp (some 3) rh tl rl I L)) (w := some (.int q0)) (h' := hp kp (some 3) rh tl rl I L) (pc := 19) (lo := [some (.ref 26), some (.int x1), some (.int x2), some (.int x3)]) (rest := [.int x2]) rfl (t_60 Ls xs (d + 0) kp tl rl rh x1 x3 I L q0 hq0) ?_
      obtain ⟨q1, hq1, hf⟩ := Option.bind_eq_some_iff.mp hf
      refine bs_call (o := pEN Ls xs (d + 1) 358 [.int x2, .int q0] (hp kp (some 3) rh tl rl I L)) (w := some (.int q1)) (h' := hp kp (some 3) rh tl rl I L) (pc := 22) (lo := [some (.ref 26), some (.int x1), some (.int x2), some (.int x3)]) (rest := []) rfl (t_358 Ls xs (d + 0) kp tl rl rh x2 q0 I L q1 hq1) ?_
      refine bs_st 3 (x' := (4, [some (.ref 26), some (.int x1), some (.int q1), some (.int (x3 + (1 : Int32)))], [], hp kp (some 3) rh tl rl I L)) rfl ?_
      exact hK0 x1 q1 (x3 + (1 : Int32)) r hf
def f_68 (n : Nat) (x1 : Int32) (I : FI) (L : FL) : Option (Int32) :=
  c_68_0 n I L n x1 (0 : Int32) (0 : Int32)
set_option maxHeartbeats 1000000 in
theorem t_68 (Ls : Nat) (xs : Nat → Int32) (d : Nat) (kp : Option Nat) (tl : List (Nat × Nat)) (rl : List (List (Option Nat))) (rh : Option Nat) (n : Nat) (x1 : Int32) (I : FI) (L : FL) (r : Int32) (hf : f_68 n x1 I L = some r) : pEN Ls xs (d + 2) 68 [.ref 26, .int x1] (hp kp (some 3) rh tl rl I L) = some (some (.int r), hp kp (some 3) rh tl rl I L) := by
  refine en_run (d := d + 1) (cd := cd_68) (f := (sf 6 rs_6 false 4 (some (.int)) Ls xs (d + 1))) rfl rfl (x := (0, [some (.ref 26), some (.int x1), none, none], [], hp kp (some 3) rh tl rl I L)) rfl rfl (Nat.le_of_ble_eq_true rfl) ?_
  unfold f_68 at hf
  refine bs_st 4 (x' := (4, [some (.ref 26), some (.int x1), some (.int (0 : Int32)), some (.int (0 : Int32))], [], hp kp (some 3) rh tl rl I L)) rfl ?_
  exact tc_68_0 Ls xs d kp tl rl rh n I L n x1 (0 : Int32) (0 : Int32) r hf
/-- LampRounds.oldest(II) on (0,) -/
def f_129 (n : Nat) (nh : Option Nat) (x1 : Int32) (x2 : Int32) (I : FI) (L : FL) : Option (Int32 × Option Nat × FI × FL) :=
  (f_181 x1 I L).bind fun q0 =>
  if q0 = 0 then
    some ((-2 : Int32), nh, I, L)
  else
    (f_178 x2 I L).bind fun q1 =>
    if ¬ q1 = 0 then
      (f_191 n x1 I L).bind fun q2 =>
      (f_68 n x2 q2.1 q2.2).bind fun q3 =>
      some (q3, (some 3), q2.1, q2.2)
    else
      some ((-2 : Int32), nh, I, L)
set_option maxHeartbeats 1000000 in
theorem t_129 (Ls : Nat) (xs : Nat → Int32) (d : Nat) (kp : Option Nat) (tl : List (Nat × Nat)) (rl : List (List (Option Nat))) (nh : Option Nat) (rh : Option Nat) (n : Nat) (x1 : Int32) (x2 : Int32) (I : FI) (L : FL) (r : Int32 × Option Nat × FI × FL) (hf : f_129 n nh x1 x2 I L = some r) : pEN Ls xs (d + 7) 129 [.ref 0, .int x1, .int x2] (hp kp nh rh tl rl I L) = some (some (.int r.1), hp kp r.2.1 rh tl rl r.2.2.1 r.2.2.2) := by
  refine en_run (d := d + 6) (cd := cd_129) (f := (sf 11 rs_11 false 3 (some (.int)) Ls xs (d + 6))) rfl rfl (x := (0, [some (.ref 0), some (.int x1), some (.int x2)], [], hp kp nh rh tl rl I L)) rfl rfl (Nat.le_of_ble_eq_true rfl) ?_
  unfold f_129 at hf
  refine bs_st 2 (x' := (2, [some (.ref 0), some (.int x1), some (.int x2)], [.int x1, .ref 0], hp kp nh rh tl rl I L)) rfl ?_
  obtain ⟨q0, hq0, hf⟩ := Option.bind_eq_some_iff.mp hf
  refine bs_call (o := pEN Ls xs (d + 6) 181 [.ref 0, .int x1] (hp kp nh rh tl rl I L)) (w := some (.int q0)) (h' := hp kp nh rh tl rl I L) (pc := 5) (lo := [some (.ref 0), some (.int x1), some (.int x2)]) (rest := []) rfl (t_181 Ls xs (d + 4) kp tl rl nh rh x1 I L q0 hq0) ?_
  refine bs_br (t := 16) (e := 8) (lo := [some (.ref 0), some (.int x1), some (.int x2)]) (st := []) (h := hp kp nh rh tl rl I L) rfl hf (fun hc hf => ?_) (fun hc hf => ?_)
  · refine bs_st 1 (x' := (18, [some (.ref 0), some (.int x1), some (.int x2)], [.int (-2 : Int32)], hp kp nh rh tl rl I L)) rfl ?_
    cases hf
    exact bs_ret rfl
  · refine bs_st 2 (x' := (10, [some (.ref 0), some (.int x1), some (.int x2)], [.int x2, .ref 0], hp kp nh rh tl rl I L)) rfl ?_
    obtain ⟨q1, hq1, hf⟩ := Option.bind_eq_some_iff.mp hf
    refine bs_call (o := pEN Ls xs (d + 6) 178 [.ref 0, .int x2] (hp kp nh rh tl rl I L)) (w := some (.int q1)) (h' := hp kp nh rh tl rl I L) (pc := 13) (lo := [some (.ref 0), some (.int x1), some (.int x2)]) (rest := []) rfl (t_178 Ls xs (d + 5) kp tl rl nh rh x2 I L q1 hq1) ?_
    refine bs_br (t := 19) (e := 16) (lo := [some (.ref 0), some (.int x1), some (.int x2)]) (st := []) (h := hp kp nh rh tl rl I L) rfl hf (fun hc hf => ?_) (fun hc hf => ?_)
    · refine bs_st 2 (x' := (21, [some (.ref 0), some (.int x1), some (.int x2)], [.int x1, .ref 0], hp kp nh rh tl rl I L)) rfl ?_
      obtain ⟨q2, hq2, hf⟩ := Option.bind_eq_some_iff.mp hf
      refine bs_call (o := pEN Ls xs (d + 6) 191 [.ref 0, .int x1] (hp kp nh rh tl rl I L)) (w := some (.ref 26)) (h' := hp kp (some 3) rh tl rl q2.1 q2.2) (pc := 24) (lo := [some (.ref 0), some (.int x1), some (.int x2)]) (rest := []) rfl (t_191 Ls xs (d + 0) kp tl rl nh rh n x1 I L q2 hq2) ?_
      refine bs_st 1 (x' := (25, [some (.ref 0), some (.int x1), some (.int x2)], [.int x2, .ref 26], hp kp (some 3) rh tl rl q2.1 q2.2)) rfl ?_
      obtain ⟨q3, hq3, hf⟩ := Option.bind_eq_some_iff.mp hf
      refine bs_call (o := pEN Ls xs (d + 6) 68 [.ref 26, .int x2] (hp kp (some 3) rh tl rl q2.1 q2.2)) (w := some (.int q3)) (h' := hp kp (some 3) rh tl rl q2.1 q2.2) (pc := 28) (lo := [some (.ref 0), some (.int x1), some (.int x2)]) (rest := []) rfl (t_68 Ls xs (d + 4) kp tl rl rh n x2 q2.1 q2.2 q3 hq3) ?_
      cases hf
      exact bs_ret rfl
    · refine bs_st 1 (x' := (18, [some (.ref 0), some (.int x1), some (.int x2)], [.int (-2 : Int32)], hp kp nh rh tl rl I L)) rfl ?_
      cases hf
      exact bs_ret rfl
