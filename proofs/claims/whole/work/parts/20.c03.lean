/-- LampRounds.states() on (0,) -/
def f_137_1 (n : Nat) (I : FI) (L : FL) : Option (Int32 × FI × FL) :=
  (f_177 I L).bind fun q0 =>
  if q0 = 0 then
    some ((-2 : Int32), I, L)
  else
    (f_187 I L).bind fun q1 =>
    (f_33 n q1.1 q1.2).bind fun q2 =>
    some (q2.1, q2.2.1, q2.2.2)
set_option maxHeartbeats 1000000 in
set_option maxRecDepth 20000 in
theorem t_137_1 (Ls : Nat) (xs : Nat → Int32) (d : Nat) (nh : Option Nat) (rh : Option Nat) (n : Nat) (I : FI) (L : FL) (r : Int32 × FI × FL) (hf : f_137_1 n I L = some r) : pEN Ls xs (d + 6) 137 [.ref 0] (hp (some 114) nh rh TK (RK (some 3)) I L) = some (some (.int r.1), hp (some 114) nh rh TK (RK (some 3)) r.2.1 r.2.2) := by
  refine en_run (d := d + 5) (cd := cd_137) (f := (sf 11 rs_11 false 1 (some (.int)) Ls xs (d + 5))) rfl rfl (x := (0, [some (.ref 0)], [], hp (some 114) nh rh TK (RK (some 3)) I L)) rfl rfl (Nat.le_of_ble_eq_true rfl) ?_
  unfold f_137_1 at hf
  refine bs_st 1 (x' := (1, [some (.ref 0)], [.ref 0], hp (some 114) nh rh TK (RK (some 3)) I L)) rfl ?_
  obtain ⟨q0, hq0, hf⟩ := Option.bind_eq_some_iff.mp hf
  refine bs_call (o := pEN Ls xs (d + 5) 177 [.ref 0] (hp (some 114) nh rh TK (RK (some 3)) I L)) (w := some (.int q0)) (h' := hp (some 114) nh rh TK (RK (some 3)) I L) (pc := 4) (lo := [some (.ref 0)]) (rest := []) rfl (t_177 Ls xs (d + 4) (some 114) TK (RK (some 3)) nh rh I L q0 hq0) ?_
  refine bs_br (t := 17) (e := 7) (lo := [some (.ref 0)]) (st := []) (h := hp (some 114) nh rh TK (RK (some 3)) I L) rfl hf (fun hc hf => ?_) (fun hc hf => ?_)
  · refine bs_st 1 (x' := (19, [some (.ref 0)], [.int (-2 : Int32)], hp (some 114) nh rh TK (RK (some 3)) I L)) rfl ?_
    cases hf
    exact bs_ret rfl
  · refine bs_st 1 (x' := (8, [some (.ref 0)], [.ref 0], hp (some 114) nh rh TK (RK (some 3)) I L)) rfl ?_
    obtain ⟨q1, hq1, hf⟩ := Option.bind_eq_some_iff.mp hf
    refine bs_call (o := pEN Ls xs (d + 5) 187 [.ref 0] (hp (some 114) nh rh TK (RK (some 3)) I L)) (w := some (.ref 114)) (h' := hp (some 114) nh rh TK (RK (some 3)) q1.1 q1.2) (pc := 11) (lo := [some (.ref 0)]) (rest := []) rfl (t_187 Ls xs (d + 4) nh rh I L q1 hq1) ?_
    obtain ⟨q2, hq2, hf⟩ := Option.bind_eq_some_iff.mp hf
    refine bs_call (o := pEN Ls xs (d + 5) 33 [.ref 114] (hp (some 114) nh rh TK (RK (some 3)) q1.1 q1.2)) (w := some (.int q2.1)) (h' := hp (some 114) nh rh TK (RK (some 3)) q2.2.1 q2.2.2) (pc := 14) (lo := [some (.ref 0)]) (rest := []) rfl (t_33 Ls xs (d + 0) nh rh n q1.1 q1.2 q2 hq2) ?_
    refine bs_st 1 (x' := (19, [some (.ref 0)], [.int q2.1], hp (some 114) nh rh TK (RK (some 3)) q2.2.1 q2.2.2)) rfl ?_
    cases hf
    exact bs_ret rfl
/-- Keeper.goodMove() on (114,) -/
def c_34_1 (n : Nat) (K0 : Int32 → Int32 → FI → FL → Option (Int32 × FI × FL)) (x1 : Int32) (x2 : Int32) (I : FI) (L : FL) : Option (Int32 × FI × FL) :=
  K0 x1 (x2 + (1 : Int32)) I L
set_option maxHeartbeats 1000000 in
set_option maxRecDepth 20000 in
theorem tc_34_1 (Ls : Nat) (xs : Nat → Int32) (d : Nat) (nh : Option Nat) (rh : Option Nat) (n : Nat) (K0 : Int32 → Int32 → FI → FL → Option (Int32 × FI × FL)) (hK0 : ∀ (w3 : Option Value) (x1 : Int32) (x2 : Int32) (I : FI) (L : FL) (r : Int32 × FI × FL), K0 x1 x2 I L = some r → Bs cd_34 (sf 5 rs_5 false 4 (some (.int)) Ls xs (d + 4)) (28, [some (.ref 114), some (.int x1), some (.int x2), w3], [], hp (some 114) nh rh TK (RK (some 3)) I L) (some (.int r.1), hp (some 114) nh rh TK (RK (some 3)) r.2.1 r.2.2)) (w3 : Option Value) (x1 : Int32) (x2 : Int32) (I : FI) (L : FL) (r : Int32 × FI × FL) (hf : c_34_1 n K0 x1 x2 I L = some r) : Bs cd_34 (sf 5 rs_5 false 4 (some (.int)) Ls xs (d + 4)) (65, [some (.ref 114), some (.int x1), some (.int x2), w3], [], hp (some 114) nh rh TK (RK (some 3)) I L) (some (.int r.1), hp (some 114) nh rh TK (RK (some 3)) r.2.1 r.2.2) := by
  unfold c_34_1 at hf
  refine bs_st 2 (x' := (28, [some (.ref 114), some (.int x1), some (.int (x2 + (1 : Int32))), w3], [], hp (some 114) nh rh TK (RK (some 3)) I L)) rfl ?_
  exact hK0 w3 x1 (x2 + (1 : Int32)) I L r hf
def b_34_0 (n : Nat) (K0 : Int32 → Int32 → FI → FL → Option (Int32 × FI × FL)) (x1 : Int32) (x2 : Int32) (I : FI) (L : FL) : Option (Int32 × FI × FL) :=
  if I 3 4 ≤ x2 then
    some ((-1 : Int32), I, L)
  else
    (f_40 x1 I L).bind fun q3 =>
    (f_41 q3 x2 I L).bind fun q4 =>
    if q4 = (-1 : Int32) then
      c_34_1 n K0 x1 x2 I L
    else
      (f_42 n q4 I L).bind fun q5 =>
      if q5.1 = 0 then
        c_34_1 n K0 x1 x2 q5.2.1 q5.2.2
      else
        some (x2, q5.2.1, q5.2.2)
def c_34_0 (n : Nat) : Nat → Int32 → Int32 → FI → FL → Option (Int32 × FI × FL)
  | 0, _, _, _, _ => none
  | m + 1, x1, x2, I, L => b_34_0 n (c_34_0 n m) x1 x2 I L
set_option maxHeartbeats 1000000 in
set_option maxRecDepth 20000 in
theorem tc_34_0 (Ls : Nat) (xs : Nat → Int32) (d : Nat) (nh : Option Nat) (rh : Option Nat) (n : Nat) : ∀ (m : Nat) (w3 : Option Value) (x1 : Int32) (x2 : Int32) (I : FI) (L : FL) (r : Int32 × FI × FL), c_34_0 n m x1 x2 I L = some r → Bs cd_34 (sf 5 rs_5 false 4 (some (.int)) Ls xs (d + 4)) (28, [some (.ref 114), some (.int x1), some (.int x2), w3], [], hp (some 114) nh rh TK (RK (some 3)) I L) (some (.int r.1), hp (some 114) nh rh TK (RK (some 3)) r.2.1 r.2.2)
  | 0, w3, x1, x2, I, L, r, hf => by cases hf
  | m + 1, w3, x1, x2, I, L, r, hf => by
    unfold c_34_0 b_34_0 at hf
    have hK0 := tc_34_0 Ls xs d nh rh n m
    refine bs_st 4 (x' := (36, [some (.ref 114), some (.int x1), some (.int x2), w3], [.int (I 3 4), .int x2], hp (some 114) nh rh TK (RK (some 3)) I L)) rfl ?_
    refine bs_br (t := 71) (e := 39) (lo := [some (.ref 114), some (.int x1), some (.int x2), w3]) (st := []) (h := hp (some 114) nh rh TK (RK (some 3)) I L) rfl hf (fun hc hf => ?_) (fun hc hf => ?_)
    · refine bs_st 1 (x' := (72, [some (.ref 114), some (.int x1), some (.int x2), w3], [.int (-1 : Int32)], hp (some 114) nh rh TK (RK (some 3)) I L)) rfl ?_
      cases hf
      exact bs_ret rfl
    · refine bs_st 3 (x' := (42, [some (.ref 114), some (.int x1), some (.int x2), w3], [.int x1, .ref 114, .ref 114], hp (some 114) nh rh TK (RK (some 3)) I L)) rfl ?_
      obtain ⟨q3, hq3, hf⟩ := Option.bind_eq_some_iff.mp hf
      refine bs_call (o := pEN Ls xs (d + 4) 40 [.ref 114, .int x1] (hp (some 114) nh rh TK (RK (some 3)) I L)) (w := some (.int q3)) (h' := hp (some 114) nh rh TK (RK (some 3)) I L) (pc := 45) (lo := [some (.ref 114), some (.int x1), some (.int x2), w3]) (rest := [.ref 114]) rfl (t_40 Ls xs (d + 2) nh rh x1 I L q3 hq3) ?_
      refine bs_st 1 (x' := (46, [some (.ref 114), some (.int x1), some (.int x2), w3], [.int x2, .int q3, .ref 114], hp (some 114) nh rh TK (RK (some 3)) I L)) rfl ?_
      obtain ⟨q4, hq4, hf⟩ := Option.bind_eq_some_iff.mp hf
      refine bs_call (o := pEN Ls xs (d + 4) 41 [.ref 114, .int q3, .int x2] (hp (some 114) nh rh TK (RK (some 3)) I L)) (w := some (.int q4)) (h' := hp (some 114) nh rh TK (RK (some 3)) I L) (pc := 49) (lo := [some (.ref 114), some (.int x1), some (.int x2), w3]) (rest := []) rfl (t_41 Ls xs (d + 2) nh rh q3 x2 I L q4 hq4) ?_
      refine bs_st 3 (x' := (52, [some (.ref 114), some (.int x1), some (.int x2), some (.int q4)], [.int (-1 : Int32), .int q4], hp (some 114) nh rh TK (RK (some 3)) I L)) rfl ?_
      refine bs_br (t := 65) (e := 55) (lo := [some (.ref 114), some (.int x1), some (.int x2), some (.int q4)]) (st := []) (h := hp (some 114) nh rh TK (RK (some 3)) I L) rfl hf (fun hc hf => ?_) (fun hc hf => ?_)
      · exact tc_34_1 Ls xs d nh rh n _ hK0 (some (.int q4)) x1 x2 I L r hf
      · refine bs_st 2 (x' := (57, [some (.ref 114), some (.int x1), some (.int x2), some (.int q4)], [.int q4, .ref 114], hp (some 114) nh rh TK (RK (some 3)) I L)) rfl ?_
        obtain ⟨q5, hq5, hf⟩ := Option.bind_eq_some_iff.mp hf
        refine bs_call (o := pEN Ls xs (d + 4) 42 [.ref 114, .int q4] (hp (some 114) nh rh TK (RK (some 3)) I L)) (w := some (.int q5.1)) (h' := hp (some 114) nh rh TK (RK (some 3)) q5.2.1 q5.2.2) (pc := 60) (lo := [some (.ref 114), some (.int x1), some (.int x2), some (.int q4)]) (rest := []) rfl (t_42 Ls xs (d + 0) nh rh n q4 I L q5 hq5) ?_
        refine bs_br (t := 65) (e := 63) (lo := [some (.ref 114), some (.int x1), some (.int x2), some (.int q4)]) (st := []) (h := hp (some 114) nh rh TK (RK (some 3)) q5.2.1 q5.2.2) rfl hf (fun hc hf => ?_) (fun hc hf => ?_)
        · exact tc_34_1 Ls xs d nh rh n _ hK0 (some (.int q4)) x1 x2 q5.2.1 q5.2.2 r hf
        · refine bs_st 1 (x' := (64, [some (.ref 114), some (.int x1), some (.int x2), some (.int q4)], [.int x2], hp (some 114) nh rh TK (RK (some 3)) q5.2.1 q5.2.2)) rfl ?_
          cases hf
          exact bs_ret rfl
def f_34 (n : Nat) (I : FI) (L : FL) : Option (Int32 × FI × FL) :=
  (f_23 I L).bind fun q0 =>
  if ¬ q0 = (-1 : Int32) then
    (f_24 I L).bind fun q1 =>
    (f_38 n q1 I L).bind fun q2 =>
    c_34_0 n n q0 (0 : Int32) q2.1 q2.2
  else
    some ((-1 : Int32), I, L)
set_option maxHeartbeats 1000000 in
set_option maxRecDepth 20000 in
theorem t_34 (Ls : Nat) (xs : Nat → Int32) (d : Nat) (nh : Option Nat) (rh : Option Nat) (n : Nat) (I : FI) (L : FL) (r : Int32 × FI × FL) (hf : f_34 n I L = some r) : pEN Ls xs (d + 5) 34 [.ref 114] (hp (some 114) nh rh TK (RK (some 3)) I L) = some (some (.int r.1), hp (some 114) nh rh TK (RK (some 3)) r.2.1 r.2.2) := by
  refine en_run (d := d + 4) (cd := cd_34) (f := (sf 5 rs_5 false 4 (some (.int)) Ls xs (d + 4))) rfl rfl (x := (0, [some (.ref 114), none, none, none], [], hp (some 114) nh rh TK (RK (some 3)) I L)) rfl rfl (Nat.le_of_ble_eq_true rfl) ?_
  unfold f_34 at hf
  refine bs_st 2 (x' := (4, [some (.ref 114), none, none, none], [.ref 3], hp (some 114) nh rh TK (RK (some 3)) I L)) rfl ?_
  obtain ⟨q0, hq0, hf⟩ := Option.bind_eq_some_iff.mp hf
  refine bs_call (o := pEN Ls xs (d + 4) 23 [.ref 3] (hp (some 114) nh rh TK (RK (some 3)) I L)) (w := some (.int q0)) (h' := hp (some 114) nh rh TK (RK (some 3)) I L) (pc := 7) (lo := [some (.ref 114), none, none, none]) (rest := []) rfl (t_23 Ls xs (d + 3) (some 114) TK (RK (some 3)) nh rh I L q0 hq0) ?_
  refine bs_st 3 (x' := (10, [some (.ref 114), some (.int q0), none, none], [.int (-1 : Int32), .int q0], hp (some 114) nh rh TK (RK (some 3)) I L)) rfl ?_
  refine bs_br (t := 15) (e := 13) (lo := [some (.ref 114), some (.int q0), none, none]) (st := []) (h := hp (some 114) nh rh TK (RK (some 3)) I L) rfl hf (fun hc hf => ?_) (fun hc hf => ?_)
  · refine bs_st 3 (x' := (20, [some (.ref 114), some (.int q0), none, none], [.ref 3, .ref 114], hp (some 114) nh rh TK (RK (some 3)) I L)) rfl ?_
    obtain ⟨q1, hq1, hf⟩ := Option.bind_eq_some_iff.mp hf
    refine bs_call (o := pEN Ls xs (d + 4) 24 [.ref 3] (hp (some 114) nh rh TK (RK (some 3)) I L)) (w := some (.int q1)) (h' := hp (some 114) nh rh TK (RK (some 3)) I L) (pc := 23) (lo := [some (.ref 114), some (.int q0), none, none]) (rest := [.ref 114]) rfl (t_24 Ls xs (d + 3) (some 114) TK (RK (some 3)) nh rh I L q1 hq1) ?_
    obtain ⟨q2, hq2, hf⟩ := Option.bind_eq_some_iff.mp hf
    refine bs_call (o := pEN Ls xs (d + 4) 38 [.ref 114, .int q1] (hp (some 114) nh rh TK (RK (some 3)) I L)) (w := none) (h' := hp (some 114) nh rh TK (RK (some 3)) q2.1 q2.2) (pc := 26) (lo := [some (.ref 114), some (.int q0), none, none]) (rest := []) rfl (t_38 Ls xs (d + 1) nh rh n q1 I L q2 hq2) ?_
    refine bs_st 2 (x' := (28, [some (.ref 114), some (.int q0), some (.int (0 : Int32)), none], [], hp (some 114) nh rh TK (RK (some 3)) q2.1 q2.2)) rfl ?_
    exact tc_34_0 Ls xs d nh rh n n none q0 (0 : Int32) q2.1 q2.2 r hf
  · refine bs_st 1 (x' := (14, [some (.ref 114), some (.int q0), none, none], [.int (-1 : Int32)], hp (some 114) nh rh TK (RK (some 3)) I L)) rfl ?_
    cases hf
    exact bs_ret rfl
/-- LampRounds.next() on (0,) -/
def f_138_1 (n : Nat) (I : FI) (L : FL) : Option (Int32 × FI × FL) :=
  (f_177 I L).bind fun q0 =>
  if q0 = 0 then
    some ((-2 : Int32), I, L)
  else
    (f_187 I L).bind fun q1 =>
    (f_34 n q1.1 q1.2).bind fun q2 =>
    some (q2.1, q2.2.1, q2.2.2)
set_option maxHeartbeats 1000000 in
set_option maxRecDepth 20000 in
theorem t_138_1 (Ls : Nat) (xs : Nat → Int32) (d : Nat) (nh : Option Nat) (rh : Option Nat) (n : Nat) (I : FI) (L : FL) (r : Int32 × FI × FL) (hf : f_138_1 n I L = some r) : pEN Ls xs (d + 6) 138 [.ref 0] (hp (some 114) nh rh TK (RK (some 3)) I L) = some (some (.int r.1), hp (some 114) nh rh TK (RK (some 3)) r.2.1 r.2.2) := by
  refine en_run (d := d + 5) (cd := cd_138) (f := (sf 11 rs_11 false 1 (some (.int)) Ls xs (d + 5))) rfl rfl (x := (0, [some (.ref 0)], [], hp (some 114) nh rh TK (RK (some 3)) I L)) rfl rfl (Nat.le_of_ble_eq_true rfl) ?_
  unfold f_138_1 at hf
  refine bs_st 1 (x' := (1, [some (.ref 0)], [.ref 0], hp (some 114) nh rh TK (RK (some 3)) I L)) rfl ?_
  obtain ⟨q0, hq0, hf⟩ := Option.bind_eq_some_iff.mp hf
  refine bs_call (o := pEN Ls xs (d + 5) 177 [.ref 0] (hp (some 114) nh rh TK (RK (some 3)) I L)) (w := some (.int q0)) (h' := hp (some 114) nh rh TK (RK (some 3)) I L) (pc := 4) (lo := [some (.ref 0)]) (rest := []) rfl (t_177 Ls xs (d + 4) (some 114) TK (RK (some 3)) nh rh I L q0 hq0) ?_
  refine bs_br (t := 17) (e := 7) (lo := [some (.ref 0)]) (st := []) (h := hp (some 114) nh rh TK (RK (some 3)) I L) rfl hf (fun hc hf => ?_) (fun hc hf => ?_)
  · refine bs_st 1 (x' := (19, [some (.ref 0)], [.int (-2 : Int32)], hp (some 114) nh rh TK (RK (some 3)) I L)) rfl ?_
    cases hf
    exact bs_ret rfl
  · refine bs_st 1 (x' := (8, [some (.ref 0)], [.ref 0], hp (some 114) nh rh TK (RK (some 3)) I L)) rfl ?_
    obtain ⟨q1, hq1, hf⟩ := Option.bind_eq_some_iff.mp hf
    refine bs_call (o := pEN Ls xs (d + 5) 187 [.ref 0] (hp (some 114) nh rh TK (RK (some 3)) I L)) (w := some (.ref 114)) (h' := hp (some 114) nh rh TK (RK (some 3)) q1.1 q1.2) (pc := 11) (lo := [some (.ref 0)]) (rest := []) rfl (t_187 Ls xs (d + 4) nh rh I L q1 hq1) ?_
    obtain ⟨q2, hq2, hf⟩ := Option.bind_eq_some_iff.mp hf
    refine bs_call (o := pEN Ls xs (d + 5) 34 [.ref 114] (hp (some 114) nh rh TK (RK (some 3)) q1.1 q1.2)) (w := some (.int q2.1)) (h' := hp (some 114) nh rh TK (RK (some 3)) q2.2.1 q2.2.2) (pc := 14) (lo := [some (.ref 0)]) (rest := []) rfl (t_34 Ls xs (d + 0) nh rh n q1.1 q1.2 q2 hq2) ?_
    refine bs_st 1 (x' := (19, [some (.ref 0)], [.int q2.1], hp (some 114) nh rh TK (RK (some 3)) q2.2.1 q2.2.2)) rfl ?_
    cases hf
    exact bs_ret rfl
/-- Keeper.longestSpan() on (114,) -/
def f_35 (n : Nat) (I : FI) (L : FL) : Option (Int32 × FI × FL) :=
  (f_23 I L).bind fun q0 =>
  if ¬ q0 = (-1 : Int32) then
    (f_24 I L).bind fun q1 =>
    (f_38 n q1 I L).bind fun q2 =>
    (f_40 q0 q2.1 q2.2).bind fun q3 =>
    (f_42 n q3 q2.1 q2.2).bind fun q4 =>
    if q4.1 = 0 then
      (f_48 q3 q4.2.1 q4.2.2).bind fun q5 =>
      if pin q5 16384 = true then some (q4.2.1 119 q5.toNatClampNeg, q4.2.1, q4.2.2) else none
    else
      some ((100 : Int32), q4.2.1, q4.2.2)
  else
    some ((100 : Int32), I, L)
set_option maxHeartbeats 1000000 in
set_option maxRecDepth 20000 in
theorem t_35 (Ls : Nat) (xs : Nat → Int32) (d : Nat) (nh : Option Nat) (rh : Option Nat) (n : Nat) (I : FI) (L : FL) (r : Int32 × FI × FL) (hf : f_35 n I L = some r) : pEN Ls xs (d + 5) 35 [.ref 114] (hp (some 114) nh rh TK (RK (some 3)) I L) = some (some (.int r.1), hp (some 114) nh rh TK (RK (some 3)) r.2.1 r.2.2) := by
  refine en_run (d := d + 4) (cd := cd_35) (f := (sf 5 rs_5 false 3 (some (.int)) Ls xs (d + 4))) rfl rfl (x := (0, [some (.ref 114), none, none], [], hp (some 114) nh rh TK (RK (some 3)) I L)) rfl rfl (Nat.le_of_ble_eq_true rfl) ?_
  unfold f_35 at hf
  refine bs_st 2 (x' := (4, [some (.ref 114), none, none], [.ref 3], hp (some 114) nh rh TK (RK (some 3)) I L)) rfl ?_
  obtain ⟨q0, hq0, hf⟩ := Option.bind_eq_some_iff.mp hf
  refine bs_call (o := pEN Ls xs (d + 4) 23 [.ref 3] (hp (some 114) nh rh TK (RK (some 3)) I L)) (w := some (.int q0)) (h' := hp (some 114) nh rh TK (RK (some 3)) I L) (pc := 7) (lo := [some (.ref 114), none, none]) (rest := []) rfl (t_23 Ls xs (d + 3) (some 114) TK (RK (some 3)) nh rh I L q0 hq0) ?_
  refine bs_st 3 (x' := (10, [some (.ref 114), some (.int q0), none], [.int (-1 : Int32), .int q0], hp (some 114) nh rh TK (RK (some 3)) I L)) rfl ?_
  refine bs_br (t := 16) (e := 13) (lo := [some (.ref 114), some (.int q0), none]) (st := []) (h := hp (some 114) nh rh TK (RK (some 3)) I L) rfl hf (fun hc hf => ?_) (fun hc hf => ?_)
  · refine bs_st 3 (x' := (21, [some (.ref 114), some (.int q0), none], [.ref 3, .ref 114], hp (some 114) nh rh TK (RK (some 3)) I L)) rfl ?_
    obtain ⟨q1, hq1, hf⟩ := Option.bind_eq_some_iff.mp hf
    refine bs_call (o := pEN Ls xs (d + 4) 24 [.ref 3] (hp (some 114) nh rh TK (RK (some 3)) I L)) (w := some (.int q1)) (h' := hp (some 114) nh rh TK (RK (some 3)) I L) (pc := 24) (lo := [some (.ref 114), some (.int q0), none]) (rest := [.ref 114]) rfl (t_24 Ls xs (d + 3) (some 114) TK (RK (some 3)) nh rh I L q1 hq1) ?_
    obtain ⟨q2, hq2, hf⟩ := Option.bind_eq_some_iff.mp hf
    refine bs_call (o := pEN Ls xs (d + 4) 38 [.ref 114, .int q1] (hp (some 114) nh rh TK (RK (some 3)) I L)) (w := none) (h' := hp (some 114) nh rh TK (RK (some 3)) q2.1 q2.2) (pc := 27) (lo := [some (.ref 114), some (.int q0), none]) (rest := []) rfl (t_38 Ls xs (d + 1) nh rh n q1 I L q2 hq2) ?_
    refine bs_st 2 (x' := (29, [some (.ref 114), some (.int q0), none], [.int q0, .ref 114], hp (some 114) nh rh TK (RK (some 3)) q2.1 q2.2)) rfl ?_
    obtain ⟨q3, hq3, hf⟩ := Option.bind_eq_some_iff.mp hf
    refine bs_call (o := pEN Ls xs (d + 4) 40 [.ref 114, .int q0] (hp (some 114) nh rh TK (RK (some 3)) q2.1 q2.2)) (w := some (.int q3)) (h' := hp (some 114) nh rh TK (RK (some 3)) q2.1 q2.2) (pc := 32) (lo := [some (.ref 114), some (.int q0), none]) (rest := []) rfl (t_40 Ls xs (d + 2) nh rh q0 q2.1 q2.2 q3 hq3) ?_
    refine bs_st 3 (x' := (35, [some (.ref 114), some (.int q0), some (.int q3)], [.int q3, .ref 114], hp (some 114) nh rh TK (RK (some 3)) q2.1 q2.2)) rfl ?_
    obtain ⟨q4, hq4, hf⟩ := Option.bind_eq_some_iff.mp hf
    refine bs_call (o := pEN Ls xs (d + 4) 42 [.ref 114, .int q3] (hp (some 114) nh rh TK (RK (some 3)) q2.1 q2.2)) (w := some (.int q4.1)) (h' := hp (some 114) nh rh TK (RK (some 3)) q4.2.1 q4.2.2) (pc := 38) (lo := [some (.ref 114), some (.int q0), some (.int q3)]) (rest := []) rfl (t_42 Ls xs (d + 0) nh rh n q3 q2.1 q2.2 q4 hq4) ?_
    refine bs_br (t := 46) (e := 41) (lo := [some (.ref 114), some (.int q0), some (.int q3)]) (st := []) (h := hp (some 114) nh rh TK (RK (some 3)) q4.2.1 q4.2.2) rfl hf (fun hc hf => ?_) (fun hc hf => ?_)
    · refine bs_st 3 (x' := (51, [some (.ref 114), some (.int q0), some (.int q3)], [.int q3, .ref 119], hp (some 114) nh rh TK (RK (some 3)) q4.2.1 q4.2.2)) rfl ?_
      obtain ⟨q5, hq5, hf⟩ := Option.bind_eq_some_iff.mp hf
      refine bs_call (o := pEN Ls xs (d + 4) 48 [.int q3] (hp (some 114) nh rh TK (RK (some 3)) q4.2.1 q4.2.2)) (w := some (.int q5)) (h' := hp (some 114) nh rh TK (RK (some 3)) q4.2.1 q4.2.2) (pc := 54) (lo := [some (.ref 114), some (.int q0), some (.int q3)]) (rest := [.ref 119]) rfl (t_48 Ls xs (d + 3) nh rh q3 q4.2.1 q4.2.2 q5 hq5) ?_
      refine bs_gd (x' := (55, [some (.ref 114), some (.int q0), some (.int q3)], [.int (q4.2.1 119 q5.toNatClampNeg)], hp (some 114) nh rh TK (RK (some 3)) q4.2.1 q4.2.2)) rfl hf (fun hc hf => ?_)
      cases hf
      exact bs_ret rfl
    · refine bs_st 2 (x' := (55, [some (.ref 114), some (.int q0), some (.int q3)], [.int (100 : Int32)], hp (some 114) nh rh TK (RK (some 3)) q4.2.1 q4.2.2)) rfl ?_
      cases hf
      exact bs_ret rfl
  · refine bs_st 1 (x' := (15, [some (.ref 114), some (.int q0), none], [.int (100 : Int32)], hp (some 114) nh rh TK (RK (some 3)) I L)) rfl ?_
    cases hf
    exact bs_ret rfl
/-- LampRounds.longest() on (0,) -/
def f_139_1 (n : Nat) (I : FI) (L : FL) : Option (Int32 × FI × FL) :=
  (f_177 I L).bind fun q0 =>
  if q0 = 0 then
    some ((-2 : Int32), I, L)
  else
    (f_187 I L).bind fun q1 =>
    (f_35 n q1.1 q1.2).bind fun q2 =>
    some (q2.1, q2.2.1, q2.2.2)
set_option maxHeartbeats 1000000 in
set_option maxRecDepth 20000 in
theorem t_139_1 (Ls : Nat) (xs : Nat → Int32) (d : Nat) (nh : Option Nat) (rh : Option Nat) (n : Nat) (I : FI) (L : FL) (r : Int32 × FI × FL) (hf : f_139_1 n I L = some r) : pEN Ls xs (d + 6) 139 [.ref 0] (hp (some 114) nh rh TK (RK (some 3)) I L) = some (some (.int r.1), hp (some 114) nh rh TK (RK (some 3)) r.2.1 r.2.2) := by
  refine en_run (d := d + 5) (cd := cd_139) (f := (sf 11 rs_11 false 1 (some (.int)) Ls xs (d + 5))) rfl rfl (x := (0, [some (.ref 0)], [], hp (some 114) nh rh TK (RK (some 3)) I L)) rfl rfl (Nat.le_of_ble_eq_true rfl) ?_
  unfold f_139_1 at hf
  refine bs_st 1 (x' := (1, [some (.ref 0)], [.ref 0], hp (some 114) nh rh TK (RK (some 3)) I L)) rfl ?_
  obtain ⟨q0, hq0, hf⟩ := Option.bind_eq_some_iff.mp hf
  refine bs_call (o := pEN Ls xs (d + 5) 177 [.ref 0] (hp (some 114) nh rh TK (RK (some 3)) I L)) (w := some (.int q0)) (h' := hp (some 114) nh rh TK (RK (some 3)) I L) (pc := 4) (lo := [some (.ref 0)]) (rest := []) rfl (t_177 Ls xs (d + 4) (some 114) TK (RK (some 3)) nh rh I L q0 hq0) ?_
  refine bs_br (t := 17) (e := 7) (lo := [some (.ref 0)]) (st := []) (h := hp (some 114) nh rh TK (RK (some 3)) I L) rfl hf (fun hc hf => ?_) (fun hc hf => ?_)
  · refine bs_st 1 (x' := (19, [some (.ref 0)], [.int (-2 : Int32)], hp (some 114) nh rh TK (RK (some 3)) I L)) rfl ?_
    cases hf
    exact bs_ret rfl
  · refine bs_st 1 (x' := (8, [some (.ref 0)], [.ref 0], hp (some 114) nh rh TK (RK (some 3)) I L)) rfl ?_
    obtain ⟨q1, hq1, hf⟩ := Option.bind_eq_some_iff.mp hf
    refine bs_call (o := pEN Ls xs (d + 5) 187 [.ref 0] (hp (some 114) nh rh TK (RK (some 3)) I L)) (w := some (.ref 114)) (h' := hp (some 114) nh rh TK (RK (some 3)) q1.1 q1.2) (pc := 11) (lo := [some (.ref 0)]) (rest := []) rfl (t_187 Ls xs (d + 4) nh rh I L q1 hq1) ?_
    obtain ⟨q2, hq2, hf⟩ := Option.bind_eq_some_iff.mp hf
    refine bs_call (o := pEN Ls xs (d + 5) 35 [.ref 114] (hp (some 114) nh rh TK (RK (some 3)) q1.1 q1.2)) (w := some (.int q2.1)) (h' := hp (some 114) nh rh TK (RK (some 3)) q2.2.1 q2.2.2) (pc := 14) (lo := [some (.ref 0)]) (rest := []) rfl (t_35 Ls xs (d + 0) nh rh n q1.1 q1.2 q2 hq2) ?_
    refine bs_st 1 (x' := (19, [some (.ref 0)], [.int q2.1], hp (some 114) nh rh TK (RK (some 3)) q2.2.1 q2.2.2)) rfl ?_
    cases hf
    exact bs_ret rfl
/-- House.everyRoom() on (3,) -/
def f_24_1 (I : FI) (L : FL) : Option (Int32) :=
  some ((((1 : Int32) <<< ((I 3 4) &&& 31)) - (1 : Int32)))
set_option maxHeartbeats 1000000 in
set_option maxRecDepth 20000 in
theorem t_24_1 (Ls : Nat) (xs : Nat → Int32) (d : Nat) (kp : Option Nat) (tl : List (Nat × Nat)) (rl : List (List (Option Nat))) (nh : Option Nat) (I : FI) (L : FL) (r : Int32) (hf : f_24_1 I L = some r) : pEN Ls xs (d + 1) 24 [.ref 3] (hp kp nh (some 3) tl rl I L) = some (some (.int r), hp kp nh (some 3) tl rl I L) := by
  refine en_run (d := d + 0) (cd := cd_24) (f := (sf 3 rs_3 false 1 (some (.int)) Ls xs (d + 0))) rfl rfl (x := (0, [some (.ref 3)], [], hp kp nh (some 3) tl rl I L)) rfl rfl (Nat.le_of_ble_eq_true rfl) ?_
  unfold f_24_1 at hf
  refine bs_st 6 (x' := (8, [some (.ref 3)], [.int (((1 : Int32) <<< ((I 3 4) &&& 31)) - (1 : Int32))], hp kp nh (some 3) tl rl I L)) rfl ?_
  cases hf
  exact bs_ret rfl
/-- House.canGo(II) on (3,) -/
def f_21_2 (x1 : Int32) (x2 : Int32) (I : FI) (L : FL) : Option (Int32) :=
  if x1 = x2 then
    some ((1 : Int32))
  else
    if pin x1 4 = true then (if (((I 6 x1.toNatClampNeg) >>> (x2 &&& 31)) &&& (1 : Int32)) = 0 then
        some ((0 : Int32))
      else
        some ((1 : Int32))) else none
set_option maxHeartbeats 1000000 in
set_option maxRecDepth 20000 in
theorem t_21_2 (Ls : Nat) (xs : Nat → Int32) (d : Nat) (kp : Option Nat) (tl : List (Nat × Nat)) (rl : List (List (Option Nat))) (nh : Option Nat) (x1 : Int32) (x2 : Int32) (I : FI) (L : FL) (r : Int32) (hf : f_21_2 x1 x2 I L = some r) : pEN Ls xs (d + 1) 21 [.ref 3, .int x1, .int x2] (hp kp nh (some 3) tl rl I L) = some (some (.int r), hp kp nh (some 3) tl rl I L) := by
  refine en_run (d := d + 0) (cd := cd_21) (f := (sf 3 rs_3 false 3 (some (.boolean)) Ls xs (d + 0))) rfl rfl (x := (0, [some (.ref 3), some (.int x1), some (.int x2)], [], hp kp nh (some 3) tl rl I L)) rfl rfl (Nat.le_of_ble_eq_true rfl) ?_
  unfold f_21_2 at hf
  refine bs_st 2 (x' := (2, [some (.ref 3), some (.int x1), some (.int x2)], [.int x2, .int x1], hp kp nh (some 3) tl rl I L)) rfl ?_
  refine bs_br (t := 18) (e := 5) (lo := [some (.ref 3), some (.int x1), some (.int x2)]) (st := []) (h := hp kp nh (some 3) tl rl I L) rfl hf (fun hc hf => ?_) (fun hc hf => ?_)
  · refine bs_st 2 (x' := (23, [some (.ref 3), some (.int x1), some (.int x2)], [.int (1 : Int32)], hp kp nh (some 3) tl rl I L)) rfl ?_
    cases hf
    exact bs_ret rfl
  · refine bs_st 3 (x' := (10, [some (.ref 3), some (.int x1), some (.int x2)], [.int x1, .ref 6], hp kp nh (some 3) tl rl I L)) rfl ?_
    refine bs_gd (x' := (11, [some (.ref 3), some (.int x1), some (.int x2)], [.int (I 6 x1.toNatClampNeg)], hp kp nh (some 3) tl rl I L)) rfl hf (fun hc hf => ?_)
    refine bs_st 4 (x' := (15, [some (.ref 3), some (.int x1), some (.int x2)], [.int (((I 6 x1.toNatClampNeg) >>> (x2 &&& 31)) &&& (1 : Int32))], hp kp nh (some 3) tl rl I L)) rfl ?_
    refine bs_br (t := 22) (e := 18) (lo := [some (.ref 3), some (.int x1), some (.int x2)]) (st := []) (h := hp kp nh (some 3) tl rl I L) rfl hf (fun hc hf => ?_) (fun hc hf => ?_)
    · refine bs_st 1 (x' := (23, [some (.ref 3), some (.int x1), some (.int x2)], [.int (0 : Int32)], hp kp nh (some 3) tl rl I L)) rfl ?_
      cases hf
      exact bs_ret rfl
    · refine bs_st 2 (x' := (23, [some (.ref 3), some (.int x1), some (.int x2)], [.int (1 : Int32)], hp kp nh (some 3) tl rl I L)) rfl ?_
      cases hf
      exact bs_ret rfl
/-- Ageing.prepare(LLampRounds$House;I) on (37, 3) -/
def c_4_1_5 (n : Nat) (K1 : Int32 → Int32 → FI → FL → Option (FI × FL)) (K2 : Int32 → Int32 → Int32 → FI → FL → Option (FI × FL)) (x2 : Int32) (x3 : Int32) (x4 : Int32) (I : FI) (L : FL) : Option (FI × FL) :=
  K2 x2 x3 (x4 + (1 : Int32)) I L
set_option maxHeartbeats 1000000 in
set_option maxRecDepth 20000 in
theorem tc_4_1_5 (Ls : Nat) (xs : Nat → Int32) (d : Nat) (kp : Option Nat) (tl : List (Nat × Nat)) (rl : List (List (Option Nat))) (nh : Option Nat) (n : Nat) (K1 : Int32 → Int32 → FI → FL → Option (FI × FL)) (K2 : Int32 → Int32 → Int32 → FI → FL → Option (FI × FL)) (hK1 : ∀ (w4 : Option Value) (w5 : Option Value) (x2 : Int32) (x3 : Int32) (I : FI) (L : FL) (r : FI × FL), K1 x2 x3 I L = some r → Bs cd_4 (sf 1 rs_1 false 6 none Ls xs (d + 1)) (73, [some (.ref 37), some (.ref 3), some (.int x2), some (.int x3), w4, w5], [], hp kp nh (some 3) tl rl I L) (none, hp kp nh (some 3) tl rl r.1 r.2)) (hK2 : ∀ (w5 : Option Value) (x2 : Int32) (x3 : Int32) (x4 : Int32) (I : FI) (L : FL) (r : FI × FL), K2 x2 x3 x4 I L = some r → Bs cd_4 (sf 1 rs_1 false 6 none Ls xs (d + 1)) (84, [some (.ref 37), some (.ref 3), some (.int x2), some (.int x3), some (.int x4), w5], [], hp kp nh (some 3) tl rl I L) (none, hp kp nh (some 3) tl rl r.1 r.2)) (w5 : Option Value) (x2 : Int32) (x3 : Int32) (x4 : Int32) (I : FI) (L : FL) (r : FI × FL) (hf : c_4_1_5 n K1 K2 x2 x3 x4 I L = some r) : Bs cd_4 (sf 1 rs_1 false 6 none Ls xs (d + 1)) (153, [some (.ref 37), some (.ref 3), some (.int x2), some (.int x3), some (.int x4), w5], [], hp kp nh (some 3) tl rl I L) (none, hp kp nh (some 3) tl rl r.1 r.2) := by
  unfold c_4_1_5 at hf
  refine bs_st 2 (x' := (84, [some (.ref 37), some (.ref 3), some (.int x2), some (.int x3), some (.int (x4 + (1 : Int32))), w5], [], hp kp nh (some 3) tl rl I L)) rfl ?_
  exact hK2 w5 x2 x3 (x4 + (1 : Int32)) I L r hf
def c_4_1_4 (n : Nat) (K1 : Int32 → Int32 → FI → FL → Option (FI × FL)) (K2 : Int32 → Int32 → Int32 → FI → FL → Option (FI × FL)) (x2 : Int32) (x3 : Int32) (x4 : Int32) (s0 : Int32) (I : FI) (L : FL) : Option (FI × FL) :=
  if ¬ s0 = 0 then
    c_4_1_5 n K1 K2 x2 x3 x4 I L
  else
    if ((x2 >>> (x4 &&& 31)) &&& (1 : Int32)) = 0 then
      c_4_1_5 n K1 K2 x2 x3 x4 I L
    else
      if pin x3 4 = true then (if pin x3 4 = true then c_4_1_5 n K1 K2 x2 x3 x4 (u2 I 38 x3.toNatClampNeg ((I 38 x3.toNatClampNeg) ||| ((1 : Int32) <<< (((4 : Int32) * x4) &&& 31)))) L else none) else none
set_option maxHeartbeats 1000000 in
set_option maxRecDepth 20000 in
theorem tc_4_1_4 (Ls : Nat) (xs : Nat → Int32) (d : Nat) (kp : Option Nat) (tl : List (Nat × Nat)) (rl : List (List (Option Nat))) (nh : Option Nat) (n : Nat) (K1 : Int32 → Int32 → FI → FL → Option (FI × FL)) (K2 : Int32 → Int32 → Int32 → FI → FL → Option (FI × FL)) (hK1 : ∀ (w4 : Option Value) (w5 : Option Value) (x2 : Int32) (x3 : Int32) (I : FI) (L : FL) (r : FI × FL), K1 x2 x3 I L = some r → Bs cd_4 (sf 1 rs_1 false 6 none Ls xs (d + 1)) (73, [some (.ref 37), some (.ref 3), some (.int x2), some (.int x3), w4, w5], [], hp kp nh (some 3) tl rl I L) (none, hp kp nh (some 3) tl rl r.1 r.2)) (hK2 : ∀ (w5 : Option Value) (x2 : Int32) (x3 : Int32) (x4 : Int32) (I : FI) (L : FL) (r : FI × FL), K2 x2 x3 x4 I L = some r → Bs cd_4 (sf 1 rs_1 false 6 none Ls xs (d + 1)) (84, [some (.ref 37), some (.ref 3), some (.int x2), some (.int x3), some (.int x4), w5], [], hp kp nh (some 3) tl rl I L) (none, hp kp nh (some 3) tl rl r.1 r.2)) (w5 : Option Value) (x2 : Int32) (x3 : Int32) (x4 : Int32) (s0 : Int32) (I : FI) (L : FL) (r : FI × FL) (hf : c_4_1_4 n K1 K2 x2 x3 x4 s0 I L = some r) : Bs cd_4 (sf 1 rs_1 false 6 none Ls xs (d + 1)) (122, [some (.ref 37), some (.ref 3), some (.int x2), some (.int x3), some (.int x4), w5], [.int s0], hp kp nh (some 3) tl rl I L) (none, hp kp nh (some 3) tl rl r.1 r.2) := by
  unfold c_4_1_4 at hf
  refine bs_st 2 (x' := (126, [some (.ref 37), some (.ref 3), some (.int x2), some (.int x3), some (.int x4), some (.int s0)], [.int s0], hp kp nh (some 3) tl rl I L)) rfl ?_
  refine bs_br (t := 153) (e := 129) (lo := [some (.ref 37), some (.ref 3), some (.int x2), some (.int x3), some (.int x4), some (.int s0)]) (st := []) (h := hp kp nh (some 3) tl rl I L) rfl hf (fun hc hf => ?_) (fun hc hf => ?_)
  · exact tc_4_1_5 Ls xs d kp tl rl nh n _ _ hK1 hK2 (some (.int s0)) x2 x3 x4 I L r hf
  · refine bs_st 5 (x' := (135, [some (.ref 37), some (.ref 3), some (.int x2), some (.int x3), some (.int x4), some (.int s0)], [.int ((x2 >>> (x4 &&& 31)) &&& (1 : Int32))], hp kp nh (some 3) tl rl I L)) rfl ?_
    refine bs_br (t := 153) (e := 138) (lo := [some (.ref 37), some (.ref 3), some (.int x2), some (.int x3), some (.int x4), some (.int s0)]) (st := []) (h := hp kp nh (some 3) tl rl I L) rfl hf (fun hc hf => ?_) (fun hc hf => ?_)
    · exact tc_4_1_5 Ls xs d kp tl rl nh n _ _ hK1 hK2 (some (.int s0)) x2 x3 x4 I L r hf
    · refine bs_st 4 (x' := (144, [some (.ref 37), some (.ref 3), some (.int x2), some (.int x3), some (.int x4), some (.int s0)], [.int x3, .ref 38, .int x3, .ref 38], hp kp nh (some 3) tl rl I L)) rfl ?_
      refine bs_gd (x' := (145, [some (.ref 37), some (.ref 3), some (.int x2), some (.int x3), some (.int x4), some (.int s0)], [.int (I 38 x3.toNatClampNeg), .int x3, .ref 38], hp kp nh (some 3) tl rl I L)) rfl hf (fun hc hf => ?_)
      refine bs_st 6 (x' := (152, [some (.ref 37), some (.ref 3), some (.int x2), some (.int x3), some (.int x4), some (.int s0)], [.int ((I 38 x3.toNatClampNeg) ||| ((1 : Int32) <<< (((4 : Int32) * x4) &&& 31))), .int x3, .ref 38], hp kp nh (some 3) tl rl I L)) rfl ?_
      refine bs_gd (x' := (153, [some (.ref 37), some (.ref 3), some (.int x2), some (.int x3), some (.int x4), some (.int s0)], [], hp kp nh (some 3) tl rl (u2 I 38 x3.toNatClampNeg ((I 38 x3.toNatClampNeg) ||| ((1 : Int32) <<< (((4 : Int32) * x4) &&& 31)))) L)) rfl hf (fun hc hf => ?_)
      exact tc_4_1_5 Ls xs d kp tl rl nh n _ _ hK1 hK2 (some (.int s0)) x2 x3 x4 (u2 I 38 x3.toNatClampNeg ((I 38 x3.toNatClampNeg) ||| ((1 : Int32) <<< (((4 : Int32) * x4) &&& 31)))) L r hf
def c_4_1_3 (n : Nat) (K1 : Int32 → Int32 → FI → FL → Option (FI × FL)) (K2 : Int32 → Int32 → Int32 → FI → FL → Option (FI × FL)) (x2 : Int32) (x3 : Int32) (x4 : Int32) (I : FI) (L : FL) : Option (FI × FL) :=
  c_4_1_4 n K1 K2 x2 x3 x4 (1 : Int32) I L
set_option maxHeartbeats 1000000 in
set_option maxRecDepth 20000 in
theorem tc_4_1_3 (Ls : Nat) (xs : Nat → Int32) (d : Nat) (kp : Option Nat) (tl : List (Nat × Nat)) (rl : List (List (Option Nat))) (nh : Option Nat) (n : Nat) (K1 : Int32 → Int32 → FI → FL → Option (FI × FL)) (K2 : Int32 → Int32 → Int32 → FI → FL → Option (FI × FL)) (hK1 : ∀ (w4 : Option Value) (w5 : Option Value) (x2 : Int32) (x3 : Int32) (I : FI) (L : FL) (r : FI × FL), K1 x2 x3 I L = some r → Bs cd_4 (sf 1 rs_1 false 6 none Ls xs (d + 1)) (73, [some (.ref 37), some (.ref 3), some (.int x2), some (.int x3), w4, w5], [], hp kp nh (some 3) tl rl I L) (none, hp kp nh (some 3) tl rl r.1 r.2)) (hK2 : ∀ (w5 : Option Value) (x2 : Int32) (x3 : Int32) (x4 : Int32) (I : FI) (L : FL) (r : FI × FL), K2 x2 x3 x4 I L = some r → Bs cd_4 (sf 1 rs_1 false 6 none Ls xs (d + 1)) (84, [some (.ref 37), some (.ref 3), some (.int x2), some (.int x3), some (.int x4), w5], [], hp kp nh (some 3) tl rl I L) (none, hp kp nh (some 3) tl rl r.1 r.2)) (w5 : Option Value) (x2 : Int32) (x3 : Int32) (x4 : Int32) (I : FI) (L : FL) (r : FI × FL) (hf : c_4_1_3 n K1 K2 x2 x3 x4 I L = some r) : Bs cd_4 (sf 1 rs_1 false 6 none Ls xs (d + 1)) (117, [some (.ref 37), some (.ref 3), some (.int x2), some (.int x3), some (.int x4), w5], [], hp kp nh (some 3) tl rl I L) (none, hp kp nh (some 3) tl rl r.1 r.2) := by
  unfold c_4_1_3 at hf
  refine bs_st 2 (x' := (122, [some (.ref 37), some (.ref 3), some (.int x2), some (.int x3), some (.int x4), w5], [.int (1 : Int32)], hp kp nh (some 3) tl rl I L)) rfl ?_
  exact tc_4_1_4 Ls xs d kp tl rl nh n _ _ hK1 hK2 w5 x2 x3 x4 (1 : Int32) I L r hf
def c_4_1_6 (n : Nat) (K1 : Int32 → Int32 → FI → FL → Option (FI × FL)) (K2 : Int32 → Int32 → Int32 → FI → FL → Option (FI × FL)) (x2 : Int32) (x3 : Int32) (x4 : Int32) (I : FI) (L : FL) : Option (FI × FL) :=
  c_4_1_4 n K1 K2 x2 x3 x4 (0 : Int32) I L
set_option maxHeartbeats 1000000 in
set_option maxRecDepth 20000 in
theorem tc_4_1_6 (Ls : Nat) (xs : Nat → Int32) (d : Nat) (kp : Option Nat) (tl : List (Nat × Nat)) (rl : List (List (Option Nat))) (nh : Option Nat) (n : Nat) (K1 : Int32 → Int32 → FI → FL → Option (FI × FL)) (K2 : Int32 → Int32 → Int32 → FI → FL → Option (FI × FL)) (hK1 : ∀ (w4 : Option Value) (w5 : Option Value) (x2 : Int32) (x3 : Int32) (I : FI) (L : FL) (r : FI × FL), K1 x2 x3 I L = some r → Bs cd_4 (sf 1 rs_1 false 6 none Ls xs (d + 1)) (73, [some (.ref 37), some (.ref 3), some (.int x2), some (.int x3), w4, w5], [], hp kp nh (some 3) tl rl I L) (none, hp kp nh (some 3) tl rl r.1 r.2)) (hK2 : ∀ (w5 : Option Value) (x2 : Int32) (x3 : Int32) (x4 : Int32) (I : FI) (L : FL) (r : FI × FL), K2 x2 x3 x4 I L = some r → Bs cd_4 (sf 1 rs_1 false 6 none Ls xs (d + 1)) (84, [some (.ref 37), some (.ref 3), some (.int x2), some (.int x3), some (.int x4), w5], [], hp kp nh (some 3) tl rl I L) (none, hp kp nh (some 3) tl rl r.1 r.2)) (w5 : Option Value) (x2 : Int32) (x3 : Int32) (x4 : Int32) (I : FI) (L : FL) (r : FI × FL) (hf : c_4_1_6 n K1 K2 x2 x3 x4 I L = some r) : Bs cd_4 (sf 1 rs_1 false 6 none Ls xs (d + 1)) (121, [some (.ref 37), some (.ref 3), some (.int x2), some (.int x3), some (.int x4), w5], [], hp kp nh (some 3) tl rl I L) (none, hp kp nh (some 3) tl rl r.1 r.2) := by
  unfold c_4_1_6 at hf
  refine bs_st 1 (x' := (122, [some (.ref 37), some (.ref 3), some (.int x2), some (.int x3), some (.int x4), w5], [.int (0 : Int32)], hp kp nh (some 3) tl rl I L)) rfl ?_
  exact tc_4_1_4 Ls xs d kp tl rl nh n _ _ hK1 hK2 w5 x2 x3 x4 (0 : Int32) I L r hf
def b_4_1_2 (n : Nat) (K1 : Int32 → Int32 → FI → FL → Option (FI × FL)) (K2 : Int32 → Int32 → Int32 → FI → FL → Option (FI × FL)) (x2 : Int32) (x3 : Int32) (x4 : Int32) (I : FI) (L : FL) : Option (FI × FL) :=
  if I 3 4 ≤ x4 then
    K1 x2 (x3 + (1 : Int32)) I L
  else
    if x4 = x3 then
      c_4_1_3 n K1 K2 x2 x3 x4 I L
    else
      if ¬ I 37 2 = (3 : Int32) then
        c_4_1_6 n K1 K2 x2 x3 x4 I L
      else
        (f_21_2 x3 x4 I L).bind fun q0 =>
        if q0 = 0 then
          c_4_1_6 n K1 K2 x2 x3 x4 I L
        else
          c_4_1_3 n K1 K2 x2 x3 x4 I L
def c_4_1_2 (n : Nat) (K1 : Int32 → Int32 → FI → FL → Option (FI × FL)) : Nat → Int32 → Int32 → Int32 → FI → FL → Option (FI × FL)
  | 0, _, _, _, _, _ => none
  | m + 1, x2, x3, x4, I, L => b_4_1_2 n K1 (c_4_1_2 n K1 m) x2 x3 x4 I L
set_option maxHeartbeats 1000000 in
set_option maxRecDepth 20000 in
theorem tc_4_1_2 (Ls : Nat) (xs : Nat → Int32) (d : Nat) (kp : Option Nat) (tl : List (Nat × Nat)) (rl : List (List (Option Nat))) (nh : Option Nat) (n : Nat) (K1 : Int32 → Int32 → FI → FL → Option (FI × FL)) (hK1 : ∀ (w4 : Option Value) (w5 : Option Value) (x2 : Int32) (x3 : Int32) (I : FI) (L : FL) (r : FI × FL), K1 x2 x3 I L = some r → Bs cd_4 (sf 1 rs_1 false 6 none Ls xs (d + 1)) (73, [some (.ref 37), some (.ref 3), some (.int x2), some (.int x3), w4, w5], [], hp kp nh (some 3) tl rl I L) (none, hp kp nh (some 3) tl rl r.1 r.2)) : ∀ (m : Nat) (w5 : Option Value) (x2 : Int32) (x3 : Int32) (x4 : Int32) (I : FI) (L : FL) (r : FI × FL), c_4_1_2 n K1 m x2 x3 x4 I L = some r → Bs cd_4 (sf 1 rs_1 false 6 none Ls xs (d + 1)) (84, [some (.ref 37), some (.ref 3), some (.int x2), some (.int x3), some (.int x4), w5], [], hp kp nh (some 3) tl rl I L) (none, hp kp nh (some 3) tl rl r.1 r.2)
  | 0, w5, x2, x3, x4, I, L, r, hf => by cases hf
  | m + 1, w5, x2, x3, x4, I, L, r, hf => by
    unfold c_4_1_2 b_4_1_2 at hf
    have hK2 := tc_4_1_2 Ls xs d kp tl rl nh n K1 hK1 m
    refine bs_st 3 (x' := (90, [some (.ref 37), some (.ref 3), some (.int x2), some (.int x3), some (.int x4), w5], [.int (I 3 4), .int x4], hp kp nh (some 3) tl rl I L)) rfl ?_
    refine bs_br (t := 159) (e := 93) (lo := [some (.ref 37), some (.ref 3), some (.int x2), some (.int x3), some (.int x4), w5]) (st := []) (h := hp kp nh (some 3) tl rl I L) rfl hf (fun hc hf => ?_) (fun hc hf => ?_)
    · refine bs_st 2 (x' := (73, [some (.ref 37), some (.ref 3), some (.int x2), some (.int (x3 + (1 : Int32))), some (.int x4), w5], [], hp kp nh (some 3) tl rl I L)) rfl ?_
      exact hK1 (some (.int x4)) w5 x2 (x3 + (1 : Int32)) I L r hf
    · refine bs_st 2 (x' := (96, [some (.ref 37), some (.ref 3), some (.int x2), some (.int x3), some (.int x4), w5], [.int x3, .int x4], hp kp nh (some 3) tl rl I L)) rfl ?_
      refine bs_br (t := 117) (e := 99) (lo := [some (.ref 37), some (.ref 3), some (.int x2), some (.int x3), some (.int x4), w5]) (st := []) (h := hp kp nh (some 3) tl rl I L) rfl hf (fun hc hf => ?_) (fun hc hf => ?_)
      · exact tc_4_1_3 Ls xs d kp tl rl nh n _ _ hK1 hK2 w5 x2 x3 x4 I L r hf
      · refine bs_st 3 (x' := (104, [some (.ref 37), some (.ref 3), some (.int x2), some (.int x3), some (.int x4), w5], [.int (3 : Int32), .int (I 37 2)], hp kp nh (some 3) tl rl I L)) rfl ?_
        refine bs_br (t := 121) (e := 107) (lo := [some (.ref 37), some (.ref 3), some (.int x2), some (.int x3), some (.int x4), w5]) (st := []) (h := hp kp nh (some 3) tl rl I L) rfl hf (fun hc hf => ?_) (fun hc hf => ?_)
        · exact tc_4_1_6 Ls xs d kp tl rl nh n _ _ hK1 hK2 w5 x2 x3 x4 I L r hf
        · refine bs_st 3 (x' := (111, [some (.ref 37), some (.ref 3), some (.int x2), some (.int x3), some (.int x4), w5], [.int x4, .int x3, .ref 3], hp kp nh (some 3) tl rl I L)) rfl ?_
          obtain ⟨q0, hq0, hf⟩ := Option.bind_eq_some_iff.mp hf
          refine bs_call (o := pEN Ls xs (d + 1) 21 [.ref 3, .int x3, .int x4] (hp kp nh (some 3) tl rl I L)) (w := some (.int q0)) (h' := hp kp nh (some 3) tl rl I L) (pc := 114) (lo := [some (.ref 37), some (.ref 3), some (.int x2), some (.int x3), some (.int x4), w5]) (rest := []) rfl (t_21_2 Ls xs (d + 0) kp tl rl nh x3 x4 I L q0 hq0) ?_
          refine bs_br (t := 121) (e := 117) (lo := [some (.ref 37), some (.ref 3), some (.int x2), some (.int x3), some (.int x4), w5]) (st := []) (h := hp kp nh (some 3) tl rl I L) rfl hf (fun hc hf => ?_) (fun hc hf => ?_)
          · exact tc_4_1_6 Ls xs d kp tl rl nh n _ _ hK1 hK2 w5 x2 x3 x4 I L r hf
          · exact tc_4_1_3 Ls xs d kp tl rl nh n _ _ hK1 hK2 w5 x2 x3 x4 I L r hf
def b_4_1_1 (n : Nat) (K1 : Int32 → Int32 → FI → FL → Option (FI × FL)) (x2 : Int32) (x3 : Int32) (I : FI) (L : FL) : Option (FI × FL) :=
  if I 3 4 ≤ x3 then
    some (I, L)
  else
    c_4_1_2 n K1 n x2 x3 (0 : Int32) I L
def c_4_1_1 (n : Nat) : Nat → Int32 → Int32 → FI → FL → Option (FI × FL)
  | 0, _, _, _, _ => none
  | m + 1, x2, x3, I, L => b_4_1_1 n (c_4_1_1 n m) x2 x3 I L
set_option maxHeartbeats 1000000 in
set_option maxRecDepth 20000 in
theorem tc_4_1_1 (Ls : Nat) (xs : Nat → Int32) (d : Nat) (kp : Option Nat) (tl : List (Nat × Nat)) (rl : List (List (Option Nat))) (nh : Option Nat) (n : Nat) : ∀ (m : Nat) (w4 : Option Value) (w5 : Option Value) (x2 : Int32) (x3 : Int32) (I : FI) (L : FL) (r : FI × FL), c_4_1_1 n m x2 x3 I L = some r → Bs cd_4 (sf 1 rs_1 false 6 none Ls xs (d + 1)) (73, [some (.ref 37), some (.ref 3), some (.int x2), some (.int x3), w4, w5], [], hp kp nh (some 3) tl rl I L) (none, hp kp nh (some 3) tl rl r.1 r.2)
  | 0, w4, w5, x2, x3, I, L, r, hf => by cases hf
  | m + 1, w4, w5, x2, x3, I, L, r, hf => by
    unfold c_4_1_1 b_4_1_1 at hf
    have hK1 := tc_4_1_1 Ls xs d kp tl rl nh n m
    refine bs_st 3 (x' := (78, [some (.ref 37), some (.ref 3), some (.int x2), some (.int x3), w4, w5], [.int (I 3 4), .int x3], hp kp nh (some 3) tl rl I L)) rfl ?_
    refine bs_br (t := 165) (e := 81) (lo := [some (.ref 37), some (.ref 3), some (.int x2), some (.int x3), w4, w5]) (st := []) (h := hp kp nh (some 3) tl rl I L) rfl hf (fun hc hf => ?_) (fun hc hf => ?_)
    · cases hf
      exact bs_ret rfl
    · refine bs_st 2 (x' := (84, [some (.ref 37), some (.ref 3), some (.int x2), some (.int x3), some (.int (0 : Int32)), w5], [], hp kp nh (some 3) tl rl I L)) rfl ?_
      exact tc_4_1_2 Ls xs d kp tl rl nh n _ hK1 n w5 x2 x3 (0 : Int32) I L r hf
def c_4_1_7 (n : Nat) (K0 : Int32 → Int32 → FI → FL → Option (FI × FL)) (x2 : Int32) (x3 : Int32) (s0 : Int32) (I : FI) (L : FL) : Option (FI × FL) :=
  K0 x2 (x3 + (1 : Int32)) (u2 I 37 1 ((I 37 1) ||| (((7 : Int32) - s0) <<< (((4 : Int32) * x3) &&& 31)))) L
set_option maxHeartbeats 1000000 in
set_option maxRecDepth 20000 in
theorem tc_4_1_7 (Ls : Nat) (xs : Nat → Int32) (d : Nat) (kp : Option Nat) (tl : List (Nat × Nat)) (rl : List (List (Option Nat))) (nh : Option Nat) (n : Nat) (K0 : Int32 → Int32 → FI → FL → Option (FI × FL)) (hK0 : ∀ (w4 : Option Value) (w5 : Option Value) (x2 : Int32) (x3 : Int32) (I : FI) (L : FL) (r : FI × FL), K0 x2 x3 I L = some r → Bs cd_4 (sf 1 rs_1 false 6 none Ls xs (d + 1)) (15, [some (.ref 37), some (.ref 3), some (.int x2), some (.int x3), w4, w5], [], hp kp nh (some 3) tl rl I L) (none, hp kp nh (some 3) tl rl r.1 r.2)) (w4 : Option Value) (w5 : Option Value) (x2 : Int32) (x3 : Int32) (s0 : Int32) (I : FI) (L : FL) (r : FI × FL) (hf : c_4_1_7 n K0 x2 x3 s0 I L = some r) : Bs cd_4 (sf 1 rs_1 false 6 none Ls xs (d + 1)) (45, [some (.ref 37), some (.ref 3), some (.int x2), some (.int x3), w4, w5], [.int s0], hp kp nh (some 3) tl rl I L) (none, hp kp nh (some 3) tl rl r.1 r.2) := by
  unfold c_4_1_7 at hf
  refine bs_st 15 (x' := (15, [some (.ref 37), some (.ref 3), some (.int x2), some (.int (x3 + (1 : Int32))), some (.int s0), w5], [], hp kp nh (some 3) tl rl (u2 I 37 1 ((I 37 1) ||| (((7 : Int32) - s0) <<< (((4 : Int32) * x3) &&& 31)))) L)) rfl ?_
  exact hK0 (some (.int s0)) w5 x2 (x3 + (1 : Int32)) (u2 I 37 1 ((I 37 1) ||| (((7 : Int32) - s0) <<< (((4 : Int32) * x3) &&& 31)))) L r hf
def b_4_1_0 (n : Nat) (K0 : Int32 → Int32 → FI → FL → Option (FI × FL)) (x2 : Int32) (x3 : Int32) (I : FI) (L : FL) : Option (FI × FL) :=
  if (4 : Int32) ≤ x3 then
    c_4_1_1 n n x2 (0 : Int32) I L
  else
    if pin x3 4 = true then (if ((x2 >>> (x3 &&& 31)) &&& (1 : Int32)) = 0 then
        c_4_1_7 n K0 x2 x3 (0 : Int32) (u2 I 38 x3.toNatClampNeg (0 : Int32)) L
      else
        if pin x3 4 = true then c_4_1_7 n K0 x2 x3 (I 4 x3.toNatClampNeg) (u2 I 38 x3.toNatClampNeg (0 : Int32)) L else none) else none
def c_4_1_0 (n : Nat) : Nat → Int32 → Int32 → FI → FL → Option (FI × FL)
  | 0, _, _, _, _ => none
  | m + 1, x2, x3, I, L => b_4_1_0 n (c_4_1_0 n m) x2 x3 I L
set_option maxHeartbeats 1000000 in
set_option maxRecDepth 20000 in
theorem tc_4_1_0 (Ls : Nat) (xs : Nat → Int32) (d : Nat) (kp : Option Nat) (tl : List (Nat × Nat)) (rl : List (List (Option Nat))) (nh : Option Nat) (n : Nat) : ∀ (m : Nat) (w4 : Option Value) (w5 : Option Value) (x2 : Int32) (x3 : Int32) (I : FI) (L : FL) (r : FI × FL), c_4_1_0 n m x2 x3 I L = some r → Bs cd_4 (sf 1 rs_1 false 6 none Ls xs (d + 1)) (15, [some (.ref 37), some (.ref 3), some (.int x2), some (.int x3), w4, w5], [], hp kp nh (some 3) tl rl I L) (none, hp kp nh (some 3) tl rl r.1 r.2)
  | 0, w4, w5, x2, x3, I, L, r, hf => by cases hf
  | m + 1, w4, w5, x2, x3, I, L, r, hf => by
    unfold c_4_1_0 b_4_1_0 at hf
    have hK0 := tc_4_1_0 Ls xs d kp tl rl nh n m
    refine bs_st 2 (x' := (17, [some (.ref 37), some (.ref 3), some (.int x2), some (.int x3), w4, w5], [.int (4 : Int32), .int x3], hp kp nh (some 3) tl rl I L)) rfl ?_
    refine bs_br (t := 71) (e := 20) (lo := [some (.ref 37), some (.ref 3), some (.int x2), some (.int x3), w4, w5]) (st := []) (h := hp kp nh (some 3) tl rl I L) rfl hf (fun hc hf => ?_) (fun hc hf => ?_)
    · refine bs_st 2 (x' := (73, [some (.ref 37), some (.ref 3), some (.int x2), some (.int (0 : Int32)), w4, w5], [], hp kp nh (some 3) tl rl I L)) rfl ?_
      exact tc_4_1_1 Ls xs d kp tl rl nh n n w4 w5 x2 (0 : Int32) I L r hf
    · refine bs_st 4 (x' := (26, [some (.ref 37), some (.ref 3), some (.int x2), some (.int x3), w4, w5], [.int (0 : Int32), .int x3, .ref 38], hp kp nh (some 3) tl rl I L)) rfl ?_
      refine bs_gd (x' := (27, [some (.ref 37), some (.ref 3), some (.int x2), some (.int x3), w4, w5], [], hp kp nh (some 3) tl rl (u2 I 38 x3.toNatClampNeg (0 : Int32)) L)) rfl hf (fun hc hf => ?_)
      refine bs_st 5 (x' := (32, [some (.ref 37), some (.ref 3), some (.int x2), some (.int x3), w4, w5], [.int ((x2 >>> (x3 &&& 31)) &&& (1 : Int32))], hp kp nh (some 3) tl rl (u2 I 38 x3.toNatClampNeg (0 : Int32)) L)) rfl ?_
      refine bs_br (t := 44) (e := 35) (lo := [some (.ref 37), some (.ref 3), some (.int x2), some (.int x3), w4, w5]) (st := []) (h := hp kp nh (some 3) tl rl (u2 I 38 x3.toNatClampNeg (0 : Int32)) L) rfl hf (fun hc hf => ?_) (fun hc hf => ?_)
      · refine bs_st 1 (x' := (45, [some (.ref 37), some (.ref 3), some (.int x2), some (.int x3), w4, w5], [.int (0 : Int32)], hp kp nh (some 3) tl rl (u2 I 38 x3.toNatClampNeg (0 : Int32)) L)) rfl ?_
        exact tc_4_1_7 Ls xs d kp tl rl nh n _ hK0 w4 w5 x2 x3 (0 : Int32) (u2 I 38 x3.toNatClampNeg (0 : Int32)) L r hf
      · refine bs_st 3 (x' := (40, [some (.ref 37), some (.ref 3), some (.int x2), some (.int x3), w4, w5], [.int x3, .ref 4], hp kp nh (some 3) tl rl (u2 I 38 x3.toNatClampNeg (0 : Int32)) L)) rfl ?_
        refine bs_gd (x' := (41, [some (.ref 37), some (.ref 3), some (.int x2), some (.int x3), w4, w5], [.int (I 4 x3.toNatClampNeg)], hp kp nh (some 3) tl rl (u2 I 38 x3.toNatClampNeg (0 : Int32)) L)) rfl hf (fun hc hf => ?_)
        refine bs_st 1 (x' := (45, [some (.ref 37), some (.ref 3), some (.int x2), some (.int x3), w4, w5], [.int (I 4 x3.toNatClampNeg)], hp kp nh (some 3) tl rl (u2 I 38 x3.toNatClampNeg (0 : Int32)) L)) rfl ?_
        exact tc_4_1_7 Ls xs d kp tl rl nh n _ hK0 w4 w5 x2 x3 (I 4 x3.toNatClampNeg) (u2 I 38 x3.toNatClampNeg (0 : Int32)) L r hf
def f_4_1 (n : Nat) (x2 : Int32) (I : FI) (L : FL) : Option (FI × FL) :=
  c_4_1_0 n n x2 (0 : Int32) (u2 (u2 I 37 2 (I 3 1)) 37 1 (0 : Int32)) L
set_option maxHeartbeats 1000000 in
set_option maxRecDepth 20000 in
theorem t_4_1 (Ls : Nat) (xs : Nat → Int32) (d : Nat) (kp : Option Nat) (tl : List (Nat × Nat)) (rl : List (List (Option Nat))) (nh : Option Nat) (n : Nat) (x2 : Int32) (I : FI) (L : FL) (r : FI × FL) (hf : f_4_1 n x2 I L = some r) : pEN Ls xs (d + 2) 4 [.ref 37, .ref 3, .int x2] (hp kp nh (some 3) tl rl I L) = some (none, hp kp nh (some 3) tl rl r.1 r.2) := by
  refine en_run (d := d + 1) (cd := cd_4) (f := (sf 1 rs_1 false 6 none Ls xs (d + 1))) rfl rfl (x := (0, [some (.ref 37), some (.ref 3), some (.int x2), none, none, none], [], hp kp nh (some 3) tl rl I L)) rfl rfl (Nat.le_of_ble_eq_true rfl) ?_
  unfold f_4_1 at hf
  refine bs_st 9 (x' := (15, [some (.ref 37), some (.ref 3), some (.int x2), some (.int (0 : Int32)), none, none], [], hp kp nh (some 3) tl rl (u2 (u2 I 37 2 (I 3 1)) 37 1 (0 : Int32)) L)) rfl ?_
  exact tc_4_1_0 Ls xs d kp tl rl nh n n none none x2 (0 : Int32) (u2 (u2 I 37 2 (I 3 1)) 37 1 (0 : Int32)) L r hf
/-- RingSearch.begin(I) on (35,) -/
def f_100 (n : Nat) (x1 : Int32) (I : FI) (L : FL) : Option (FI × FL) :=
  (f_24_1 I L).bind fun q0 =>
  (f_4_1 n q0 I L).bind fun q1 =>
  some ((u2 (u2 (u2 (u2 q1.1 35 8 x1) 35 9 (0 : Int32)) 40 0 (0 : Int32)) 41 0 (0 : Int32)), q1.2)
set_option maxHeartbeats 1000000 in
set_option maxRecDepth 20000 in
theorem t_100 (Ls : Nat) (xs : Nat → Int32) (d : Nat) (kp : Option Nat) (tl : List (Nat × Nat)) (rl : List (List (Option Nat))) (nh : Option Nat) (n : Nat) (x1 : Int32) (I : FI) (L : FL) (r : FI × FL) (hf : f_100 n x1 I L = some r) : pEN Ls xs (d + 3) 100 [.ref 35, .int x1] (hp kp nh (some 3) tl rl I L) = some (none, hp kp nh (some 3) tl rl r.1 r.2) := by
  refine en_run (d := d + 2) (cd := cd_100) (f := (sf 8 rs_8 false 2 none Ls xs (d + 2))) rfl rfl (x := (0, [some (.ref 35), some (.int x1)], [], hp kp nh (some 3) tl rl I L)) rfl rfl (Nat.le_of_ble_eq_true rfl) ?_
  unfold f_100 at hf
  refine bs_st 6 (x' := (12, [some (.ref 35), some (.int x1)], [.ref 3, .ref 3, .ref 37], hp kp nh (some 3) tl rl I L)) rfl ?_
  obtain ⟨q0, hq0, hf⟩ := Option.bind_eq_some_iff.mp hf
  refine bs_call (o := pEN Ls xs (d + 2) 24 [.ref 3] (hp kp nh (some 3) tl rl I L)) (w := some (.int q0)) (h' := hp kp nh (some 3) tl rl I L) (pc := 15) (lo := [some (.ref 35), some (.int x1)]) (rest := [.ref 3, .ref 37]) rfl (t_24_1 Ls xs (d + 1) kp tl rl nh I L q0 hq0) ?_
  obtain ⟨q1, hq1, hf⟩ := Option.bind_eq_some_iff.mp hf
  refine bs_call (o := pEN Ls xs (d + 2) 4 [.ref 37, .ref 3, .int q0] (hp kp nh (some 3) tl rl I L)) (w := none) (h' := hp kp nh (some 3) tl rl q1.1 q1.2) (pc := 18) (lo := [some (.ref 35), some (.int x1)]) (rest := []) rfl (t_4_1 Ls xs (d + 0) kp tl rl nh n q0 I L q1 hq1) ?_
  refine bs_st 16 (x' := (42, [some (.ref 35), some (.int x1)], [], hp kp nh (some 3) tl rl (u2 (u2 (u2 (u2 q1.1 35 8 x1) 35 9 (0 : Int32)) 40 0 (0 : Int32)) 41 0 (0 : Int32)) q1.2)) rfl ?_
  cases hf
  exact bs_ret rfl
/-- Ageing.after(III) on (37,) -/
def c_7_1_0 (I : FI) (L : FL) (x1 : Int32) (x3 : Int32) (x4 : Int32) (x5 : Int32) (x6 : Int32) : Option (Int32) :=
  if pin x3 4 = true then (if ¬ (((((x1 - (x5 <<< (x4 &&& 31))) + (x6 <<< (x4 &&& 31))) + (I 38 x3.toNatClampNeg)) + (I 37 1)) &&& (34952 : Int32)) = 0 then
      some ((-1 : Int32))
    else
      some ((((x1 - (x5 <<< (x4 &&& 31))) + (x6 <<< (x4 &&& 31))) + (I 38 x3.toNatClampNeg)))) else none
set_option maxHeartbeats 1000000 in
set_option maxRecDepth 20000 in
theorem tc_7_1_0 (Ls : Nat) (xs : Nat → Int32) (d : Nat) (kp : Option Nat) (tl : List (Nat × Nat)) (rl : List (List (Option Nat))) (nh : Option Nat) (I : FI) (L : FL) (w2 : Option Value) (w7 : Option Value) (x1 : Int32) (x3 : Int32) (x4 : Int32) (x5 : Int32) (x6 : Int32) (r : Int32) (hf : c_7_1_0 I L x1 x3 x4 x5 x6 = some r) : Bs cd_7 (sf 1 rs_1 false 8 (some (.int)) Ls xs (d + 0)) (51, [some (.ref 37), some (.int x1), w2, some (.int x3), some (.int x4), some (.int x5), some (.int x6), w7], [], hp kp nh (some 3) tl rl I L) (some (.int r), hp kp nh (some 3) tl rl I L) := by
  unfold c_7_1_0 at hf
  refine bs_st 12 (x' := (69, [some (.ref 37), some (.int x1), w2, some (.int x3), some (.int x4), some (.int x5), some (.int x6), w7], [.int x3, .ref 38, .int ((x1 - (x5 <<< (x4 &&& 31))) + (x6 <<< (x4 &&& 31)))], hp kp nh (some 3) tl rl I L)) rfl ?_
  refine bs_gd (x' := (70, [some (.ref 37), some (.int x1), w2, some (.int x3), some (.int x4), some (.int x5), some (.int x6), w7], [.int (I 38 x3.toNatClampNeg), .int ((x1 - (x5 <<< (x4 &&& 31))) + (x6 <<< (x4 &&& 31)))], hp kp nh (some 3) tl rl I L)) rfl hf (fun hc hf => ?_)
  refine bs_st 8 (x' := (83, [some (.ref 37), some (.int x1), w2, some (.int x3), some (.int x4), some (.int x5), some (.int x6), some (.int (((x1 - (x5 <<< (x4 &&& 31))) + (x6 <<< (x4 &&& 31))) + (I 38 x3.toNatClampNeg)))], [.int (((((x1 - (x5 <<< (x4 &&& 31))) + (x6 <<< (x4 &&& 31))) + (I 38 x3.toNatClampNeg)) + (I 37 1)) &&& (34952 : Int32))], hp kp nh (some 3) tl rl I L)) rfl ?_
  refine bs_br (t := 91) (e := 86) (lo := [some (.ref 37), some (.int x1), w2, some (.int x3), some (.int x4), some (.int x5), some (.int x6), some (.int (((x1 - (x5 <<< (x4 &&& 31))) + (x6 <<< (x4 &&& 31))) + (I 38 x3.toNatClampNeg)))]) (st := []) (h := hp kp nh (some 3) tl rl I L) rfl hf (fun hc hf => ?_) (fun hc hf => ?_)
  · refine bs_st 1 (x' := (92, [some (.ref 37), some (.int x1), w2, some (.int x3), some (.int x4), some (.int x5), some (.int x6), some (.int (((x1 - (x5 <<< (x4 &&& 31))) + (x6 <<< (x4 &&& 31))) + (I 38 x3.toNatClampNeg)))], [.int (-1 : Int32)], hp kp nh (some 3) tl rl I L)) rfl ?_
    cases hf
    exact bs_ret rfl
  · refine bs_st 2 (x' := (92, [some (.ref 37), some (.int x1), w2, some (.int x3), some (.int x4), some (.int x5), some (.int x6), some (.int (((x1 - (x5 <<< (x4 &&& 31))) + (x6 <<< (x4 &&& 31))) + (I 38 x3.toNatClampNeg)))], [.int (((x1 - (x5 <<< (x4 &&& 31))) + (x6 <<< (x4 &&& 31))) + (I 38 x3.toNatClampNeg))], hp kp nh (some 3) tl rl I L)) rfl ?_
    cases hf
    exact bs_ret rfl
def f_7_1 (x1 : Int32) (x2 : Int32) (x3 : Int32) (I : FI) (L : FL) : Option (Int32) :=
  if ¬ I 37 2 = (1 : Int32) then
    if ¬ I 37 2 = (2 : Int32) then
      c_7_1_0 I L x1 x3 ((4 : Int32) * x3) ((x1 >>> (((4 : Int32) * x3) &&& 31)) &&& (15 : Int32)) (0 : Int32)
    else
      if x2 = x3 then
        c_7_1_0 I L x1 x3 ((4 : Int32) * x3) ((x1 >>> (((4 : Int32) * x3) &&& 31)) &&& (15 : Int32)) (0 : Int32)
      else
        c_7_1_0 I L x1 x3 ((4 : Int32) * x3) ((x1 >>> (((4 : Int32) * x3) &&& 31)) &&& (15 : Int32)) ((x1 >>> (((4 : Int32) * x3) &&& 31)) &&& (15 : Int32))
  else
    c_7_1_0 I L x1 x3 ((4 : Int32) * x3) ((x1 >>> (((4 : Int32) * x3) &&& 31)) &&& (15 : Int32)) (((x1 >>> (((4 : Int32) * x3) &&& 31)) &&& (15 : Int32)) >>> ((1 : Int32) &&& 31))
set_option maxHeartbeats 1000000 in
set_option maxRecDepth 20000 in
theorem t_7_1 (Ls : Nat) (xs : Nat → Int32) (d : Nat) (kp : Option Nat) (tl : List (Nat × Nat)) (rl : List (List (Option Nat))) (nh : Option Nat) (x1 : Int32) (x2 : Int32) (x3 : Int32) (I : FI) (L : FL) (r : Int32) (hf : f_7_1 x1 x2 x3 I L = some r) : pEN Ls xs (d + 1) 7 [.ref 37, .int x1, .int x2, .int x3] (hp kp nh (some 3) tl rl I L) = some (some (.int r), hp kp nh (some 3) tl rl I L) := by
  refine en_run (d := d + 0) (cd := cd_7) (f := (sf 1 rs_1 false 8 (some (.int)) Ls xs (d + 0))) rfl rfl (x := (0, [some (.ref 37), some (.int x1), some (.int x2), some (.int x3), none, none, none, none], [], hp kp nh (some 3) tl rl I L)) rfl rfl (Nat.le_of_ble_eq_true rfl) ?_
  unfold f_7_1 at hf
  refine bs_st 15 (x' := (22, [some (.ref 37), some (.int x1), some (.int x2), some (.int x3), some (.int ((4 : Int32) * x3)), some (.int ((x1 >>> (((4 : Int32) * x3) &&& 31)) &&& (15 : Int32))), some (.int (0 : Int32)), none], [.int (1 : Int32), .int (I 37 2)], hp kp nh (some 3) tl rl I L)) rfl ?_
  refine bs_br (t := 34) (e := 25) (lo := [some (.ref 37), some (.int x1), some (.int x2), some (.int x3), some (.int ((4 : Int32) * x3)), some (.int ((x1 >>> (((4 : Int32) * x3) &&& 31)) &&& (15 : Int32))), some (.int (0 : Int32)), none]) (st := []) (h := hp kp nh (some 3) tl rl I L) rfl hf (fun hc hf => ?_) (fun hc hf => ?_)
  · refine bs_st 3 (x' := (39, [some (.ref 37), some (.int x1), some (.int x2), some (.int x3), some (.int ((4 : Int32) * x3)), some (.int ((x1 >>> (((4 : Int32) * x3) &&& 31)) &&& (15 : Int32))), some (.int (0 : Int32)), none], [.int (2 : Int32), .int (I 37 2)], hp kp nh (some 3) tl rl I L)) rfl ?_
    refine bs_br (t := 51) (e := 42) (lo := [some (.ref 37), some (.int x1), some (.int x2), some (.int x3), some (.int ((4 : Int32) * x3)), some (.int ((x1 >>> (((4 : Int32) * x3) &&& 31)) &&& (15 : Int32))), some (.int (0 : Int32)), none]) (st := []) (h := hp kp nh (some 3) tl rl I L) rfl hf (fun hc hf => ?_) (fun hc hf => ?_)
    · exact tc_7_1_0 Ls xs d kp tl rl nh I L (some (.int x2)) none x1 x3 ((4 : Int32) * x3) ((x1 >>> (((4 : Int32) * x3) &&& 31)) &&& (15 : Int32)) (0 : Int32) r hf
    · refine bs_st 2 (x' := (44, [some (.ref 37), some (.int x1), some (.int x2), some (.int x3), some (.int ((4 : Int32) * x3)), some (.int ((x1 >>> (((4 : Int32) * x3) &&& 31)) &&& (15 : Int32))), some (.int (0 : Int32)), none], [.int x3, .int x2], hp kp nh (some 3) tl rl I L)) rfl ?_
      refine bs_br (t := 51) (e := 47) (lo := [some (.ref 37), some (.int x1), some (.int x2), some (.int x3), some (.int ((4 : Int32) * x3)), some (.int ((x1 >>> (((4 : Int32) * x3) &&& 31)) &&& (15 : Int32))), some (.int (0 : Int32)), none]) (st := []) (h := hp kp nh (some 3) tl rl I L) rfl hf (fun hc hf => ?_) (fun hc hf => ?_)
      · exact tc_7_1_0 Ls xs d kp tl rl nh I L (some (.int x2)) none x1 x3 ((4 : Int32) * x3) ((x1 >>> (((4 : Int32) * x3) &&& 31)) &&& (15 : Int32)) (0 : Int32) r hf
      · refine bs_st 2 (x' := (51, [some (.ref 37), some (.int x1), some (.int x2), some (.int x3), some (.int ((4 : Int32) * x3)), some (.int ((x1 >>> (((4 : Int32) * x3) &&& 31)) &&& (15 : Int32))), some (.int ((x1 >>> (((4 : Int32) * x3) &&& 31)) &&& (15 : Int32))), none], [], hp kp nh (some 3) tl rl I L)) rfl ?_
        exact tc_7_1_0 Ls xs d kp tl rl nh I L (some (.int x2)) none x1 x3 ((4 : Int32) * x3) ((x1 >>> (((4 : Int32) * x3) &&& 31)) &&& (15 : Int32)) ((x1 >>> (((4 : Int32) * x3) &&& 31)) &&& (15 : Int32)) r hf
  · refine bs_st 5 (x' := (51, [some (.ref 37), some (.int x1), some (.int x2), some (.int x3), some (.int ((4 : Int32) * x3)), some (.int ((x1 >>> (((4 : Int32) * x3) &&& 31)) &&& (15 : Int32))), some (.int (((x1 >>> (((4 : Int32) * x3) &&& 31)) &&& (15 : Int32)) >>> ((1 : Int32) &&& 31))), none], [], hp kp nh (some 3) tl rl I L)) rfl ?_
    exact tc_7_1_0 Ls xs d kp tl rl nh I L (some (.int x2)) none x1 x3 ((4 : Int32) * x3) ((x1 >>> (((4 : Int32) * x3) &&& 31)) &&& (15 : Int32)) (((x1 >>> (((4 : Int32) * x3) &&& 31)) &&& (15 : Int32)) >>> ((1 : Int32) &&& 31)) r hf
/-- RingSearch.closes() on (35,) -/
def c_104_2 (n : Nat) (x2 : Int32) (I : FI) (L : FL) : Option (Int32 × FI × FL) :=
  if x2 = (-1 : Int32) then
    some ((0 : Int32), I, L)
  else
    some ((1 : Int32), I, L)
set_option maxHeartbeats 1000000 in
set_option maxRecDepth 20000 in
theorem tc_104_2 (Ls : Nat) (xs : Nat → Int32) (d : Nat) (kp : Option Nat) (tl : List (Nat × Nat)) (rl : List (List (Option Nat))) (nh : Option Nat) (n : Nat) (w0 : Option Value) (w1 : Option Value) (w3 : Option Value) (w4 : Option Value) (x2 : Int32) (I : FI) (L : FL) (r : Int32 × FI × FL) (hf : c_104_2 n x2 I L = some r) : Bs cd_104 (sf 8 rs_8 false 5 (some (.boolean)) Ls xs (d + 1)) (111, [w0, w1, some (.int x2), w3, w4], [], hp kp nh (some 3) tl rl I L) (some (.int r.1), hp kp nh (some 3) tl rl r.2.1 r.2.2) := by
  unfold c_104_2 at hf
  refine bs_st 2 (x' := (113, [w0, w1, some (.int x2), w3, w4], [.int (-1 : Int32), .int x2], hp kp nh (some 3) tl rl I L)) rfl ?_
  refine bs_br (t := 120) (e := 116) (lo := [w0, w1, some (.int x2), w3, w4]) (st := []) (h := hp kp nh (some 3) tl rl I L) rfl hf (fun hc hf => ?_) (fun hc hf => ?_)
  · refine bs_st 1 (x' := (121, [w0, w1, some (.int x2), w3, w4], [.int (0 : Int32)], hp kp nh (some 3) tl rl I L)) rfl ?_
    cases hf
    exact bs_ret rfl
  · refine bs_st 2 (x' := (121, [w0, w1, some (.int x2), w3, w4], [.int (1 : Int32)], hp kp nh (some 3) tl rl I L)) rfl ?_
    cases hf
    exact bs_ret rfl
def b_104_1 (n : Nat) (K0 : Int32 → Int32 → Int32 → FI → FL → Option (Int32 × FI × FL)) (K1 : Int32 → Int32 → Int32 → Int32 → FI → FL → Option (Int32 × FI × FL)) (x1 : Int32) (x2 : Int32) (x3 : Int32) (x4 : Int32) (I : FI) (L : FL) : Option (Int32 × FI × FL) :=
  if I 35 8 < x4 then
    K0 x1 x2 (x3 + (1 : Int32)) I L
  else
    if pin x4 13 = true then ((f_7_1 x2 x1 (I 40 x4.toNatClampNeg) I L).bind fun q1 =>
      if q1 = (-1 : Int32) then
        c_104_2 n q1 I L
      else
        if pin x4 13 = true then (if ¬ q1 = I 42 x4.toNatClampNeg then
            if pin x4 13 = true then (if pin x4 13 = true then K1 (I 40 x4.toNatClampNeg) q1 x3 (x4 + (1 : Int32)) (u2 I 42 x4.toNatClampNeg q1) L else none) else none
          else
            c_104_2 n q1 I L) else none) else none
def c_104_1 (n : Nat) (K0 : Int32 → Int32 → Int32 → FI → FL → Option (Int32 × FI × FL)) : Nat → Int32 → Int32 → Int32 → Int32 → FI → FL → Option (Int32 × FI × FL)
  | 0, _, _, _, _, _, _ => none
  | m + 1, x1, x2, x3, x4, I, L => b_104_1 n K0 (c_104_1 n K0 m) x1 x2 x3 x4 I L
set_option maxHeartbeats 1000000 in
set_option maxRecDepth 20000 in
theorem tc_104_1 (Ls : Nat) (xs : Nat → Int32) (d : Nat) (kp : Option Nat) (tl : List (Nat × Nat)) (rl : List (List (Option Nat))) (nh : Option Nat) (n : Nat) (K0 : Int32 → Int32 → Int32 → FI → FL → Option (Int32 × FI × FL)) (hK0 : ∀ (w4 : Option Value) (x1 : Int32) (x2 : Int32) (x3 : Int32) (I : FI) (L : FL) (r : Int32 × FI × FL), K0 x1 x2 x3 I L = some r → Bs cd_104 (sf 8 rs_8 false 5 (some (.boolean)) Ls xs (d + 1)) (60, [some (.ref 35), some (.int x1), some (.int x2), some (.int x3), w4], [], hp kp nh (some 3) tl rl I L) (some (.int r.1), hp kp nh (some 3) tl rl r.2.1 r.2.2)) : ∀ (m : Nat) (x1 : Int32) (x2 : Int32) (x3 : Int32) (x4 : Int32) (I : FI) (L : FL) (r : Int32 × FI × FL), c_104_1 n K0 m x1 x2 x3 x4 I L = some r → Bs cd_104 (sf 8 rs_8 false 5 (some (.boolean)) Ls xs (d + 1)) (69, [some (.ref 35), some (.int x1), some (.int x2), some (.int x3), some (.int x4)], [], hp kp nh (some 3) tl rl I L) (some (.int r.1), hp kp nh (some 3) tl rl r.2.1 r.2.2)
  | 0, x1, x2, x3, x4, I, L, r, hf => by cases hf
  | m + 1, x1, x2, x3, x4, I, L, r, hf => by
    unfold c_104_1 b_104_1 at hf
    have hK1 := tc_104_1 Ls xs d kp tl rl nh n K0 hK0 m
    refine bs_st 3 (x' := (75, [some (.ref 35), some (.int x1), some (.int x2), some (.int x3), some (.int x4)], [.int (I 35 8), .int x4], hp kp nh (some 3) tl rl I L)) rfl ?_
    refine bs_br (t := 144) (e := 78) (lo := [some (.ref 35), some (.int x1), some (.int x2), some (.int x3), some (.int x4)]) (st := []) (h := hp kp nh (some 3) tl rl I L) rfl hf (fun hc hf => ?_) (fun hc hf => ?_)
    · refine bs_st 2 (x' := (60, [some (.ref 35), some (.int x1), some (.int x2), some (.int (x3 + (1 : Int32))), some (.int x4)], [], hp kp nh (some 3) tl rl I L)) rfl ?_
      exact hK0 (some (.int x4)) x1 x2 (x3 + (1 : Int32)) I L r hf
    · refine bs_st 7 (x' := (90, [some (.ref 35), some (.int x1), some (.int x2), some (.int x3), some (.int x4)], [.int x4, .ref 40, .int x1, .int x2, .ref 37], hp kp nh (some 3) tl rl I L)) rfl ?_
      refine bs_gd (x' := (91, [some (.ref 35), some (.int x1), some (.int x2), some (.int x3), some (.int x4)], [.int (I 40 x4.toNatClampNeg), .int x1, .int x2, .ref 37], hp kp nh (some 3) tl rl I L)) rfl hf (fun hc hf => ?_)
      obtain ⟨q1, hq1, hf⟩ := Option.bind_eq_some_iff.mp hf
      refine bs_call (o := pEN Ls xs (d + 1) 7 [.ref 37, .int x2, .int x1, .int (I 40 x4.toNatClampNeg)] (hp kp nh (some 3) tl rl I L)) (w := some (.int q1)) (h' := hp kp nh (some 3) tl rl I L) (pc := 94) (lo := [some (.ref 35), some (.int x1), some (.int x2), some (.int x3), some (.int x4)]) (rest := []) rfl (t_7_1 Ls xs (d + 0) kp tl rl nh x2 x1 (I 40 x4.toNatClampNeg) I L q1 hq1) ?_
      refine bs_st 3 (x' := (97, [some (.ref 35), some (.int x1), some (.int q1), some (.int x3), some (.int x4)], [.int (-1 : Int32), .int q1], hp kp nh (some 3) tl rl I L)) rfl ?_
      refine bs_br (t := 111) (e := 100) (lo := [some (.ref 35), some (.int x1), some (.int q1), some (.int x3), some (.int x4)]) (st := []) (h := hp kp nh (some 3) tl rl I L) rfl hf (fun hc hf => ?_) (fun hc hf => ?_)
      · exact tc_104_2 Ls xs d kp tl rl nh n (some (.ref 35)) (some (.int x1)) (some (.int x3)) (some (.int x4)) q1 I L r hf
      · refine bs_st 4 (x' := (107, [some (.ref 35), some (.int x1), some (.int q1), some (.int x3), some (.int x4)], [.int x4, .ref 42, .int q1], hp kp nh (some 3) tl rl I L)) rfl ?_
        refine bs_gd (x' := (108, [some (.ref 35), some (.int x1), some (.int q1), some (.int x3), some (.int x4)], [.int (I 42 x4.toNatClampNeg), .int q1], hp kp nh (some 3) tl rl I L)) rfl hf (fun hc hf => ?_)
        refine bs_br (t := 122) (e := 111) (lo := [some (.ref 35), some (.int x1), some (.int q1), some (.int x3), some (.int x4)]) (st := []) (h := hp kp nh (some 3) tl rl I L) rfl hf (fun hc hf => ?_) (fun hc hf => ?_)
        · refine bs_st 4 (x' := (129, [some (.ref 35), some (.int x1), some (.int q1), some (.int x3), some (.int x4)], [.int q1, .int x4, .ref 42], hp kp nh (some 3) tl rl I L)) rfl ?_
          refine bs_gd (x' := (130, [some (.ref 35), some (.int x1), some (.int q1), some (.int x3), some (.int x4)], [], hp kp nh (some 3) tl rl (u2 I 42 x4.toNatClampNeg q1) L)) rfl hf (fun hc hf => ?_)
          refine bs_st 3 (x' := (136, [some (.ref 35), some (.int x1), some (.int q1), some (.int x3), some (.int x4)], [.int x4, .ref 40], hp kp nh (some 3) tl rl (u2 I 42 x4.toNatClampNeg q1) L)) rfl ?_
          refine bs_gd (x' := (137, [some (.ref 35), some (.int x1), some (.int q1), some (.int x3), some (.int x4)], [.int (I 40 x4.toNatClampNeg)], hp kp nh (some 3) tl rl (u2 I 42 x4.toNatClampNeg q1) L)) rfl hf (fun hc hf => ?_)
          refine bs_st 3 (x' := (69, [some (.ref 35), some (.int (I 40 x4.toNatClampNeg)), some (.int q1), some (.int x3), some (.int (x4 + (1 : Int32)))], [], hp kp nh (some 3) tl rl (u2 I 42 x4.toNatClampNeg q1) L)) rfl ?_
          exact hK1 (I 40 x4.toNatClampNeg) q1 x3 (x4 + (1 : Int32)) (u2 I 42 x4.toNatClampNeg q1) L r hf
        · exact tc_104_2 Ls xs d kp tl rl nh n (some (.ref 35)) (some (.int x1)) (some (.int x3)) (some (.int x4)) q1 I L r hf
def b_104_0 (n : Nat) (K0 : Int32 → Int32 → Int32 → FI → FL → Option (Int32 × FI × FL)) (x1 : Int32) (x2 : Int32) (x3 : Int32) (I : FI) (L : FL) : Option (Int32 × FI × FL) :=
  if (40 : Int32) ≤ x3 then
    some ((0 : Int32), I, L)
  else
    c_104_1 n K0 n x1 x2 x3 (1 : Int32) I L
def c_104_0 (n : Nat) : Nat → Int32 → Int32 → Int32 → FI → FL → Option (Int32 × FI × FL)
  | 0, _, _, _, _, _ => none
  | m + 1, x1, x2, x3, I, L => b_104_0 n (c_104_0 n m) x1 x2 x3 I L
set_option maxHeartbeats 1000000 in
set_option maxRecDepth 20000 in
theorem tc_104_0 (Ls : Nat) (xs : Nat → Int32) (d : Nat) (kp : Option Nat) (tl : List (Nat × Nat)) (rl : List (List (Option Nat))) (nh : Option Nat) (n : Nat) : ∀ (m : Nat) (w4 : Option Value) (x1 : Int32) (x2 : Int32) (x3 : Int32) (I : FI) (L : FL) (r : Int32 × FI × FL), c_104_0 n m x1 x2 x3 I L = some r → Bs cd_104 (sf 8 rs_8 false 5 (some (.boolean)) Ls xs (d + 1)) (60, [some (.ref 35), some (.int x1), some (.int x2), some (.int x3), w4], [], hp kp nh (some 3) tl rl I L) (some (.int r.1), hp kp nh (some 3) tl rl r.2.1 r.2.2)
  | 0, w4, x1, x2, x3, I, L, r, hf => by cases hf
  | m + 1, w4, x1, x2, x3, I, L, r, hf => by
    unfold c_104_0 b_104_0 at hf
    have hK0 := tc_104_0 Ls xs d kp tl rl nh n m
    refine bs_st 2 (x' := (63, [some (.ref 35), some (.int x1), some (.int x2), some (.int x3), w4], [.int (40 : Int32), .int x3], hp kp nh (some 3) tl rl I L)) rfl ?_
    refine bs_br (t := 150) (e := 66) (lo := [some (.ref 35), some (.int x1), some (.int x2), some (.int x3), w4]) (st := []) (h := hp kp nh (some 3) tl rl I L) rfl hf (fun hc hf => ?_) (fun hc hf => ?_)
    · refine bs_st 1 (x' := (151, [some (.ref 35), some (.int x1), some (.int x2), some (.int x3), w4], [.int (0 : Int32)], hp kp nh (some 3) tl rl I L)) rfl ?_
      cases hf
      exact bs_ret rfl
    · refine bs_st 2 (x' := (69, [some (.ref 35), some (.int x1), some (.int x2), some (.int x3), some (.int (1 : Int32))], [], hp kp nh (some 3) tl rl I L)) rfl ?_
      exact tc_104_1 Ls xs d kp tl rl nh n _ hK0 n x1 x2 x3 (1 : Int32) I L r hf
def f_104 (n : Nat) (I : FI) (L : FL) : Option (Int32 × FI × FL) :=
  if pin (I 35 8) 13 = true then (if pin (I 35 8) 13 = true then ((f_21_2 (I 40 ((I 35 8).toNatClampNeg)) (I 40 1) I L).bind fun q0 =>
      if ¬ q0 = 0 then
        if (0 : Int32) < 0 ∨ (0 : Int32) < 0 ∨ ((I 35 8) + (1 : Int32)) < 0 ∨ 8 < pcat [] then none else if (0 : Int32).toNatClampNeg + ((I 35 8) + (1 : Int32)).toNatClampNeg ≤ 13 ∧ (0 : Int32).toNatClampNeg + ((I 35 8) + (1 : Int32)).toNatClampNeg ≤ 13 then c_104_0 n n (I 40 ((I 35 8).toNatClampNeg)) (I 41 ((I 35 8).toNatClampNeg)) (0 : Int32) (c2 I 41 42 0 0 (((I 35 8) + (1 : Int32)).toNatClampNeg)) L else none
      else
        some ((0 : Int32), I, L)) else none) else none
set_option maxHeartbeats 1000000 in
set_option maxRecDepth 20000 in
theorem t_104 (Ls : Nat) (xs : Nat → Int32) (d : Nat) (kp : Option Nat) (tl : List (Nat × Nat)) (rl : List (List (Option Nat))) (nh : Option Nat) (n : Nat) (I : FI) (L : FL) (r : Int32 × FI × FL) (hf : f_104 n I L = some r) : pEN Ls xs (d + 2) 104 [.ref 35] (hp kp nh (some 3) tl rl I L) = some (some (.int r.1), hp kp nh (some 3) tl rl r.2.1 r.2.2) := by
  refine en_run (d := d + 1) (cd := cd_104) (f := (sf 8 rs_8 false 5 (some (.boolean)) Ls xs (d + 1))) rfl rfl (x := (0, [some (.ref 35), none, none, none, none], [], hp kp nh (some 3) tl rl I L)) rfl rfl (Nat.le_of_ble_eq_true rfl) ?_
  unfold f_104 at hf
  refine bs_st 4 (x' := (8, [some (.ref 35), none, none, none, none], [.int (I 35 8), .ref 40], hp kp nh (some 3) tl rl I L)) rfl ?_
  refine bs_gd (x' := (9, [some (.ref 35), none, none, none, none], [.int (I 40 ((I 35 8).toNatClampNeg))], hp kp nh (some 3) tl rl I L)) rfl hf (fun hc hf => ?_)
  refine bs_st 5 (x' := (18, [some (.ref 35), some (.int (I 40 ((I 35 8).toNatClampNeg))), none, none, none], [.int (I 35 8), .ref 41], hp kp nh (some 3) tl rl I L)) rfl ?_
  refine bs_gd (x' := (19, [some (.ref 35), some (.int (I 40 ((I 35 8).toNatClampNeg))), none, none, none], [.int (I 41 ((I 35 8).toNatClampNeg))], hp kp nh (some 3) tl rl I L)) rfl hf (fun hc hf => ?_)
  refine bs_st 8 (x' := (31, [some (.ref 35), some (.int (I 40 ((I 35 8).toNatClampNeg))), some (.int (I 41 ((I 35 8).toNatClampNeg))), none, none], [.int (I 40 1), .int (I 40 ((I 35 8).toNatClampNeg)), .ref 3], hp kp nh (some 3) tl rl I L)) rfl ?_
  obtain ⟨q0, hq0, hf⟩ := Option.bind_eq_some_iff.mp hf
  refine bs_call (o := pEN Ls xs (d + 1) 21 [.ref 3, .int (I 40 ((I 35 8).toNatClampNeg)), .int (I 40 1)] (hp kp nh (some 3) tl rl I L)) (w := some (.int q0)) (h' := hp kp nh (some 3) tl rl I L) (pc := 34) (lo := [some (.ref 35), some (.int (I 40 ((I 35 8).toNatClampNeg))), some (.int (I 41 ((I 35 8).toNatClampNeg))), none, none]) (rest := []) rfl (t_21_2 Ls xs (d + 0) kp tl rl nh (I 40 ((I 35 8).toNatClampNeg)) (I 40 1) I L q0 hq0) ?_
  refine bs_br (t := 39) (e := 37) (lo := [some (.ref 35), some (.int (I 40 ((I 35 8).toNatClampNeg))), some (.int (I 41 ((I 35 8).toNatClampNeg))), none, none]) (st := []) (h := hp kp nh (some 3) tl rl I L) rfl hf (fun hc hf => ?_) (fun hc hf => ?_)
  · refine bs_st 10 (x' := (55, [some (.ref 35), some (.int (I 40 ((I 35 8).toNatClampNeg))), some (.int (I 41 ((I 35 8).toNatClampNeg))), none, none], [.int ((I 35 8) + (1 : Int32)), .int (0 : Int32), .ref 42, .int (0 : Int32), .ref 41], hp kp nh (some 3) tl rl I L)) rfl ?_
    refine bs_acp (x' := (58, [some (.ref 35), some (.int (I 40 ((I 35 8).toNatClampNeg))), some (.int (I 41 ((I 35 8).toNatClampNeg))), none, none], [], hp kp nh (some 3) tl rl (c2 I 41 42 0 0 (((I 35 8) + (1 : Int32)).toNatClampNeg)) L)) rfl hf (fun hc1 hc2 hf => ?_)
    refine bs_st 2 (x' := (60, [some (.ref 35), some (.int (I 40 ((I 35 8).toNatClampNeg))), some (.int (I 41 ((I 35 8).toNatClampNeg))), some (.int (0 : Int32)), none], [], hp kp nh (some 3) tl rl (c2 I 41 42 0 0 (((I 35 8) + (1 : Int32)).toNatClampNeg)) L)) rfl ?_
    exact tc_104_0 Ls xs d kp tl rl nh n n none (I 40 ((I 35 8).toNatClampNeg)) (I 41 ((I 35 8).toNatClampNeg)) (0 : Int32) (c2 I 41 42 0 0 (((I 35 8) + (1 : Int32)).toNatClampNeg)) L r hf
  · refine bs_st 1 (x' := (38, [some (.ref 35), some (.int (I 40 ((I 35 8).toNatClampNeg))), some (.int (I 41 ((I 35 8).toNatClampNeg))), none, none], [.int (0 : Int32)], hp kp nh (some 3) tl rl I L)) rfl ?_
    cases hf
    exact bs_ret rfl
/-- RingSearch.take(I) on (35,) -/
def f_102 (x1 : Int32) (I : FI) (L : FL) : Option (FI × FL) :=
  if I 35 10 = 0 then
    some ((u2 I 35 9 ((I 35 9) + x1)), L)
  else
    if (1 : Int32) < 0 ∨ (0 : Int32) < 0 ∨ I 35 8 < 0 ∨ 8 < pcat [] then none else if (1 : Int32).toNatClampNeg + (I 35 8).toNatClampNeg ≤ 13 ∧ (0 : Int32).toNatClampNeg + (I 35 8).toNatClampNeg ≤ 10 then some ((u2 (c2 I 40 36 1 0 ((I 35 8).toNatClampNeg)) 35 9 ((I 35 9) + x1)), L) else none
set_option maxHeartbeats 1000000 in
set_option maxRecDepth 20000 in
theorem t_102 (Ls : Nat) (xs : Nat → Int32) (d : Nat) (kp : Option Nat) (tl : List (Nat × Nat)) (rl : List (List (Option Nat))) (nh : Option Nat) (x1 : Int32) (I : FI) (L : FL) (r : FI × FL) (hf : f_102 x1 I L = some r) : pEN Ls xs (d + 1) 102 [.ref 35, .int x1] (hp kp nh (some 3) tl rl I L) = some (none, hp kp nh (some 3) tl rl r.1 r.2) := by
  refine en_run (d := d + 0) (cd := cd_102) (f := (sf 8 rs_8 false 2 none Ls xs (d + 0))) rfl rfl (x := (0, [some (.ref 35), some (.int x1)], [], hp kp nh (some 3) tl rl I L)) rfl rfl (Nat.le_of_ble_eq_true rfl) ?_
  unfold f_102 at hf
  refine bs_st 2 (x' := (4, [some (.ref 35), some (.int x1)], [.int (I 35 10)], hp kp nh (some 3) tl rl I L)) rfl ?_
  refine bs_br (t := 24) (e := 7) (lo := [some (.ref 35), some (.int x1)]) (st := []) (h := hp kp nh (some 3) tl rl I L) rfl hf (fun hc hf => ?_) (fun hc hf => ?_)
  · refine bs_st 6 (x' := (34, [some (.ref 35), some (.int x1)], [], hp kp nh (some 3) tl rl (u2 I 35 9 ((I 35 9) + x1)) L)) rfl ?_
    cases hf
    exact bs_ret rfl
  · refine bs_st 8 (x' := (21, [some (.ref 35), some (.int x1)], [.int (I 35 8), .int (0 : Int32), .ref 36, .int (1 : Int32), .ref 40], hp kp nh (some 3) tl rl I L)) rfl ?_
    refine bs_acp (x' := (24, [some (.ref 35), some (.int x1)], [], hp kp nh (some 3) tl rl (c2 I 40 36 1 0 ((I 35 8).toNatClampNeg)) L)) rfl hf (fun hc1 hc2 hf => ?_)
    refine bs_st 6 (x' := (34, [some (.ref 35), some (.int x1)], [], hp kp nh (some 3) tl rl (u2 (c2 I 40 36 1 0 ((I 35 8).toNatClampNeg)) 35 9 ((I 35 9) + x1)) L)) rfl ?_
    cases hf
    exact bs_ret rfl
/-- RingSearch.enter(II) on (35,) -/
def c_103_1 (x1 : Int32) (x2 : Int32) (x3 : Int32) (I : FI) (L : FL) : Option (Int32 × FI × FL) :=
  if pin (x1 - (1 : Int32)) 13 = true then ((f_7_1 (I 41 ((x1 - (1 : Int32)).toNatClampNeg)) x3 x2 I L).bind fun q0 =>
    if pin x1 13 = true then (if pin x1 13 = true then (if q0 = (-1 : Int32) then
          some ((0 : Int32), (u2 (u2 I 40 x1.toNatClampNeg x2) 41 x1.toNatClampNeg q0), L)
        else
          some ((1 : Int32), (u2 (u2 I 40 x1.toNatClampNeg x2) 41 x1.toNatClampNeg q0), L)) else none) else none) else none
set_option maxHeartbeats 1000000 in
set_option maxRecDepth 20000 in
theorem tc_103_1 (Ls : Nat) (xs : Nat → Int32) (d : Nat) (kp : Option Nat) (tl : List (Nat × Nat)) (rl : List (List (Option Nat))) (nh : Option Nat) (w4 : Option Value) (x1 : Int32) (x2 : Int32) (x3 : Int32) (I : FI) (L : FL) (r : Int32 × FI × FL) (hf : c_103_1 x1 x2 x3 I L = some r) : Bs cd_103 (sf 8 rs_8 false 5 (some (.boolean)) Ls xs (d + 1)) (37, [some (.ref 35), some (.int x1), some (.int x2), some (.int x3), w4], [], hp kp nh (some 3) tl rl I L) (some (.int r.1), hp kp nh (some 3) tl rl r.2.1 r.2.2) := by
  unfold c_103_1 at hf
  refine bs_st 7 (x' := (48, [some (.ref 35), some (.int x1), some (.int x2), some (.int x3), w4], [.int (x1 - (1 : Int32)), .ref 41, .ref 37], hp kp nh (some 3) tl rl I L)) rfl ?_
  refine bs_gd (x' := (49, [some (.ref 35), some (.int x1), some (.int x2), some (.int x3), w4], [.int (I 41 ((x1 - (1 : Int32)).toNatClampNeg)), .ref 37], hp kp nh (some 3) tl rl I L)) rfl hf (fun hc hf => ?_)
  refine bs_st 2 (x' := (51, [some (.ref 35), some (.int x1), some (.int x2), some (.int x3), w4], [.int x2, .int x3, .int (I 41 ((x1 - (1 : Int32)).toNatClampNeg)), .ref 37], hp kp nh (some 3) tl rl I L)) rfl ?_
  obtain ⟨q0, hq0, hf⟩ := Option.bind_eq_some_iff.mp hf
  refine bs_call (o := pEN Ls xs (d + 1) 7 [.ref 37, .int (I 41 ((x1 - (1 : Int32)).toNatClampNeg)), .int x3, .int x2] (hp kp nh (some 3) tl rl I L)) (w := some (.int q0)) (h' := hp kp nh (some 3) tl rl I L) (pc := 54) (lo := [some (.ref 35), some (.int x1), some (.int x2), some (.int x3), w4]) (rest := []) rfl (t_7_1 Ls xs (d + 0) kp tl rl nh (I 41 ((x1 - (1 : Int32)).toNatClampNeg)) x3 x2 I L q0 hq0) ?_
  refine bs_st 5 (x' := (62, [some (.ref 35), some (.int x1), some (.int x2), some (.int x3), some (.int q0)], [.int x2, .int x1, .ref 40], hp kp nh (some 3) tl rl I L)) rfl ?_
  refine bs_gd (x' := (63, [some (.ref 35), some (.int x1), some (.int x2), some (.int x3), some (.int q0)], [], hp kp nh (some 3) tl rl (u2 I 40 x1.toNatClampNeg x2) L)) rfl hf (fun hc hf => ?_)
  refine bs_st 4 (x' := (70, [some (.ref 35), some (.int x1), some (.int x2), some (.int x3), some (.int q0)], [.int q0, .int x1, .ref 41], hp kp nh (some 3) tl rl (u2 I 40 x1.toNatClampNeg x2) L)) rfl ?_
  refine bs_gd (x' := (71, [some (.ref 35), some (.int x1), some (.int x2), some (.int x3), some (.int q0)], [], hp kp nh (some 3) tl rl (u2 (u2 I 40 x1.toNatClampNeg x2) 41 x1.toNatClampNeg q0) L)) rfl hf (fun hc hf => ?_)
  refine bs_st 2 (x' := (74, [some (.ref 35), some (.int x1), some (.int x2), some (.int x3), some (.int q0)], [.int (-1 : Int32), .int q0], hp kp nh (some 3) tl rl (u2 (u2 I 40 x1.toNatClampNeg x2) 41 x1.toNatClampNeg q0) L)) rfl ?_
  refine bs_br (t := 81) (e := 77) (lo := [some (.ref 35), some (.int x1), some (.int x2), some (.int x3), some (.int q0)]) (st := []) (h := hp kp nh (some 3) tl rl (u2 (u2 I 40 x1.toNatClampNeg x2) 41 x1.toNatClampNeg q0) L) rfl hf (fun hc hf => ?_) (fun hc hf => ?_)
  · refine bs_st 1 (x' := (82, [some (.ref 35), some (.int x1), some (.int x2), some (.int x3), some (.int q0)], [.int (0 : Int32)], hp kp nh (some 3) tl rl (u2 (u2 I 40 x1.toNatClampNeg x2) 41 x1.toNatClampNeg q0) L)) rfl ?_
    cases hf
    exact bs_ret rfl
  · refine bs_st 2 (x' := (82, [some (.ref 35), some (.int x1), some (.int x2), some (.int x3), some (.int q0)], [.int (1 : Int32)], hp kp nh (some 3) tl rl (u2 (u2 I 40 x1.toNatClampNeg x2) 41 x1.toNatClampNeg q0) L)) rfl ?_
    cases hf
    exact bs_ret rfl
def c_103_0 (x1 : Int32) (x2 : Int32) (s0 : Int32) (I : FI) (L : FL) : Option (Int32 × FI × FL) :=
  if s0 = (-1 : Int32) then
    c_103_1 x1 x2 s0 I L
  else
    (f_21_2 s0 x2 I L).bind fun q1 =>
    if ¬ q1 = 0 then
      c_103_1 x1 x2 s0 I L
    else
      some ((0 : Int32), I, L)
set_option maxHeartbeats 1000000 in
set_option maxRecDepth 20000 in
theorem tc_103_0 (Ls : Nat) (xs : Nat → Int32) (d : Nat) (kp : Option Nat) (tl : List (Nat × Nat)) (rl : List (List (Option Nat))) (nh : Option Nat) (w3 : Option Value) (w4 : Option Value) (x1 : Int32) (x2 : Int32) (s0 : Int32) (I : FI) (L : FL) (r : Int32 × FI × FL) (hf : c_103_0 x1 x2 s0 I L = some r) : Bs cd_103 (sf 8 rs_8 false 5 (some (.boolean)) Ls xs (d + 1)) (17, [some (.ref 35), some (.int x1), some (.int x2), w3, w4], [.int s0], hp kp nh (some 3) tl rl I L) (some (.int r.1), hp kp nh (some 3) tl rl r.2.1 r.2.2) := by
  unfold c_103_0 at hf
  refine bs_st 3 (x' := (20, [some (.ref 35), some (.int x1), some (.int x2), some (.int s0), w4], [.int (-1 : Int32), .int s0], hp kp nh (some 3) tl rl I L)) rfl ?_
  refine bs_br (t := 37) (e := 23) (lo := [some (.ref 35), some (.int x1), some (.int x2), some (.int s0), w4]) (st := []) (h := hp kp nh (some 3) tl rl I L) rfl hf (fun hc hf => ?_) (fun hc hf => ?_)
  · exact tc_103_1 Ls xs d kp tl rl nh w4 x1 x2 s0 I L r hf
  · refine bs_st 4 (x' := (29, [some (.ref 35), some (.int x1), some (.int x2), some (.int s0), w4], [.int x2, .int s0, .ref 3], hp kp nh (some 3) tl rl I L)) rfl ?_
    obtain ⟨q1, hq1, hf⟩ := Option.bind_eq_some_iff.mp hf
    refine bs_call (o := pEN Ls xs (d + 1) 21 [.ref 3, .int s0, .int x2] (hp kp nh (some 3) tl rl I L)) (w := some (.int q1)) (h' := hp kp nh (some 3) tl rl I L) (pc := 32) (lo := [some (.ref 35), some (.int x1), some (.int x2), some (.int s0), w4]) (rest := []) rfl (t_21_2 Ls xs (d + 0) kp tl rl nh s0 x2 I L q1 hq1) ?_
    refine bs_br (t := 37) (e := 35) (lo := [some (.ref 35), some (.int x1), some (.int x2), some (.int s0), w4]) (st := []) (h := hp kp nh (some 3) tl rl I L) rfl hf (fun hc hf => ?_) (fun hc hf => ?_)
    · exact tc_103_1 Ls xs d kp tl rl nh w4 x1 x2 s0 I L r hf
    · refine bs_st 1 (x' := (36, [some (.ref 35), some (.int x1), some (.int x2), some (.int s0), w4], [.int (0 : Int32)], hp kp nh (some 3) tl rl I L)) rfl ?_
      cases hf
      exact bs_ret rfl
def f_103 (x1 : Int32) (x2 : Int32) (I : FI) (L : FL) : Option (Int32 × FI × FL) :=
  if x1 ≤ (1 : Int32) then
    c_103_0 x1 x2 (-1 : Int32) I L
  else
    if pin (x1 - (1 : Int32)) 13 = true then c_103_0 x1 x2 (I 40 ((x1 - (1 : Int32)).toNatClampNeg)) I L else none
set_option maxHeartbeats 1000000 in
set_option maxRecDepth 20000 in
theorem t_103 (Ls : Nat) (xs : Nat → Int32) (d : Nat) (kp : Option Nat) (tl : List (Nat × Nat)) (rl : List (List (Option Nat))) (nh : Option Nat) (x1 : Int32) (x2 : Int32) (I : FI) (L : FL) (r : Int32 × FI × FL) (hf : f_103 x1 x2 I L = some r) : pEN Ls xs (d + 2) 103 [.ref 35, .int x1, .int x2] (hp kp nh (some 3) tl rl I L) = some (some (.int r.1), hp kp nh (some 3) tl rl r.2.1 r.2.2) := by
  refine en_run (d := d + 1) (cd := cd_103) (f := (sf 8 rs_8 false 5 (some (.boolean)) Ls xs (d + 1))) rfl rfl (x := (0, [some (.ref 35), some (.int x1), some (.int x2), none, none], [], hp kp nh (some 3) tl rl I L)) rfl rfl (Nat.le_of_ble_eq_true rfl) ?_
  unfold f_103 at hf
  refine bs_st 2 (x' := (2, [some (.ref 35), some (.int x1), some (.int x2), none, none], [.int (1 : Int32), .int x1], hp kp nh (some 3) tl rl I L)) rfl ?_
  refine bs_br (t := 16) (e := 5) (lo := [some (.ref 35), some (.int x1), some (.int x2), none, none]) (st := []) (h := hp kp nh (some 3) tl rl I L) rfl hf (fun hc hf => ?_) (fun hc hf => ?_)
  · refine bs_st 1 (x' := (17, [some (.ref 35), some (.int x1), some (.int x2), none, none], [.int (-1 : Int32)], hp kp nh (some 3) tl rl I L)) rfl ?_
    exact tc_103_0 Ls xs d kp tl rl nh none none x1 x2 (-1 : Int32) I L r hf
  · refine bs_st 5 (x' := (12, [some (.ref 35), some (.int x1), some (.int x2), none, none], [.int (x1 - (1 : Int32)), .ref 40], hp kp nh (some 3) tl rl I L)) rfl ?_
    refine bs_gd (x' := (13, [some (.ref 35), some (.int x1), some (.int x2), none, none], [.int (I 40 ((x1 - (1 : Int32)).toNatClampNeg))], hp kp nh (some 3) tl rl I L)) rfl hf (fun hc hf => ?_)
    refine bs_st 1 (x' := (17, [some (.ref 35), some (.int x1), some (.int x2), none, none], [.int (I 40 ((x1 - (1 : Int32)).toNatClampNeg))], hp kp nh (some 3) tl rl I L)) rfl ?_
    exact tc_103_0 Ls xs d kp tl rl nh none none x1 x2 (I 40 ((x1 - (1 : Int32)).toNatClampNeg)) I L r hf
/-- RingSearch.grow(II) on (35,) -/
def c_101_0 (n : Nat) (F : Int32 → Int32 → FI → FL → Option (FI × FL)) (x2 : Int32) (I : FI) (L : FL) : Option (FI × FL) :=
  if x2 ≤ 0 then
    some (I, L)
  else
    if x2 = 0 then none else (if ¬ ((I 35 8) - (I 35 8) / x2 * x2) = 0 then
        some (I, L)
      else
        (f_104 n I L).bind fun q0 =>
        if q0.1 = 0 then
          some (q0.2.1, q0.2.2)
        else
          (f_102 x2 q0.2.1 q0.2.2).bind fun q1 =>
          some (q1.1, q1.2))
set_option maxHeartbeats 1000000 in
set_option maxRecDepth 20000 in
theorem tc_101_0 (Ls : Nat) (xs : Nat → Int32) (d : Nat) (kp : Option Nat) (tl : List (Nat × Nat)) (rl : List (List (Option Nat))) (nh : Option Nat) (n : Nat) (F : Int32 → Int32 → FI → FL → Option (FI × FL)) (hF : ∀ (x1 : Int32) (x2 : Int32) (I : FI) (L : FL) (r : FI × FL), F x1 x2 I L = some r → pEN Ls xs (d + 2) 101 [.ref 35, .int x1, .int x2] (hp kp nh (some 3) tl rl I L) = some (none, hp kp nh (some 3) tl rl r.1 r.2)) (w1 : Option Value) (w3 : Option Value) (w4 : Option Value) (x2 : Int32) (I : FI) (L : FL) (r : FI × FL) (hf : c_101_0 n F x2 I L = some r) : Bs cd_101 (sf 8 rs_8 false 5 none Ls xs (d + 2)) (14, [some (.ref 35), w1, some (.int x2), w3, w4], [], hp kp nh (some 3) tl rl I L) (none, hp kp nh (some 3) tl rl r.1 r.2) := by
  unfold c_101_0 at hf
  refine bs_st 1 (x' := (15, [some (.ref 35), w1, some (.int x2), w3, w4], [.int x2], hp kp nh (some 3) tl rl I L)) rfl ?_
  refine bs_br (t := 39) (e := 18) (lo := [some (.ref 35), w1, some (.int x2), w3, w4]) (st := []) (h := hp kp nh (some 3) tl rl I L) rfl hf (fun hc hf => ?_) (fun hc hf => ?_)
  · cases hf
    exact bs_ret rfl
  · refine bs_st 3 (x' := (23, [some (.ref 35), w1, some (.int x2), w3, w4], [.int x2, .int (I 35 8)], hp kp nh (some 3) tl rl I L)) rfl ?_
    refine bs_dv (x' := (24, [some (.ref 35), w1, some (.int x2), w3, w4], [.int ((I 35 8) - (I 35 8) / x2 * x2)], hp kp nh (some 3) tl rl I L)) rfl hf (fun hc hf => ?_)
    refine bs_br (t := 39) (e := 27) (lo := [some (.ref 35), w1, some (.int x2), w3, w4]) (st := []) (h := hp kp nh (some 3) tl rl I L) rfl hf (fun hc hf => ?_) (fun hc hf => ?_)
    · cases hf
      exact bs_ret rfl
    · refine bs_st 1 (x' := (28, [some (.ref 35), w1, some (.int x2), w3, w4], [.ref 35], hp kp nh (some 3) tl rl I L)) rfl ?_
      obtain ⟨q0, hq0, hf⟩ := Option.bind_eq_some_iff.mp hf
      refine bs_call (o := pEN Ls xs (d + 2) 104 [.ref 35] (hp kp nh (some 3) tl rl I L)) (w := some (.int q0.1)) (h' := hp kp nh (some 3) tl rl q0.2.1 q0.2.2) (pc := 31) (lo := [some (.ref 35), w1, some (.int x2), w3, w4]) (rest := []) rfl (t_104 Ls xs (d + 0) kp tl rl nh n I L q0 hq0) ?_
      refine bs_br (t := 39) (e := 34) (lo := [some (.ref 35), w1, some (.int x2), w3, w4]) (st := []) (h := hp kp nh (some 3) tl rl q0.2.1 q0.2.2) rfl hf (fun hc hf => ?_) (fun hc hf => ?_)
      · cases hf
        exact bs_ret rfl
      · refine bs_st 2 (x' := (36, [some (.ref 35), w1, some (.int x2), w3, w4], [.int x2, .ref 35], hp kp nh (some 3) tl rl q0.2.1 q0.2.2)) rfl ?_
        obtain ⟨q1, hq1, hf⟩ := Option.bind_eq_some_iff.mp hf
        refine bs_call (o := pEN Ls xs (d + 2) 102 [.ref 35, .int x2] (hp kp nh (some 3) tl rl q0.2.1 q0.2.2)) (w := none) (h' := hp kp nh (some 3) tl rl q1.1 q1.2) (pc := 39) (lo := [some (.ref 35), w1, some (.int x2), w3, w4]) (rest := []) rfl (t_102 Ls xs (d + 1) kp tl rl nh x2 q0.2.1 q0.2.2 q1 hq1) ?_
        cases hf
        exact bs_ret rfl
def c_101_3 (n : Nat) (F : Int32 → Int32 → FI → FL → Option (FI × FL)) (K1 : Int32 → Int32 → Int32 → Int32 → FI → FL → Option (FI × FL)) (x1 : Int32) (x2 : Int32) (x3 : Int32) (x4 : Int32) (I : FI) (L : FL) : Option (FI × FL) :=
  K1 x1 x2 x3 (x4 + (1 : Int32)) I L
set_option maxHeartbeats 1000000 in
set_option maxRecDepth 20000 in
theorem tc_101_3 (Ls : Nat) (xs : Nat → Int32) (d : Nat) (kp : Option Nat) (tl : List (Nat × Nat)) (rl : List (List (Option Nat))) (nh : Option Nat) (n : Nat) (F : Int32 → Int32 → FI → FL → Option (FI × FL)) (K1 : Int32 → Int32 → Int32 → Int32 → FI → FL → Option (FI × FL)) (hF : ∀ (x1 : Int32) (x2 : Int32) (I : FI) (L : FL) (r : FI × FL), F x1 x2 I L = some r → pEN Ls xs (d + 2) 101 [.ref 35, .int x1, .int x2] (hp kp nh (some 3) tl rl I L) = some (none, hp kp nh (some 3) tl rl r.1 r.2)) (hK1 : ∀ (x1 : Int32) (x2 : Int32) (x3 : Int32) (x4 : Int32) (I : FI) (L : FL) (r : FI × FL), K1 x1 x2 x3 x4 I L = some r → Bs cd_101 (sf 8 rs_8 false 5 none Ls xs (d + 2)) (52, [some (.ref 35), some (.int x1), some (.int x2), some (.int x3), some (.int x4)], [], hp kp nh (some 3) tl rl I L) (none, hp kp nh (some 3) tl rl r.1 r.2)) (x1 : Int32) (x2 : Int32) (x3 : Int32) (x4 : Int32) (I : FI) (L : FL) (r : FI × FL) (hf : c_101_3 n F K1 x1 x2 x3 x4 I L = some r) : Bs cd_101 (sf 8 rs_8 false 5 none Ls xs (d + 2)) (107, [some (.ref 35), some (.int x1), some (.int x2), some (.int x3), some (.int x4)], [], hp kp nh (some 3) tl rl I L) (none, hp kp nh (some 3) tl rl r.1 r.2) := by
  unfold c_101_3 at hf
  refine bs_st 2 (x' := (52, [some (.ref 35), some (.int x1), some (.int x2), some (.int x3), some (.int (x4 + (1 : Int32)))], [], hp kp nh (some 3) tl rl I L)) rfl ?_
  exact hK1 x1 x2 x3 (x4 + (1 : Int32)) I L r hf
def c_101_4 (n : Nat) (F : Int32 → Int32 → FI → FL → Option (FI × FL)) (K1 : Int32 → Int32 → Int32 → Int32 → FI → FL → Option (FI × FL)) (x1 : Int32) (x2 : Int32) (x3 : Int32) (x4 : Int32) (s0 : Int32) (s1 : Int32) (I : FI) (L : FL) : Option (FI × FL) :=
  (F s1 s0 I L).bind fun q3 =>
  c_101_3 n F K1 x1 x2 x3 x4 q3.1 q3.2
set_option maxHeartbeats 1000000 in
set_option maxRecDepth 20000 in
theorem tc_101_4 (Ls : Nat) (xs : Nat → Int32) (d : Nat) (kp : Option Nat) (tl : List (Nat × Nat)) (rl : List (List (Option Nat))) (nh : Option Nat) (n : Nat) (F : Int32 → Int32 → FI → FL → Option (FI × FL)) (K1 : Int32 → Int32 → Int32 → Int32 → FI → FL → Option (FI × FL)) (hF : ∀ (x1 : Int32) (x2 : Int32) (I : FI) (L : FL) (r : FI × FL), F x1 x2 I L = some r → pEN Ls xs (d + 2) 101 [.ref 35, .int x1, .int x2] (hp kp nh (some 3) tl rl I L) = some (none, hp kp nh (some 3) tl rl r.1 r.2)) (hK1 : ∀ (x1 : Int32) (x2 : Int32) (x3 : Int32) (x4 : Int32) (I : FI) (L : FL) (r : FI × FL), K1 x1 x2 x3 x4 I L = some r → Bs cd_101 (sf 8 rs_8 false 5 none Ls xs (d + 2)) (52, [some (.ref 35), some (.int x1), some (.int x2), some (.int x3), some (.int x4)], [], hp kp nh (some 3) tl rl I L) (none, hp kp nh (some 3) tl rl r.1 r.2)) (x1 : Int32) (x2 : Int32) (x3 : Int32) (x4 : Int32) (s0 : Int32) (s1 : Int32) (I : FI) (L : FL) (r : FI × FL) (hf : c_101_4 n F K1 x1 x2 x3 x4 s0 s1 I L = some r) : Bs cd_101 (sf 8 rs_8 false 5 none Ls xs (d + 2)) (104, [some (.ref 35), some (.int x1), some (.int x2), some (.int x3), some (.int x4)], [.int s0, .int s1, .ref 35], hp kp nh (some 3) tl rl I L) (none, hp kp nh (some 3) tl rl r.1 r.2) := by
  unfold c_101_4 at hf
  obtain ⟨q3, hq3, hf⟩ := Option.bind_eq_some_iff.mp hf
  refine bs_call (o := pEN Ls xs (d + 2) 101 [.ref 35, .int s1, .int s0] (hp kp nh (some 3) tl rl I L)) (w := none) (h' := hp kp nh (some 3) tl rl q3.1 q3.2) (pc := 107) (lo := [some (.ref 35), some (.int x1), some (.int x2), some (.int x3), some (.int x4)]) (rest := []) rfl (hF s1 s0 I L q3 hq3) ?_
  exact tc_101_3 Ls xs d kp tl rl nh n _ _ hF hK1 x1 x2 x3 x4 q3.1 q3.2 r hf
def c_101_2 (n : Nat) (F : Int32 → Int32 → FI → FL → Option (FI × FL)) (K1 : Int32 → Int32 → Int32 → Int32 → FI → FL → Option (FI × FL)) (x1 : Int32) (x2 : Int32) (x3 : Int32) (x4 : Int32) (I : FI) (L : FL) : Option (FI × FL) :=
  (f_103 x1 x4 I L).bind fun q2 =>
  if q2.1 = 0 then
    c_101_3 n F K1 x1 x2 x3 x4 q2.2.1 q2.2.2
  else
    if ¬ x4 = x3 then
      c_101_4 n F K1 x1 x2 x3 x4 x1 (x1 + (1 : Int32)) q2.2.1 q2.2.2
    else
      c_101_4 n F K1 x1 x2 x3 x4 x2 (x1 + (1 : Int32)) q2.2.1 q2.2.2
set_option maxHeartbeats 1000000 in
set_option maxRecDepth 20000 in
theorem tc_101_2 (Ls : Nat) (xs : Nat → Int32) (d : Nat) (kp : Option Nat) (tl : List (Nat × Nat)) (rl : List (List (Option Nat))) (nh : Option Nat) (n : Nat) (F : Int32 → Int32 → FI → FL → Option (FI × FL)) (K1 : Int32 → Int32 → Int32 → Int32 → FI → FL → Option (FI × FL)) (hF : ∀ (x1 : Int32) (x2 : Int32) (I : FI) (L : FL) (r : FI × FL), F x1 x2 I L = some r → pEN Ls xs (d + 2) 101 [.ref 35, .int x1, .int x2] (hp kp nh (some 3) tl rl I L) = some (none, hp kp nh (some 3) tl rl r.1 r.2)) (hK1 : ∀ (x1 : Int32) (x2 : Int32) (x3 : Int32) (x4 : Int32) (I : FI) (L : FL) (r : FI × FL), K1 x1 x2 x3 x4 I L = some r → Bs cd_101 (sf 8 rs_8 false 5 none Ls xs (d + 2)) (52, [some (.ref 35), some (.int x1), some (.int x2), some (.int x3), some (.int x4)], [], hp kp nh (some 3) tl rl I L) (none, hp kp nh (some 3) tl rl r.1 r.2)) (x1 : Int32) (x2 : Int32) (x3 : Int32) (x4 : Int32) (I : FI) (L : FL) (r : FI × FL) (hf : c_101_2 n F K1 x1 x2 x3 x4 I L = some r) : Bs cd_101 (sf 8 rs_8 false 5 none Ls xs (d + 2)) (79, [some (.ref 35), some (.int x1), some (.int x2), some (.int x3), some (.int x4)], [], hp kp nh (some 3) tl rl I L) (none, hp kp nh (some 3) tl rl r.1 r.2) := by
  unfold c_101_2 at hf
  refine bs_st 3 (x' := (83, [some (.ref 35), some (.int x1), some (.int x2), some (.int x3), some (.int x4)], [.int x4, .int x1, .ref 35], hp kp nh (some 3) tl rl I L)) rfl ?_
  obtain ⟨q2, hq2, hf⟩ := Option.bind_eq_some_iff.mp hf
  refine bs_call (o := pEN Ls xs (d + 2) 103 [.ref 35, .int x1, .int x4] (hp kp nh (some 3) tl rl I L)) (w := some (.int q2.1)) (h' := hp kp nh (some 3) tl rl q2.2.1 q2.2.2) (pc := 86) (lo := [some (.ref 35), some (.int x1), some (.int x2), some (.int x3), some (.int x4)]) (rest := []) rfl (t_103 Ls xs (d + 0) kp tl rl nh x1 x4 I L q2 hq2) ?_
  refine bs_br (t := 107) (e := 89) (lo := [some (.ref 35), some (.int x1), some (.int x2), some (.int x3), some (.int x4)]) (st := []) (h := hp kp nh (some 3) tl rl q2.2.1 q2.2.2) rfl hf (fun hc hf => ?_) (fun hc hf => ?_)
  · exact tc_101_3 Ls xs d kp tl rl nh n _ _ hF hK1 x1 x2 x3 x4 q2.2.1 q2.2.2 r hf
  · refine bs_st 6 (x' := (96, [some (.ref 35), some (.int x1), some (.int x2), some (.int x3), some (.int x4)], [.int x3, .int x4, .int (x1 + (1 : Int32)), .ref 35], hp kp nh (some 3) tl rl q2.2.1 q2.2.2)) rfl ?_
    refine bs_br (t := 103) (e := 99) (lo := [some (.ref 35), some (.int x1), some (.int x2), some (.int x3), some (.int x4)]) (st := [.int (x1 + (1 : Int32)), .ref 35]) (h := hp kp nh (some 3) tl rl q2.2.1 q2.2.2) rfl hf (fun hc hf => ?_) (fun hc hf => ?_)
    · refine bs_st 1 (x' := (104, [some (.ref 35), some (.int x1), some (.int x2), some (.int x3), some (.int x4)], [.int x1, .int (x1 + (1 : Int32)), .ref 35], hp kp nh (some 3) tl rl q2.2.1 q2.2.2)) rfl ?_
      exact tc_101_4 Ls xs d kp tl rl nh n _ _ hF hK1 x1 x2 x3 x4 x1 (x1 + (1 : Int32)) q2.2.1 q2.2.2 r hf
    · refine bs_st 2 (x' := (104, [some (.ref 35), some (.int x1), some (.int x2), some (.int x3), some (.int x4)], [.int x2, .int (x1 + (1 : Int32)), .ref 35], hp kp nh (some 3) tl rl q2.2.1 q2.2.2)) rfl ?_
      exact tc_101_4 Ls xs d kp tl rl nh n _ _ hF hK1 x1 x2 x3 x4 x2 (x1 + (1 : Int32)) q2.2.1 q2.2.2 r hf
def b_101_1 (n : Nat) (F : Int32 → Int32 → FI → FL → Option (FI × FL)) (K1 : Int32 → Int32 → Int32 → Int32 → FI → FL → Option (FI × FL)) (x1 : Int32) (x2 : Int32) (x3 : Int32) (x4 : Int32) (I : FI) (L : FL) : Option (FI × FL) :=
  if I 3 4 ≤ x4 then
    some (I, L)
  else
    if I 35 10 = 0 then
      c_101_2 n F K1 x1 x2 x3 x4 I L
    else
      if I 35 9 ≤ 0 then
        c_101_2 n F K1 x1 x2 x3 x4 I L
      else
        some (I, L)
def c_101_1 (n : Nat) (F : Int32 → Int32 → FI → FL → Option (FI × FL)) : Nat → Int32 → Int32 → Int32 → Int32 → FI → FL → Option (FI × FL)
  | 0, _, _, _, _, _, _ => none
  | m + 1, x1, x2, x3, x4, I, L => b_101_1 n F (c_101_1 n F m) x1 x2 x3 x4 I L
set_option maxHeartbeats 1000000 in
set_option maxRecDepth 20000 in
theorem tc_101_1 (Ls : Nat) (xs : Nat → Int32) (d : Nat) (kp : Option Nat) (tl : List (Nat × Nat)) (rl : List (List (Option Nat))) (nh : Option Nat) (n : Nat) (F : Int32 → Int32 → FI → FL → Option (FI × FL)) (hF : ∀ (x1 : Int32) (x2 : Int32) (I : FI) (L : FL) (r : FI × FL), F x1 x2 I L = some r → pEN Ls xs (d + 2) 101 [.ref 35, .int x1, .int x2] (hp kp nh (some 3) tl rl I L) = some (none, hp kp nh (some 3) tl rl r.1 r.2)) : ∀ (m : Nat) (x1 : Int32) (x2 : Int32) (x3 : Int32) (x4 : Int32) (I : FI) (L : FL) (r : FI × FL), c_101_1 n F m x1 x2 x3 x4 I L = some r → Bs cd_101 (sf 8 rs_8 false 5 none Ls xs (d + 2)) (52, [some (.ref 35), some (.int x1), some (.int x2), some (.int x3), some (.int x4)], [], hp kp nh (some 3) tl rl I L) (none, hp kp nh (some 3) tl rl r.1 r.2)
  | 0, x1, x2, x3, x4, I, L, r, hf => by cases hf
  | m + 1, x1, x2, x3, x4, I, L, r, hf => by
    unfold c_101_1 b_101_1 at hf
    have hK1 := tc_101_1 Ls xs d kp tl rl nh n F hF m
    refine bs_st 4 (x' := (61, [some (.ref 35), some (.int x1), some (.int x2), some (.int x3), some (.int x4)], [.int (I 3 4), .int x4], hp kp nh (some 3) tl rl I L)) rfl ?_
    refine bs_br (t := 113) (e := 64) (lo := [some (.ref 35), some (.int x1), some (.int x2), some (.int x3), some (.int x4)]) (st := []) (h := hp kp nh (some 3) tl rl I L) rfl hf (fun hc hf => ?_) (fun hc hf => ?_)
    · cases hf
      exact bs_ret rfl
    · refine bs_st 2 (x' := (68, [some (.ref 35), some (.int x1), some (.int x2), some (.int x3), some (.int x4)], [.int (I 35 10)], hp kp nh (some 3) tl rl I L)) rfl ?_
      refine bs_br (t := 79) (e := 71) (lo := [some (.ref 35), some (.int x1), some (.int x2), some (.int x3), some (.int x4)]) (st := []) (h := hp kp nh (some 3) tl rl I L) rfl hf (fun hc hf => ?_) (fun hc hf => ?_)
      · exact tc_101_2 Ls xs d kp tl rl nh n _ _ hF hK1 x1 x2 x3 x4 I L r hf
      · refine bs_st 2 (x' := (75, [some (.ref 35), some (.int x1), some (.int x2), some (.int x3), some (.int x4)], [.int (I 35 9)], hp kp nh (some 3) tl rl I L)) rfl ?_
        refine bs_br (t := 79) (e := 78) (lo := [some (.ref 35), some (.int x1), some (.int x2), some (.int x3), some (.int x4)]) (st := []) (h := hp kp nh (some 3) tl rl I L) rfl hf (fun hc hf => ?_) (fun hc hf => ?_)
        · exact tc_101_2 Ls xs d kp tl rl nh n _ _ hF hK1 x1 x2 x3 x4 I L r hf
        · cases hf
          exact bs_ret rfl
def g_101 (n : Nat) (F : Int32 → Int32 → FI → FL → Option (FI × FL)) (x1 : Int32) (x2 : Int32) (I : FI) (L : FL) : Option (FI × FL) :=
  if I 35 8 < x1 then
    c_101_0 n F x2 I L
  else
    if x1 ≤ (10 : Int32) then
      if pin (x1 - x2) 13 = true then c_101_1 n F n x1 x2 (I 40 ((x1 - x2).toNatClampNeg)) (I 40 ((x1 - x2).toNatClampNeg)) I L else none
    else
      c_101_0 n F x2 I L
def f_101 (n : Nat) : Nat → Int32 → Int32 → FI → FL → Option (FI × FL)
  | 0, _, _, _, _ => none
  | m + 1, x1, x2, I, L => g_101 n (f_101 n m) x1 x2 I L
set_option maxHeartbeats 1000000 in
set_option maxRecDepth 20000 in
theorem t_101 (Ls : Nat) (xs : Nat → Int32) : ∀ (m d : Nat) (kp : Option Nat) (tl : List (Nat × Nat)) (rl : List (List (Option Nat))) (nh : Option Nat) (n : Nat) (x1 : Int32) (x2 : Int32) (I : FI) (L : FL) (r : FI × FL), f_101 n m x1 x2 I L = some r → pEN Ls xs (d + m + 3) 101 [.ref 35, .int x1, .int x2] (hp kp nh (some 3) tl rl I L) = some (none, hp kp nh (some 3) tl rl r.1 r.2)
  | 0, d, kp, tl, rl, nh, n, x1, x2, I, L, r, hf => by cases hf
  | m + 1, d0, kp, tl, rl, nh, n, x1, x2, I, L, r, hf => by
    have hF := fun x1 x2 I L r h => t_101 Ls xs m d0 kp tl rl nh n x1 x2 I L r h
    generalize hd : d0 + m + 1 = d
    have hF : ∀ (x1 : Int32) (x2 : Int32) (I : FI) (L : FL) (r : FI × FL), f_101 n m x1 x2 I L = some r → pEN Ls xs (d + 2) 101 [.ref 35, .int x1, .int x2] (hp kp nh (some 3) tl rl I L) = some (none, hp kp nh (some 3) tl rl r.1 r.2) := fun x1 x2 I L r h => by rw [← hd]; exact hF x1 x2 I L r h
    have e1 : d0 + (m + 1) + 3 = d + 3 := by omega
    try rw [e1]
    refine en_run (d := d + 2) (cd := cd_101) (f := (sf 8 rs_8 false 5 none Ls xs (d + 2))) rfl rfl (x := (0, [some (.ref 35), some (.int x1), some (.int x2), none, none], [], hp kp nh (some 3) tl rl I L)) rfl rfl (Nat.le_of_ble_eq_true rfl) ?_
    unfold f_101 g_101 at hf
    refine bs_st 3 (x' := (5, [some (.ref 35), some (.int x1), some (.int x2), none, none], [.int (I 35 8), .int x1], hp kp nh (some 3) tl rl I L)) rfl ?_
    refine bs_br (t := 14) (e := 8) (lo := [some (.ref 35), some (.int x1), some (.int x2), none, none]) (st := []) (h := hp kp nh (some 3) tl rl I L) rfl hf (fun hc hf => ?_) (fun hc hf => ?_)
    · exact tc_101_0 Ls xs d kp tl rl nh n _ hF (some (.int x1)) none none x2 I L r hf
    · refine bs_st 2 (x' := (11, [some (.ref 35), some (.int x1), some (.int x2), none, none], [.int (10 : Int32), .int x1], hp kp nh (some 3) tl rl I L)) rfl ?_
      refine bs_br (t := 40) (e := 14) (lo := [some (.ref 35), some (.int x1), some (.int x2), none, none]) (st := []) (h := hp kp nh (some 3) tl rl I L) rfl hf (fun hc hf => ?_) (fun hc hf => ?_)
      · refine bs_st 5 (x' := (47, [some (.ref 35), some (.int x1), some (.int x2), none, none], [.int (x1 - x2), .ref 40], hp kp nh (some 3) tl rl I L)) rfl ?_
        refine bs_gd (x' := (48, [some (.ref 35), some (.int x1), some (.int x2), none, none], [.int (I 40 ((x1 - x2).toNatClampNeg))], hp kp nh (some 3) tl rl I L)) rfl hf (fun hc hf => ?_)
        refine bs_st 3 (x' := (52, [some (.ref 35), some (.int x1), some (.int x2), some (.int (I 40 ((x1 - x2).toNatClampNeg))), some (.int (I 40 ((x1 - x2).toNatClampNeg)))], [], hp kp nh (some 3) tl rl I L)) rfl ?_
        exact tc_101_1 Ls xs d kp tl rl nh n _ hF n x1 x2 (I 40 ((x1 - x2).toNatClampNeg)) (I 40 ((x1 - x2).toNatClampNeg)) I L r hf
      · exact tc_101_0 Ls xs d kp tl rl nh n _ hF (some (.int x1)) none none x2 I L r hf
theorem bs_pz {cd : List (Nat × Instr × Nat)} {f : Instr → pS → pO} {x : pS} {r : pR} {c : Prop} [Decidable c] {α : Type} {A : Option α} {v : α} {h' : pH} {pc : Nat} {lo : List (Option Value)} {st : List Value} (hs : fst cd f x = (match (if c then some h' else none) with | some h' => some (.inl (pc, lo, st, h')) | none => none)) (hf : (if c then A else none) = some v) (h1 : c → A = some v → Bs cd f (pc, lo, st, h') r) : Bs cd f x r := by
  by_cases hcc : c
  · rw [if_pos hcc] at hf hs
    exact bs_one hs (h1 hcc hf)
  · rw [if_neg hcc] at hf
    cases hf
/-- RingSearch.search(IZ) on (35,) -/
def f_99 (n : Nat) (x1 : Int32) (x2 : Int32) (I : FI) (L : FL) : Option (Int32 × FI × FL) :=
  (f_100 n x1 I L).bind fun q0 =>
  if x2 = 0 ∨ x2 = 1 then ((f_101 n 64 (1 : Int32) (1 : Int32) (u2 q0.1 35 10 x2) q0.2).bind fun q1 =>
    some (q1.1 35 9, q1.1, q1.2)) else none
set_option maxHeartbeats 1000000 in
set_option maxRecDepth 20000 in
theorem t_99 (Ls : Nat) (xs : Nat → Int32) (d : Nat) (kp : Option Nat) (tl : List (Nat × Nat)) (rl : List (List (Option Nat))) (nh : Option Nat) (n : Nat) (x1 : Int32) (x2 : Int32) (I : FI) (L : FL) (r : Int32 × FI × FL) (hf : f_99 n x1 x2 I L = some r) : pEN Ls xs (d + 68) 99 [.ref 35, .int x1, .int x2] (hp kp nh (some 3) tl rl I L) = some (some (.int r.1), hp kp nh (some 3) tl rl r.2.1 r.2.2) := by
  refine en_run (d := d + 67) (cd := cd_99) (f := (sf 8 rs_8 false 3 (some (.int)) Ls xs (d + 67))) rfl rfl (x := (0, [some (.ref 35), some (.int x1), some (.int x2)], [], hp kp nh (some 3) tl rl I L)) rfl rfl (Nat.le_of_ble_eq_true rfl) ?_
  unfold f_99 at hf
  refine bs_st 2 (x' := (2, [some (.ref 35), some (.int x1), some (.int x2)], [.int x1, .ref 35], hp kp nh (some 3) tl rl I L)) rfl ?_
  obtain ⟨q0, hq0, hf⟩ := Option.bind_eq_some_iff.mp hf
  refine bs_call (o := pEN Ls xs (d + 67) 100 [.ref 35, .int x1] (hp kp nh (some 3) tl rl I L)) (w := none) (h' := hp kp nh (some 3) tl rl q0.1 q0.2) (pc := 5) (lo := [some (.ref 35), some (.int x1), some (.int x2)]) (rest := []) rfl (t_100 Ls xs (d + 64) kp tl rl nh n x1 I L q0 hq0) ?_
  refine bs_st 2 (x' := (7, [some (.ref 35), some (.int x1), some (.int x2)], [.int x2, .ref 35], hp kp nh (some 3) tl rl q0.1 q0.2)) rfl ?_
  refine bs_pz (h' := hp kp nh (some 3) tl rl (u2 q0.1 35 10 x2) q0.2) (pc := 10) (lo := [some (.ref 35), some (.int x1), some (.int x2)]) (st := []) rfl hf (fun hc hf => ?_)
  refine bs_st 3 (x' := (13, [some (.ref 35), some (.int x1), some (.int x2)], [.int (1 : Int32), .int (1 : Int32), .ref 35], hp kp nh (some 3) tl rl (u2 q0.1 35 10 x2) q0.2)) rfl ?_
  obtain ⟨q1, hq1, hf⟩ := Option.bind_eq_some_iff.mp hf
  refine bs_call (o := pEN Ls xs (d + 67) 101 [.ref 35, .int (1 : Int32), .int (1 : Int32)] (hp kp nh (some 3) tl rl (u2 q0.1 35 10 x2) q0.2)) (w := none) (h' := hp kp nh (some 3) tl rl q1.1 q1.2) (pc := 16) (lo := [some (.ref 35), some (.int x1), some (.int x2)]) (rest := []) rfl (t_101 Ls xs 64 (d + 0) kp tl rl nh n (1 : Int32) (1 : Int32) (u2 q0.1 35 10 x2) q0.2 q1 hq1) ?_
  refine bs_st 2 (x' := (20, [some (.ref 35), some (.int x1), some (.int x2)], [.int (q1.1 35 9)], hp kp nh (some 3) tl rl q1.1 q1.2)) rfl ?_
  cases hf
  exact bs_ret rfl
/-- RingSearch.shortestSize() on (35,) -/
def c_97_1 (n : Nat) (K0 : Int32 → FI → FL → Option (Int32 × FI × FL)) (x1 : Int32) (I : FI) (L : FL) : Option (Int32 × FI × FL) :=
  K0 (x1 + (1 : Int32)) I L
set_option maxHeartbeats 1000000 in
set_option maxRecDepth 20000 in
theorem tc_97_1 (Ls : Nat) (xs : Nat → Int32) (d : Nat) (kp : Option Nat) (tl : List (Nat × Nat)) (rl : List (List (Option Nat))) (nh : Option Nat) (n : Nat) (K0 : Int32 → FI → FL → Option (Int32 × FI × FL)) (hK0 : ∀ (x1 : Int32) (I : FI) (L : FL) (r : Int32 × FI × FL), K0 x1 I L = some r → Bs cd_97 (sf 8 rs_8 false 2 (some (.int)) Ls xs (d + 68)) (16, [some (.ref 35), some (.int x1)], [], hp kp nh (some 3) tl rl I L) (some (.int r.1), hp kp nh (some 3) tl rl r.2.1 r.2.2)) (x1 : Int32) (I : FI) (L : FL) (r : Int32 × FI × FL) (hf : c_97_1 n K0 x1 I L = some r) : Bs cd_97 (sf 8 rs_8 false 2 (some (.int)) Ls xs (d + 68)) (44, [some (.ref 35), some (.int x1)], [], hp kp nh (some 3) tl rl I L) (some (.int r.1), hp kp nh (some 3) tl rl r.2.1 r.2.2) := by
  unfold c_97_1 at hf
  refine bs_st 2 (x' := (16, [some (.ref 35), some (.int (x1 + (1 : Int32)))], [], hp kp nh (some 3) tl rl I L)) rfl ?_
  exact hK0 (x1 + (1 : Int32)) I L r hf
def b_97_0 (n : Nat) (K0 : Int32 → FI → FL → Option (Int32 × FI × FL)) (x1 : Int32) (I : FI) (L : FL) : Option (Int32 × FI × FL) :=
  if (10 : Int32) < x1 then
    some (I 35 7, I, L)
  else
    if ¬ I 35 7 = (-1 : Int32) then
      some (I 35 7, I, L)
    else
      (f_99 n x1 (1 : Int32) I L).bind fun q0 =>
      if q0.1 ≤ 0 then
        c_97_1 n K0 x1 q0.2.1 q0.2.2
      else
        c_97_1 n K0 x1 (u2 q0.2.1 35 7 x1) q0.2.2
def c_97_0 (n : Nat) : Nat → Int32 → FI → FL → Option (Int32 × FI × FL)
  | 0, _, _, _ => none
  | m + 1, x1, I, L => b_97_0 n (c_97_0 n m) x1 I L
set_option maxHeartbeats 1000000 in
set_option maxRecDepth 20000 in
theorem tc_97_0 (Ls : Nat) (xs : Nat → Int32) (d : Nat) (kp : Option Nat) (tl : List (Nat × Nat)) (rl : List (List (Option Nat))) (nh : Option Nat) (n : Nat) : ∀ (m : Nat) (x1 : Int32) (I : FI) (L : FL) (r : Int32 × FI × FL), c_97_0 n m x1 I L = some r → Bs cd_97 (sf 8 rs_8 false 2 (some (.int)) Ls xs (d + 68)) (16, [some (.ref 35), some (.int x1)], [], hp kp nh (some 3) tl rl I L) (some (.int r.1), hp kp nh (some 3) tl rl r.2.1 r.2.2)
  | 0, x1, I, L, r, hf => by cases hf
  | m + 1, x1, I, L, r, hf => by
    unfold c_97_0 b_97_0 at hf
    have hK0 := tc_97_0 Ls xs d kp tl rl nh n m
    refine bs_st 2 (x' := (19, [some (.ref 35), some (.int x1)], [.int (10 : Int32), .int x1], hp kp nh (some 3) tl rl I L)) rfl ?_
    refine bs_br (t := 50) (e := 22) (lo := [some (.ref 35), some (.int x1)]) (st := []) (h := hp kp nh (some 3) tl rl I L) rfl hf (fun hc hf => ?_) (fun hc hf => ?_)
    · refine bs_st 2 (x' := (54, [some (.ref 35), some (.int x1)], [.int (I 35 7)], hp kp nh (some 3) tl rl I L)) rfl ?_
      cases hf
      exact bs_ret rfl
    · refine bs_st 3 (x' := (27, [some (.ref 35), some (.int x1)], [.int (-1 : Int32), .int (I 35 7)], hp kp nh (some 3) tl rl I L)) rfl ?_
      refine bs_br (t := 50) (e := 30) (lo := [some (.ref 35), some (.int x1)]) (st := []) (h := hp kp nh (some 3) tl rl I L) rfl hf (fun hc hf => ?_) (fun hc hf => ?_)
      · refine bs_st 2 (x' := (54, [some (.ref 35), some (.int x1)], [.int (I 35 7)], hp kp nh (some 3) tl rl I L)) rfl ?_
        cases hf
        exact bs_ret rfl
      · refine bs_st 3 (x' := (33, [some (.ref 35), some (.int x1)], [.int (1 : Int32), .int x1, .ref 35], hp kp nh (some 3) tl rl I L)) rfl ?_
        obtain ⟨q0, hq0, hf⟩ := Option.bind_eq_some_iff.mp hf
        refine bs_call (o := pEN Ls xs (d + 68) 99 [.ref 35, .int x1, .int (1 : Int32)] (hp kp nh (some 3) tl rl I L)) (w := some (.int q0.1)) (h' := hp kp nh (some 3) tl rl q0.2.1 q0.2.2) (pc := 36) (lo := [some (.ref 35), some (.int x1)]) (rest := []) rfl (t_99 Ls xs (d + 0) kp tl rl nh n x1 (1 : Int32) I L q0 hq0) ?_
        refine bs_br (t := 44) (e := 39) (lo := [some (.ref 35), some (.int x1)]) (st := []) (h := hp kp nh (some 3) tl rl q0.2.1 q0.2.2) rfl hf (fun hc hf => ?_) (fun hc hf => ?_)
        · exact tc_97_1 Ls xs d kp tl rl nh n _ hK0 x1 q0.2.1 q0.2.2 r hf
        · refine bs_st 3 (x' := (44, [some (.ref 35), some (.int x1)], [], hp kp nh (some 3) tl rl (u2 q0.2.1 35 7 x1) q0.2.2)) rfl ?_
          exact tc_97_1 Ls xs d kp tl rl nh n _ hK0 x1 (u2 q0.2.1 35 7 x1) q0.2.2 r hf
def f_97 (n : Nat) (I : FI) (L : FL) : Option (Int32 × FI × FL) :=
  if ¬ I 35 7 = (-3 : Int32) then
    some (I 35 7, I, L)
  else
    c_97_0 n n (1 : Int32) (u2 I 35 7 (-1 : Int32)) L
set_option maxHeartbeats 1000000 in
set_option maxRecDepth 20000 in
theorem t_97 (Ls : Nat) (xs : Nat → Int32) (d : Nat) (kp : Option Nat) (tl : List (Nat × Nat)) (rl : List (List (Option Nat))) (nh : Option Nat) (n : Nat) (I : FI) (L : FL) (r : Int32 × FI × FL) (hf : f_97 n I L = some r) : pEN Ls xs (d + 69) 97 [.ref 35] (hp kp nh (some 3) tl rl I L) = some (some (.int r.1), hp kp nh (some 3) tl rl r.2.1 r.2.2) := by
  refine en_run (d := d + 68) (cd := cd_97) (f := (sf 8 rs_8 false 2 (some (.int)) Ls xs (d + 68))) rfl rfl (x := (0, [some (.ref 35), none], [], hp kp nh (some 3) tl rl I L)) rfl rfl (Nat.le_of_ble_eq_true rfl) ?_
  unfold f_97 at hf
  refine bs_st 3 (x' := (6, [some (.ref 35), none], [.int (-3 : Int32), .int (I 35 7)], hp kp nh (some 3) tl rl I L)) rfl ?_
  refine bs_br (t := 50) (e := 9) (lo := [some (.ref 35), none]) (st := []) (h := hp kp nh (some 3) tl rl I L) rfl hf (fun hc hf => ?_) (fun hc hf => ?_)
  · refine bs_st 2 (x' := (54, [some (.ref 35), none], [.int (I 35 7)], hp kp nh (some 3) tl rl I L)) rfl ?_
    cases hf
    exact bs_ret rfl
  · refine bs_st 5 (x' := (16, [some (.ref 35), some (.int (1 : Int32))], [], hp kp nh (some 3) tl rl (u2 I 35 7 (-1 : Int32)) L)) rfl ?_
    exact tc_97_0 Ls xs d kp tl rl nh n n (1 : Int32) (u2 I 35 7 (-1 : Int32)) L r hf
/-- LampRounds.ring() on (0,) -/
def f_140 (n : Nat) (rh : Option Nat) (I : FI) (L : FL) : Option (Int32 × FI × FL) :=
  (f_177 I L).bind fun q0 =>
  if q0 = 0 then
    some ((-2 : Int32), I, L)
  else
    if rh = some 3 then ((f_97 n I L).bind fun q1 =>
      some (q1.1, q1.2.1, q1.2.2)) else none
set_option maxHeartbeats 1000000 in
set_option maxRecDepth 20000 in
theorem t_140 (Ls : Nat) (xs : Nat → Int32) (d : Nat) (kp : Option Nat) (tl : List (Nat × Nat)) (rl : List (List (Option Nat))) (nh : Option Nat) (rh : Option Nat) (n : Nat) (I : FI) (L : FL) (r : Int32 × FI × FL) (hf : f_140 n rh I L = some r) : pEN Ls xs (d + 70) 140 [.ref 0] (hp kp nh rh tl rl I L) = some (some (.int r.1), hp kp nh rh tl rl r.2.1 r.2.2) := by
  refine en_run (d := d + 69) (cd := cd_140) (f := (sf 11 rs_11 false 1 (some (.int)) Ls xs (d + 69))) rfl rfl (x := (0, [some (.ref 0)], [], hp kp nh rh tl rl I L)) rfl rfl (Nat.le_of_ble_eq_true rfl) ?_
  unfold f_140 at hf
  refine bs_st 1 (x' := (1, [some (.ref 0)], [.ref 0], hp kp nh rh tl rl I L)) rfl ?_
  obtain ⟨q0, hq0, hf⟩ := Option.bind_eq_some_iff.mp hf
  refine bs_call (o := pEN Ls xs (d + 69) 177 [.ref 0] (hp kp nh rh tl rl I L)) (w := some (.int q0)) (h' := hp kp nh rh tl rl I L) (pc := 4) (lo := [some (.ref 0)]) (rest := []) rfl (t_177 Ls xs (d + 68) kp tl rl nh rh I L q0 hq0) ?_
  refine bs_br (t := 17) (e := 7) (lo := [some (.ref 0)]) (st := []) (h := hp kp nh rh tl rl I L) rfl hf (fun hc hf => ?_) (fun hc hf => ?_)
  · refine bs_st 1 (x' := (19, [some (.ref 0)], [.int (-2 : Int32)], hp kp nh rh tl rl I L)) rfl ?_
    cases hf
    exact bs_ret rfl
  · refine bs_st 2 (x' := (11, [some (.ref 0)], [.ref 35], hp kp nh rh tl rl I L)) rfl ?_
    refine bs_cs hf (fun hc hf1 => ?_) (fun hc hf1 => ?_)
    · subst hc
      obtain ⟨q1, hq1, hf1⟩ := Option.bind_eq_some_iff.mp hf1
      refine bs_call (o := pEN Ls xs (d + 69) 97 [.ref 35] (hp kp nh (some 3) tl rl I L)) (w := some (.int q1.1)) (h' := hp kp nh (some 3) tl rl q1.2.1 q1.2.2) (pc := 14) (lo := [some (.ref 0)]) (rest := []) rfl (t_97 Ls xs (d + 0) kp tl rl nh n I L q1 hq1) ?_
      refine bs_st 1 (x' := (19, [some (.ref 0)], [.int q1.1], hp kp nh (some 3) tl rl q1.2.1 q1.2.2)) rfl ?_
      cases hf1
      exact bs_ret rfl
    · cases hf1
/-- LampRounds.ringed(I) on (0,) -/
def f_141 (n : Nat) (rh : Option Nat) (x1 : Int32) (I : FI) (L : FL) : Option (Int32 × FI × FL) :=
  if x1 < 0 then
    some ((-2 : Int32), I, L)
  else
    (f_177 I L).bind fun q0 =>
    if ¬ q0 = 0 then
      if rh = some 3 then ((f_97 n I L).bind fun q1 =>
        if q1.1 ≤ x1 then
          some ((-1 : Int32), q1.2.1, q1.2.2)
        else
          if pin x1 10 = true then some (q1.2.1 36 x1.toNatClampNeg, q1.2.1, q1.2.2) else none) else none
    else
      some ((-2 : Int32), I, L)
set_option maxHeartbeats 1000000 in
set_option maxRecDepth 20000 in
theorem t_141 (Ls : Nat) (xs : Nat → Int32) (d : Nat) (kp : Option Nat) (tl : List (Nat × Nat)) (rl : List (List (Option Nat))) (nh : Option Nat) (rh : Option Nat) (n : Nat) (x1 : Int32) (I : FI) (L : FL) (r : Int32 × FI × FL) (hf : f_141 n rh x1 I L = some r) : pEN Ls xs (d + 70) 141 [.ref 0, .int x1] (hp kp nh rh tl rl I L) = some (some (.int r.1), hp kp nh rh tl rl r.2.1 r.2.2) := by
  refine en_run (d := d + 69) (cd := cd_141) (f := (sf 11 rs_11 false 2 (some (.int)) Ls xs (d + 69))) rfl rfl (x := (0, [some (.ref 0), some (.int x1)], [], hp kp nh rh tl rl I L)) rfl rfl (Nat.le_of_ble_eq_true rfl) ?_
  unfold f_141 at hf
  refine bs_st 1 (x' := (1, [some (.ref 0), some (.int x1)], [.int x1], hp kp nh rh tl rl I L)) rfl ?_
  refine bs_br (t := 11) (e := 4) (lo := [some (.ref 0), some (.int x1)]) (st := []) (h := hp kp nh rh tl rl I L) rfl hf (fun hc hf => ?_) (fun hc hf => ?_)
  · refine bs_st 1 (x' := (13, [some (.ref 0), some (.int x1)], [.int (-2 : Int32)], hp kp nh rh tl rl I L)) rfl ?_
    cases hf
    exact bs_ret rfl
  · refine bs_st 1 (x' := (5, [some (.ref 0), some (.int x1)], [.ref 0], hp kp nh rh tl rl I L)) rfl ?_
    obtain ⟨q0, hq0, hf⟩ := Option.bind_eq_some_iff.mp hf
    refine bs_call (o := pEN Ls xs (d + 69) 177 [.ref 0] (hp kp nh rh tl rl I L)) (w := some (.int q0)) (h' := hp kp nh rh tl rl I L) (pc := 8) (lo := [some (.ref 0), some (.int x1)]) (rest := []) rfl (t_177 Ls xs (d + 68) kp tl rl nh rh I L q0 hq0) ?_
    refine bs_br (t := 14) (e := 11) (lo := [some (.ref 0), some (.int x1)]) (st := []) (h := hp kp nh rh tl rl I L) rfl hf (fun hc hf => ?_) (fun hc hf => ?_)
    · refine bs_st 3 (x' := (19, [some (.ref 0), some (.int x1)], [.ref 35, .int x1], hp kp nh rh tl rl I L)) rfl ?_
      refine bs_cs hf (fun hc hf1 => ?_) (fun hc hf1 => ?_)
      · subst hc
        obtain ⟨q1, hq1, hf1⟩ := Option.bind_eq_some_iff.mp hf1
        refine bs_call (o := pEN Ls xs (d + 69) 97 [.ref 35] (hp kp nh (some 3) tl rl I L)) (w := some (.int q1.1)) (h' := hp kp nh (some 3) tl rl q1.2.1 q1.2.2) (pc := 22) (lo := [some (.ref 0), some (.int x1)]) (rest := [.int x1]) rfl (t_97 Ls xs (d + 0) kp tl rl nh n I L q1 hq1) ?_
        refine bs_br (t := 37) (e := 25) (lo := [some (.ref 0), some (.int x1)]) (st := []) (h := hp kp nh (some 3) tl rl q1.2.1 q1.2.2) rfl hf1 (fun hc hf1 => ?_) (fun hc hf1 => ?_)
        · refine bs_st 1 (x' := (38, [some (.ref 0), some (.int x1)], [.int (-1 : Int32)], hp kp nh (some 3) tl rl q1.2.1 q1.2.2)) rfl ?_
          cases hf1
          exact bs_ret rfl
        · refine bs_st 4 (x' := (33, [some (.ref 0), some (.int x1)], [.int x1, .ref 36], hp kp nh (some 3) tl rl q1.2.1 q1.2.2)) rfl ?_
          refine bs_gd (x' := (34, [some (.ref 0), some (.int x1)], [.int (q1.2.1 36 x1.toNatClampNeg)], hp kp nh (some 3) tl rl q1.2.1 q1.2.2)) rfl hf1 (fun hc hf1 => ?_)
          refine bs_st 1 (x' := (38, [some (.ref 0), some (.int x1)], [.int (q1.2.1 36 x1.toNatClampNeg)], hp kp nh (some 3) tl rl q1.2.1 q1.2.2)) rfl ?_
          cases hf1
          exact bs_ret rfl
      · cases hf1
    · refine bs_st 1 (x' := (13, [some (.ref 0), some (.int x1)], [.int (-2 : Int32)], hp kp nh rh tl rl I L)) rfl ?_
      cases hf
      exact bs_ret rfl
/-- RingSearch.howMany(I) on (35,) -/
def c_96_0 (n : Nat) (x1 : Int32) (I : FI) (L : FL) : Option (Int32 × FI × FL) :=
  if pin x1 11 = true then some (I 39 x1.toNatClampNeg, I, L) else none
set_option maxHeartbeats 1000000 in
set_option maxRecDepth 20000 in
theorem tc_96_0 (Ls : Nat) (xs : Nat → Int32) (d : Nat) (kp : Option Nat) (tl : List (Nat × Nat)) (rl : List (List (Option Nat))) (nh : Option Nat) (n : Nat) (x1 : Int32) (I : FI) (L : FL) (r : Int32 × FI × FL) (hf : c_96_0 n x1 I L = some r) : Bs cd_96 (sf 8 rs_8 false 2 (some (.int)) Ls xs (d + 68)) (23, [some (.ref 35), some (.int x1)], [], hp kp nh (some 3) tl rl I L) (some (.int r.1), hp kp nh (some 3) tl rl r.2.1 r.2.2) := by
  unfold c_96_0 at hf
  refine bs_st 3 (x' := (28, [some (.ref 35), some (.int x1)], [.int x1, .ref 39], hp kp nh (some 3) tl rl I L)) rfl ?_
  refine bs_gd (x' := (29, [some (.ref 35), some (.int x1)], [.int (I 39 x1.toNatClampNeg)], hp kp nh (some 3) tl rl I L)) rfl hf (fun hc hf => ?_)
  cases hf
  exact bs_ret rfl
def f_96 (n : Nat) (x1 : Int32) (I : FI) (L : FL) : Option (Int32 × FI × FL) :=
  if pin x1 11 = true then (if ¬ I 39 x1.toNatClampNeg = (-3 : Int32) then
      c_96_0 n x1 I L
    else
      (f_99 n x1 (0 : Int32) I L).bind fun q0 =>
      if pin x1 11 = true then c_96_0 n x1 (u2 q0.2.1 39 x1.toNatClampNeg q0.1) q0.2.2 else none) else none
set_option maxHeartbeats 1000000 in
set_option maxRecDepth 20000 in
theorem t_96 (Ls : Nat) (xs : Nat → Int32) (d : Nat) (kp : Option Nat) (tl : List (Nat × Nat)) (rl : List (List (Option Nat))) (nh : Option Nat) (n : Nat) (x1 : Int32) (I : FI) (L : FL) (r : Int32 × FI × FL) (hf : f_96 n x1 I L = some r) : pEN Ls xs (d + 69) 96 [.ref 35, .int x1] (hp kp nh (some 3) tl rl I L) = some (some (.int r.1), hp kp nh (some 3) tl rl r.2.1 r.2.2) := by
  refine en_run (d := d + 68) (cd := cd_96) (f := (sf 8 rs_8 false 2 (some (.int)) Ls xs (d + 68))) rfl rfl (x := (0, [some (.ref 35), some (.int x1)], [], hp kp nh (some 3) tl rl I L)) rfl rfl (Nat.le_of_ble_eq_true rfl) ?_
  unfold f_96 at hf
  refine bs_st 3 (x' := (5, [some (.ref 35), some (.int x1)], [.int x1, .ref 39], hp kp nh (some 3) tl rl I L)) rfl ?_
  refine bs_gd (x' := (6, [some (.ref 35), some (.int x1)], [.int (I 39 x1.toNatClampNeg)], hp kp nh (some 3) tl rl I L)) rfl hf (fun hc hf => ?_)
  refine bs_st 1 (x' := (8, [some (.ref 35), some (.int x1)], [.int (-3 : Int32), .int (I 39 x1.toNatClampNeg)], hp kp nh (some 3) tl rl I L)) rfl ?_
  refine bs_br (t := 23) (e := 11) (lo := [some (.ref 35), some (.int x1)]) (st := []) (h := hp kp nh (some 3) tl rl I L) rfl hf (fun hc hf => ?_) (fun hc hf => ?_)
  · exact tc_96_0 Ls xs d kp tl rl nh n x1 I L r hf
  · refine bs_st 6 (x' := (19, [some (.ref 35), some (.int x1)], [.int (0 : Int32), .int x1, .ref 35, .int x1, .ref 39], hp kp nh (some 3) tl rl I L)) rfl ?_
    obtain ⟨q0, hq0, hf⟩ := Option.bind_eq_some_iff.mp hf
    refine bs_call (o := pEN Ls xs (d + 68) 99 [.ref 35, .int x1, .int (0 : Int32)] (hp kp nh (some 3) tl rl I L)) (w := some (.int q0.1)) (h' := hp kp nh (some 3) tl rl q0.2.1 q0.2.2) (pc := 22) (lo := [some (.ref 35), some (.int x1)]) (rest := [.int x1, .ref 39]) rfl (t_99 Ls xs (d + 0) kp tl rl nh n x1 (0 : Int32) I L q0 hq0) ?_
    refine bs_gd (x' := (23, [some (.ref 35), some (.int x1)], [], hp kp nh (some 3) tl rl (u2 q0.2.1 39 x1.toNatClampNeg q0.1) q0.2.2)) rfl hf (fun hc hf => ?_)
    exact tc_96_0 Ls xs d kp tl rl nh n x1 (u2 q0.2.1 39 x1.toNatClampNeg q0.1) q0.2.2 r hf
/-- LampRounds.rings(I) on (0,) -/
def f_142 (n : Nat) (rh : Option Nat) (x1 : Int32) (I : FI) (L : FL) : Option (Int32 × FI × FL) :=
  if x1 < (1 : Int32) then
    some ((-2 : Int32), I, L)
  else
    if (10 : Int32) < x1 then
      some ((-2 : Int32), I, L)
    else
      (f_177 I L).bind fun q0 =>
      if ¬ q0 = 0 then
        if rh = some 3 then ((f_96 n x1 I L).bind fun q1 =>
          some (q1.1, q1.2.1, q1.2.2)) else none
      else
        some ((-2 : Int32), I, L)
set_option maxHeartbeats 1000000 in
set_option maxRecDepth 20000 in
theorem t_142 (Ls : Nat) (xs : Nat → Int32) (d : Nat) (kp : Option Nat) (tl : List (Nat × Nat)) (rl : List (List (Option Nat))) (nh : Option Nat) (rh : Option Nat) (n : Nat) (x1 : Int32) (I : FI) (L : FL) (r : Int32 × FI × FL) (hf : f_142 n rh x1 I L = some r) : pEN Ls xs (d + 70) 142 [.ref 0, .int x1] (hp kp nh rh tl rl I L) = some (some (.int r.1), hp kp nh rh tl rl r.2.1 r.2.2) := by
  refine en_run (d := d + 69) (cd := cd_142) (f := (sf 11 rs_11 false 2 (some (.int)) Ls xs (d + 69))) rfl rfl (x := (0, [some (.ref 0), some (.int x1)], [], hp kp nh rh tl rl I L)) rfl rfl (Nat.le_of_ble_eq_true rfl) ?_
  unfold f_142 at hf
  refine bs_st 2 (x' := (2, [some (.ref 0), some (.int x1)], [.int (1 : Int32), .int x1], hp kp nh rh tl rl I L)) rfl ?_
  refine bs_br (t := 18) (e := 5) (lo := [some (.ref 0), some (.int x1)]) (st := []) (h := hp kp nh rh tl rl I L) rfl hf (fun hc hf => ?_) (fun hc hf => ?_)
  · refine bs_st 1 (x' := (20, [some (.ref 0), some (.int x1)], [.int (-2 : Int32)], hp kp nh rh tl rl I L)) rfl ?_
    cases hf
    exact bs_ret rfl
  · refine bs_st 2 (x' := (8, [some (.ref 0), some (.int x1)], [.int (10 : Int32), .int x1], hp kp nh rh tl rl I L)) rfl ?_
    refine bs_br (t := 18) (e := 11) (lo := [some (.ref 0), some (.int x1)]) (st := []) (h := hp kp nh rh tl rl I L) rfl hf (fun hc hf => ?_) (fun hc hf => ?_)
    · refine bs_st 1 (x' := (20, [some (.ref 0), some (.int x1)], [.int (-2 : Int32)], hp kp nh rh tl rl I L)) rfl ?_
      cases hf
      exact bs_ret rfl
    · refine bs_st 1 (x' := (12, [some (.ref 0), some (.int x1)], [.ref 0], hp kp nh rh tl rl I L)) rfl ?_
      obtain ⟨q0, hq0, hf⟩ := Option.bind_eq_some_iff.mp hf
      refine bs_call (o := pEN Ls xs (d + 69) 177 [.ref 0] (hp kp nh rh tl rl I L)) (w := some (.int q0)) (h' := hp kp nh rh tl rl I L) (pc := 15) (lo := [some (.ref 0), some (.int x1)]) (rest := []) rfl (t_177 Ls xs (d + 68) kp tl rl nh rh I L q0 hq0) ?_
      refine bs_br (t := 21) (e := 18) (lo := [some (.ref 0), some (.int x1)]) (st := []) (h := hp kp nh rh tl rl I L) rfl hf (fun hc hf => ?_) (fun hc hf => ?_)
      · refine bs_st 3 (x' := (26, [some (.ref 0), some (.int x1)], [.int x1, .ref 35], hp kp nh rh tl rl I L)) rfl ?_
        refine bs_cs hf (fun hc hf1 => ?_) (fun hc hf1 => ?_)
        · subst hc
          obtain ⟨q1, hq1, hf1⟩ := Option.bind_eq_some_iff.mp hf1
          refine bs_call (o := pEN Ls xs (d + 69) 96 [.ref 35, .int x1] (hp kp nh (some 3) tl rl I L)) (w := some (.int q1.1)) (h' := hp kp nh (some 3) tl rl q1.2.1 q1.2.2) (pc := 29) (lo := [some (.ref 0), some (.int x1)]) (rest := []) rfl (t_96 Ls xs (d + 0) kp tl rl nh n x1 I L q1 hq1) ?_
          cases hf1
          exact bs_ret rfl
        · cases hf1
      · refine bs_st 1 (x' := (20, [some (.ref 0), some (.int x1)], [.int (-2 : Int32)], hp kp nh rh tl rl I L)) rfl ?_
        cases hf
        exact bs_ret rfl
/-- RingSearch.roundCloses() on (35,) -/
def b_98_0 (n : Nat) (K0 : Int32 → FI → FL → Option (Int32 × FI × FL)) (x1 : Int32) (I : FI) (L : FL) : Option (Int32 × FI × FL) :=
  if I 35 8 < x1 then
    if I 35 8 ≤ 0 then
      some ((0 : Int32), I, L)
    else
      (f_104 n I L).bind fun q1 =>
      if q1.1 = 0 then
        some ((0 : Int32), q1.2.1, q1.2.2)
      else
        some ((1 : Int32), q1.2.1, q1.2.2)
  else
    if pin (x1 - (1 : Int32)) 12 = true then ((f_103 x1 (I 10 ((x1 - (1 : Int32)).toNatClampNeg)) I L).bind fun q2 =>
      if ¬ q2.1 = 0 then
        K0 (x1 + (1 : Int32)) q2.2.1 q2.2.2
      else
        some ((0 : Int32), q2.2.1, q2.2.2)) else none
def c_98_0 (n : Nat) : Nat → Int32 → FI → FL → Option (Int32 × FI × FL)
  | 0, _, _, _ => none
  | m + 1, x1, I, L => b_98_0 n (c_98_0 n m) x1 I L
set_option maxHeartbeats 1000000 in
set_option maxRecDepth 20000 in
theorem tc_98_0 (Ls : Nat) (xs : Nat → Int32) (d : Nat) (kp : Option Nat) (tl : List (Nat × Nat)) (rl : List (List (Option Nat))) (nh : Option Nat) (n : Nat) : ∀ (m : Nat) (x1 : Int32) (I : FI) (L : FL) (r : Int32 × FI × FL), c_98_0 n m x1 I L = some r → Bs cd_98 (sf 8 rs_8 false 2 (some (.boolean)) Ls xs (d + 3)) (13, [some (.ref 35), some (.int x1)], [], hp kp nh (some 3) tl rl I L) (some (.int r.1), hp kp nh (some 3) tl rl r.2.1 r.2.2)
  | 0, x1, I, L, r, hf => by cases hf
  | m + 1, x1, I, L, r, hf => by
    unfold c_98_0 b_98_0 at hf
    have hK0 := tc_98_0 Ls xs d kp tl rl nh n m
    refine bs_st 3 (x' := (18, [some (.ref 35), some (.int x1)], [.int (I 35 8), .int x1], hp kp nh (some 3) tl rl I L)) rfl ?_
    refine bs_br (t := 48) (e := 21) (lo := [some (.ref 35), some (.int x1)]) (st := []) (h := hp kp nh (some 3) tl rl I L) rfl hf (fun hc hf => ?_) (fun hc hf => ?_)
    · refine bs_st 2 (x' := (52, [some (.ref 35), some (.int x1)], [.int (I 35 8)], hp kp nh (some 3) tl rl I L)) rfl ?_
      refine bs_br (t := 66) (e := 55) (lo := [some (.ref 35), some (.int x1)]) (st := []) (h := hp kp nh (some 3) tl rl I L) rfl hf (fun hc hf => ?_) (fun hc hf => ?_)
      · refine bs_st 1 (x' := (67, [some (.ref 35), some (.int x1)], [.int (0 : Int32)], hp kp nh (some 3) tl rl I L)) rfl ?_
        cases hf
        exact bs_ret rfl
      · refine bs_st 1 (x' := (56, [some (.ref 35), some (.int x1)], [.ref 35], hp kp nh (some 3) tl rl I L)) rfl ?_
        obtain ⟨q1, hq1, hf⟩ := Option.bind_eq_some_iff.mp hf
        refine bs_call (o := pEN Ls xs (d + 3) 104 [.ref 35] (hp kp nh (some 3) tl rl I L)) (w := some (.int q1.1)) (h' := hp kp nh (some 3) tl rl q1.2.1 q1.2.2) (pc := 59) (lo := [some (.ref 35), some (.int x1)]) (rest := []) rfl (t_104 Ls xs (d + 1) kp tl rl nh n I L q1 hq1) ?_
        refine bs_br (t := 66) (e := 62) (lo := [some (.ref 35), some (.int x1)]) (st := []) (h := hp kp nh (some 3) tl rl q1.2.1 q1.2.2) rfl hf (fun hc hf => ?_) (fun hc hf => ?_)
        · refine bs_st 1 (x' := (67, [some (.ref 35), some (.int x1)], [.int (0 : Int32)], hp kp nh (some 3) tl rl q1.2.1 q1.2.2)) rfl ?_
          cases hf
          exact bs_ret rfl
        · refine bs_st 2 (x' := (67, [some (.ref 35), some (.int x1)], [.int (1 : Int32)], hp kp nh (some 3) tl rl q1.2.1 q1.2.2)) rfl ?_
          cases hf
          exact bs_ret rfl
    · refine bs_st 8 (x' := (33, [some (.ref 35), some (.int x1)], [.int (x1 - (1 : Int32)), .ref 10, .int x1, .ref 35], hp kp nh (some 3) tl rl I L)) rfl ?_
      refine bs_gd (x' := (34, [some (.ref 35), some (.int x1)], [.int (I 10 ((x1 - (1 : Int32)).toNatClampNeg)), .int x1, .ref 35], hp kp nh (some 3) tl rl I L)) rfl hf (fun hc hf => ?_)
      obtain ⟨q2, hq2, hf⟩ := Option.bind_eq_some_iff.mp hf
      refine bs_call (o := pEN Ls xs (d + 3) 103 [.ref 35, .int x1, .int (I 10 ((x1 - (1 : Int32)).toNatClampNeg))] (hp kp nh (some 3) tl rl I L)) (w := some (.int q2.1)) (h' := hp kp nh (some 3) tl rl q2.2.1 q2.2.2) (pc := 37) (lo := [some (.ref 35), some (.int x1)]) (rest := []) rfl (t_103 Ls xs (d + 1) kp tl rl nh x1 (I 10 ((x1 - (1 : Int32)).toNatClampNeg)) I L q2 hq2) ?_
      refine bs_br (t := 42) (e := 40) (lo := [some (.ref 35), some (.int x1)]) (st := []) (h := hp kp nh (some 3) tl rl q2.2.1 q2.2.2) rfl hf (fun hc hf => ?_) (fun hc hf => ?_)
      · refine bs_st 2 (x' := (13, [some (.ref 35), some (.int (x1 + (1 : Int32)))], [], hp kp nh (some 3) tl rl q2.2.1 q2.2.2)) rfl ?_
        exact hK0 (x1 + (1 : Int32)) q2.2.1 q2.2.2 r hf
      · refine bs_st 1 (x' := (41, [some (.ref 35), some (.int x1)], [.int (0 : Int32)], hp kp nh (some 3) tl rl q2.2.1 q2.2.2)) rfl ?_
        cases hf
        exact bs_ret rfl
def f_98 (n : Nat) (I : FI) (L : FL) : Option (Int32 × FI × FL) :=
  (f_100 n (I 3 7) I L).bind fun q0 =>
  c_98_0 n n (1 : Int32) q0.1 q0.2
set_option maxHeartbeats 1000000 in
set_option maxRecDepth 20000 in
theorem t_98 (Ls : Nat) (xs : Nat → Int32) (d : Nat) (kp : Option Nat) (tl : List (Nat × Nat)) (rl : List (List (Option Nat))) (nh : Option Nat) (n : Nat) (I : FI) (L : FL) (r : Int32 × FI × FL) (hf : f_98 n I L = some r) : pEN Ls xs (d + 4) 98 [.ref 35] (hp kp nh (some 3) tl rl I L) = some (some (.int r.1), hp kp nh (some 3) tl rl r.2.1 r.2.2) := by
  refine en_run (d := d + 3) (cd := cd_98) (f := (sf 8 rs_8 false 2 (some (.boolean)) Ls xs (d + 3))) rfl rfl (x := (0, [some (.ref 35), none], [], hp kp nh (some 3) tl rl I L)) rfl rfl (Nat.le_of_ble_eq_true rfl) ?_
  unfold f_98 at hf
  refine bs_st 4 (x' := (8, [some (.ref 35), none], [.int (I 3 7), .ref 35], hp kp nh (some 3) tl rl I L)) rfl ?_
  obtain ⟨q0, hq0, hf⟩ := Option.bind_eq_some_iff.mp hf
  refine bs_call (o := pEN Ls xs (d + 3) 100 [.ref 35, .int (I 3 7)] (hp kp nh (some 3) tl rl I L)) (w := none) (h' := hp kp nh (some 3) tl rl q0.1 q0.2) (pc := 11) (lo := [some (.ref 35), none]) (rest := []) rfl (t_100 Ls xs (d + 0) kp tl rl nh n (I 3 7) I L q0 hq0) ?_
  refine bs_st 2 (x' := (13, [some (.ref 35), some (.int (1 : Int32))], [], hp kp nh (some 3) tl rl q0.1 q0.2)) rfl ?_
  exact tc_98_0 Ls xs d kp tl rl nh n n (1 : Int32) q0.1 q0.2 r hf
/-- LampRounds.isRing() on (0,) -/
def f_143 (n : Nat) (rh : Option Nat) (I : FI) (L : FL) : Option (Int32 × FI × FL) :=
  (f_177 I L).bind fun q0 =>
  if ¬ q0 = 0 then
    if rh = some 3 then ((f_98 n I L).bind fun q1 =>
      if q1.1 = 0 then
        some ((0 : Int32), q1.2.1, q1.2.2)
      else
        some ((1 : Int32), q1.2.1, q1.2.2)) else none
  else
    some ((-2 : Int32), I, L)
set_option maxHeartbeats 1000000 in
set_option maxRecDepth 20000 in
theorem t_143 (Ls : Nat) (xs : Nat → Int32) (d : Nat) (kp : Option Nat) (tl : List (Nat × Nat)) (rl : List (List (Option Nat))) (nh : Option Nat) (rh : Option Nat) (n : Nat) (I : FI) (L : FL) (r : Int32 × FI × FL) (hf : f_143 n rh I L = some r) : pEN Ls xs (d + 5) 143 [.ref 0] (hp kp nh rh tl rl I L) = some (some (.int r.1), hp kp nh rh tl rl r.2.1 r.2.2) := by
  refine en_run (d := d + 4) (cd := cd_143) (f := (sf 11 rs_11 false 1 (some (.int)) Ls xs (d + 4))) rfl rfl (x := (0, [some (.ref 0)], [], hp kp nh rh tl rl I L)) rfl rfl (Nat.le_of_ble_eq_true rfl) ?_
  unfold f_143 at hf
  refine bs_st 1 (x' := (1, [some (.ref 0)], [.ref 0], hp kp nh rh tl rl I L)) rfl ?_
  obtain ⟨q0, hq0, hf⟩ := Option.bind_eq_some_iff.mp hf
  refine bs_call (o := pEN Ls xs (d + 4) 177 [.ref 0] (hp kp nh rh tl rl I L)) (w := some (.int q0)) (h' := hp kp nh rh tl rl I L) (pc := 4) (lo := [some (.ref 0)]) (rest := []) rfl (t_177 Ls xs (d + 3) kp tl rl nh rh I L q0 hq0) ?_
  refine bs_br (t := 10) (e := 7) (lo := [some (.ref 0)]) (st := []) (h := hp kp nh rh tl rl I L) rfl hf (fun hc hf => ?_) (fun hc hf => ?_)
  · refine bs_st 2 (x' := (14, [some (.ref 0)], [.ref 35], hp kp nh rh tl rl I L)) rfl ?_
    refine bs_cs hf (fun hc hf1 => ?_) (fun hc hf1 => ?_)
    · subst hc
      obtain ⟨q1, hq1, hf1⟩ := Option.bind_eq_some_iff.mp hf1
      refine bs_call (o := pEN Ls xs (d + 4) 98 [.ref 35] (hp kp nh (some 3) tl rl I L)) (w := some (.int q1.1)) (h' := hp kp nh (some 3) tl rl q1.2.1 q1.2.2) (pc := 17) (lo := [some (.ref 0)]) (rest := []) rfl (t_98 Ls xs (d + 0) kp tl rl nh n I L q1 hq1) ?_
      refine bs_br (t := 24) (e := 20) (lo := [some (.ref 0)]) (st := []) (h := hp kp nh (some 3) tl rl q1.2.1 q1.2.2) rfl hf1 (fun hc hf1 => ?_) (fun hc hf1 => ?_)
      · refine bs_st 1 (x' := (25, [some (.ref 0)], [.int (0 : Int32)], hp kp nh (some 3) tl rl q1.2.1 q1.2.2)) rfl ?_
        cases hf1
        exact bs_ret rfl
      · refine bs_st 2 (x' := (25, [some (.ref 0)], [.int (1 : Int32)], hp kp nh (some 3) tl rl q1.2.1 q1.2.2)) rfl ?_
        cases hf1
        exact bs_ret rfl
    · cases hf1
  · refine bs_st 1 (x' := (9, [some (.ref 0)], [.int (-2 : Int32)], hp kp nh rh tl rl I L)) rfl ?_
    cases hf
    exact bs_ret rfl
/-- House.worthOf(I) on (3,) -/
def c_25_1_1 (n : Nat) (I : FI) (L : FL) (K0 : Int32 → Int32 → Int32 → Option (Int32)) (x1 : Int32) (x2 : Int32) (x3 : Int32) : Option (Int32) :=
  K0 x1 x2 (x3 + (1 : Int32))
set_option maxHeartbeats 1000000 in
set_option maxRecDepth 20000 in
theorem tc_25_1_1 (Ls : Nat) (xs : Nat → Int32) (d : Nat) (kp : Option Nat) (tl : List (Nat × Nat)) (rl : List (List (Option Nat))) (nh : Option Nat) (rh : Option Nat) (n : Nat) (I : FI) (L : FL) (K0 : Int32 → Int32 → Int32 → Option (Int32)) (hK0 : ∀ (x1 : Int32) (x2 : Int32) (x3 : Int32) (r : Int32), K0 x1 x2 x3 = some r → Bs cd_25 (sf 3 rs_3 false 4 (some (.int)) Ls xs (d + 0)) (4, [some (.ref 3), some (.int x1), some (.int x2), some (.int x3)], [], hp kp nh rh tl rl I L) (some (.int r), hp kp nh rh tl rl I L)) (x1 : Int32) (x2 : Int32) (x3 : Int32) (r : Int32) (hf : c_25_1_1 n I L K0 x1 x2 x3 = some r) : Bs cd_25 (sf 3 rs_3 false 4 (some (.int)) Ls xs (d + 0)) (29, [some (.ref 3), some (.int x1), some (.int x2), some (.int x3)], [], hp kp nh rh tl rl I L) (some (.int r), hp kp nh rh tl rl I L) := by
  unfold c_25_1_1 at hf
  refine bs_st 2 (x' := (4, [some (.ref 3), some (.int x1), some (.int x2), some (.int (x3 + (1 : Int32)))], [], hp kp nh rh tl rl I L)) rfl ?_
  exact hK0 x1 x2 (x3 + (1 : Int32)) r hf
def b_25_1_0 (n : Nat) (I : FI) (L : FL) (K0 : Int32 → Int32 → Int32 → Option (Int32)) (x1 : Int32) (x2 : Int32) (x3 : Int32) : Option (Int32) :=
  if I 3 4 ≤ x3 then
    some (x2)
  else
    if ((x1 >>> (x3 &&& 31)) &&& (1 : Int32)) = 0 then
      c_25_1_1 n I L K0 x1 x2 x3
    else
      if pin x3 4 = true then c_25_1_1 n I L K0 x1 (x2 + (I 5 x3.toNatClampNeg)) x3 else none
def c_25_1_0 (n : Nat) (I : FI) (L : FL) : Nat → Int32 → Int32 → Int32 → Option (Int32)
  | 0, _, _, _ => none
  | m + 1, x1, x2, x3 => b_25_1_0 n I L (c_25_1_0 n I L m) x1 x2 x3
set_option maxHeartbeats 1000000 in
set_option maxRecDepth 20000 in
theorem tc_25_1_0 (Ls : Nat) (xs : Nat → Int32) (d : Nat) (kp : Option Nat) (tl : List (Nat × Nat)) (rl : List (List (Option Nat))) (nh : Option Nat) (rh : Option Nat) (n : Nat) (I : FI) (L : FL) : ∀ (m : Nat) (x1 : Int32) (x2 : Int32) (x3 : Int32) (r : Int32), c_25_1_0 n I L m x1 x2 x3 = some r → Bs cd_25 (sf 3 rs_3 false 4 (some (.int)) Ls xs (d + 0)) (4, [some (.ref 3), some (.int x1), some (.int x2), some (.int x3)], [], hp kp nh rh tl rl I L) (some (.int r), hp kp nh rh tl rl I L)
  | 0, x1, x2, x3, r, hf => by cases hf
  | m + 1, x1, x2, x3, r, hf => by
    unfold c_25_1_0 b_25_1_0 at hf
    have hK0 := tc_25_1_0 Ls xs d kp tl rl nh rh n I L m
    refine bs_st 3 (x' := (9, [some (.ref 3), some (.int x1), some (.int x2), some (.int x3)], [.int (I 3 4), .int x3], hp kp nh rh tl rl I L)) rfl ?_
    refine bs_br (t := 35) (e := 12) (lo := [some (.ref 3), some (.int x1), some (.int x2), some (.int x3)]) (st := []) (h := hp kp nh rh tl rl I L) rfl hf (fun hc hf => ?_) (fun hc hf => ?_)
    · refine bs_st 1 (x' := (36, [some (.ref 3), some (.int x1), some (.int x2), some (.int x3)], [.int x2], hp kp nh rh tl rl I L)) rfl ?_
      cases hf
      exact bs_ret rfl
    · refine bs_st 5 (x' := (17, [some (.ref 3), some (.int x1), some (.int x2), some (.int x3)], [.int ((x1 >>> (x3 &&& 31)) &&& (1 : Int32))], hp kp nh rh tl rl I L)) rfl ?_
      refine bs_br (t := 29) (e := 20) (lo := [some (.ref 3), some (.int x1), some (.int x2), some (.int x3)]) (st := []) (h := hp kp nh rh tl rl I L) rfl hf (fun hc hf => ?_) (fun hc hf => ?_)
      · exact tc_25_1_1 Ls xs d kp tl rl nh rh n I L _ hK0 x1 x2 x3 r hf
      · refine bs_st 4 (x' := (26, [some (.ref 3), some (.int x1), some (.int x2), some (.int x3)], [.int x3, .ref 5, .int x2], hp kp nh rh tl rl I L)) rfl ?_
        refine bs_gd (x' := (27, [some (.ref 3), some (.int x1), some (.int x2), some (.int x3)], [.int (I 5 x3.toNatClampNeg), .int x2], hp kp nh rh tl rl I L)) rfl hf (fun hc hf => ?_)
        refine bs_st 2 (x' := (29, [some (.ref 3), some (.int x1), some (.int (x2 + (I 5 x3.toNatClampNeg))), some (.int x3)], [], hp kp nh rh tl rl I L)) rfl ?_
        exact tc_25_1_1 Ls xs d kp tl rl nh rh n I L _ hK0 x1 (x2 + (I 5 x3.toNatClampNeg)) x3 r hf
def f_25_1 (n : Nat) (x1 : Int32) (I : FI) (L : FL) : Option (Int32) :=
  c_25_1_0 n I L n x1 (0 : Int32) (0 : Int32)
set_option maxHeartbeats 1000000 in
set_option maxRecDepth 20000 in
theorem t_25_1 (Ls : Nat) (xs : Nat → Int32) (d : Nat) (kp : Option Nat) (tl : List (Nat × Nat)) (rl : List (List (Option Nat))) (nh : Option Nat) (rh : Option Nat) (n : Nat) (x1 : Int32) (I : FI) (L : FL) (r : Int32) (hf : f_25_1 n x1 I L = some r) : pEN Ls xs (d + 1) 25 [.ref 3, .int x1] (hp kp nh rh tl rl I L) = some (some (.int r), hp kp nh rh tl rl I L) := by
  refine en_run (d := d + 0) (cd := cd_25) (f := (sf 3 rs_3 false 4 (some (.int)) Ls xs (d + 0))) rfl rfl (x := (0, [some (.ref 3), some (.int x1), none, none], [], hp kp nh rh tl rl I L)) rfl rfl (Nat.le_of_ble_eq_true rfl) ?_
  unfold f_25_1 at hf
  refine bs_st 4 (x' := (4, [some (.ref 3), some (.int x1), some (.int (0 : Int32)), some (.int (0 : Int32))], [], hp kp nh rh tl rl I L)) rfl ?_
  exact tc_25_1_0 Ls xs d kp tl rl nh rh n I L n x1 (0 : Int32) (0 : Int32) r hf
/-- LampRounds.bestKeptSet() on (0,) -/
def c_189_1_1 (n : Nat) (K0 : Int32 → Int32 → FI → FL → Option (Int32 × FI × FL)) (x1 : Int32) (x2 : Int32) (I : FI) (L : FL) : Option (Int32 × FI × FL) :=
  K0 x1 (x2 + (1 : Int32)) I L
set_option maxHeartbeats 1000000 in
set_option maxRecDepth 20000 in
theorem tc_189_1_1 (Ls : Nat) (xs : Nat → Int32) (d : Nat) (nh : Option Nat) (rh : Option Nat) (n : Nat) (K0 : Int32 → Int32 → FI → FL → Option (Int32 × FI × FL)) (hK0 : ∀ (x1 : Int32) (x2 : Int32) (I : FI) (L : FL) (r : Int32 × FI × FL), K0 x1 x2 I L = some r → Bs cd_189 (sf 11 rs_11 false 3 (some (.int)) Ls xs (d + 5)) (4, [some (.ref 0), some (.int x1), some (.int x2)], [], hp (some 114) nh rh TK (RK (some 3)) I L) (some (.int r.1), hp (some 114) nh rh TK (RK (some 3)) r.2.1 r.2.2)) (x1 : Int32) (x2 : Int32) (I : FI) (L : FL) (r : Int32 × FI × FL) (hf : c_189_1_1 n K0 x1 x2 I L = some r) : Bs cd_189 (sf 11 rs_11 false 3 (some (.int)) Ls xs (d + 5)) (57, [some (.ref 0), some (.int x1), some (.int x2)], [], hp (some 114) nh rh TK (RK (some 3)) I L) (some (.int r.1), hp (some 114) nh rh TK (RK (some 3)) r.2.1 r.2.2) := by
  unfold c_189_1_1 at hf
  refine bs_st 2 (x' := (4, [some (.ref 0), some (.int x1), some (.int (x2 + (1 : Int32)))], [], hp (some 114) nh rh TK (RK (some 3)) I L)) rfl ?_
  exact hK0 x1 (x2 + (1 : Int32)) I L r hf
def b_189_1_0 (n : Nat) (K0 : Int32 → Int32 → FI → FL → Option (Int32 × FI × FL)) (x1 : Int32) (x2 : Int32) (I : FI) (L : FL) : Option (Int32 × FI × FL) :=
  (f_24 I L).bind fun q0 =>
  if q0 < x2 then
    some (x1, I, L)
  else
    (f_25_1 n x2 I L).bind fun q1 =>
    (f_25_1 n x1 I L).bind fun q2 =>
    if q1 ≤ q2 then
      c_189_1_1 n K0 x1 x2 I L
    else
      (f_23 I L).bind fun q3 =>
      (f_187 I L).bind fun q4 =>
      (f_32 n x2 q4.1 q4.2).bind fun q5 =>
      (f_188 q3 q5.1 q5.2.1 q5.2.2).bind fun q6 =>
      if q6 = 0 then
        c_189_1_1 n K0 x1 x2 q5.2.1 q5.2.2
      else
        c_189_1_1 n K0 x2 x2 q5.2.1 q5.2.2
def c_189_1_0 (n : Nat) : Nat → Int32 → Int32 → FI → FL → Option (Int32 × FI × FL)
  | 0, _, _, _, _ => none
  | m + 1, x1, x2, I, L => b_189_1_0 n (c_189_1_0 n m) x1 x2 I L
set_option maxHeartbeats 1000000 in
set_option maxRecDepth 20000 in
theorem tc_189_1_0 (Ls : Nat) (xs : Nat → Int32) (d : Nat) (nh : Option Nat) (rh : Option Nat) (n : Nat) : ∀ (m : Nat) (x1 : Int32) (x2 : Int32) (I : FI) (L : FL) (r : Int32 × FI × FL), c_189_1_0 n m x1 x2 I L = some r → Bs cd_189 (sf 11 rs_11 false 3 (some (.int)) Ls xs (d + 5)) (4, [some (.ref 0), some (.int x1), some (.int x2)], [], hp (some 114) nh rh TK (RK (some 3)) I L) (some (.int r.1), hp (some 114) nh rh TK (RK (some 3)) r.2.1 r.2.2)
  | 0, x1, x2, I, L, r, hf => by cases hf
  | m + 1, x1, x2, I, L, r, hf => by
    unfold c_189_1_0 b_189_1_0 at hf
    have hK0 := tc_189_1_0 Ls xs d nh rh n m
    refine bs_st 3 (x' := (9, [some (.ref 0), some (.int x1), some (.int x2)], [.ref 3, .int x2], hp (some 114) nh rh TK (RK (some 3)) I L)) rfl ?_
    obtain ⟨q0, hq0, hf⟩ := Option.bind_eq_some_iff.mp hf
    refine bs_call (o := pEN Ls xs (d + 5) 24 [.ref 3] (hp (some 114) nh rh TK (RK (some 3)) I L)) (w := some (.int q0)) (h' := hp (some 114) nh rh TK (RK (some 3)) I L) (pc := 12) (lo := [some (.ref 0), some (.int x1), some (.int x2)]) (rest := [.int x2]) rfl (t_24 Ls xs (d + 4) (some 114) TK (RK (some 3)) nh rh I L q0 hq0) ?_
    refine bs_br (t := 63) (e := 15) (lo := [some (.ref 0), some (.int x1), some (.int x2)]) (st := []) (h := hp (some 114) nh rh TK (RK (some 3)) I L) rfl hf (fun hc hf => ?_) (fun hc hf => ?_)
    · refine bs_st 1 (x' := (64, [some (.ref 0), some (.int x1), some (.int x2)], [.int x1], hp (some 114) nh rh TK (RK (some 3)) I L)) rfl ?_
      cases hf
      exact bs_ret rfl
    · refine bs_st 3 (x' := (20, [some (.ref 0), some (.int x1), some (.int x2)], [.int x2, .ref 3], hp (some 114) nh rh TK (RK (some 3)) I L)) rfl ?_
      obtain ⟨q1, hq1, hf⟩ := Option.bind_eq_some_iff.mp hf
      refine bs_call (o := pEN Ls xs (d + 5) 25 [.ref 3, .int x2] (hp (some 114) nh rh TK (RK (some 3)) I L)) (w := some (.int q1)) (h' := hp (some 114) nh rh TK (RK (some 3)) I L) (pc := 23) (lo := [some (.ref 0), some (.int x1), some (.int x2)]) (rest := []) rfl (t_25_1 Ls xs (d + 4) (some 114) TK (RK (some 3)) nh rh n x2 I L q1 hq1) ?_
      refine bs_st 3 (x' := (28, [some (.ref 0), some (.int x1), some (.int x2)], [.int x1, .ref 3, .int q1], hp (some 114) nh rh TK (RK (some 3)) I L)) rfl ?_
      obtain ⟨q2, hq2, hf⟩ := Option.bind_eq_some_iff.mp hf
      refine bs_call (o := pEN Ls xs (d + 5) 25 [.ref 3, .int x1] (hp (some 114) nh rh TK (RK (some 3)) I L)) (w := some (.int q2)) (h' := hp (some 114) nh rh TK (RK (some 3)) I L) (pc := 31) (lo := [some (.ref 0), some (.int x1), some (.int x2)]) (rest := [.int q1]) rfl (t_25_1 Ls xs (d + 4) (some 114) TK (RK (some 3)) nh rh n x1 I L q2 hq2) ?_
      refine bs_br (t := 57) (e := 34) (lo := [some (.ref 0), some (.int x1), some (.int x2)]) (st := []) (h := hp (some 114) nh rh TK (RK (some 3)) I L) rfl hf (fun hc hf => ?_) (fun hc hf => ?_)
      · exact tc_189_1_1 Ls xs d nh rh n _ hK0 x1 x2 I L r hf
      · refine bs_st 2 (x' := (38, [some (.ref 0), some (.int x1), some (.int x2)], [.ref 3], hp (some 114) nh rh TK (RK (some 3)) I L)) rfl ?_
        obtain ⟨q3, hq3, hf⟩ := Option.bind_eq_some_iff.mp hf
        refine bs_call (o := pEN Ls xs (d + 5) 23 [.ref 3] (hp (some 114) nh rh TK (RK (some 3)) I L)) (w := some (.int q3)) (h' := hp (some 114) nh rh TK (RK (some 3)) I L) (pc := 41) (lo := [some (.ref 0), some (.int x1), some (.int x2)]) (rest := []) rfl (t_23 Ls xs (d + 4) (some 114) TK (RK (some 3)) nh rh I L q3 hq3) ?_
        refine bs_st 1 (x' := (42, [some (.ref 0), some (.int x1), some (.int x2)], [.ref 0, .int q3], hp (some 114) nh rh TK (RK (some 3)) I L)) rfl ?_
        obtain ⟨q4, hq4, hf⟩ := Option.bind_eq_some_iff.mp hf
        refine bs_call (o := pEN Ls xs (d + 5) 187 [.ref 0] (hp (some 114) nh rh TK (RK (some 3)) I L)) (w := some (.ref 114)) (h' := hp (some 114) nh rh TK (RK (some 3)) q4.1 q4.2) (pc := 45) (lo := [some (.ref 0), some (.int x1), some (.int x2)]) (rest := [.int q3]) rfl (t_187 Ls xs (d + 4) nh rh I L q4 hq4) ?_
        refine bs_st 1 (x' := (46, [some (.ref 0), some (.int x1), some (.int x2)], [.int x2, .ref 114, .int q3], hp (some 114) nh rh TK (RK (some 3)) q4.1 q4.2)) rfl ?_
        obtain ⟨q5, hq5, hf⟩ := Option.bind_eq_some_iff.mp hf
        refine bs_call (o := pEN Ls xs (d + 5) 32 [.ref 114, .int x2] (hp (some 114) nh rh TK (RK (some 3)) q4.1 q4.2)) (w := some (.int q5.1)) (h' := hp (some 114) nh rh TK (RK (some 3)) q5.2.1 q5.2.2) (pc := 49) (lo := [some (.ref 0), some (.int x1), some (.int x2)]) (rest := [.int q3]) rfl (t_32 Ls xs (d + 0) nh rh n x2 q4.1 q4.2 q5 hq5) ?_
        obtain ⟨q6, hq6, hf⟩ := Option.bind_eq_some_iff.mp hf
        refine bs_call (o := pEN Ls xs (d + 5) 188 [.int q3, .int q5.1] (hp (some 114) nh rh TK (RK (some 3)) q5.2.1 q5.2.2)) (w := some (.int q6)) (h' := hp (some 114) nh rh TK (RK (some 3)) q5.2.1 q5.2.2) (pc := 52) (lo := [some (.ref 0), some (.int x1), some (.int x2)]) (rest := []) rfl (t_188 Ls xs (d + 4) (some 114) TK (RK (some 3)) nh rh q3 q5.1 q5.2.1 q5.2.2 q6 hq6) ?_
        refine bs_br (t := 57) (e := 55) (lo := [some (.ref 0), some (.int x1), some (.int x2)]) (st := []) (h := hp (some 114) nh rh TK (RK (some 3)) q5.2.1 q5.2.2) rfl hf (fun hc hf => ?_) (fun hc hf => ?_)
        · exact tc_189_1_1 Ls xs d nh rh n _ hK0 x1 x2 q5.2.1 q5.2.2 r hf
        · refine bs_st 2 (x' := (57, [some (.ref 0), some (.int x2), some (.int x2)], [], hp (some 114) nh rh TK (RK (some 3)) q5.2.1 q5.2.2)) rfl ?_
          exact tc_189_1_1 Ls xs d nh rh n _ hK0 x2 x2 q5.2.1 q5.2.2 r hf
def f_189_1 (n : Nat) (I : FI) (L : FL) : Option (Int32 × FI × FL) :=
  c_189_1_0 n n (0 : Int32) (1 : Int32) I L
set_option maxHeartbeats 1000000 in
set_option maxRecDepth 20000 in
theorem t_189_1 (Ls : Nat) (xs : Nat → Int32) (d : Nat) (nh : Option Nat) (rh : Option Nat) (n : Nat) (I : FI) (L : FL) (r : Int32 × FI × FL) (hf : f_189_1 n I L = some r) : pEN Ls xs (d + 6) 189 [.ref 0] (hp (some 114) nh rh TK (RK (some 3)) I L) = some (some (.int r.1), hp (some 114) nh rh TK (RK (some 3)) r.2.1 r.2.2) := by
  refine en_run (d := d + 5) (cd := cd_189) (f := (sf 11 rs_11 false 3 (some (.int)) Ls xs (d + 5))) rfl rfl (x := (0, [some (.ref 0), none, none], [], hp (some 114) nh rh TK (RK (some 3)) I L)) rfl rfl (Nat.le_of_ble_eq_true rfl) ?_
  unfold f_189_1 at hf
  refine bs_st 4 (x' := (4, [some (.ref 0), some (.int (0 : Int32)), some (.int (1 : Int32))], [], hp (some 114) nh rh TK (RK (some 3)) I L)) rfl ?_
  exact tc_189_1_0 Ls xs d nh rh n n (0 : Int32) (1 : Int32) I L r hf
/-- LampRounds.most() on (0,) -/
def f_144_1 (n : Nat) (I : FI) (L : FL) : Option (Int32 × FI × FL) :=
  (f_177 I L).bind fun q0 =>
  if q0 = 0 then
    some ((-2 : Int32), I, L)
  else
    (f_189_1 n I L).bind fun q1 =>
    (f_25_1 n q1.1 q1.2.1 q1.2.2).bind fun q2 =>
    some (q2, q1.2.1, q1.2.2)
set_option maxHeartbeats 1000000 in
set_option maxRecDepth 20000 in
theorem t_144_1 (Ls : Nat) (xs : Nat → Int32) (d : Nat) (nh : Option Nat) (rh : Option Nat) (n : Nat) (I : FI) (L : FL) (r : Int32 × FI × FL) (hf : f_144_1 n I L = some r) : pEN Ls xs (d + 7) 144 [.ref 0] (hp (some 114) nh rh TK (RK (some 3)) I L) = some (some (.int r.1), hp (some 114) nh rh TK (RK (some 3)) r.2.1 r.2.2) := by
  refine en_run (d := d + 6) (cd := cd_144) (f := (sf 11 rs_11 false 1 (some (.int)) Ls xs (d + 6))) rfl rfl (x := (0, [some (.ref 0)], [], hp (some 114) nh rh TK (RK (some 3)) I L)) rfl rfl (Nat.le_of_ble_eq_true rfl) ?_
  unfold f_144_1 at hf
  refine bs_st 1 (x' := (1, [some (.ref 0)], [.ref 0], hp (some 114) nh rh TK (RK (some 3)) I L)) rfl ?_
  obtain ⟨q0, hq0, hf⟩ := Option.bind_eq_some_iff.mp hf
  refine bs_call (o := pEN Ls xs (d + 6) 177 [.ref 0] (hp (some 114) nh rh TK (RK (some 3)) I L)) (w := some (.int q0)) (h' := hp (some 114) nh rh TK (RK (some 3)) I L) (pc := 4) (lo := [some (.ref 0)]) (rest := []) rfl (t_177 Ls xs (d + 5) (some 114) TK (RK (some 3)) nh rh I L q0 hq0) ?_
  refine bs_br (t := 21) (e := 7) (lo := [some (.ref 0)]) (st := []) (h := hp (some 114) nh rh TK (RK (some 3)) I L) rfl hf (fun hc hf => ?_) (fun hc hf => ?_)
  · refine bs_st 1 (x' := (23, [some (.ref 0)], [.int (-2 : Int32)], hp (some 114) nh rh TK (RK (some 3)) I L)) rfl ?_
    cases hf
    exact bs_ret rfl
  · refine bs_st 3 (x' := (12, [some (.ref 0)], [.ref 0, .ref 3], hp (some 114) nh rh TK (RK (some 3)) I L)) rfl ?_
    obtain ⟨q1, hq1, hf⟩ := Option.bind_eq_some_iff.mp hf
    refine bs_call (o := pEN Ls xs (d + 6) 189 [.ref 0] (hp (some 114) nh rh TK (RK (some 3)) I L)) (w := some (.int q1.1)) (h' := hp (some 114) nh rh TK (RK (some 3)) q1.2.1 q1.2.2) (pc := 15) (lo := [some (.ref 0)]) (rest := [.ref 3]) rfl (t_189_1 Ls xs (d + 0) nh rh n I L q1 hq1) ?_
    obtain ⟨q2, hq2, hf⟩ := Option.bind_eq_some_iff.mp hf
    refine bs_call (o := pEN Ls xs (d + 6) 25 [.ref 3, .int q1.1] (hp (some 114) nh rh TK (RK (some 3)) q1.2.1 q1.2.2)) (w := some (.int q2)) (h' := hp (some 114) nh rh TK (RK (some 3)) q1.2.1 q1.2.2) (pc := 18) (lo := [some (.ref 0)]) (rest := []) rfl (t_25_1 Ls xs (d + 5) (some 114) TK (RK (some 3)) nh rh n q1.1 q1.2.1 q1.2.2 q2 hq2) ?_
    refine bs_st 1 (x' := (23, [some (.ref 0)], [.int q2], hp (some 114) nh rh TK (RK (some 3)) q1.2.1 q1.2.2)) rfl ?_
    cases hf
    exact bs_ret rfl
/-- LampRounds.saved() on (0,) -/
def f_145_1 (n : Nat) (I : FI) (L : FL) : Option (Int32 × FI × FL) :=
  (f_177 I L).bind fun q0 =>
  if q0 = 0 then
    some ((-2 : Int32), I, L)
  else
    (f_189_1 n I L).bind fun q1 =>
    some (q1.1, q1.2.1, q1.2.2)
set_option maxHeartbeats 1000000 in
set_option maxRecDepth 20000 in
theorem t_145_1 (Ls : Nat) (xs : Nat → Int32) (d : Nat) (nh : Option Nat) (rh : Option Nat) (n : Nat) (I : FI) (L : FL) (r : Int32 × FI × FL) (hf : f_145_1 n I L = some r) : pEN Ls xs (d + 7) 145 [.ref 0] (hp (some 114) nh rh TK (RK (some 3)) I L) = some (some (.int r.1), hp (some 114) nh rh TK (RK (some 3)) r.2.1 r.2.2) := by
  refine en_run (d := d + 6) (cd := cd_145) (f := (sf 11 rs_11 false 1 (some (.int)) Ls xs (d + 6))) rfl rfl (x := (0, [some (.ref 0)], [], hp (some 114) nh rh TK (RK (some 3)) I L)) rfl rfl (Nat.le_of_ble_eq_true rfl) ?_
  unfold f_145_1 at hf
  refine bs_st 1 (x' := (1, [some (.ref 0)], [.ref 0], hp (some 114) nh rh TK (RK (some 3)) I L)) rfl ?_
  obtain ⟨q0, hq0, hf⟩ := Option.bind_eq_some_iff.mp hf
  refine bs_call (o := pEN Ls xs (d + 6) 177 [.ref 0] (hp (some 114) nh rh TK (RK (some 3)) I L)) (w := some (.int q0)) (h' := hp (some 114) nh rh TK (RK (some 3)) I L) (pc := 4) (lo := [some (.ref 0)]) (rest := []) rfl (t_177 Ls xs (d + 5) (some 114) TK (RK (some 3)) nh rh I L q0 hq0) ?_
  refine bs_br (t := 14) (e := 7) (lo := [some (.ref 0)]) (st := []) (h := hp (some 114) nh rh TK (RK (some 3)) I L) rfl hf (fun hc hf => ?_) (fun hc hf => ?_)
  · refine bs_st 1 (x' := (16, [some (.ref 0)], [.int (-2 : Int32)], hp (some 114) nh rh TK (RK (some 3)) I L)) rfl ?_
    cases hf
    exact bs_ret rfl
  · refine bs_st 1 (x' := (8, [some (.ref 0)], [.ref 0], hp (some 114) nh rh TK (RK (some 3)) I L)) rfl ?_
    obtain ⟨q1, hq1, hf⟩ := Option.bind_eq_some_iff.mp hf
    refine bs_call (o := pEN Ls xs (d + 6) 189 [.ref 0] (hp (some 114) nh rh TK (RK (some 3)) I L)) (w := some (.int q1.1)) (h' := hp (some 114) nh rh TK (RK (some 3)) q1.2.1 q1.2.2) (pc := 11) (lo := [some (.ref 0)]) (rest := []) rfl (t_189_1 Ls xs (d + 0) nh rh n I L q1 hq1) ?_
    refine bs_st 1 (x' := (16, [some (.ref 0)], [.int q1.1], hp (some 114) nh rh TK (RK (some 3)) q1.2.1 q1.2.2)) rfl ?_
    cases hf
    exact bs_ret rfl
/-- java/lang/Integer.bitCount(I) on () -/
def f_360 (x0 : Int32) (I : FI) (L : FL) : Option (Int32) :=
  some (((((((((x0 - (((x0.toUInt32 >>> ((1 : Int32).toUInt32 &&& Int32.toUInt32 31)).toInt32) &&& (1431655765 : Int32))) &&& (858993459 : Int32)) + ((((x0 - (((x0.toUInt32 >>> ((1 : Int32).toUInt32 &&& Int32.toUInt32 31)).toInt32) &&& (1431655765 : Int32))).toUInt32 >>> ((2 : Int32).toUInt32 &&& Int32.toUInt32 31)).toInt32) &&& (858993459 : Int32))) + (((((x0 - (((x0.toUInt32 >>> ((1 : Int32).toUInt32 &&& Int32.toUInt32 31)).toInt32) &&& (1431655765 : Int32))) &&& (858993459 : Int32)) + ((((x0 - (((x0.toUInt32 >>> ((1 : Int32).toUInt32 &&& Int32.toUInt32 31)).toInt32) &&& (1431655765 : Int32))).toUInt32 >>> ((2 : Int32).toUInt32 &&& Int32.toUInt32 31)).toInt32) &&& (858993459 : Int32))).toUInt32 >>> ((4 : Int32).toUInt32 &&& Int32.toUInt32 31)).toInt32)) &&& (252645135 : Int32)) + (((((((x0 - (((x0.toUInt32 >>> ((1 : Int32).toUInt32 &&& Int32.toUInt32 31)).toInt32) &&& (1431655765 : Int32))) &&& (858993459 : Int32)) + ((((x0 - (((x0.toUInt32 >>> ((1 : Int32).toUInt32 &&& Int32.toUInt32 31)).toInt32) &&& (1431655765 : Int32))).toUInt32 >>> ((2 : Int32).toUInt32 &&& Int32.toUInt32 31)).toInt32) &&& (858993459 : Int32))) + (((((x0 - (((x0.toUInt32 >>> ((1 : Int32).toUInt32 &&& Int32.toUInt32 31)).toInt32) &&& (1431655765 : Int32))) &&& (858993459 : Int32)) + ((((x0 - (((x0.toUInt32 >>> ((1 : Int32).toUInt32 &&& Int32.toUInt32 31)).toInt32) &&& (1431655765 : Int32))).toUInt32 >>> ((2 : Int32).toUInt32 &&& Int32.toUInt32 31)).toInt32) &&& (858993459 : Int32))).toUInt32 >>> ((4 : Int32).toUInt32 &&& Int32.toUInt32 31)).toInt32)) &&& (252645135 : Int32)).toUInt32 >>> ((8 : Int32).toUInt32 &&& Int32.toUInt32 31)).toInt32)) + ((((((((x0 - (((x0.toUInt32 >>> ((1 : Int32).toUInt32 &&& Int32.toUInt32 31)).toInt32) &&& (1431655765 : Int32))) &&& (858993459 : Int32)) + ((((x0 - (((x0.toUInt32 >>> ((1 : Int32).toUInt32 &&& Int32.toUInt32 31)).toInt32) &&& (1431655765 : Int32))).toUInt32 >>> ((2 : Int32).toUInt32 &&& Int32.toUInt32 31)).toInt32) &&& (858993459 : Int32))) + (((((x0 - (((x0.toUInt32 >>> ((1 : Int32).toUInt32 &&& Int32.toUInt32 31)).toInt32) &&& (1431655765 : Int32))) &&& (858993459 : Int32)) + ((((x0 - (((x0.toUInt32 >>> ((1 : Int32).toUInt32 &&& Int32.toUInt32 31)).toInt32) &&& (1431655765 : Int32))).toUInt32 >>> ((2 : Int32).toUInt32 &&& Int32.toUInt32 31)).toInt32) &&& (858993459 : Int32))).toUInt32 >>> ((4 : Int32).toUInt32 &&& Int32.toUInt32 31)).toInt32)) &&& (252645135 : Int32)) + (((((((x0 - (((x0.toUInt32 >>> ((1 : Int32).toUInt32 &&& Int32.toUInt32 31)).toInt32) &&& (1431655765 : Int32))) &&& (858993459 : Int32)) + ((((x0 - (((x0.toUInt32 >>> ((1 : Int32).toUInt32 &&& Int32.toUInt32 31)).toInt32) &&& (1431655765 : Int32))).toUInt32 >>> ((2 : Int32).toUInt32 &&& Int32.toUInt32 31)).toInt32) &&& (858993459 : Int32))) + (((((x0 - (((x0.toUInt32 >>> ((1 : Int32).toUInt32 &&& Int32.toUInt32 31)).toInt32) &&& (1431655765 : Int32))) &&& (858993459 : Int32)) + ((((x0 - (((x0.toUInt32 >>> ((1 : Int32).toUInt32 &&& Int32.toUInt32 31)).toInt32) &&& (1431655765 : Int32))).toUInt32 >>> ((2 : Int32).toUInt32 &&& Int32.toUInt32 31)).toInt32) &&& (858993459 : Int32))).toUInt32 >>> ((4 : Int32).toUInt32 &&& Int32.toUInt32 31)).toInt32)) &&& (252645135 : Int32)).toUInt32 >>> ((8 : Int32).toUInt32 &&& Int32.toUInt32 31)).toInt32)).toUInt32 >>> ((16 : Int32).toUInt32 &&& Int32.toUInt32 31)).toInt32)) &&& (63 : Int32)))
set_option maxHeartbeats 1000000 in
set_option maxRecDepth 20000 in
theorem t_360 (Ls : Nat) (xs : Nat → Int32) (d : Nat) (kp : Option Nat) (tl : List (Nat × Nat)) (rl : List (List (Option Nat))) (nh : Option Nat) (rh : Option Nat) (x0 : Int32) (I : FI) (L : FL) (r : Int32) (hf : f_360 x0 I L = some r) : pEN Ls xs (d + 1) 360 [.int x0] (hp kp nh rh tl rl I L) = some (some (.int r), hp kp nh rh tl rl I L) := by
  refine en_run (d := d + 0) (cd := cd_360) (f := (sf 15 rs_15 false 1 (some (.int)) Ls xs (d + 0))) rfl rfl (x := (0, [some (.int x0)], [], hp kp nh rh tl rl I L)) rfl rfl (Nat.le_of_ble_eq_true rfl) ?_
  unfold f_360 at hf
  refine bs_st 24 (x' := (32, [some (.int (((x0 - (((x0.toUInt32 >>> ((1 : Int32).toUInt32 &&& Int32.toUInt32 31)).toInt32) &&& (1431655765 : Int32))) &&& (858993459 : Int32)) + ((((x0 - (((x0.toUInt32 >>> ((1 : Int32).toUInt32 &&& Int32.toUInt32 31)).toInt32) &&& (1431655765 : Int32))).toUInt32 >>> ((2 : Int32).toUInt32 &&& Int32.toUInt32 31)).toInt32) &&& (858993459 : Int32))))], [.int (252645135 : Int32), .int ((((x0 - (((x0.toUInt32 >>> ((1 : Int32).toUInt32 &&& Int32.toUInt32 31)).toInt32) &&& (1431655765 : Int32))) &&& (858993459 : Int32)) + ((((x0 - (((x0.toUInt32 >>> ((1 : Int32).toUInt32 &&& Int32.toUInt32 31)).toInt32) &&& (1431655765 : Int32))).toUInt32 >>> ((2 : Int32).toUInt32 &&& Int32.toUInt32 31)).toInt32) &&& (858993459 : Int32))) + (((((x0 - (((x0.toUInt32 >>> ((1 : Int32).toUInt32 &&& Int32.toUInt32 31)).toInt32) &&& (1431655765 : Int32))) &&& (858993459 : Int32)) + ((((x0 - (((x0.toUInt32 >>> ((1 : Int32).toUInt32 &&& Int32.toUInt32 31)).toInt32) &&& (1431655765 : Int32))).toUInt32 >>> ((2 : Int32).toUInt32 &&& Int32.toUInt32 31)).toInt32) &&& (858993459 : Int32))).toUInt32 >>> ((4 : Int32).toUInt32 &&& Int32.toUInt32 31)).toInt32))], hp kp nh rh tl rl I L)) rfl ?_
  refine bs_st 17 (x' := (52, [some (.int (((((((x0 - (((x0.toUInt32 >>> ((1 : Int32).toUInt32 &&& Int32.toUInt32 31)).toInt32) &&& (1431655765 : Int32))) &&& (858993459 : Int32)) + ((((x0 - (((x0.toUInt32 >>> ((1 : Int32).toUInt32 &&& Int32.toUInt32 31)).toInt32) &&& (1431655765 : Int32))).toUInt32 >>> ((2 : Int32).toUInt32 &&& Int32.toUInt32 31)).toInt32) &&& (858993459 : Int32))) + (((((x0 - (((x0.toUInt32 >>> ((1 : Int32).toUInt32 &&& Int32.toUInt32 31)).toInt32) &&& (1431655765 : Int32))) &&& (858993459 : Int32)) + ((((x0 - (((x0.toUInt32 >>> ((1 : Int32).toUInt32 &&& Int32.toUInt32 31)).toInt32) &&& (1431655765 : Int32))).toUInt32 >>> ((2 : Int32).toUInt32 &&& Int32.toUInt32 31)).toInt32) &&& (858993459 : Int32))).toUInt32 >>> ((4 : Int32).toUInt32 &&& Int32.toUInt32 31)).toInt32)) &&& (252645135 : Int32)) + (((((((x0 - (((x0.toUInt32 >>> ((1 : Int32).toUInt32 &&& Int32.toUInt32 31)).toInt32) &&& (1431655765 : Int32))) &&& (858993459 : Int32)) + ((((x0 - (((x0.toUInt32 >>> ((1 : Int32).toUInt32 &&& Int32.toUInt32 31)).toInt32) &&& (1431655765 : Int32))).toUInt32 >>> ((2 : Int32).toUInt32 &&& Int32.toUInt32 31)).toInt32) &&& (858993459 : Int32))) + (((((x0 - (((x0.toUInt32 >>> ((1 : Int32).toUInt32 &&& Int32.toUInt32 31)).toInt32) &&& (1431655765 : Int32))) &&& (858993459 : Int32)) + ((((x0 - (((x0.toUInt32 >>> ((1 : Int32).toUInt32 &&& Int32.toUInt32 31)).toInt32) &&& (1431655765 : Int32))).toUInt32 >>> ((2 : Int32).toUInt32 &&& Int32.toUInt32 31)).toInt32) &&& (858993459 : Int32))).toUInt32 >>> ((4 : Int32).toUInt32 &&& Int32.toUInt32 31)).toInt32)) &&& (252645135 : Int32)).toUInt32 >>> ((8 : Int32).toUInt32 &&& Int32.toUInt32 31)).toInt32)) + ((((((((x0 - (((x0.toUInt32 >>> ((1 : Int32).toUInt32 &&& Int32.toUInt32 31)).toInt32) &&& (1431655765 : Int32))) &&& (858993459 : Int32)) + ((((x0 - (((x0.toUInt32 >>> ((1 : Int32).toUInt32 &&& Int32.toUInt32 31)).toInt32) &&& (1431655765 : Int32))).toUInt32 >>> ((2 : Int32).toUInt32 &&& Int32.toUInt32 31)).toInt32) &&& (858993459 : Int32))) + (((((x0 - (((x0.toUInt32 >>> ((1 : Int32).toUInt32 &&& Int32.toUInt32 31)).toInt32) &&& (1431655765 : Int32))) &&& (858993459 : Int32)) + ((((x0 - (((x0.toUInt32 >>> ((1 : Int32).toUInt32 &&& Int32.toUInt32 31)).toInt32) &&& (1431655765 : Int32))).toUInt32 >>> ((2 : Int32).toUInt32 &&& Int32.toUInt32 31)).toInt32) &&& (858993459 : Int32))).toUInt32 >>> ((4 : Int32).toUInt32 &&& Int32.toUInt32 31)).toInt32)) &&& (252645135 : Int32)) + (((((((x0 - (((x0.toUInt32 >>> ((1 : Int32).toUInt32 &&& Int32.toUInt32 31)).toInt32) &&& (1431655765 : Int32))) &&& (858993459 : Int32)) + ((((x0 - (((x0.toUInt32 >>> ((1 : Int32).toUInt32 &&& Int32.toUInt32 31)).toInt32) &&& (1431655765 : Int32))).toUInt32 >>> ((2 : Int32).toUInt32 &&& Int32.toUInt32 31)).toInt32) &&& (858993459 : Int32))) + (((((x0 - (((x0.toUInt32 >>> ((1 : Int32).toUInt32 &&& Int32.toUInt32 31)).toInt32) &&& (1431655765 : Int32))) &&& (858993459 : Int32)) + ((((x0 - (((x0.toUInt32 >>> ((1 : Int32).toUInt32 &&& Int32.toUInt32 31)).toInt32) &&& (1431655765 : Int32))).toUInt32 >>> ((2 : Int32).toUInt32 &&& Int32.toUInt32 31)).toInt32) &&& (858993459 : Int32))).toUInt32 >>> ((4 : Int32).toUInt32 &&& Int32.toUInt32 31)).toInt32)) &&& (252645135 : Int32)).toUInt32 >>> ((8 : Int32).toUInt32 &&& Int32.toUInt32 31)).toInt32)).toUInt32 >>> ((16 : Int32).toUInt32 &&& Int32.toUInt32 31)).toInt32)))], [.int ((((((((x0 - (((x0.toUInt32 >>> ((1 : Int32).toUInt32 &&& Int32.toUInt32 31)).toInt32) &&& (1431655765 : Int32))) &&& (858993459 : Int32)) + ((((x0 - (((x0.toUInt32 >>> ((1 : Int32).toUInt32 &&& Int32.toUInt32 31)).toInt32) &&& (1431655765 : Int32))).toUInt32 >>> ((2 : Int32).toUInt32 &&& Int32.toUInt32 31)).toInt32) &&& (858993459 : Int32))) + (((((x0 - (((x0.toUInt32 >>> ((1 : Int32).toUInt32 &&& Int32.toUInt32 31)).toInt32) &&& (1431655765 : Int32))) &&& (858993459 : Int32)) + ((((x0 - (((x0.toUInt32 >>> ((1 : Int32).toUInt32 &&& Int32.toUInt32 31)).toInt32) &&& (1431655765 : Int32))).toUInt32 >>> ((2 : Int32).toUInt32 &&& Int32.toUInt32 31)).toInt32) &&& (858993459 : Int32))).toUInt32 >>> ((4 : Int32).toUInt32 &&& Int32.toUInt32 31)).toInt32)) &&& (252645135 : Int32)) + (((((((x0 - (((x0.toUInt32 >>> ((1 : Int32).toUInt32 &&& Int32.toUInt32 31)).toInt32) &&& (1431655765 : Int32))) &&& (858993459 : Int32)) + ((((x0 - (((x0.toUInt32 >>> ((1 : Int32).toUInt32 &&& Int32.toUInt32 31)).toInt32) &&& (1431655765 : Int32))).toUInt32 >>> ((2 : Int32).toUInt32 &&& Int32.toUInt32 31)).toInt32) &&& (858993459 : Int32))) + (((((x0 - (((x0.toUInt32 >>> ((1 : Int32).toUInt32 &&& Int32.toUInt32 31)).toInt32) &&& (1431655765 : Int32))) &&& (858993459 : Int32)) + ((((x0 - (((x0.toUInt32 >>> ((1 : Int32).toUInt32 &&& Int32.toUInt32 31)).toInt32) &&& (1431655765 : Int32))).toUInt32 >>> ((2 : Int32).toUInt32 &&& Int32.toUInt32 31)).toInt32) &&& (858993459 : Int32))).toUInt32 >>> ((4 : Int32).toUInt32 &&& Int32.toUInt32 31)).toInt32)) &&& (252645135 : Int32)).toUInt32 >>> ((8 : Int32).toUInt32 &&& Int32.toUInt32 31)).toInt32)) + ((((((((x0 - (((x0.toUInt32 >>> ((1 : Int32).toUInt32 &&& Int32.toUInt32 31)).toInt32) &&& (1431655765 : Int32))) &&& (858993459 : Int32)) + ((((x0 - (((x0.toUInt32 >>> ((1 : Int32).toUInt32 &&& Int32.toUInt32 31)).toInt32) &&& (1431655765 : Int32))).toUInt32 >>> ((2 : Int32).toUInt32 &&& Int32.toUInt32 31)).toInt32) &&& (858993459 : Int32))) + (((((x0 - (((x0.toUInt32 >>> ((1 : Int32).toUInt32 &&& Int32.toUInt32 31)).toInt32) &&& (1431655765 : Int32))) &&& (858993459 : Int32)) + ((((x0 - (((x0.toUInt32 >>> ((1 : Int32).toUInt32 &&& Int32.toUInt32 31)).toInt32) &&& (1431655765 : Int32))).toUInt32 >>> ((2 : Int32).toUInt32 &&& Int32.toUInt32 31)).toInt32) &&& (858993459 : Int32))).toUInt32 >>> ((4 : Int32).toUInt32 &&& Int32.toUInt32 31)).toInt32)) &&& (252645135 : Int32)) + (((((((x0 - (((x0.toUInt32 >>> ((1 : Int32).toUInt32 &&& Int32.toUInt32 31)).toInt32) &&& (1431655765 : Int32))) &&& (858993459 : Int32)) + ((((x0 - (((x0.toUInt32 >>> ((1 : Int32).toUInt32 &&& Int32.toUInt32 31)).toInt32) &&& (1431655765 : Int32))).toUInt32 >>> ((2 : Int32).toUInt32 &&& Int32.toUInt32 31)).toInt32) &&& (858993459 : Int32))) + (((((x0 - (((x0.toUInt32 >>> ((1 : Int32).toUInt32 &&& Int32.toUInt32 31)).toInt32) &&& (1431655765 : Int32))) &&& (858993459 : Int32)) + ((((x0 - (((x0.toUInt32 >>> ((1 : Int32).toUInt32 &&& Int32.toUInt32 31)).toInt32) &&& (1431655765 : Int32))).toUInt32 >>> ((2 : Int32).toUInt32 &&& Int32.toUInt32 31)).toInt32) &&& (858993459 : Int32))).toUInt32 >>> ((4 : Int32).toUInt32 &&& Int32.toUInt32 31)).toInt32)) &&& (252645135 : Int32)).toUInt32 >>> ((8 : Int32).toUInt32 &&& Int32.toUInt32 31)).toInt32)).toUInt32 >>> ((16 : Int32).toUInt32 &&& Int32.toUInt32 31)).toInt32)) &&& (63 : Int32))], hp kp nh rh tl rl I L)) rfl ?_
  cases hf
  exact bs_ret rfl
/-- LampRounds.given() on (0,) -/
def c_146_1_2 (n : Nat) (K0 : Int32 → Int32 → Int32 → FI → FL → Option (Int32 × FI × FL)) (x1 : Int32) (x2 : Int32) (x3 : Int32) (I : FI) (L : FL) : Option (Int32 × FI × FL) :=
  K0 x1 x2 (x3 + (1 : Int32)) I L
set_option maxHeartbeats 1000000 in
set_option maxRecDepth 20000 in
theorem tc_146_1_2 (Ls : Nat) (xs : Nat → Int32) (d : Nat) (nh : Option Nat) (rh : Option Nat) (n : Nat) (K0 : Int32 → Int32 → Int32 → FI → FL → Option (Int32 × FI × FL)) (hK0 : ∀ (w4 : Option Value) (x1 : Int32) (x2 : Int32) (x3 : Int32) (I : FI) (L : FL) (r : Int32 × FI × FL), K0 x1 x2 x3 I L = some r → Bs cd_146 (sf 11 rs_11 false 5 (some (.int)) Ls xs (d + 5)) (22, [some (.ref 0), some (.int x1), some (.int x2), some (.int x3), w4], [], hp (some 114) nh rh TK (RK (some 3)) I L) (some (.int r.1), hp (some 114) nh rh TK (RK (some 3)) r.2.1 r.2.2)) (w4 : Option Value) (x1 : Int32) (x2 : Int32) (x3 : Int32) (I : FI) (L : FL) (r : Int32 × FI × FL) (hf : c_146_1_2 n K0 x1 x2 x3 I L = some r) : Bs cd_146 (sf 11 rs_11 false 5 (some (.int)) Ls xs (d + 5)) (77, [some (.ref 0), some (.int x1), some (.int x2), some (.int x3), w4], [], hp (some 114) nh rh TK (RK (some 3)) I L) (some (.int r.1), hp (some 114) nh rh TK (RK (some 3)) r.2.1 r.2.2) := by
  unfold c_146_1_2 at hf
  refine bs_st 2 (x' := (22, [some (.ref 0), some (.int x1), some (.int x2), some (.int (x3 + (1 : Int32))), w4], [], hp (some 114) nh rh TK (RK (some 3)) I L)) rfl ?_
  exact hK0 w4 x1 x2 (x3 + (1 : Int32)) I L r hf
def c_146_1_1 (n : Nat) (K0 : Int32 → Int32 → Int32 → FI → FL → Option (Int32 × FI × FL)) (x1 : Int32) (x2 : Int32) (x3 : Int32) (s0 : Int32) (I : FI) (L : FL) : Option (Int32 × FI × FL) :=
  if s0 = 0 then
    c_146_1_2 n K0 x1 x2 x3 I L
  else
    (f_23 I L).bind fun q4 =>
    (f_187 I L).bind fun q5 =>
    (f_32 n (x1 &&& (x3 ^^^ (-1 : Int32))) q5.1 q5.2).bind fun q6 =>
    (f_188 q4 q6.1 q6.2.1 q6.2.2).bind fun q7 =>
    if q7 = 0 then
      c_146_1_2 n K0 x1 x2 x3 q6.2.1 q6.2.2
    else
      c_146_1_2 n K0 x1 x3 x3 q6.2.1 q6.2.2
set_option maxHeartbeats 1000000 in
set_option maxRecDepth 20000 in
theorem tc_146_1_1 (Ls : Nat) (xs : Nat → Int32) (d : Nat) (nh : Option Nat) (rh : Option Nat) (n : Nat) (K0 : Int32 → Int32 → Int32 → FI → FL → Option (Int32 × FI × FL)) (hK0 : ∀ (w4 : Option Value) (x1 : Int32) (x2 : Int32) (x3 : Int32) (I : FI) (L : FL) (r : Int32 × FI × FL), K0 x1 x2 x3 I L = some r → Bs cd_146 (sf 11 rs_11 false 5 (some (.int)) Ls xs (d + 5)) (22, [some (.ref 0), some (.int x1), some (.int x2), some (.int x3), w4], [], hp (some 114) nh rh TK (RK (some 3)) I L) (some (.int r.1), hp (some 114) nh rh TK (RK (some 3)) r.2.1 r.2.2)) (w4 : Option Value) (x1 : Int32) (x2 : Int32) (x3 : Int32) (s0 : Int32) (I : FI) (L : FL) (r : Int32 × FI × FL) (hf : c_146_1_1 n K0 x1 x2 x3 s0 I L = some r) : Bs cd_146 (sf 11 rs_11 false 5 (some (.int)) Ls xs (d + 5)) (43, [some (.ref 0), some (.int x1), some (.int x2), some (.int x3), w4], [.int s0], hp (some 114) nh rh TK (RK (some 3)) I L) (some (.int r.1), hp (some 114) nh rh TK (RK (some 3)) r.2.1 r.2.2) := by
  unfold c_146_1_1 at hf
  refine bs_st 2 (x' := (47, [some (.ref 0), some (.int x1), some (.int x2), some (.int x3), some (.int s0)], [.int s0], hp (some 114) nh rh TK (RK (some 3)) I L)) rfl ?_
  refine bs_br (t := 77) (e := 50) (lo := [some (.ref 0), some (.int x1), some (.int x2), some (.int x3), some (.int s0)]) (st := []) (h := hp (some 114) nh rh TK (RK (some 3)) I L) rfl hf (fun hc hf => ?_) (fun hc hf => ?_)
  · exact tc_146_1_2 Ls xs d nh rh n _ hK0 (some (.int s0)) x1 x2 x3 I L r hf
  · refine bs_st 2 (x' := (54, [some (.ref 0), some (.int x1), some (.int x2), some (.int x3), some (.int s0)], [.ref 3], hp (some 114) nh rh TK (RK (some 3)) I L)) rfl ?_
    obtain ⟨q4, hq4, hf⟩ := Option.bind_eq_some_iff.mp hf
    refine bs_call (o := pEN Ls xs (d + 5) 23 [.ref 3] (hp (some 114) nh rh TK (RK (some 3)) I L)) (w := some (.int q4)) (h' := hp (some 114) nh rh TK (RK (some 3)) I L) (pc := 57) (lo := [some (.ref 0), some (.int x1), some (.int x2), some (.int x3), some (.int s0)]) (rest := []) rfl (t_23 Ls xs (d + 4) (some 114) TK (RK (some 3)) nh rh I L q4 hq4) ?_
    refine bs_st 1 (x' := (58, [some (.ref 0), some (.int x1), some (.int x2), some (.int x3), some (.int s0)], [.ref 0, .int q4], hp (some 114) nh rh TK (RK (some 3)) I L)) rfl ?_
    obtain ⟨q5, hq5, hf⟩ := Option.bind_eq_some_iff.mp hf
    refine bs_call (o := pEN Ls xs (d + 5) 187 [.ref 0] (hp (some 114) nh rh TK (RK (some 3)) I L)) (w := some (.ref 114)) (h' := hp (some 114) nh rh TK (RK (some 3)) q5.1 q5.2) (pc := 61) (lo := [some (.ref 0), some (.int x1), some (.int x2), some (.int x3), some (.int s0)]) (rest := [.int q4]) rfl (t_187 Ls xs (d + 4) nh rh I L q5 hq5) ?_
    refine bs_st 5 (x' := (66, [some (.ref 0), some (.int x1), some (.int x2), some (.int x3), some (.int s0)], [.int (x1 &&& (x3 ^^^ (-1 : Int32))), .ref 114, .int q4], hp (some 114) nh rh TK (RK (some 3)) q5.1 q5.2)) rfl ?_
    obtain ⟨q6, hq6, hf⟩ := Option.bind_eq_some_iff.mp hf
    refine bs_call (o := pEN Ls xs (d + 5) 32 [.ref 114, .int (x1 &&& (x3 ^^^ (-1 : Int32)))] (hp (some 114) nh rh TK (RK (some 3)) q5.1 q5.2)) (w := some (.int q6.1)) (h' := hp (some 114) nh rh TK (RK (some 3)) q6.2.1 q6.2.2) (pc := 69) (lo := [some (.ref 0), some (.int x1), some (.int x2), some (.int x3), some (.int s0)]) (rest := [.int q4]) rfl (t_32 Ls xs (d + 0) nh rh n (x1 &&& (x3 ^^^ (-1 : Int32))) q5.1 q5.2 q6 hq6) ?_
    obtain ⟨q7, hq7, hf⟩ := Option.bind_eq_some_iff.mp hf
    refine bs_call (o := pEN Ls xs (d + 5) 188 [.int q4, .int q6.1] (hp (some 114) nh rh TK (RK (some 3)) q6.2.1 q6.2.2)) (w := some (.int q7)) (h' := hp (some 114) nh rh TK (RK (some 3)) q6.2.1 q6.2.2) (pc := 72) (lo := [some (.ref 0), some (.int x1), some (.int x2), some (.int x3), some (.int s0)]) (rest := []) rfl (t_188 Ls xs (d + 4) (some 114) TK (RK (some 3)) nh rh q4 q6.1 q6.2.1 q6.2.2 q7 hq7) ?_
    refine bs_br (t := 77) (e := 75) (lo := [some (.ref 0), some (.int x1), some (.int x2), some (.int x3), some (.int s0)]) (st := []) (h := hp (some 114) nh rh TK (RK (some 3)) q6.2.1 q6.2.2) rfl hf (fun hc hf => ?_) (fun hc hf => ?_)
    · exact tc_146_1_2 Ls xs d nh rh n _ hK0 (some (.int s0)) x1 x2 x3 q6.2.1 q6.2.2 r hf
    · refine bs_st 2 (x' := (77, [some (.ref 0), some (.int x1), some (.int x3), some (.int x3), some (.int s0)], [], hp (some 114) nh rh TK (RK (some 3)) q6.2.1 q6.2.2)) rfl ?_
      exact tc_146_1_2 Ls xs d nh rh n _ hK0 (some (.int s0)) x1 x3 x3 q6.2.1 q6.2.2 r hf
def b_146_1_0 (n : Nat) (K0 : Int32 → Int32 → Int32 → FI → FL → Option (Int32 × FI × FL)) (x1 : Int32) (x2 : Int32) (x3 : Int32) (I : FI) (L : FL) : Option (Int32 × FI × FL) :=
  if x1 < x3 then
    some (x2, I, L)
  else
    (f_360 x3 I L).bind fun q2 =>
    (f_360 x2 I L).bind fun q3 =>
    if q3 ≤ q2 then
      c_146_1_1 n K0 x1 x2 x3 (0 : Int32) I L
    else
      c_146_1_1 n K0 x1 x2 x3 (1 : Int32) I L
def c_146_1_0 (n : Nat) : Nat → Int32 → Int32 → Int32 → FI → FL → Option (Int32 × FI × FL)
  | 0, _, _, _, _, _ => none
  | m + 1, x1, x2, x3, I, L => b_146_1_0 n (c_146_1_0 n m) x1 x2 x3 I L
set_option maxHeartbeats 1000000 in
set_option maxRecDepth 20000 in
theorem tc_146_1_0 (Ls : Nat) (xs : Nat → Int32) (d : Nat) (nh : Option Nat) (rh : Option Nat) (n : Nat) : ∀ (m : Nat) (w4 : Option Value) (x1 : Int32) (x2 : Int32) (x3 : Int32) (I : FI) (L : FL) (r : Int32 × FI × FL), c_146_1_0 n m x1 x2 x3 I L = some r → Bs cd_146 (sf 11 rs_11 false 5 (some (.int)) Ls xs (d + 5)) (22, [some (.ref 0), some (.int x1), some (.int x2), some (.int x3), w4], [], hp (some 114) nh rh TK (RK (some 3)) I L) (some (.int r.1), hp (some 114) nh rh TK (RK (some 3)) r.2.1 r.2.2)
  | 0, w4, x1, x2, x3, I, L, r, hf => by cases hf
  | m + 1, w4, x1, x2, x3, I, L, r, hf => by
    unfold c_146_1_0 b_146_1_0 at hf
    have hK0 := tc_146_1_0 Ls xs d nh rh n m
    refine bs_st 2 (x' := (24, [some (.ref 0), some (.int x1), some (.int x2), some (.int x3), w4], [.int x1, .int x3], hp (some 114) nh rh TK (RK (some 3)) I L)) rfl ?_
    refine bs_br (t := 83) (e := 27) (lo := [some (.ref 0), some (.int x1), some (.int x2), some (.int x3), w4]) (st := []) (h := hp (some 114) nh rh TK (RK (some 3)) I L) rfl hf (fun hc hf => ?_) (fun hc hf => ?_)
    · refine bs_st 1 (x' := (84, [some (.ref 0), some (.int x1), some (.int x2), some (.int x3), w4], [.int x2], hp (some 114) nh rh TK (RK (some 3)) I L)) rfl ?_
      cases hf
      exact bs_ret rfl
    · refine bs_st 1 (x' := (28, [some (.ref 0), some (.int x1), some (.int x2), some (.int x3), w4], [.int x3], hp (some 114) nh rh TK (RK (some 3)) I L)) rfl ?_
      obtain ⟨q2, hq2, hf⟩ := Option.bind_eq_some_iff.mp hf
      refine bs_call (o := pEN Ls xs (d + 5) 360 [.int x3] (hp (some 114) nh rh TK (RK (some 3)) I L)) (w := some (.int q2)) (h' := hp (some 114) nh rh TK (RK (some 3)) I L) (pc := 31) (lo := [some (.ref 0), some (.int x1), some (.int x2), some (.int x3), w4]) (rest := []) rfl (t_360 Ls xs (d + 4) (some 114) TK (RK (some 3)) nh rh x3 I L q2 hq2) ?_
      refine bs_st 1 (x' := (32, [some (.ref 0), some (.int x1), some (.int x2), some (.int x3), w4], [.int x2, .int q2], hp (some 114) nh rh TK (RK (some 3)) I L)) rfl ?_
      obtain ⟨q3, hq3, hf⟩ := Option.bind_eq_some_iff.mp hf
      refine bs_call (o := pEN Ls xs (d + 5) 360 [.int x2] (hp (some 114) nh rh TK (RK (some 3)) I L)) (w := some (.int q3)) (h' := hp (some 114) nh rh TK (RK (some 3)) I L) (pc := 35) (lo := [some (.ref 0), some (.int x1), some (.int x2), some (.int x3), w4]) (rest := [.int q2]) rfl (t_360 Ls xs (d + 4) (some 114) TK (RK (some 3)) nh rh x2 I L q3 hq3) ?_
      refine bs_br (t := 42) (e := 38) (lo := [some (.ref 0), some (.int x1), some (.int x2), some (.int x3), w4]) (st := []) (h := hp (some 114) nh rh TK (RK (some 3)) I L) rfl hf (fun hc hf => ?_) (fun hc hf => ?_)
      · refine bs_st 1 (x' := (43, [some (.ref 0), some (.int x1), some (.int x2), some (.int x3), w4], [.int (0 : Int32)], hp (some 114) nh rh TK (RK (some 3)) I L)) rfl ?_
        exact tc_146_1_1 Ls xs d nh rh n _ hK0 w4 x1 x2 x3 (0 : Int32) I L r hf
      · refine bs_st 2 (x' := (43, [some (.ref 0), some (.int x1), some (.int x2), some (.int x3), w4], [.int (1 : Int32)], hp (some 114) nh rh TK (RK (some 3)) I L)) rfl ?_
        exact tc_146_1_1 Ls xs d nh rh n _ hK0 w4 x1 x2 x3 (1 : Int32) I L r hf
def f_146_1 (n : Nat) (I : FI) (L : FL) : Option (Int32 × FI × FL) :=
  (f_177 I L).bind fun q0 =>
  if ¬ q0 = 0 then
    (f_24 I L).bind fun q1 =>
    c_146_1_0 n n q1 q1 (0 : Int32) I L
  else
    some ((-2 : Int32), I, L)
set_option maxHeartbeats 1000000 in
set_option maxRecDepth 20000 in
theorem t_146_1 (Ls : Nat) (xs : Nat → Int32) (d : Nat) (nh : Option Nat) (rh : Option Nat) (n : Nat) (I : FI) (L : FL) (r : Int32 × FI × FL) (hf : f_146_1 n I L = some r) : pEN Ls xs (d + 6) 146 [.ref 0] (hp (some 114) nh rh TK (RK (some 3)) I L) = some (some (.int r.1), hp (some 114) nh rh TK (RK (some 3)) r.2.1 r.2.2) := by
  refine en_run (d := d + 5) (cd := cd_146) (f := (sf 11 rs_11 false 5 (some (.int)) Ls xs (d + 5))) rfl rfl (x := (0, [some (.ref 0), none, none, none, none], [], hp (some 114) nh rh TK (RK (some 3)) I L)) rfl rfl (Nat.le_of_ble_eq_true rfl) ?_
  unfold f_146_1 at hf
  refine bs_st 1 (x' := (1, [some (.ref 0), none, none, none, none], [.ref 0], hp (some 114) nh rh TK (RK (some 3)) I L)) rfl ?_
  obtain ⟨q0, hq0, hf⟩ := Option.bind_eq_some_iff.mp hf
  refine bs_call (o := pEN Ls xs (d + 5) 177 [.ref 0] (hp (some 114) nh rh TK (RK (some 3)) I L)) (w := some (.int q0)) (h' := hp (some 114) nh rh TK (RK (some 3)) I L) (pc := 4) (lo := [some (.ref 0), none, none, none, none]) (rest := []) rfl (t_177 Ls xs (d + 4) (some 114) TK (RK (some 3)) nh rh I L q0 hq0) ?_
  refine bs_br (t := 10) (e := 7) (lo := [some (.ref 0), none, none, none, none]) (st := []) (h := hp (some 114) nh rh TK (RK (some 3)) I L) rfl hf (fun hc hf => ?_) (fun hc hf => ?_)
  · refine bs_st 2 (x' := (14, [some (.ref 0), none, none, none, none], [.ref 3], hp (some 114) nh rh TK (RK (some 3)) I L)) rfl ?_
    obtain ⟨q1, hq1, hf⟩ := Option.bind_eq_some_iff.mp hf
    refine bs_call (o := pEN Ls xs (d + 5) 24 [.ref 3] (hp (some 114) nh rh TK (RK (some 3)) I L)) (w := some (.int q1)) (h' := hp (some 114) nh rh TK (RK (some 3)) I L) (pc := 17) (lo := [some (.ref 0), none, none, none, none]) (rest := []) rfl (t_24 Ls xs (d + 4) (some 114) TK (RK (some 3)) nh rh I L q1 hq1) ?_
    refine bs_st 5 (x' := (22, [some (.ref 0), some (.int q1), some (.int q1), some (.int (0 : Int32)), none], [], hp (some 114) nh rh TK (RK (some 3)) I L)) rfl ?_
    exact tc_146_1_0 Ls xs d nh rh n n none q1 q1 (0 : Int32) I L r hf
  · refine bs_st 1 (x' := (9, [some (.ref 0), none, none, none, none], [.int (-2 : Int32)], hp (some 114) nh rh TK (RK (some 3)) I L)) rfl ?_
    cases hf
    exact bs_ret rfl
