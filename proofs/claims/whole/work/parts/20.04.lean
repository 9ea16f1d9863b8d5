/-- LampRounds.most() on (0,) -/
def f_144 (n : Nat) (I : FI) (L : FL) : Option (Int32 × Bool × FI × FL) :=
  (f_177 I L).bind fun q0 =>
  if q0 = 0 then
    some ((-2 : Int32), false, I, L)
  else
    (f_189 n I L).bind fun q1 =>
    if q1.2.1 = true then
      (f_25_1 n q1.1 q1.2.2.1 q1.2.2.2).bind fun q2 =>
      some (q2, true, q1.2.2.1, q1.2.2.2)
    else
      (f_25_1 n q1.1 q1.2.2.1 q1.2.2.2).bind fun q3 =>
      some (q3, false, q1.2.2.1, q1.2.2.2)
set_option maxHeartbeats 1000000 in
theorem t_144 (Ls : Nat) (xs : Nat → Int32) (d : Nat) (nh : Option Nat) (rh : Option Nat) (n : Nat) (I : FI) (L : FL) (r : Int32 × Bool × FI × FL) (hf : f_144 n I L = some r) : pEN Ls xs (d + 8) 144 [.ref 0] (hp none nh rh [] [] I L) = some (some (.int r.1), hw r.2.1 nh rh r.2.2.1 r.2.2.2) := by
  refine en_run (d := d + 7) (cd := cd_144) (f := (sf 11 rs_11 false 1 (some (.int)) Ls xs (d + 7))) rfl rfl (x := (0, [some (.ref 0)], [], hp none nh rh [] [] I L)) rfl rfl (Nat.le_of_ble_eq_true rfl) ?_
  unfold f_144 at hf
  refine bs_st 1 (x' := (1, [some (.ref 0)], [.ref 0], hp none nh rh [] [] I L)) rfl ?_
  obtain ⟨q0, hq0, hf⟩ := Option.bind_eq_some_iff.mp hf
  refine bs_call (o := pEN Ls xs (d + 7) 177 [.ref 0] (hp none nh rh [] [] I L)) (w := some (.int q0)) (h' := hp none nh rh [] [] I L) (pc := 4) (lo := [some (.ref 0)]) (rest := []) rfl (t_177 Ls xs (d + 6) none [] [] nh rh I L q0 hq0) ?_
  refine bs_br (t := 21) (e := 7) (lo := [some (.ref 0)]) (st := []) (h := hp none nh rh [] [] I L) rfl hf (fun hc hf => ?_) (fun hc hf => ?_)
  · refine bs_st 1 (x' := (23, [some (.ref 0)], [.int (-2 : Int32)], hp none nh rh [] [] I L)) rfl ?_
    cases hf
    exact bs_ret rfl
  · refine bs_st 3 (x' := (12, [some (.ref 0)], [.ref 0, .ref 3], hp none nh rh [] [] I L)) rfl ?_
    obtain ⟨q1, hq1, hf⟩ := Option.bind_eq_some_iff.mp hf
    refine bs_cs hf (fun hb hf => ?_) (fun hb hf => ?_)
    · refine bs_call (o := pEN Ls xs (d + 7) 189 [.ref 0] (hp none nh rh [] [] I L)) (w := some (.int q1.1)) (h' := hp (some 114) nh rh TK (RK (some 3)) q1.2.2.1 q1.2.2.2) (pc := 15) (lo := [some (.ref 0)]) (rest := [.ref 3]) rfl ((t_189 Ls xs (d + 0) nh rh n I L q1 hq1).trans (by rw [hb]; rfl)) ?_
      obtain ⟨q2, hq2, hf⟩ := Option.bind_eq_some_iff.mp hf
      refine bs_call (o := pEN Ls xs (d + 7) 25 [.ref 3, .int q1.1] (hp (some 114) nh rh TK (RK (some 3)) q1.2.2.1 q1.2.2.2)) (w := some (.int q2)) (h' := hp (some 114) nh rh TK (RK (some 3)) q1.2.2.1 q1.2.2.2) (pc := 18) (lo := [some (.ref 0)]) (rest := []) rfl (t_25_1 Ls xs (d + 6) (some 114) TK (RK (some 3)) nh rh n q1.1 q1.2.2.1 q1.2.2.2 q2 hq2) ?_
      refine bs_st 1 (x' := (23, [some (.ref 0)], [.int q2], hp (some 114) nh rh TK (RK (some 3)) q1.2.2.1 q1.2.2.2)) rfl ?_
      cases hf
      exact bs_ret rfl
    · refine bs_call (o := pEN Ls xs (d + 7) 189 [.ref 0] (hp none nh rh [] [] I L)) (w := some (.int q1.1)) (h' := hp none nh rh [] [] q1.2.2.1 q1.2.2.2) (pc := 15) (lo := [some (.ref 0)]) (rest := [.ref 3]) rfl ((t_189 Ls xs (d + 0) nh rh n I L q1 hq1).trans (by rw [Bool.not_eq_true] at hb; rw [hb]; rfl)) ?_
      obtain ⟨q3, hq3, hf⟩ := Option.bind_eq_some_iff.mp hf
      refine bs_call (o := pEN Ls xs (d + 7) 25 [.ref 3, .int q1.1] (hp none nh rh [] [] q1.2.2.1 q1.2.2.2)) (w := some (.int q3)) (h' := hp none nh rh [] [] q1.2.2.1 q1.2.2.2) (pc := 18) (lo := [some (.ref 0)]) (rest := []) rfl (t_25_1 Ls xs (d + 6) none [] [] nh rh n q1.1 q1.2.2.1 q1.2.2.2 q3 hq3) ?_
      refine bs_st 1 (x' := (23, [some (.ref 0)], [.int q3], hp none nh rh [] [] q1.2.2.1 q1.2.2.2)) rfl ?_
      cases hf
      exact bs_ret rfl
/-- LampRounds.bestKeptSet() on (0,) -/
def c_189_1_1 (n : Nat) (K0 : Int32 → Int32 → FI → FL → Option (Int32 × FI × FL)) (x1 : Int32) (x2 : Int32) (I : FI) (L : FL) : Option (Int32 × FI × FL) :=
  K0 x1 (x2 + (1 : Int32)) I L
set_option maxHeartbeats 1000000 in
theorem tc_189_1_1 (Ls : Nat) (xs : Nat → Int32) (d : Nat) (nh : Option Nat) (rh : Option Nat) (n : Nat) (K0 : Int32 → Int32 → FI → FL → Option (Int32 × FI × FL)) (hK0 : ∀ (x1 : Int32) (x2 : Int32) (I : FI) (L : FL) (r : Int32 × FI × FL), K0 x1 x2 I L = some r → Bs cd_189 (sf 11 rs_11 false 3 (some (.int)) Ls xs (d + 5)) (4, [some (.ref 0), some (.int x1), some (.int x2)], [], hp (some 114) nh rh TK (RK (some 3)) I L) (some (.int r.1), hp (some 114) nh rh TK (RK (some 3)) r.2.1 r.2.2)) (x1 : Int32) (x2 : Int32) (I : FI) (L : FL) (r : Int32 × FI × FL) (hf : c_189_1_1 n K0 x1 x2 I L = some r) : Bs cd_189 (sf 11 rs_11 false 3 (some (.int)) Ls xs (d + 5)) (57, [some (.ref 0), some (.int x1), some (.int x2)], [], hp (some 114) nh rh TK (RK (some 3)) I L) (some (.int r.1), hp (some 114) nh rh TK (RK (some 3)) r.2.1 r.2.2) := by
  unfold c_189_1_1 at hf
  refine bs_st 2 (x' := (4, [some (.ref 0), some (.int x1), some (.int (x2 + (1 : Int32)))], [], hp (some 114) nh rh TK (RK (some 3)) I L)) rfl ?_
  exact hK0 x1 (x2 + (1 : Int32)) I L r hf
def b_189_1_0 (n : Nat) (K0 : Int32 → Int32 → FI → FL → Option (Int32 × FI × FL)) (x1 : Int32) (x2 : Int32) (I : FI) (L : FL) : Option (Int32 × FI × FL) :=
  (f_24 I L).bind fun q0 =>
  if q0 < x2 then
    some (x1, I, L)
  else
    (f_25_1 n x2 I L).bind fun q1 =>
    (f_25_1 n x1 I L).bind fun q2 =>
    if q1 ≤ q2 then
      c_189_1_1 n K0 x1 x2 I L
    else
      (f_23 I L).bind fun q3 =>
      (f_187 I L).bind fun q4 =>
      (f_32 n x2 q4.1 q4.2).bind fun q5 =>
      (f_188 q3 q5.1 q5.2.1 q5.2.2).bind fun q6 =>
      if q6 = 0 then
        c_189_1_1 n K0 x1 x2 q5.2.1 q5.2.2
      else
        c_189_1_1 n K0 x2 x2 q5.2.1 q5.2.2
def c_189_1_0 (n : Nat) : Nat → Int32 → Int32 → FI → FL → Option (Int32 × FI × FL)
  | 0, _, _, _, _ => none
  | m + 1, x1, x2, I, L => b_189_1_0 n (c_189_1_0 n m) x1 x2 I L
set_option maxHeartbeats 1000000 in
theorem tc_189_1_0 (Ls : Nat) (xs : Nat → Int32) (d : Nat) (nh : Option Nat) (rh : Option Nat) (n : Nat) : ∀ (m : Nat) (x1 : Int32) (x2 : Int32) (I : FI) (L : FL) (r : Int32 × FI × FL), c_189_1_0 n m x1 x2 I L = some r → Bs cd_189 (sf 11 rs_11 false 3 (some (.int)) Ls xs (d + 5)) (4, [some (.ref 0), some (.int x1), some (.int x2)], [], hp (some 114) nh rh TK (RK (some 3)) I L) (some (.int r.1), hp (some 114) nh rh TK (RK (some 3)) r.2.1 r.2.2)
  | 0, x1, x2, I, L, r, hf => by cases hf
  | m + 1, x1, x2, I, L, r, hf => by
    unfold c_189_1_0 b_189_1_0 at hf
    have hK0 := tc_189_1_0 Ls xs d nh rh n m
    refine bs_st 3 (x' := (9, [some (.ref 0), some (.int x1), some (.int x2)], [.ref 3, .int x2], hp (some 114) nh rh TK (RK (some 3)) I L)) rfl ?_
    obtain ⟨q0, hq0, hf⟩ := Option.bind_eq_some_iff.mp hf
    refine bs_call (o := pEN Ls xs (d + 5) 24 [.ref 3] (hp (some 114) nh rh TK (RK (some 3)) I L)) (w := some (.int q0)) (h' := hp (some 114) nh rh TK (RK (some 3)) I L) (pc := 12) (lo := [some (.ref 0), some (.int x1), some (.int x2)]) (rest := [.int x2]) rfl (t_24 Ls xs (d + 4) (some 114) TK (RK (some 3)) nh rh I L q0 hq0) ?_
    refine bs_br (t := 63) (e := 15) (lo := [some (.ref 0), some (.int x1), some (.int x2)]) (st := []) (h := hp (some 114) nh rh TK (RK (some 3)) I L) rfl hf (fun hc hf => ?_) (fun hc hf => ?_)
    · refine bs_st 1 (x' := (64, [some (.ref 0), some (.int x1), some (.int x2)], [.int x1], hp (some 114) nh rh TK (RK (some 3)) I L)) rfl ?_
      cases hf
      exact bs_ret rfl
    · refine bs_st 3 (x' := (20, [some (.ref 0), some (.int x1), some (.int x2)], [.int x2, .ref 3], hp (some 114) nh rh TK (RK (some 3)) I L)) rfl ?_
      obtain ⟨q1, hq1, hf⟩ := Option.bind_eq_some_iff.mp hf
      refine bs_call (o := pEN Ls xs (d + 5) 25 [.ref 3, .int x2] (hp (some 114) nh rh TK (RK (some 3)) I L)) (w := some (.int q1)) (h' := hp (some 114) nh rh TK (RK (some 3)) I L) (pc := 23) (lo := [some (.ref 0), some (.int x1), some (.int x2)]) (rest := []) rfl (t_25_1 Ls xs (d + 4) (some 114) TK (RK (some 3)) nh rh n x2 I L q1 hq1) ?_
      refine bs_st 3 (x' := (28, [some (.ref 0), some (.int x1), some (.int x2)], [.int x1, .ref 3, .int q1], hp (some 114) nh rh TK (RK (some 3)) I L)) rfl ?_
      obtain ⟨q2, hq2, hf⟩ := Option.bind_eq_some_iff.mp hf
      refine bs_call (o := pEN Ls xs (d + 5) 25 [.ref 3, .int x1] (hp (some 114) nh rh TK (RK (some 3)) I L)) (w := some (.int q2)) (h' := hp (some 114) nh rh TK (RK (some 3)) I L) (pc := 31) (lo := [some (.ref 0), some (.int x1), some (.int x2)]) (rest := [.int q1]) rfl (t_25_1 Ls xs (d + 4) (some 114) TK (RK (some 3)) nh rh n x1 I L q2 hq2) ?_
      refine bs_br (t := 57) (e := 34) (lo := [some (.ref 0), some (.int x1), some (.int x2)]) (st := []) (h := hp (some 114) nh rh TK (RK (some 3)) I L) rfl hf (fun hc hf => ?_) (fun hc hf => ?_)
      · exact tc_189_1_1 Ls xs d nh rh n _ hK0 x1 x2 I L r hf
      · refine bs_st 2 (x' := (38, [some (.ref 0), some (.int x1), some (.int x2)], [.ref 3], hp (some 114) nh rh TK (RK (some 3)) I L)) rfl ?_
        obtain ⟨q3, hq3, hf⟩ := Option.bind_eq_some_iff.mp hf
        refine bs_call (o := pEN Ls xs (d + 5) 23 [.ref 3] (hp (some 114) nh rh TK (RK (some 3)) I L)) (w := some (.int q3)) (h' := hp (some 114) nh rh TK (RK (some 3)) I L) (pc := 41) (lo := [some (.ref 0), some (.int x1), some (.int x2)]) (rest := []) rfl (t_23 Ls xs (d + 4) (some 114) TK (RK (some 3)) nh rh I L q3 hq3) ?_
        refine bs_st 1 (x' := (42, [some (.ref 0), some (.int x1), some (.int x2)], [.ref 0, .int q3], hp (some 114) nh rh TK (RK (some 3)) I L)) rfl ?_
        obtain ⟨q4, hq4, hf⟩ := Option.bind_eq_some_iff.mp hf
        refine bs_call (o := pEN Ls xs (d + 5) 187 [.ref 0] (hp (some 114) nh rh TK (RK (some 3)) I L)) (w := some (.ref 114)) (h' := hp (some 114) nh rh TK (RK (some 3)) q4.1 q4.2) (pc := 45) (lo := [some (.ref 0), some (.int x1), some (.int x2)]) (rest := [.int q3]) rfl (t_187 Ls xs (d + 4) nh rh I L q4 hq4) ?_
        refine bs_st 1 (x' := (46, [some (.ref 0), some (.int x1), some (.int x2)], [.int x2, .ref 114, .int q3], hp (some 114) nh rh TK (RK (some 3)) q4.1 q4.2)) rfl ?_
        obtain ⟨q5, hq5, hf⟩ := Option.bind_eq_some_iff.mp hf
        refine bs_call (o := pEN Ls xs (d + 5) 32 [.ref 114, .int x2] (hp (some 114) nh rh TK (RK (some 3)) q4.1 q4.2)) (w := some (.int q5.1)) (h' := hp (some 114) nh rh TK (RK (some 3)) q5.2.1 q5.2.2) (pc := 49) (lo := [some (.ref 0), some (.int x1), some (.int x2)]) (rest := [.int q3]) rfl (t_32 Ls xs (d + 0) nh rh n x2 q4.1 q4.2 q5 hq5) ?_
        obtain ⟨q6, hq6, hf⟩ := Option.bind_eq_some_iff.mp hf
        refine bs_call (o := pEN Ls xs (d + 5) 188 [.int q3, .int q5.1] (hp (some 114) nh rh TK (RK (some 3)) q5.2.1 q5.2.2)) (w := some (.int q6)) (h' := hp (some 114) nh rh TK (RK (some 3)) q5.2.1 q5.2.2) (pc := 52) (lo := [some (.ref 0), some (.int x1), some (.int x2)]) (rest := []) rfl (t_188 Ls xs (d + 4) (some 114) TK (RK (some 3)) nh rh q3 q5.1 q5.2.1 q5.2.2 q6 hq6) ?_
        refine bs_br (t := 57) (e := 55) (lo := [some (.ref 0), some (.int x1), some (.int x2)]) (st := []) (h := hp (some 114) nh rh TK (RK (some 3)) q5.2.1 q5.2.2) rfl hf (fun hc hf => ?_) (fun hc hf => ?_)
        · exact tc_189_1_1 Ls xs d nh rh n _ hK0 x1 x2 q5.2.1 q5.2.2 r hf
        · refine bs_st 2 (x' := (57, [some (.ref 0), some (.int x2), some (.int x2)], [], hp (some 114) nh rh TK (RK (some 3)) q5.2.1 q5.2.2)) rfl ?_
          exact tc_189_1_1 Ls xs d nh rh n _ hK0 x2 x2 q5.2.1 q5.2.2 r hf
def f_189_1 (n : Nat) (I : FI) (L : FL) : Option (Int32 × FI × FL) :=
  c_189_1_0 n n (0 : Int32) (1 : Int32) I L
set_option maxHeartbeats 1000000 in
theorem t_189_1 (Ls : Nat) (xs : Nat → Int32) (d : Nat) (nh : Option Nat) (rh : Option Nat) (n : Nat) (I : FI) (L : FL) (r : Int32 × FI × FL) (hf : f_189_1 n I L = some r) : pEN Ls xs (d + 6) 189 [.ref 0] (hp (some 114) nh rh TK (RK (some 3)) I L) = some (some (.int r.1), hp (some 114) nh rh TK (RK (some 3)) r.2.1 r.2.2) := by
  refine en_run (d := d + 5) (cd := cd_189) (f := (sf 11 rs_11 false 3 (some (.int)) Ls xs (d + 5))) rfl rfl (x := (0, [some (.ref 0), none, none], [], hp (some 114) nh rh TK (RK (some 3)) I L)) rfl rfl (Nat.le_of_ble_eq_true rfl) ?_
  unfold f_189_1 at hf
  refine bs_st 4 (x' := (4, [some (.ref 0), some (.int (0 : Int32)), some (.int (1 : Int32))], [], hp (some 114) nh rh TK (RK (some 3)) I L)) rfl ?_
  exact tc_189_1_0 Ls xs d nh rh n n (0 : Int32) (1 : Int32) I L r hf
/-- LampRounds.most() on (0,) -/
def f_144_1 (n : Nat) (I : FI) (L : FL) : Option (Int32 × FI × FL) :=
  (f_177 I L).bind fun q0 =>
  if q0 = 0 then
    some ((-2 : Int32), I, L)
  else
    (f_189_1 n I L).bind fun q1 =>
    (f_25_1 n q1.1 q1.2.1 q1.2.2).bind fun q2 =>
    some (q2, q1.2.1, q1.2.2)
set_option maxHeartbeats 1000000 in
theorem t_144_1 (Ls : Nat) (xs : Nat → Int32) (d : Nat) (nh : Option Nat) (rh : Option Nat) (n : Nat) (I : FI) (L : FL) (r : Int32 × FI × FL) (hf : f_144_1 n I L = some r) : pEN Ls xs (d + 7) 144 [.ref 0] (hp (some 114) nh rh TK (RK (some 3)) I L) = some (some (.int r.1), hp (some 114) nh rh TK (RK (some 3)) r.2.1 r.2.2) := by
  refine en_run (d := d + 6) (cd := cd_144) (f := (sf 11 rs_11 false 1 (some (.int)) Ls xs (d + 6))) rfl rfl (x := (0, [some (.ref 0)], [], hp (some 114) nh rh TK (RK (some 3)) I L)) rfl rfl (Nat.le_of_ble_eq_true rfl) ?_
  unfold f_144_1 at hf
  refine bs_st 1 (x' := (1, [some (.ref 0)], [.ref 0], hp (some 114) nh rh TK (RK (some 3)) I L)) rfl ?_
  obtain ⟨q0, hq0, hf⟩ := Option.bind_eq_some_iff.mp hf
  refine bs_call (o := pEN Ls xs (d + 6) 177 [.ref 0] (hp (some 114) nh rh TK (RK (some 3)) I L)) (w := some (.int q0)) (h' := hp (some 114) nh rh TK (RK (some 3)) I L) (pc := 4) (lo := [some (.ref 0)]) (rest := []) rfl (t_177 Ls xs (d + 5) (some 114) TK (RK (some 3)) nh rh I L q0 hq0) ?_
  refine bs_br (t := 21) (e := 7) (lo := [some (.ref 0)]) (st := []) (h := hp (some 114) nh rh TK (RK (some 3)) I L) rfl hf (fun hc hf => ?_) (fun hc hf => ?_)
  · refine bs_st 1 (x' := (23, [some (.ref 0)], [.int (-2 : Int32)], hp (some 114) nh rh TK (RK (some 3)) I L)) rfl ?_
    cases hf
    exact bs_ret rfl
  · refine bs_st 3 (x' := (12, [some (.ref 0)], [.ref 0, .ref 3], hp (some 114) nh rh TK (RK (some 3)) I L)) rfl ?_
    obtain ⟨q1, hq1, hf⟩ := Option.bind_eq_some_iff.mp hf
    refine bs_call (o := pEN Ls xs (d + 6) 189 [.ref 0] (hp (some 114) nh rh TK (RK (some 3)) I L)) (w := some (.int q1.1)) (h' := hp (some 114) nh rh TK (RK (some 3)) q1.2.1 q1.2.2) (pc := 15) (lo := [some (.ref 0)]) (rest := [.ref 3]) rfl (t_189_1 Ls xs (d + 0) nh rh n I L q1 hq1) ?_
    obtain ⟨q2, hq2, hf⟩ := Option.bind_eq_some_iff.mp hf
    refine bs_call (o := pEN Ls xs (d + 6) 25 [.ref 3, .int q1.1] (hp (some 114) nh rh TK (RK (some 3)) q1.2.1 q1.2.2)) (w := some (.int q2)) (h' := hp (some 114) nh rh TK (RK (some 3)) q1.2.1 q1.2.2) (pc := 18) (lo := [some (.ref 0)]) (rest := []) rfl (t_25_1 Ls xs (d + 5) (some 114) TK (RK (some 3)) nh rh n q1.1 q1.2.1 q1.2.2 q2 hq2) ?_
    refine bs_st 1 (x' := (23, [some (.ref 0)], [.int q2], hp (some 114) nh rh TK (RK (some 3)) q1.2.1 q1.2.2)) rfl ?_
    cases hf
    exact bs_ret rfl
/-- LampRounds.saved() on (0,) -/
def f_145 (n : Nat) (I : FI) (L : FL) : Option (Int32 × Bool × FI × FL) :=
  (f_177 I L).bind fun q0 =>
  if q0 = 0 then
    some ((-2 : Int32), false, I, L)
  else
    (f_189 n I L).bind fun q1 =>
    if q1.2.1 = true then
      some (q1.1, true, q1.2.2.1, q1.2.2.2)
    else
      some (q1.1, false, q1.2.2.1, q1.2.2.2)
set_option maxHeartbeats 1000000 in
theorem t_145 (Ls : Nat) (xs : Nat → Int32) (d : Nat) (nh : Option Nat) (rh : Option Nat) (n : Nat) (I : FI) (L : FL) (r : Int32 × Bool × FI × FL) (hf : f_145 n I L = some r) : pEN Ls xs (d + 8) 145 [.ref 0] (hp none nh rh [] [] I L) = some (some (.int r.1), hw r.2.1 nh rh r.2.2.1 r.2.2.2) := by
  refine en_run (d := d + 7) (cd := cd_145) (f := (sf 11 rs_11 false 1 (some (.int)) Ls xs (d + 7))) rfl rfl (x := (0, [some (.ref 0)], [], hp none nh rh [] [] I L)) rfl rfl (Nat.le_of_ble_eq_true rfl) ?_
  unfold f_145 at hf
  refine bs_st 1 (x' := (1, [some (.ref 0)], [.ref 0], hp none nh rh [] [] I L)) rfl ?_
  obtain ⟨q0, hq0, hf⟩ := Option.bind_eq_some_iff.mp hf
  refine bs_call (o := pEN Ls xs (d + 7) 177 [.ref 0] (hp none nh rh [] [] I L)) (w := some (.int q0)) (h' := hp none nh rh [] [] I L) (pc := 4) (lo := [some (.ref 0)]) (rest := []) rfl (t_177 Ls xs (d + 6) none [] [] nh rh I L q0 hq0) ?_
  refine bs_br (t := 14) (e := 7) (lo := [some (.ref 0)]) (st := []) (h := hp none nh rh [] [] I L) rfl hf (fun hc hf => ?_) (fun hc hf => ?_)
  · refine bs_st 1 (x' := (16, [some (.ref 0)], [.int (-2 : Int32)], hp none nh rh [] [] I L)) rfl ?_
    cases hf
    exact bs_ret rfl
  · refine bs_st 1 (x' := (8, [some (.ref 0)], [.ref 0], hp none nh rh [] [] I L)) rfl ?_
    obtain ⟨q1, hq1, hf⟩ := Option.bind_eq_some_iff.mp hf
    refine bs_cs hf (fun hb hf => ?_) (fun hb hf => ?_)
    · refine bs_call (o := pEN Ls xs (d + 7) 189 [.ref 0] (hp none nh rh [] [] I L)) (w := some (.int q1.1)) (h' := hp (some 114) nh rh TK (RK (some 3)) q1.2.2.1 q1.2.2.2) (pc := 11) (lo := [some (.ref 0)]) (rest := []) rfl ((t_189 Ls xs (d + 0) nh rh n I L q1 hq1).trans (by rw [hb]; rfl)) ?_
      refine bs_st 1 (x' := (16, [some (.ref 0)], [.int q1.1], hp (some 114) nh rh TK (RK (some 3)) q1.2.2.1 q1.2.2.2)) rfl ?_
      cases hf
      exact bs_ret rfl
    · refine bs_call (o := pEN Ls xs (d + 7) 189 [.ref 0] (hp none nh rh [] [] I L)) (w := some (.int q1.1)) (h' := hp none nh rh [] [] q1.2.2.1 q1.2.2.2) (pc := 11) (lo := [some (.ref 0)]) (rest := []) rfl ((t_189 Ls xs (d + 0) nh rh n I L q1 hq1).trans (by rw [Bool.not_eq_true] at hb; rw [hb]; rfl)) ?_
      refine bs_st 1 (x' := (16, [some (.ref 0)], [.int q1.1], hp none nh rh [] [] q1.2.2.1 q1.2.2.2)) rfl ?_
      cases hf
      exact bs_ret rfl
/-- LampRounds.saved() on (0,) -/
def f_145_1 (n : Nat) (I : FI) (L : FL) : Option (Int32 × FI × FL) :=
  (f_177 I L).bind fun q0 =>
  if q0 = 0 then
    some ((-2 : Int32), I, L)
  else
    (f_189_1 n I L).bind fun q1 =>
    some (q1.1, q1.2.1, q1.2.2)
set_option maxHeartbeats 1000000 in
theorem t_145_1 (Ls : Nat) (xs : Nat → Int32) (d : Nat) (nh : Option Nat) (rh : Option Nat) (n : Nat) (I : FI) (L : FL) (r : Int32 × FI × FL) (hf : f_145_1 n I L = some r) : pEN Ls xs (d + 7) 145 [.ref 0] (hp (some 114) nh rh TK (RK (some 3)) I L) = some (some (.int r.1), hp (some 114) nh rh TK (RK (some 3)) r.2.1 r.2.2) := by
  refine en_run (d := d + 6) (cd := cd_145) (f := (sf 11 rs_11 false 1 (some (.int)) Ls xs (d + 6))) rfl rfl (x := (0, [some (.ref 0)], [], hp (some 114) nh rh TK (RK (some 3)) I L)) rfl rfl (Nat.le_of_ble_eq_true rfl) ?_
  unfold f_145_1 at hf
  refine bs_st 1 (x' := (1, [some (.ref 0)], [.ref 0], hp (some 114) nh rh TK (RK (some 3)) I L)) rfl ?_
  obtain ⟨q0, hq0, hf⟩ := Option.bind_eq_some_iff.mp hf
  refine bs_call (o := pEN Ls xs (d + 6) 177 [.ref 0] (hp (some 114) nh rh TK (RK (some 3)) I L)) (w := some (.int q0)) (h' := hp (some 114) nh rh TK (RK (some 3)) I L) (pc := 4) (lo := [some (.ref 0)]) (rest := []) rfl (t_177 Ls xs (d + 5) (some 114) TK (RK (some 3)) nh rh I L q0 hq0) ?_
  refine bs_br (t := 14) (e := 7) (lo := [some (.ref 0)]) (st := []) (h := hp (some 114) nh rh TK (RK (some 3)) I L) rfl hf (fun hc hf => ?_) (fun hc hf => ?_)
  · refine bs_st 1 (x' := (16, [some (.ref 0)], [.int (-2 : Int32)], hp (some 114) nh rh TK (RK (some 3)) I L)) rfl ?_
    cases hf
    exact bs_ret rfl
  · refine bs_st 1 (x' := (8, [some (.ref 0)], [.ref 0], hp (some 114) nh rh TK (RK (some 3)) I L)) rfl ?_
    obtain ⟨q1, hq1, hf⟩ := Option.bind_eq_some_iff.mp hf
    refine bs_call (o := pEN Ls xs (d + 6) 189 [.ref 0] (hp (some 114) nh rh TK (RK (some 3)) I L)) (w := some (.int q1.1)) (h' := hp (some 114) nh rh TK (RK (some 3)) q1.2.1 q1.2.2) (pc := 11) (lo := [some (.ref 0)]) (rest := []) rfl (t_189_1 Ls xs (d + 0) nh rh n I L q1 hq1) ?_
    refine bs_st 1 (x' := (16, [some (.ref 0)], [.int q1.1], hp (some 114) nh rh TK (RK (some 3)) q1.2.1 q1.2.2)) rfl ?_
    cases hf
    exact bs_ret rfl
/-- java/lang/Integer.bitCount(I) on () -/
def f_360 (x0 : Int32) (I : FI) (L : FL) : Option (Int32) :=
  some (((((((((x0 - (((x0.toUInt32 >>> ((1 : Int32).toUInt32 &&& Int32.toUInt32 31)).toInt32) &&& (1431655765 : Int32))) &&& (858993459 : Int32)) + ((((x0 - (((x0.toUInt32 >>> ((1 : Int32).toUInt32 &&& Int32.toUInt32 31)).toInt32) &&& (1431655765 : Int32))).toUInt32 >>> ((2 : Int32).toUInt32 &&& Int32.toUInt32 31)).toInt32) &&& (858993459 : Int32))) + (((((x0 - (((x0.toUInt32 >>> ((1 : Int32).toUInt32 &&& Int32.toUInt32 31)).toInt32) &&& (1431655765 : Int32))) &&& (858993459 : Int32)) + ((((x0 - (((x0.toUInt32 >>> ((1 : Int32).toUInt32 &&& Int32.toUInt32 31)).toInt32) &&& (1431655765 : Int32))).toUInt32 >>> ((2 : Int32).toUInt32 &&& Int32.toUInt32 31)).toInt32) &&& (858993459 : Int32))).toUInt32 >>> ((4 : Int32).toUInt32 &&& Int32.toUInt32 31)).toInt32)) &&& (252645135 : Int32)) + (((((((x0 - (((x0.toUInt32 >>> ((1 : Int32).toUInt32 &&& Int32.toUInt32 31)).toInt32) &&& (1431655765 : Int32))) &&& (858993459 : Int32)) + ((((x0 - (((x0.toUInt32 >>> ((1 : Int32).toUInt32 &&& Int32.toUInt32 31)).toInt32) &&& (1431655765 : Int32))).toUInt32 >>> ((2 : Int32).toUInt32 &&& Int32.toUInt32 31)).toInt32) &&& (858993459 : Int32))) + (((((x0 - (((x0.toUInt32 >>> ((1 : Int32).toUInt32 &&& Int32.toUInt32 31)).toInt32) &&& (1431655765 : Int32))) &&& (858993459 : Int32)) + ((((x0 - (((x0.toUInt32 >>> ((1 : Int32).toUInt32 &&& Int32.toUInt32 31)).toInt32) &&& (1431655765 : Int32))).toUInt32 >>> ((2 : Int32).toUInt32 &&& Int32.toUInt32 31)).toInt32) &&& (858993459 : Int32))).toUInt32 >>> ((4 : Int32).toUInt32 &&& Int32.toUInt32 31)).toInt32)) &&& (252645135 : Int32)).toUInt32 >>> ((8 : Int32).toUInt32 &&& Int32.toUInt32 31)).toInt32)) + ((((((((x0 - (((x0.toUInt32 >>> ((1 : Int32).toUInt32 &&& Int32.toUInt32 31)).toInt32) &&& (1431655765 : Int32))) &&& (858993459 : Int32)) + ((((x0 - (((x0.toUInt32 >>> ((1 : Int32).toUInt32 &&& Int32.toUInt32 31)).toInt32) &&& (1431655765 : Int32))).toUInt32 >>> ((2 : Int32).toUInt32 &&& Int32.toUInt32 31)).toInt32) &&& (858993459 : Int32))) + (((((x0 - (((x0.toUInt32 >>> ((1 : Int32).toUInt32 &&& Int32.toUInt32 31)).toInt32) &&& (1431655765 : Int32))) &&& (858993459 : Int32)) + ((((x0 - (((x0.toUInt32 >>> ((1 : Int32).toUInt32 &&& Int32.toUInt32 31)).toInt32) &&& (1431655765 : Int32))).toUInt32 >>> ((2 : Int32).toUInt32 &&& Int32.toUInt32 31)).toInt32) &&& (858993459 : Int32))).toUInt32 >>> ((4 : Int32).toUInt32 &&& Int32.toUInt32 31)).toInt32)) &&& (252645135 : Int32)) + (((((((x0 - (((x0.toUInt32 >>> ((1 : Int32).toUInt32 &&& Int32.toUInt32 31)).toInt32) &&& (1431655765 : Int32))) &&& (858993459 : Int32)) + ((((x0 - (((x0.toUInt32 >>> ((1 : Int32).toUInt32 &&& Int32.toUInt32 31)).toInt32) &&& (1431655765 : Int32))).toUInt32 >>> ((2 : Int32).toUInt32 &&& Int32.toUInt32 31)).toInt32) &&& (858993459 : Int32))) + (((((x0 - (((x0.toUInt32 >>> ((1 : Int32).toUInt32 &&& Int32.toUInt32 31)).toInt32) &&& (1431655765 : Int32))) &&& (858993459 : Int32)) + ((((x0 - (((x0.toUInt32 >>> ((1 : Int32).toUInt32 &&& Int32.toUInt32 31)).toInt32) &&& (1431655765 : Int32))).toUInt32 >>> ((2 : Int32).toUInt32 &&& Int32.toUInt32 31)).toInt32) &&& (858993459 : Int32))).toUInt32 >>> ((4 : Int32).toUInt32 &&& Int32.toUInt32 31)).toInt32)) &&& (252645135 : Int32)).toUInt32 >>> ((8 : Int32).toUInt32 &&& Int32.toUInt32 31)).toInt32)).toUInt32 >>> ((16 : Int32).toUInt32 &&& Int32.toUInt32 31)).toInt32)) &&& (63 : Int32)))
set_option maxHeartbeats 1000000 in
theorem t_360 (Ls : Nat) (xs : Nat → Int32) (d : Nat) (kp : Option Nat) (tl : List (Nat × Nat)) (rl : List (List (Option Nat))) (nh : Option Nat) (rh : Option Nat) (x0 : Int32) (I : FI) (L : FL) (r : Int32) (hf : f_360 x0 I L = some r) : pEN Ls xs (d + 1) 360 [.int x0] (hp kp nh rh tl rl I L) = some (some (.int r), hp kp nh rh tl rl I L) := by
  refine en_run (d := d + 0) (cd := cd_360) (f := (sf 15 rs_15 false 1 (some (.int)) Ls xs (d + 0))) rfl rfl (x := (0, [some (.int x0)], [], hp kp nh rh tl rl I L)) rfl rfl (Nat.le_of_ble_eq_true rfl) ?_
  unfold f_360 at hf
  refine bs_st 41 (x' := (52, [some (.int (((((((x0 - (((x0.toUInt32 >>> ((1 : Int32).toUInt32 &&& Int32.toUInt32 31)).toInt32) &&& (1431655765 : Int32))) &&& (858993459 : Int32)) + ((((x0 - (((x0.toUInt32 >>> ((1 : Int32).toUInt32 &&& Int32.toUInt32 31)).toInt32) &&& (1431655765 : Int32))).toUInt32 >>> ((2 : Int32).toUInt32 &&& Int32.toUInt32 31)).toInt32) &&& (858993459 : Int32))) + (((((x0 - (((x0.toUInt32 >>> ((1 : Int32).toUInt32 &&& Int32.toUInt32 31)).toInt32) &&& (1431655765 : Int32))) &&& (858993459 : Int32)) + ((((x0 - (((x0.toUInt32 >>> ((1 : Int32).toUInt32 &&& Int32.toUInt32 31)).toInt32) &&& (1431655765 : Int32))).toUInt32 >>> ((2 : Int32).toUInt32 &&& Int32.toUInt32 31)).toInt32) &&& (858993459 : Int32))).toUInt32 >>> ((4 : Int32).toUInt32 &&& Int32.toUInt32 31)).toInt32)) &&& (252645135 : Int32)) + (((((((x0 - (((x0.toUInt32 >>> ((1 : Int32).toUInt32 &&& Int32.toUInt32 31)).toInt32) &&& (1431655765 : Int32))) &&& (858993459 : Int32)) + ((((x0 - (((x0.toUInt32 >>> ((1 : Int32).toUInt32 &&& Int32.toUInt32 31)).toInt32) &&& (1431655765 : Int32))).toUInt32 >>> ((2 : Int32).toUInt32 &&& Int32.toUInt32 31)).toInt32) &&& (858993459 : Int32))) + (((((x0 - (((x0.toUInt32 >>> ((1 : Int32).toUInt32 &&& Int32.toUInt32 31)).toInt32) &&& (1431655765 : Int32))) &&& (858993459 : Int32)) + ((((x0 - (((x0.toUInt32 >>> ((1 : Int32).toUInt32 &&& Int32.toUInt32 31)).toInt32) &&& (1431655765 : Int32))).toUInt32 >>> ((2 : Int32).toUInt32 &&& Int32.toUInt32 31)).toInt32) &&& (858993459 : Int32))).toUInt32 >>> ((4 : Int32).toUInt32 &&& Int32.toUInt32 31)).toInt32)) &&& (252645135 : Int32)).toUInt32 >>> ((8 : Int32).toUInt32 &&& Int32.toUInt32 31)).toInt32)) + ((((((((x0 - (((x0.toUInt32 >>> ((1 : Int32).toUInt32 &&& Int32.toUInt32 31)).toInt32) &&& (1431655765 : Int32))) &&& (858993459 : Int32)) + ((((x0 - (((x0.toUInt32 >>> ((1 : Int32).toUInt32 &&& Int32.toUInt32 31)).toInt32) &&& (1431655765 : Int32))).toUInt32 >>> ((2 : Int32).toUInt32 &&& Int32.toUInt32 31)).toInt32) &&& (858993459 : Int32))) + (((((x0 - (((x0.toUInt32 >>> ((1 : Int32).toUInt32 &&& Int32.toUInt32 31)).toInt32) &&& (1431655765 : Int32))) &&& (858993459 : Int32)) + ((((x0 - (((x0.toUInt32 >>> ((1 : Int32).toUInt32 &&& Int32.toUInt32 31)).toInt32) &&& (1431655765 : Int32))).toUInt32 >>> ((2 : Int32).toUInt32 &&& Int32.toUInt32 31)).toInt32) &&& (858993459 : Int32))).toUInt32 >>> ((4 : Int32).toUInt32 &&& Int32.toUInt32 31)).toInt32)) &&& (252645135 : Int32)) + (((((((x0 - (((x0.toUInt32 >>> ((1 : Int32).toUInt32 &&& Int32.toUInt32 31)).toInt32) &&& (1431655765 : Int32))) &&& (858993459 : Int32)) + ((((x0 - (((x0.toUInt32 >>> ((1 : Int32).toUInt32 &&& Int32.toUInt32 31)).toInt32) &&& (1431655765 : Int32))).toUInt32 >>> ((2 : Int32).toUInt32 &&& Int32.toUInt32 31)).toInt32) &&& (858993459 : Int32))) + (((((x0 - (((x0.toUInt32 >>> ((1 : Int32).toUInt32 &&& Int32.toUInt32 31)).toInt32) &&& (1431655765 : Int32))) &&& (858993459 : Int32)) + ((((x0 - (((x0.toUInt32 >>> ((1 : Int32).toUInt32 &&& Int32.toUInt32 31)).toInt32) &&& (1431655765 : Int32))).toUInt32 >>> ((2 : Int32).toUInt32 &&& Int32.toUInt32 31)).toInt32) &&& (858993459 : Int32))).toUInt32 >>> ((4 : Int32).toUInt32 &&& Int32.toUInt32 31)).toInt32)) &&& (252645135 : Int32)).toUInt32 >>> ((8 : Int32).toUInt32 &&& Int32.toUInt32 31)).toInt32)).toUInt32 >>> ((16 : Int32).toUInt32 &&& Int32.toUInt32 31)).toInt32)))], [.int ((((((((x0 - (((x0.toUInt32 >>> ((1 : Int32).toUInt32 &&& Int32.toUInt32 31)).toInt32) &&& (1431655765 : Int32))) &&& (858993459 : Int32)) + ((((x0 - (((x0.toUInt32 >>> ((1 : Int32).toUInt32 &&& Int32.toUInt32 31)).toInt32) &&& (1431655765 : Int32))).toUInt32 >>> ((2 : Int32).toUInt32 &&& Int32.toUInt32 31)).toInt32) &&& (858993459 : Int32))) + (((((x0 - (((x0.toUInt32 >>> ((1 : Int32).toUInt32 &&& Int32.toUInt32 31)).toInt32) &&& (1431655765 : Int32))) &&& (858993459 : Int32)) + ((((x0 - (((x0.toUInt32 >>> ((1 : Int32).toUInt32 &&& Int32.toUInt32 31)).toInt32) &&& (1431655765 : Int32))).toUInt32 >>> ((2 : Int32).toUInt32 &&& Int32.toUInt32 31)).toInt32) &&& (858993459 : Int32))).toUInt32 >>> ((4 : Int32).toUInt32 &&& Int32.toUInt32 31)).toInt32)) &&& (252645135 : Int32)) + (((((((x0 - (((x0.toUInt32 >>> ((1 : Int32).toUInt32 &&& Int32.toUInt32 31)).toInt32) &&& (1431655765 : Int32))) &&& (858993459 : Int32)) + ((((x0 - (((x0.toUInt32 >>> ((1 : Int32).toUInt32 &&& Int32.toUInt32 31)).toInt32) &&& (1431655765 : Int32))).toUInt32 >>> ((2 : Int32).toUInt32 &&& Int32.toUInt32 31)).toInt32) &&& (858993459 : Int32))) + (((((x0 - (((x0.toUInt32 >>> ((1 : Int32).toUInt32 &&& Int32.toUInt32 31)).toInt32) &&& (1431655765 : Int32))) &&& (858993459 : Int32)) + ((((x0 - (((x0.toUInt32 >>> ((1 : Int32).toUInt32 &&& Int32.toUInt32 31)).toInt32) &&& (1431655765 : Int32))).toUInt32 >>> ((2 : Int32).toUInt32 &&& Int32.toUInt32 31)).toInt32) &&& (858993459 : Int32))).toUInt32 >>> ((4 : Int32).toUInt32 &&& Int32.toUInt32 31)).toInt32)) &&& (252645135 : Int32)).toUInt32 >>> ((8 : Int32).toUInt32 &&& Int32.toUInt32 31)).toInt32)) + ((((((((x0 - (((x0.toUInt32 >>> ((1 : Int32).toUInt32 &&& Int32.toUInt32 31)).toInt32) &&& (1431655765 : Int32))) &&& (858993459 : Int32)) + ((((x0 - (((x0.toUInt32 >>> ((1 : Int32).toUInt32 &&& Int32.toUInt32 31)).toInt32) &&& (1431655765 : Int32))).toUInt32 >>> ((2 : Int32).toUInt32 &&& Int32.toUInt32 31)).toInt32) &&& (858993459 : Int32))) + (((((x0 - (((x0.toUInt32 >>> ((1 : Int32).toUInt32 &&& Int32.toUInt32 31)).toInt32) &&& (1431655765 : Int32))) &&& (858993459 : Int32)) + ((((x0 - (((x0.toUInt32 >>> ((1 : Int32).toUInt32 &&& Int32.toUInt32 31)).toInt32) &&& (1431655765 : Int32))).toUInt32 >>> ((2 : Int32).toUInt32 &&& Int32.toUInt32 31)).toInt32) &&& (858993459 : Int32))).toUInt32 >>> ((4 : Int32).toUInt32 &&& Int32.toUInt32 31)).toInt32)) &&& (252645135 : Int32)) + (((((((x0 - (((x0.toUInt32 >>> ((1 : Int32).toUInt32 &&& Int32.toUInt32 31)).toInt32) &&& (1431655765 : Int32))) &&& (858993459 : Int32)) + ((((x0 - (((x0.toUInt32 >>> ((1 : Int32).toUInt32 &&& Int32.toUInt32 31)).toInt32) &&& (1431655765 : Int32))).toUInt32 >>> ((2 : Int32).toUInt32 &&& Int32.toUInt32 31)).toInt32) &&& (858993459 : Int32))) + (((((x0 - (((x0.toUInt32 >>> ((1 : Int32).toUInt32 &&& Int32.toUInt32 31)).toInt32) &&& (1431655765 : Int32))) &&& (858993459 : Int32)) + ((((x0 - (((x0.toUInt32 >>> ((1 : Int32).toUInt32 &&& Int32.toUInt32 31)).toInt32) &&& (1431655765 : Int32))).toUInt32 >>> ((2 : Int32).toUInt32 &&& Int32.toUInt32 31)).toInt32) &&& (858993459 : Int32))).toUInt32 >>> ((4 : Int32).toUInt32 &&& Int32.toUInt32 31)).toInt32)) &&& (252645135 : Int32)).toUInt32 >>> ((8 : Int32).toUInt32 &&& Int32.toUInt32 31)).toInt32)).toUInt32 >>> ((16 : Int32).toUInt32 &&& Int32.toUInt32 31)).toInt32)) &&& (63 : Int32))], hp kp nh rh tl rl I L)) rfl ?_
  cases hf
  exact bs_ret rfl
/-- LampRounds.given() on (0,) -/
def c_146_2 (n : Nat) (K0 : Int32 → Int32 → Int32 → FI → FL → Option (Int32 × Bool × FI × FL)) (x1 : Int32) (x2 : Int32) (x3 : Int32) (I : FI) (L : FL) : Option (Int32 × Bool × FI × FL) :=
  K0 x1 x2 (x3 + (1 : Int32)) I L
set_option maxHeartbeats 1000000 in
theorem tc_146_2 (Ls : Nat) (xs : Nat → Int32) (d : Nat) (nh : Option Nat) (rh : Option Nat) (n : Nat) (K0 : Int32 → Int32 → Int32 → FI → FL → Option (Int32 × Bool × FI × FL)) (hK0 : ∀ (w4 : Option Value) (x1 : Int32) (x2 : Int32) (x3 : Int32) (I : FI) (L : FL) (r : Int32 × Bool × FI × FL), K0 x1 x2 x3 I L = some r → Bs cd_146 (sf 11 rs_11 false 5 (some (.int)) Ls xs (d + 6)) (22, [some (.ref 0), some (.int x1), some (.int x2), some (.int x3), w4], [], hp none nh rh [] [] I L) (some (.int r.1), hw r.2.1 nh rh r.2.2.1 r.2.2.2)) (w4 : Option Value) (x1 : Int32) (x2 : Int32) (x3 : Int32) (I : FI) (L : FL) (r : Int32 × Bool × FI × FL) (hf : c_146_2 n K0 x1 x2 x3 I L = some r) : Bs cd_146 (sf 11 rs_11 false 5 (some (.int)) Ls xs (d + 6)) (77, [some (.ref 0), some (.int x1), some (.int x2), some (.int x3), w4], [], hp none nh rh [] [] I L) (some (.int r.1), hw r.2.1 nh rh r.2.2.1 r.2.2.2) := by
  unfold c_146_2 at hf
  refine bs_st 2 (x' := (22, [some (.ref 0), some (.int x1), some (.int x2), some (.int (x3 + (1 : Int32))), w4], [], hp none nh rh [] [] I L)) rfl ?_
  exact hK0 w4 x1 x2 (x3 + (1 : Int32)) I L r hf
def c_146_5 (n : Nat) (K3 : Int32 → Int32 → Int32 → FI → FL → Option (Int32 × Bool × FI × FL)) (x1 : Int32) (x2 : Int32) (x3 : Int32) (s0 : Int32) (I : FI) (L : FL) : Option (Int32 × Bool × FI × FL) :=
  if s0 = 0 then
    K3 x1 x2 x3 I L
  else
    (f_23 I L).bind fun q10 =>
    (f_187 I L).bind fun q11 =>
    (f_32 n (x1 &&& (x3 ^^^ (-1 : Int32))) q11.1 q11.2).bind fun q12 =>
    (f_188 q10 q12.1 q12.2.1 q12.2.2).bind fun q13 =>
    if q13 = 0 then
      K3 x1 x2 x3 q12.2.1 q12.2.2
    else
      K3 x1 x3 x3 q12.2.1 q12.2.2
set_option maxHeartbeats 1000000 in
theorem tc_146_5 (Ls : Nat) (xs : Nat → Int32) (d : Nat) (nh : Option Nat) (rh : Option Nat) (n : Nat) (K3 : Int32 → Int32 → Int32 → FI → FL → Option (Int32 × Bool × FI × FL)) (hK3 : ∀ (w4 : Option Value) (x1 : Int32) (x2 : Int32) (x3 : Int32) (I : FI) (L : FL) (r : Int32 × Bool × FI × FL), K3 x1 x2 x3 I L = some r → Bs cd_146 (sf 11 rs_11 false 5 (some (.int)) Ls xs (d + 6)) (77, [some (.ref 0), some (.int x1), some (.int x2), some (.int x3), w4], [], hp (some 114) nh rh TK (RK (some 3)) I L) (some (.int r.1), hw r.2.1 nh rh r.2.2.1 r.2.2.2)) (w4 : Option Value) (x1 : Int32) (x2 : Int32) (x3 : Int32) (s0 : Int32) (I : FI) (L : FL) (r : Int32 × Bool × FI × FL) (hf : c_146_5 n K3 x1 x2 x3 s0 I L = some r) : Bs cd_146 (sf 11 rs_11 false 5 (some (.int)) Ls xs (d + 6)) (43, [some (.ref 0), some (.int x1), some (.int x2), some (.int x3), w4], [.int s0], hp (some 114) nh rh TK (RK (some 3)) I L) (some (.int r.1), hw r.2.1 nh rh r.2.2.1 r.2.2.2) := by
  unfold c_146_5 at hf
  refine bs_st 2 (x' := (47, [some (.ref 0), some (.int x1), some (.int x2), some (.int x3), some (.int s0)], [.int s0], hp (some 114) nh rh TK (RK (some 3)) I L)) rfl ?_
  refine bs_br (t := 77) (e := 50) (lo := [some (.ref 0), some (.int x1), some (.int x2), some (.int x3), some (.int s0)]) (st := []) (h := hp (some 114) nh rh TK (RK (some 3)) I L) rfl hf (fun hc hf => ?_) (fun hc hf => ?_)
  · exact hK3 (some (.int s0)) x1 x2 x3 I L r hf
  · refine bs_st 2 (x' := (54, [some (.ref 0), some (.int x1), some (.int x2), some (.int x3), some (.int s0)], [.ref 3], hp (some 114) nh rh TK (RK (some 3)) I L)) rfl ?_
    obtain ⟨q10, hq10, hf⟩ := Option.bind_eq_some_iff.mp hf
    refine bs_call (o := pEN Ls xs (d + 6) 23 [.ref 3] (hp (some 114) nh rh TK (RK (some 3)) I L)) (w := some (.int q10)) (h' := hp (some 114) nh rh TK (RK (some 3)) I L) (pc := 57) (lo := [some (.ref 0), some (.int x1), some (.int x2), some (.int x3), some (.int s0)]) (rest := []) rfl (t_23 Ls xs (d + 5) (some 114) TK (RK (some 3)) nh rh I L q10 hq10) ?_
    refine bs_st 1 (x' := (58, [some (.ref 0), some (.int x1), some (.int x2), some (.int x3), some (.int s0)], [.ref 0, .int q10], hp (some 114) nh rh TK (RK (some 3)) I L)) rfl ?_
    obtain ⟨q11, hq11, hf⟩ := Option.bind_eq_some_iff.mp hf
    refine bs_call (o := pEN Ls xs (d + 6) 187 [.ref 0] (hp (some 114) nh rh TK (RK (some 3)) I L)) (w := some (.ref 114)) (h' := hp (some 114) nh rh TK (RK (some 3)) q11.1 q11.2) (pc := 61) (lo := [some (.ref 0), some (.int x1), some (.int x2), some (.int x3), some (.int s0)]) (rest := [.int q10]) rfl (t_187 Ls xs (d + 5) nh rh I L q11 hq11) ?_
    refine bs_st 5 (x' := (66, [some (.ref 0), some (.int x1), some (.int x2), some (.int x3), some (.int s0)], [.int (x1 &&& (x3 ^^^ (-1 : Int32))), .ref 114, .int q10], hp (some 114) nh rh TK (RK (some 3)) q11.1 q11.2)) rfl ?_
    obtain ⟨q12, hq12, hf⟩ := Option.bind_eq_some_iff.mp hf
    refine bs_call (o := pEN Ls xs (d + 6) 32 [.ref 114, .int (x1 &&& (x3 ^^^ (-1 : Int32)))] (hp (some 114) nh rh TK (RK (some 3)) q11.1 q11.2)) (w := some (.int q12.1)) (h' := hp (some 114) nh rh TK (RK (some 3)) q12.2.1 q12.2.2) (pc := 69) (lo := [some (.ref 0), some (.int x1), some (.int x2), some (.int x3), some (.int s0)]) (rest := [.int q10]) rfl (t_32 Ls xs (d + 1) nh rh n (x1 &&& (x3 ^^^ (-1 : Int32))) q11.1 q11.2 q12 hq12) ?_
    obtain ⟨q13, hq13, hf⟩ := Option.bind_eq_some_iff.mp hf
    refine bs_call (o := pEN Ls xs (d + 6) 188 [.int q10, .int q12.1] (hp (some 114) nh rh TK (RK (some 3)) q12.2.1 q12.2.2)) (w := some (.int q13)) (h' := hp (some 114) nh rh TK (RK (some 3)) q12.2.1 q12.2.2) (pc := 72) (lo := [some (.ref 0), some (.int x1), some (.int x2), some (.int x3), some (.int s0)]) (rest := []) rfl (t_188 Ls xs (d + 5) (some 114) TK (RK (some 3)) nh rh q10 q12.1 q12.2.1 q12.2.2 q13 hq13) ?_
    refine bs_br (t := 77) (e := 75) (lo := [some (.ref 0), some (.int x1), some (.int x2), some (.int x3), some (.int s0)]) (st := []) (h := hp (some 114) nh rh TK (RK (some 3)) q12.2.1 q12.2.2) rfl hf (fun hc hf => ?_) (fun hc hf => ?_)
    · exact hK3 (some (.int s0)) x1 x2 x3 q12.2.1 q12.2.2 r hf
    · refine bs_st 2 (x' := (77, [some (.ref 0), some (.int x1), some (.int x3), some (.int x3), some (.int s0)], [], hp (some 114) nh rh TK (RK (some 3)) q12.2.1 q12.2.2)) rfl ?_
      exact hK3 (some (.int s0)) x1 x3 x3 q12.2.1 q12.2.2 r hf
def c_146_4 (n : Nat) (K3 : Int32 → Int32 → Int32 → FI → FL → Option (Int32 × Bool × FI × FL)) (x1 : Int32) (x2 : Int32) (x3 : Int32) (I : FI) (L : FL) : Option (Int32 × Bool × FI × FL) :=
  if x1 < x3 then
    some (x2, true, I, L)
  else
    (f_360 x3 I L).bind fun q8 =>
    (f_360 x2 I L).bind fun q9 =>
    if q9 ≤ q8 then
      c_146_5 n K3 x1 x2 x3 (0 : Int32) I L
    else
      c_146_5 n K3 x1 x2 x3 (1 : Int32) I L
set_option maxHeartbeats 1000000 in
theorem tc_146_4 (Ls : Nat) (xs : Nat → Int32) (d : Nat) (nh : Option Nat) (rh : Option Nat) (n : Nat) (K3 : Int32 → Int32 → Int32 → FI → FL → Option (Int32 × Bool × FI × FL)) (hK3 : ∀ (w4 : Option Value) (x1 : Int32) (x2 : Int32) (x3 : Int32) (I : FI) (L : FL) (r : Int32 × Bool × FI × FL), K3 x1 x2 x3 I L = some r → Bs cd_146 (sf 11 rs_11 false 5 (some (.int)) Ls xs (d + 6)) (77, [some (.ref 0), some (.int x1), some (.int x2), some (.int x3), w4], [], hp (some 114) nh rh TK (RK (some 3)) I L) (some (.int r.1), hw r.2.1 nh rh r.2.2.1 r.2.2.2)) (w4 : Option Value) (x1 : Int32) (x2 : Int32) (x3 : Int32) (I : FI) (L : FL) (r : Int32 × Bool × FI × FL) (hf : c_146_4 n K3 x1 x2 x3 I L = some r) : Bs cd_146 (sf 11 rs_11 false 5 (some (.int)) Ls xs (d + 6)) (22, [some (.ref 0), some (.int x1), some (.int x2), some (.int x3), w4], [], hp (some 114) nh rh TK (RK (some 3)) I L) (some (.int r.1), hw r.2.1 nh rh r.2.2.1 r.2.2.2) := by
  unfold c_146_4 at hf
  refine bs_st 2 (x' := (24, [some (.ref 0), some (.int x1), some (.int x2), some (.int x3), w4], [.int x1, .int x3], hp (some 114) nh rh TK (RK (some 3)) I L)) rfl ?_
  refine bs_br (t := 83) (e := 27) (lo := [some (.ref 0), some (.int x1), some (.int x2), some (.int x3), w4]) (st := []) (h := hp (some 114) nh rh TK (RK (some 3)) I L) rfl hf (fun hc hf => ?_) (fun hc hf => ?_)
  · refine bs_st 1 (x' := (84, [some (.ref 0), some (.int x1), some (.int x2), some (.int x3), w4], [.int x2], hp (some 114) nh rh TK (RK (some 3)) I L)) rfl ?_
    cases hf
    exact bs_ret rfl
  · refine bs_st 1 (x' := (28, [some (.ref 0), some (.int x1), some (.int x2), some (.int x3), w4], [.int x3], hp (some 114) nh rh TK (RK (some 3)) I L)) rfl ?_
    obtain ⟨q8, hq8, hf⟩ := Option.bind_eq_some_iff.mp hf
    refine bs_call (o := pEN Ls xs (d + 6) 360 [.int x3] (hp (some 114) nh rh TK (RK (some 3)) I L)) (w := some (.int q8)) (h' := hp (some 114) nh rh TK (RK (some 3)) I L) (pc := 31) (lo := [some (.ref 0), some (.int x1), some (.int x2), some (.int x3), w4]) (rest := []) rfl (t_360 Ls xs (d + 5) (some 114) TK (RK (some 3)) nh rh x3 I L q8 hq8) ?_
    refine bs_st 1 (x' := (32, [some (.ref 0), some (.int x1), some (.int x2), some (.int x3), w4], [.int x2, .int q8], hp (some 114) nh rh TK (RK (some 3)) I L)) rfl ?_
    obtain ⟨q9, hq9, hf⟩ := Option.bind_eq_some_iff.mp hf
    refine bs_call (o := pEN Ls xs (d + 6) 360 [.int x2] (hp (some 114) nh rh TK (RK (some 3)) I L)) (w := some (.int q9)) (h' := hp (some 114) nh rh TK (RK (some 3)) I L) (pc := 35) (lo := [some (.ref 0), some (.int x1), some (.int x2), some (.int x3), w4]) (rest := [.int q8]) rfl (t_360 Ls xs (d + 5) (some 114) TK (RK (some 3)) nh rh x2 I L q9 hq9) ?_
    refine bs_br (t := 42) (e := 38) (lo := [some (.ref 0), some (.int x1), some (.int x2), some (.int x3), w4]) (st := []) (h := hp (some 114) nh rh TK (RK (some 3)) I L) rfl hf (fun hc hf => ?_) (fun hc hf => ?_)
    · refine bs_st 1 (x' := (43, [some (.ref 0), some (.int x1), some (.int x2), some (.int x3), w4], [.int (0 : Int32)], hp (some 114) nh rh TK (RK (some 3)) I L)) rfl ?_
      exact tc_146_5 Ls xs d nh rh n _ hK3 w4 x1 x2 x3 (0 : Int32) I L r hf
    · refine bs_st 2 (x' := (43, [some (.ref 0), some (.int x1), some (.int x2), some (.int x3), w4], [.int (1 : Int32)], hp (some 114) nh rh TK (RK (some 3)) I L)) rfl ?_
      exact tc_146_5 Ls xs d nh rh n _ hK3 w4 x1 x2 x3 (1 : Int32) I L r hf
def b_146_3 (n : Nat) (K3 : Int32 → Int32 → Int32 → FI → FL → Option (Int32 × Bool × FI × FL)) (x1 : Int32) (x2 : Int32) (x3 : Int32) (I : FI) (L : FL) : Option (Int32 × Bool × FI × FL) :=
  c_146_4 n K3 x1 x2 (x3 + (1 : Int32)) I L
def c_146_3 (n : Nat) : Nat → Int32 → Int32 → Int32 → FI → FL → Option (Int32 × Bool × FI × FL)
  | 0, _, _, _, _, _ => none
  | m + 1, x1, x2, x3, I, L => b_146_3 n (c_146_3 n m) x1 x2 x3 I L
set_option maxHeartbeats 1000000 in
theorem tc_146_3 (Ls : Nat) (xs : Nat → Int32) (d : Nat) (nh : Option Nat) (rh : Option Nat) (n : Nat) : ∀ (m : Nat) (w4 : Option Value) (x1 : Int32) (x2 : Int32) (x3 : Int32) (I : FI) (L : FL) (r : Int32 × Bool × FI × FL), c_146_3 n m x1 x2 x3 I L = some r → Bs cd_146 (sf 11 rs_11 false 5 (some (.int)) Ls xs (d + 6)) (77, [some (.ref 0), some (.int x1), some (.int x2), some (.int x3), w4], [], hp (some 114) nh rh TK (RK (some 3)) I L) (some (.int r.1), hw r.2.1 nh rh r.2.2.1 r.2.2.2)
  | 0, w4, x1, x2, x3, I, L, r, hf => by cases hf
  | m + 1, w4, x1, x2, x3, I, L, r, hf => by
    unfold c_146_3 b_146_3 at hf
    have hK3 := tc_146_3 Ls xs d nh rh n m
    refine bs_st 2 (x' := (22, [some (.ref 0), some (.int x1), some (.int x2), some (.int (x3 + (1 : Int32))), w4], [], hp (some 114) nh rh TK (RK (some 3)) I L)) rfl ?_
    exact tc_146_4 Ls xs d nh rh n _ hK3 w4 x1 x2 (x3 + (1 : Int32)) I L r hf
def c_146_1 (n : Nat) (K0 : Int32 → Int32 → Int32 → FI → FL → Option (Int32 × Bool × FI × FL)) (x1 : Int32) (x2 : Int32) (x3 : Int32) (s0 : Int32) (I : FI) (L : FL) : Option (Int32 × Bool × FI × FL) :=
  if s0 = 0 then
    c_146_2 n K0 x1 x2 x3 I L
  else
    (f_23 I L).bind fun q4 =>
    (f_findA I L).bind fun q5 =>
    (f_32 n (x1 &&& (x3 ^^^ (-1 : Int32))) q5.1 q5.2).bind fun q6 =>
    (f_188 q4 q6.1 q6.2.1 q6.2.2).bind fun q7 =>
    if q7 = 0 then
      c_146_3 n n x1 x2 x3 q6.2.1 q6.2.2
    else
      c_146_3 n n x1 x3 x3 q6.2.1 q6.2.2
set_option maxHeartbeats 1000000 in
theorem tc_146_1 (Ls : Nat) (xs : Nat → Int32) (d : Nat) (nh : Option Nat) (rh : Option Nat) (n : Nat) (K0 : Int32 → Int32 → Int32 → FI → FL → Option (Int32 × Bool × FI × FL)) (hK0 : ∀ (w4 : Option Value) (x1 : Int32) (x2 : Int32) (x3 : Int32) (I : FI) (L : FL) (r : Int32 × Bool × FI × FL), K0 x1 x2 x3 I L = some r → Bs cd_146 (sf 11 rs_11 false 5 (some (.int)) Ls xs (d + 6)) (22, [some (.ref 0), some (.int x1), some (.int x2), some (.int x3), w4], [], hp none nh rh [] [] I L) (some (.int r.1), hw r.2.1 nh rh r.2.2.1 r.2.2.2)) (w4 : Option Value) (x1 : Int32) (x2 : Int32) (x3 : Int32) (s0 : Int32) (I : FI) (L : FL) (r : Int32 × Bool × FI × FL) (hf : c_146_1 n K0 x1 x2 x3 s0 I L = some r) : Bs cd_146 (sf 11 rs_11 false 5 (some (.int)) Ls xs (d + 6)) (43, [some (.ref 0), some (.int x1), some (.int x2), some (.int x3), w4], [.int s0], hp none nh rh [] [] I L) (some (.int r.1), hw r.2.1 nh rh r.2.2.1 r.2.2.2) := by
  unfold c_146_1 at hf
  refine bs_st 2 (x' := (47, [some (.ref 0), some (.int x1), some (.int x2), some (.int x3), some (.int s0)], [.int s0], hp none nh rh [] [] I L)) rfl ?_
  refine bs_br (t := 77) (e := 50) (lo := [some (.ref 0), some (.int x1), some (.int x2), some (.int x3), some (.int s0)]) (st := []) (h := hp none nh rh [] [] I L) rfl hf (fun hc hf => ?_) (fun hc hf => ?_)
  · exact tc_146_2 Ls xs d nh rh n _ hK0 (some (.int s0)) x1 x2 x3 I L r hf
  · refine bs_st 2 (x' := (54, [some (.ref 0), some (.int x1), some (.int x2), some (.int x3), some (.int s0)], [.ref 3], hp none nh rh [] [] I L)) rfl ?_
    obtain ⟨q4, hq4, hf⟩ := Option.bind_eq_some_iff.mp hf
    refine bs_call (o := pEN Ls xs (d + 6) 23 [.ref 3] (hp none nh rh [] [] I L)) (w := some (.int q4)) (h' := hp none nh rh [] [] I L) (pc := 57) (lo := [some (.ref 0), some (.int x1), some (.int x2), some (.int x3), some (.int s0)]) (rest := []) rfl (t_23 Ls xs (d + 5) none [] [] nh rh I L q4 hq4) ?_
    refine bs_st 1 (x' := (58, [some (.ref 0), some (.int x1), some (.int x2), some (.int x3), some (.int s0)], [.ref 0, .int q4], hp none nh rh [] [] I L)) rfl ?_
    obtain ⟨q5, hq5, hf⟩ := Option.bind_eq_some_iff.mp hf
    refine bs_call (o := pEN Ls xs (d + 6) 187 [.ref 0] (hp none nh rh [] [] I L)) (w := some (.ref 114)) (h' := hp (some 114) nh rh TK (RK (some 3)) q5.1 q5.2) (pc := 61) (lo := [some (.ref 0), some (.int x1), some (.int x2), some (.int x3), some (.int s0)]) (rest := [.int q4]) rfl (t_findA Ls xs (d + 0) nh rh I L q5 hq5) ?_
    refine bs_st 5 (x' := (66, [some (.ref 0), some (.int x1), some (.int x2), some (.int x3), some (.int s0)], [.int (x1 &&& (x3 ^^^ (-1 : Int32))), .ref 114, .int q4], hp (some 114) nh rh TK (RK (some 3)) q5.1 q5.2)) rfl ?_
    obtain ⟨q6, hq6, hf⟩ := Option.bind_eq_some_iff.mp hf
    refine bs_call (o := pEN Ls xs (d + 6) 32 [.ref 114, .int (x1 &&& (x3 ^^^ (-1 : Int32)))] (hp (some 114) nh rh TK (RK (some 3)) q5.1 q5.2)) (w := some (.int q6.1)) (h' := hp (some 114) nh rh TK (RK (some 3)) q6.2.1 q6.2.2) (pc := 69) (lo := [some (.ref 0), some (.int x1), some (.int x2), some (.int x3), some (.int s0)]) (rest := [.int q4]) rfl (t_32 Ls xs (d + 1) nh rh n (x1 &&& (x3 ^^^ (-1 : Int32))) q5.1 q5.2 q6 hq6) ?_
    obtain ⟨q7, hq7, hf⟩ := Option.bind_eq_some_iff.mp hf
    refine bs_call (o := pEN Ls xs (d + 6) 188 [.int q4, .int q6.1] (hp (some 114) nh rh TK (RK (some 3)) q6.2.1 q6.2.2)) (w := some (.int q7)) (h' := hp (some 114) nh rh TK (RK (some 3)) q6.2.1 q6.2.2) (pc := 72) (lo := [some (.ref 0), some (.int x1), some (.int x2), some (.int x3), some (.int s0)]) (rest := []) rfl (t_188 Ls xs (d + 5) (some 114) TK (RK (some 3)) nh rh q4 q6.1 q6.2.1 q6.2.2 q7 hq7) ?_
    refine bs_br (t := 77) (e := 75) (lo := [some (.ref 0), some (.int x1), some (.int x2), some (.int x3), some (.int s0)]) (st := []) (h := hp (some 114) nh rh TK (RK (some 3)) q6.2.1 q6.2.2) rfl hf (fun hc hf => ?_) (fun hc hf => ?_)
    · exact tc_146_3 Ls xs d nh rh n n (some (.int s0)) x1 x2 x3 q6.2.1 q6.2.2 r hf
    · refine bs_st 2 (x' := (77, [some (.ref 0), some (.int x1), some (.int x3), some (.int x3), some (.int s0)], [], hp (some 114) nh rh TK (RK (some 3)) q6.2.1 q6.2.2)) rfl ?_
      exact tc_146_3 Ls xs d nh rh n n (some (.int s0)) x1 x3 x3 q6.2.1 q6.2.2 r hf
def b_146_0 (n : Nat) (K0 : Int32 → Int32 → Int32 → FI → FL → Option (Int32 × Bool × FI × FL)) (x1 : Int32) (x2 : Int32) (x3 : Int32) (I : FI) (L : FL) : Option (Int32 × Bool × FI × FL) :=
  if x1 < x3 then
    some (x2, false, I, L)
  else
    (f_360 x3 I L).bind fun q2 =>
    (f_360 x2 I L).bind fun q3 =>
    if q3 ≤ q2 then
      c_146_1 n K0 x1 x2 x3 (0 : Int32) I L
    else
      c_146_1 n K0 x1 x2 x3 (1 : Int32) I L
def c_146_0 (n : Nat) : Nat → Int32 → Int32 → Int32 → FI → FL → Option (Int32 × Bool × FI × FL)
  | 0, _, _, _, _, _ => none
  | m + 1, x1, x2, x3, I, L => b_146_0 n (c_146_0 n m) x1 x2 x3 I L
set_option maxHeartbeats 1000000 in
theorem tc_146_0 (Ls : Nat) (xs : Nat → Int32) (d : Nat) (nh : Option Nat) (rh : Option Nat) (n : Nat) : ∀ (m : Nat) (w4 : Option Value) (x1 : Int32) (x2 : Int32) (x3 : Int32) (I : FI) (L : FL) (r : Int32 × Bool × FI × FL), c_146_0 n m x1 x2 x3 I L = some r → Bs cd_146 (sf 11 rs_11 false 5 (some (.int)) Ls xs (d + 6)) (22, [some (.ref 0), some (.int x1), some (.int x2), some (.int x3), w4], [], hp none nh rh [] [] I L) (some (.int r.1), hw r.2.1 nh rh r.2.2.1 r.2.2.2)
  | 0, w4, x1, x2, x3, I, L, r, hf => by cases hf
  | m + 1, w4, x1, x2, x3, I, L, r, hf => by
    unfold c_146_0 b_146_0 at hf
    have hK0 := tc_146_0 Ls xs d nh rh n m
    refine bs_st 2 (x' := (24, [some (.ref 0), some (.int x1), some (.int x2), some (.int x3), w4], [.int x1, .int x3], hp none nh rh [] [] I L)) rfl ?_
    refine bs_br (t := 83) (e := 27) (lo := [some (.ref 0), some (.int x1), some (.int x2), some (.int x3), w4]) (st := []) (h := hp none nh rh [] [] I L) rfl hf (fun hc hf => ?_) (fun hc hf => ?_)
    · refine bs_st 1 (x' := (84, [some (.ref 0), some (.int x1), some (.int x2), some (.int x3), w4], [.int x2], hp none nh rh [] [] I L)) rfl ?_
      cases hf
      exact bs_ret rfl
    · refine bs_st 1 (x' := (28, [some (.ref 0), some (.int x1), some (.int x2), some (.int x3), w4], [.int x3], hp none nh rh [] [] I L)) rfl ?_
      obtain ⟨q2, hq2, hf⟩ := Option.bind_eq_some_iff.mp hf
      refine bs_call (o := pEN Ls xs (d + 6) 360 [.int x3] (hp none nh rh [] [] I L)) (w := some (.int q2)) (h' := hp none nh rh [] [] I L) (pc := 31) (lo := [some (.ref 0), some (.int x1), some (.int x2), some (.int x3), w4]) (rest := []) rfl (t_360 Ls xs (d + 5) none [] [] nh rh x3 I L q2 hq2) ?_
      refine bs_st 1 (x' := (32, [some (.ref 0), some (.int x1), some (.int x2), some (.int x3), w4], [.int x2, .int q2], hp none nh rh [] [] I L)) rfl ?_
      obtain ⟨q3, hq3, hf⟩ := Option.bind_eq_some_iff.mp hf
      refine bs_call (o := pEN Ls xs (d + 6) 360 [.int x2] (hp none nh rh [] [] I L)) (w := some (.int q3)) (h' := hp none nh rh [] [] I L) (pc := 35) (lo := [some (.ref 0), some (.int x1), some (.int x2), some (.int x3), w4]) (rest := [.int q2]) rfl (t_360 Ls xs (d + 5) none [] [] nh rh x2 I L q3 hq3) ?_
      refine bs_br (t := 42) (e := 38) (lo := [some (.ref 0), some (.int x1), some (.int x2), some (.int x3), w4]) (st := []) (h := hp none nh rh [] [] I L) rfl hf (fun hc hf => ?_) (fun hc hf => ?_)
      · refine bs_st 1 (x' := (43, [some (.ref 0), some (.int x1), some (.int x2), some (.int x3), w4], [.int (0 : Int32)], hp none nh rh [] [] I L)) rfl ?_
        exact tc_146_1 Ls xs d nh rh n _ hK0 w4 x1 x2 x3 (0 : Int32) I L r hf
      · refine bs_st 2 (x' := (43, [some (.ref 0), some (.int x1), some (.int x2), some (.int x3), w4], [.int (1 : Int32)], hp none nh rh [] [] I L)) rfl ?_
        exact tc_146_1 Ls xs d nh rh n _ hK0 w4 x1 x2 x3 (1 : Int32) I L r hf
def f_146 (n : Nat) (I : FI) (L : FL) : Option (Int32 × Bool × FI × FL) :=
  (f_177 I L).bind fun q0 =>
  if ¬ q0 = 0 then
    (f_24 I L).bind fun q1 =>
    c_146_0 n n q1 q1 (0 : Int32) I L
  else
    some ((-2 : Int32), false, I, L)
set_option maxHeartbeats 1000000 in
theorem t_146 (Ls : Nat) (xs : Nat → Int32) (d : Nat) (nh : Option Nat) (rh : Option Nat) (n : Nat) (I : FI) (L : FL) (r : Int32 × Bool × FI × FL) (hf : f_146 n I L = some r) : pEN Ls xs (d + 7) 146 [.ref 0] (hp none nh rh [] [] I L) = some (some (.int r.1), hw r.2.1 nh rh r.2.2.1 r.2.2.2) := by
  refine en_run (d := d + 6) (cd := cd_146) (f := (sf 11 rs_11 false 5 (some (.int)) Ls xs (d + 6))) rfl rfl (x := (0, [some (.ref 0), none, none, none, none], [], hp none nh rh [] [] I L)) rfl rfl (Nat.le_of_ble_eq_true rfl) ?_
  unfold f_146 at hf
  refine bs_st 1 (x' := (1, [some (.ref 0), none, none, none, none], [.ref 0], hp none nh rh [] [] I L)) rfl ?_
  obtain ⟨q0, hq0, hf⟩ := Option.bind_eq_some_iff.mp hf
  refine bs_call (o := pEN Ls xs (d + 6) 177 [.ref 0] (hp none nh rh [] [] I L)) (w := some (.int q0)) (h' := hp none nh rh [] [] I L) (pc := 4) (lo := [some (.ref 0), none, none, none, none]) (rest := []) rfl (t_177 Ls xs (d + 5) none [] [] nh rh I L q0 hq0) ?_
  refine bs_br (t := 10) (e := 7) (lo := [some (.ref 0), none, none, none, none]) (st := []) (h := hp none nh rh [] [] I L) rfl hf (fun hc hf => ?_) (fun hc hf => ?_)
  · refine bs_st 2 (x' := (14, [some (.ref 0), none, none, none, none], [.ref 3], hp none nh rh [] [] I L)) rfl ?_
    obtain ⟨q1, hq1, hf⟩ := Option.bind_eq_some_iff.mp hf
    refine bs_call (o := pEN Ls xs (d + 6) 24 [.ref 3] (hp none nh rh [] [] I L)) (w := some (.int q1)) (h' := hp none nh rh [] [] I L) (pc := 17) (lo := [some (.ref 0), none, none, none, none]) (rest := []) rfl (t_24 Ls xs (d + 5) none [] [] nh rh I L q1 hq1) ?_
    refine bs_st 5 (x' := (22, [some (.ref 0), some (.int q1), some (.int q1), some (.int (0 : Int32)), none], [], hp none nh rh [] [] I L)) rfl ?_
    exact tc_146_0 Ls xs d nh rh n n none q1 q1 (0 : Int32) I L r hf
  · refine bs_st 1 (x' := (9, [some (.ref 0), none, none, none, none], [.int (-2 : Int32)], hp none nh rh [] [] I L)) rfl ?_
    cases hf
    exact bs_ret rfl
/-- LampRounds.given() on (0,) -/
def c_146_1_2 (n : Nat) (K0 : Int32 → Int32 → Int32 → FI → FL → Option (Int32 × FI × FL)) (x1 : Int32) (x2 : Int32) (x3 : Int32) (I : FI) (L : FL) : Option (Int32 × FI × FL) :=
  K0 x1 x2 (x3 + (1 : Int32)) I L
set_option maxHeartbeats 1000000 in
theorem tc_146_1_2 (Ls : Nat) (xs : Nat → Int32) (d : Nat) (nh : Option Nat) (rh : Option Nat) (n : Nat) (K0 : Int32 → Int32 → Int32 → FI → FL → Option (Int32 × FI × FL)) (hK0 : ∀ (w4 : Option Value) (x1 : Int32) (x2 : Int32) (x3 : Int32) (I : FI) (L : FL) (r : Int32 × FI × FL), K0 x1 x2 x3 I L = some r → Bs cd_146 (sf 11 rs_11 false 5 (some (.int)) Ls xs (d + 5)) (22, [some (.ref 0), some (.int x1), some (.int x2), some (.int x3), w4], [], hp (some 114) nh rh TK (RK (some 3)) I L) (some (.int r.1), hp (some 114) nh rh TK (RK (some 3)) r.2.1 r.2.2)) (w4 : Option Value) (x1 : Int32) (x2 : Int32) (x3 : Int32) (I : FI) (L : FL) (r : Int32 × FI × FL) (hf : c_146_1_2 n K0 x1 x2 x3 I L = some r) : Bs cd_146 (sf 11 rs_11 false 5 (some (.int)) Ls xs (d + 5)) (77, [some (.ref 0), some (.int x1), some (.int x2), some (.int x3), w4], [], hp (some 114) nh rh TK (RK (some 3)) I L) (some (.int r.1), hp (some 114) nh rh TK (RK (some 3)) r.2.1 r.2.2) := by
  unfold c_146_1_2 at hf
  refine bs_st 2 (x' := (22, [some (.ref 0), some (.int x1), some (.int x2), some (.int (x3 + (1 : Int32))), w4], [], hp (some 114) nh rh TK (RK (some 3)) I L)) rfl ?_
  exact hK0 w4 x1 x2 (x3 + (1 : Int32)) I L r hf
def c_146_1_1 (n : Nat) (K0 : Int32 → Int32 → Int32 → FI → FL → Option (Int32 × FI × FL)) (x1 : Int32) (x2 : Int32) (x3 : Int32) (s0 : Int32) (I : FI) (L : FL) : Option (Int32 × FI × FL) :=
  if s0 = 0 then
    c_146_1_2 n K0 x1 x2 x3 I L
  else
    (f_23 I L).bind fun q4 =>
    (f_187 I L).bind fun q5 =>
    (f_32 n (x1 &&& (x3 ^^^ (-1 : Int32))) q5.1 q5.2).bind fun q6 =>
    (f_188 q4 q6.1 q6.2.1 q6.2.2).bind fun q7 =>
    if q7 = 0 then
      c_146_1_2 n K0 x1 x2 x3 q6.2.1 q6.2.2
    else
      c_146_1_2 n K0 x1 x3 x3 q6.2.1 q6.2.2
set_option maxHeartbeats 1000000 in
theorem tc_146_1_1 (Ls : Nat) (xs : Nat → Int32) (d : Nat) (nh : Option Nat) (rh : Option Nat) (n : Nat) (K0 : Int32 → Int32 → Int32 → FI → FL → Option (Int32 × FI × FL)) (hK0 : ∀ (w4 : Option Value) (x1 : Int32) (x2 : Int32) (x3 : Int32) (I : FI) (L : FL) (r : Int32 × FI × FL), K0 x1 x2 x3 I L = some r → Bs cd_146 (sf 11 rs_11 false 5 (some (.int)) Ls xs (d + 5)) (22, [some (.ref 0), some (.int x1), some (.int x2), some (.int x3), w4], [], hp (some 114) nh rh TK (RK (some 3)) I L) (some (.int r.1), hp (some 114) nh rh TK (RK (some 3)) r.2.1 r.2.2)) (w4 : Option Value) (x1 : Int32) (x2 : Int32) (x3 : Int32) (s0 : Int32) (I : FI) (L : FL) (r : Int32 × FI × FL) (hf : c_146_1_1 n K0 x1 x2 x3 s0 I L = some r) : Bs cd_146 (sf 11 rs_11 false 5 (some (.int)) Ls xs (d + 5)) (43, [some (.ref 0), some (.int x1), some (.int x2), some (.int x3), w4], [.int s0], hp (some 114) nh rh TK (RK (some 3)) I L) (some (.int r.1), hp (some 114) nh rh TK (RK (some 3)) r.2.1 r.2.2) := by
  unfold c_146_1_1 at hf
  refine bs_st 2 (x' := (47, [some (.ref 0), some (.int x1), some (.int x2), some (.int x3), some (.int s0)], [.int s0], hp (some 114) nh rh TK (RK (some 3)) I L)) rfl ?_
  refine bs_br (t := 77) (e := 50) (lo := [some (.ref 0), some (.int x1), some (.int x2), some (.int x3), some (.int s0)]) (st := []) (h := hp (some 114) nh rh TK (RK (some 3)) I L) rfl hf (fun hc hf => ?_) (fun hc hf => ?_)
  · exact tc_146_1_2 Ls xs d nh rh n _ hK0 (some (.int s0)) x1 x2 x3 I L r hf
  · refine bs_st 2 (x' := (54, [some (.ref 0), some (.int x1), some (.int x2), some (.int x3), some (.int s0)], [.ref 3], hp (some 114) nh rh TK (RK (some 3)) I L)) rfl ?_
    obtain ⟨q4, hq4, hf⟩ := Option.bind_eq_some_iff.mp hf
    refine bs_call (o := pEN Ls xs (d + 5) 23 [.ref 3] (hp (some 114) nh rh TK (RK (some 3)) I L)) (w := some (.int q4)) (h' := hp (some 114) nh rh TK (RK (some 3)) I L) (pc := 57) (lo := [some (.ref 0), some (.int x1), some (.int x2), some (.int x3), some (.int s0)]) (rest := []) rfl (t_23 Ls xs (d + 4) (some 114) TK (RK (some 3)) nh rh I L q4 hq4) ?_
    refine bs_st 1 (x' := (58, [some (.ref 0), some (.int x1), some (.int x2), some (.int x3), some (.int s0)], [.ref 0, .int q4], hp (some 114) nh rh TK (RK (some 3)) I L)) rfl ?_
    obtain ⟨q5, hq5, hf⟩ := Option.bind_eq_some_iff.mp hf
    refine bs_call (o := pEN Ls xs (d + 5) 187 [.ref 0] (hp (some 114) nh rh TK (RK (some 3)) I L)) (w := some (.ref 114)) (h' := hp (some 114) nh rh TK (RK (some 3)) q5.1 q5.2) (pc := 61) (lo := [some (.ref 0), some (.int x1), some (.int x2), some (.int x3), some (.int s0)]) (rest := [.int q4]) rfl (t_187 Ls xs (d + 4) nh rh I L q5 hq5) ?_
    refine bs_st 5 (x' := (66, [some (.ref 0), some (.int x1), some (.int x2), some (.int x3), some (.int s0)], [.int (x1 &&& (x3 ^^^ (-1 : Int32))), .ref 114, .int q4], hp (some 114) nh rh TK (RK (some 3)) q5.1 q5.2)) rfl ?_
    obtain ⟨q6, hq6, hf⟩ := Option.bind_eq_some_iff.mp hf
    refine bs_call (o := pEN Ls xs (d + 5) 32 [.ref 114, .int (x1 &&& (x3 ^^^ (-1 : Int32)))] (hp (some 114) nh rh TK (RK (some 3)) q5.1 q5.2)) (w := some (.int q6.1)) (h' := hp (some 114) nh rh TK (RK (some 3)) q6.2.1 q6.2.2) (pc := 69) (lo := [some (.ref 0), some (.int x1), some (.int x2), some (.int x3), some (.int s0)]) (rest := [.int q4]) rfl (t_32 Ls xs (d + 0) nh rh n (x1 &&& (x3 ^^^ (-1 : Int32))) q5.1 q5.2 q6 hq6) ?_
    obtain ⟨q7, hq7, hf⟩ := Option.bind_eq_some_iff.mp hf
    refine bs_call (o := pEN Ls xs (d + 5) 188 [.int q4, .int q6.1] (hp (some 114) nh rh TK (RK (some 3)) q6.2.1 q6.2.2)) (w := some (.int q7)) (h' := hp (some 114) nh rh TK (RK (some 3)) q6.2.1 q6.2.2) (pc := 72) (lo := [some (.ref 0), some (.int x1), some (.int x2), some (.int x3), some (.int s0)]) (rest := []) rfl (t_188 Ls xs (d + 4) (some 114) TK (RK (some 3)) nh rh q4 q6.1 q6.2.1 q6.2.2 q7 hq7) ?_
    refine bs_br (t := 77) (e := 75) (lo := [some (.ref 0), some (.int x1), some (.int x2), some (.int x3), some (.int s0)]) (st := []) (h := hp (some 114) nh rh TK (RK (some 3)) q6.2.1 q6.2.2) rfl hf (fun hc hf => ?_) (fun hc hf => ?_)
    · exact tc_146_1_2 Ls xs d nh rh n _ hK0 (some (.int s0)) x1 x2 x3 q6.2.1 q6.2.2 r hf
    · refine bs_st 2 (x' := (77, [some (.ref 0), some (.int x1), some (.int x3), some (.int x3), some (.int s0)], [], hp (some 114) nh rh TK (RK (some 3)) q6.2.1 q6.2.2)) rfl ?_
      exact tc_146_1_2 Ls xs d nh rh n _ hK0 (some (.int s0)) x1 x3 x3 q6.2.1 q6.2.2 r hf
def b_146_1_0 (n : Nat) (K0 : Int32 → Int32 → Int32 → FI → FL → Option (Int32 × FI × FL)) (x1 : Int32) (x2 : Int32) (x3 : Int32) (I : FI) (L : FL) : Option (Int32 × FI × FL) :=
  if x1 < x3 then
    some (x2, I, L)
  else
    (f_360 x3 I L).bind fun q2 =>
    (f_360 x2 I L).bind fun q3 =>
    if q3 ≤ q2 then
      c_146_1_1 n K0 x1 x2 x3 (0 : Int32) I L
    else
      c_146_1_1 n K0 x1 x2 x3 (1 : Int32) I L
def c_146_1_0 (n : Nat) : Nat → Int32 → Int32 → Int32 → FI → FL → Option (Int32 × FI × FL)
  | 0, _, _, _, _, _ => none
  | m + 1, x1, x2, x3, I, L => b_146_1_0 n (c_146_1_0 n m) x1 x2 x3 I L
set_option maxHeartbeats 1000000 in
theorem tc_146_1_0 (Ls : Nat) (xs : Nat → Int32) (d : Nat) (nh : Option Nat) (rh : Option Nat) (n : Nat) : ∀ (m : Nat) (w4 : Option Value) (x1 : Int32) (x2 : Int32) (x3 : Int32) (I : FI) (L : FL) (r : Int32 × FI × FL), c_146_1_0 n m x1 x2 x3 I L = some r → Bs cd_146 (sf 11 rs_11 false 5 (some (.int)) Ls xs (d + 5)) (22, [some (.ref 0), some (.int x1), some (.int x2), some (.int x3), w4], [], hp (some 114) nh rh TK (RK (some 3)) I L) (some (.int r.1), hp (some 114) nh rh TK (RK (some 3)) r.2.1 r.2.2)
  | 0, w4, x1, x2, x3, I, L, r, hf => by cases hf
  | m + 1, w4, x1, x2, x3, I, L, r, hf => by
    unfold c_146_1_0 b_146_1_0 at hf
    have hK0 := tc_146_1_0 Ls xs d nh rh n m
    refine bs_st 2 (x' := (24, [some (.ref 0), some (.int x1), some (.int x2), some (.int x3), w4], [.int x1, .int x3], hp (some 114) nh rh TK (RK (some 3)) I L)) rfl ?_
    refine bs_br (t := 83) (e := 27) (lo := [some (.ref 0), some (.int x1), some (.int x2), some (.int x3), w4]) (st := []) (h := hp (some 114) nh rh TK (RK (some 3)) I L) rfl hf (fun hc hf => ?_) (fun hc hf => ?_)
    · refine bs_st 1 (x' := (84, [some (.ref 0), some (.int x1), some (.int x2), some (.int x3), w4], [.int x2], hp (some 114) nh rh TK (RK (some 3)) I L)) rfl ?_
      cases hf
      exact bs_ret rfl
    · refine bs_st 1 (x' := (28, [some (.ref 0), some (.int x1), some (.int x2), some (.int x3), w4], [.int x3], hp (some 114) nh rh TK (RK (some 3)) I L)) rfl ?_
      obtain ⟨q2, hq2, hf⟩ := Option.bind_eq_some_iff.mp hf
      refine bs_call (o := pEN Ls xs (d + 5) 360 [.int x3] (hp (some 114) nh rh TK (RK (some 3)) I L)) (w := some (.int q2)) (h' := hp (some 114) nh rh TK (RK (some 3)) I L) (pc := 31) (lo := [some (.ref 0), some (.int x1), some (.int x2), some (.int x3), w4]) (rest := []) rfl (t_360 Ls xs (d + 4) (some 114) TK (RK (some 3)) nh rh x3 I L q2 hq2) ?_
      refine bs_st 1 (x' := (32, [some (.ref 0), some (.int x1), some (.int x2), some (.int x3), w4], [.int x2, .int q2], hp (some 114) nh rh TK (RK (some 3)) I L)) rfl ?_
      obtain ⟨q3, hq3, hf⟩ := Option.bind_eq_some_iff.mp hf
      refine bs_call (o := pEN Ls xs (d + 5) 360 [.int x2] (hp (some 114) nh rh TK (RK (some 3)) I L)) (w := some (.int q3)) (h' := hp (some 114) nh rh TK (RK (some 3)) I L) (pc := 35) (lo := [some (.ref 0), some (.int x1), some (.int x2), some (.int x3), w4]) (rest := [.int q2]) rfl (t_360 Ls xs (d + 4) (some 114) TK (RK (some 3)) nh rh x2 I L q3 hq3) ?_
      refine bs_br (t := 42) (e := 38) (lo := [some (.ref 0), some (.int x1), some (.int x2), some (.int x3), w4]) (st := []) (h := hp (some 114) nh rh TK (RK (some 3)) I L) rfl hf (fun hc hf => ?_) (fun hc hf => ?_)
      · refine bs_st 1 (x' := (43, [some (.ref 0), some (.int x1), some (.int x2), some (.int x3), w4], [.int (0 : Int32)], hp (some 114) nh rh TK (RK (some 3)) I L)) rfl ?_
        exact tc_146_1_1 Ls xs d nh rh n _ hK0 w4 x1 x2 x3 (0 : Int32) I L r hf
      · refine bs_st 2 (x' := (43, [some (.ref 0), some (.int x1), some (.int x2), some (.int x3), w4], [.int (1 : Int32)], hp (some 114) nh rh TK (RK (some 3)) I L)) rfl ?_
        exact tc_146_1_1 Ls xs d nh rh n _ hK0 w4 x1 x2 x3 (1 : Int32) I L r hf
def f_146_1 (n : Nat) (I : FI) (L : FL) : Option (Int32 × FI × FL) :=
  (f_177 I L).bind fun q0 =>
  if ¬ q0 = 0 then
    (f_24 I L).bind fun q1 =>
    c_146_1_0 n n q1 q1 (0 : Int32) I L
  else
    some ((-2 : Int32), I, L)
set_option maxHeartbeats 1000000 in
theorem t_146_1 (Ls : Nat) (xs : Nat → Int32) (d : Nat) (nh : Option Nat) (rh : Option Nat) (n : Nat) (I : FI) (L : FL) (r : Int32 × FI × FL) (hf : f_146_1 n I L = some r) : pEN Ls xs (d + 6) 146 [.ref 0] (hp (some 114) nh rh TK (RK (some 3)) I L) = some (some (.int r.1), hp (some 114) nh rh TK (RK (some 3)) r.2.1 r.2.2) := by
  refine en_run (d := d + 5) (cd := cd_146) (f := (sf 11 rs_11 false 5 (some (.int)) Ls xs (d + 5))) rfl rfl (x := (0, [some (.ref 0), none, none, none, none], [], hp (some 114) nh rh TK (RK (some 3)) I L)) rfl rfl (Nat.le_of_ble_eq_true rfl) ?_
  unfold f_146_1 at hf
  refine bs_st 1 (x' := (1, [some (.ref 0), none, none, none, none], [.ref 0], hp (some 114) nh rh TK (RK (some 3)) I L)) rfl ?_
  obtain ⟨q0, hq0, hf⟩ := Option.bind_eq_some_iff.mp hf
  refine bs_call (o := pEN Ls xs (d + 5) 177 [.ref 0] (hp (some 114) nh rh TK (RK (some 3)) I L)) (w := some (.int q0)) (h' := hp (some 114) nh rh TK (RK (some 3)) I L) (pc := 4) (lo := [some (.ref 0), none, none, none, none]) (rest := []) rfl (t_177 Ls xs (d + 4) (some 114) TK (RK (some 3)) nh rh I L q0 hq0) ?_
  refine bs_br (t := 10) (e := 7) (lo := [some (.ref 0), none, none, none, none]) (st := []) (h := hp (some 114) nh rh TK (RK (some 3)) I L) rfl hf (fun hc hf => ?_) (fun hc hf => ?_)
  · refine bs_st 2 (x' := (14, [some (.ref 0), none, none, none, none], [.ref 3], hp (some 114) nh rh TK (RK (some 3)) I L)) rfl ?_
    obtain ⟨q1, hq1, hf⟩ := Option.bind_eq_some_iff.mp hf
    refine bs_call (o := pEN Ls xs (d + 5) 24 [.ref 3] (hp (some 114) nh rh TK (RK (some 3)) I L)) (w := some (.int q1)) (h' := hp (some 114) nh rh TK (RK (some 3)) I L) (pc := 17) (lo := [some (.ref 0), none, none, none, none]) (rest := []) rfl (t_24 Ls xs (d + 4) (some 114) TK (RK (some 3)) nh rh I L q1 hq1) ?_
    refine bs_st 5 (x' := (22, [some (.ref 0), some (.int q1), some (.int q1), some (.int (0 : Int32)), none], [], hp (some 114) nh rh TK (RK (some 3)) I L)) rfl ?_
    exact tc_146_1_0 Ls xs d nh rh n n none q1 q1 (0 : Int32) I L r hf
  · refine bs_st 1 (x' := (9, [some (.ref 0), none, none, none, none], [.int (-2 : Int32)], hp (some 114) nh rh TK (RK (some 3)) I L)) rfl ?_
    cases hf
    exact bs_ret rfl
/-- Ageing.lengthen(II) on (115,) -/
def f_5 (x1 : Int32) (x2 : Int32) (I : FI) (L : FL) : Option (FI × FL) :=
  (f_359 (((I 115 1) >>> (((4 : Int32) * x1) &&& 31)) &&& (15 : Int32)) x2 I L).bind fun q0 =>
  some ((u2 I 115 1 ((I 115 1) - (q0 <<< (((4 : Int32) * x1) &&& 31)))), L)
set_option maxHeartbeats 1000000 in
theorem t_5 (Ls : Nat) (xs : Nat → Int32) (d : Nat) (nh : Option Nat) (rh : Option Nat) (x1 : Int32) (x2 : Int32) (I : FI) (L : FL) (r : FI × FL) (hf : f_5 x1 x2 I L = some r) : pEN Ls xs (d + 2) 5 [.ref 115, .int x1, .int x2] (hp (some 114) nh rh TK (RK (some 3)) I L) = some (none, hp (some 114) nh rh TK (RK (some 3)) r.1 r.2) := by
  refine en_run (d := d + 1) (cd := cd_5) (f := (sf 1 rs_1 false 4 none Ls xs (d + 1))) rfl rfl (x := (0, [some (.ref 115), some (.int x1), some (.int x2), none], [], hp (some 114) nh rh TK (RK (some 3)) I L)) rfl rfl (Nat.le_of_ble_eq_true rfl) ?_
  unfold f_5 at hf
  refine bs_st 14 (x' := (19, [some (.ref 115), some (.int x1), some (.int x2), some (.int (((I 115 1) >>> (((4 : Int32) * x1) &&& 31)) &&& (15 : Int32)))], [.int x2, .int (((I 115 1) >>> (((4 : Int32) * x1) &&& 31)) &&& (15 : Int32)), .int (I 115 1), .ref 115], hp (some 114) nh rh TK (RK (some 3)) I L)) rfl ?_
  obtain ⟨q0, hq0, hf⟩ := Option.bind_eq_some_iff.mp hf
  refine bs_call (o := pEN Ls xs (d + 1) 359 [.int (((I 115 1) >>> (((4 : Int32) * x1) &&& 31)) &&& (15 : Int32)), .int x2] (hp (some 114) nh rh TK (RK (some 3)) I L)) (w := some (.int q0)) (h' := hp (some 114) nh rh TK (RK (some 3)) I L) (pc := 22) (lo := [some (.ref 115), some (.int x1), some (.int x2), some (.int (((I 115 1) >>> (((4 : Int32) * x1) &&& 31)) &&& (15 : Int32)))]) (rest := [.int (I 115 1), .ref 115]) rfl (t_359 Ls xs (d + 0) (some 114) TK (RK (some 3)) nh rh (((I 115 1) >>> (((4 : Int32) * x1) &&& 31)) &&& (15 : Int32)) x2 I L q0 hq0) ?_
  refine bs_st 6 (x' := (30, [some (.ref 115), some (.int x1), some (.int x2), some (.int (((I 115 1) >>> (((4 : Int32) * x1) &&& 31)) &&& (15 : Int32)))], [], hp (some 114) nh rh TK (RK (some 3)) (u2 I 115 1 ((I 115 1) - (q0 <<< (((4 : Int32) * x1) &&& 31)))) L)) rfl ?_
  cases hf
  exact bs_ret rfl
/-- Keeper.isKeptWith(II) on (114,) -/
def f_37 (n : Nat) (x1 : Int32) (x2 : Int32) (I : FI) (L : FL) : Option (Int32 × FI × FL) :=
  (f_24 I L).bind fun q0 =>
  (f_4 n q0 I L).bind fun q1 =>
  (f_5 x1 x2 q1.1 q1.2).bind fun q2 =>
  (f_39 n q2.1 q2.2).bind fun q3 =>
  (f_23 (u2 q3.1 114 7 (-1 : Int32)) q3.2).bind fun q4 =>
  (f_40 q4 (u2 q3.1 114 7 (-1 : Int32)) q3.2).bind fun q5 =>
  (f_42 n q5 (u2 q3.1 114 7 (-1 : Int32)) q3.2).bind fun q6 =>
  if narrow .boolean (.int q6.1) = .int q6.1 then some (q6.1, q6.2.1, q6.2.2) else none
set_option maxHeartbeats 1000000 in
theorem t_37 (Ls : Nat) (xs : Nat → Int32) (d : Nat) (nh : Option Nat) (rh : Option Nat) (n : Nat) (x1 : Int32) (x2 : Int32) (I : FI) (L : FL) (r : Int32 × FI × FL) (hf : f_37 n x1 x2 I L = some r) : pEN Ls xs (d + 5) 37 [.ref 114, .int x1, .int x2] (hp (some 114) nh rh TK (RK (some 3)) I L) = some (some (.int r.1), hp (some 114) nh rh TK (RK (some 3)) r.2.1 r.2.2) := by
  refine en_run (d := d + 4) (cd := cd_37) (f := (sf 5 rs_5 false 3 (some (.boolean)) Ls xs (d + 4))) rfl rfl (x := (0, [some (.ref 114), some (.int x1), some (.int x2)], [], hp (some 114) nh rh TK (RK (some 3)) I L)) rfl rfl (Nat.le_of_ble_eq_true rfl) ?_
  unfold f_37 at hf
  refine bs_st 6 (x' := (12, [some (.ref 114), some (.int x1), some (.int x2)], [.ref 3, .ref 3, .ref 115], hp (some 114) nh rh TK (RK (some 3)) I L)) rfl ?_
  obtain ⟨q0, hq0, hf⟩ := Option.bind_eq_some_iff.mp hf
  refine bs_call (o := pEN Ls xs (d + 4) 24 [.ref 3] (hp (some 114) nh rh TK (RK (some 3)) I L)) (w := some (.int q0)) (h' := hp (some 114) nh rh TK (RK (some 3)) I L) (pc := 15) (lo := [some (.ref 114), some (.int x1), some (.int x2)]) (rest := [.ref 3, .ref 115]) rfl (t_24 Ls xs (d + 3) (some 114) TK (RK (some 3)) nh rh I L q0 hq0) ?_
  obtain ⟨q1, hq1, hf⟩ := Option.bind_eq_some_iff.mp hf
  refine bs_call (o := pEN Ls xs (d + 4) 4 [.ref 115, .ref 3, .int q0] (hp (some 114) nh rh TK (RK (some 3)) I L)) (w := none) (h' := hp (some 114) nh rh TK (RK (some 3)) q1.1 q1.2) (pc := 18) (lo := [some (.ref 114), some (.int x1), some (.int x2)]) (rest := []) rfl (t_4 Ls xs (d + 2) nh rh n q0 I L q1 hq1) ?_
  refine bs_st 4 (x' := (24, [some (.ref 114), some (.int x1), some (.int x2)], [.int x2, .int x1, .ref 115], hp (some 114) nh rh TK (RK (some 3)) q1.1 q1.2)) rfl ?_
  obtain ⟨q2, hq2, hf⟩ := Option.bind_eq_some_iff.mp hf
  refine bs_call (o := pEN Ls xs (d + 4) 5 [.ref 115, .int x1, .int x2] (hp (some 114) nh rh TK (RK (some 3)) q1.1 q1.2)) (w := none) (h' := hp (some 114) nh rh TK (RK (some 3)) q2.1 q2.2) (pc := 27) (lo := [some (.ref 114), some (.int x1), some (.int x2)]) (rest := []) rfl (t_5 Ls xs (d + 2) nh rh x1 x2 q1.1 q1.2 q2 hq2) ?_
  refine bs_st 1 (x' := (28, [some (.ref 114), some (.int x1), some (.int x2)], [.ref 114], hp (some 114) nh rh TK (RK (some 3)) q2.1 q2.2)) rfl ?_
  obtain ⟨q3, hq3, hf⟩ := Option.bind_eq_some_iff.mp hf
  refine bs_call (o := pEN Ls xs (d + 4) 39 [.ref 114] (hp (some 114) nh rh TK (RK (some 3)) q2.1 q2.2)) (w := none) (h' := hp (some 114) nh rh TK (RK (some 3)) q3.1 q3.2) (pc := 31) (lo := [some (.ref 114), some (.int x1), some (.int x2)]) (rest := []) rfl (t_39 Ls xs (d + 3) nh rh n q2.1 q2.2 q3 hq3) ?_
  refine bs_st 7 (x' := (42, [some (.ref 114), some (.int x1), some (.int x2)], [.ref 3, .ref 114, .ref 114], hp (some 114) nh rh TK (RK (some 3)) (u2 q3.1 114 7 (-1 : Int32)) q3.2)) rfl ?_
  obtain ⟨q4, hq4, hf⟩ := Option.bind_eq_some_iff.mp hf
  refine bs_call (o := pEN Ls xs (d + 4) 23 [.ref 3] (hp (some 114) nh rh TK (RK (some 3)) (u2 q3.1 114 7 (-1 : Int32)) q3.2)) (w := some (.int q4)) (h' := hp (some 114) nh rh TK (RK (some 3)) (u2 q3.1 114 7 (-1 : Int32)) q3.2) (pc := 45) (lo := [some (.ref 114), some (.int x1), some (.int x2)]) (rest := [.ref 114, .ref 114]) rfl (t_23 Ls xs (d + 3) (some 114) TK (RK (some 3)) nh rh (u2 q3.1 114 7 (-1 : Int32)) q3.2 q4 hq4) ?_
  obtain ⟨q5, hq5, hf⟩ := Option.bind_eq_some_iff.mp hf
  refine bs_call (o := pEN Ls xs (d + 4) 40 [.ref 114, .int q4] (hp (some 114) nh rh TK (RK (some 3)) (u2 q3.1 114 7 (-1 : Int32)) q3.2)) (w := some (.int q5)) (h' := hp (some 114) nh rh TK (RK (some 3)) (u2 q3.1 114 7 (-1 : Int32)) q3.2) (pc := 48) (lo := [some (.ref 114), some (.int x1), some (.int x2)]) (rest := [.ref 114]) rfl (t_40 Ls xs (d + 2) nh rh q4 (u2 q3.1 114 7 (-1 : Int32)) q3.2 q5 hq5) ?_
  obtain ⟨q6, hq6, hf⟩ := Option.bind_eq_some_iff.mp hf
  refine bs_call (o := pEN Ls xs (d + 4) 42 [.ref 114, .int q5] (hp (some 114) nh rh TK (RK (some 3)) (u2 q3.1 114 7 (-1 : Int32)) q3.2)) (w := some (.int q6.1)) (h' := hp (some 114) nh rh TK (RK (some 3)) q6.2.1 q6.2.2) (pc := 51) (lo := [some (.ref 114), some (.int x1), some (.int x2)]) (rest := []) rfl (t_42 Ls xs (d + 0) nh rh n q5 (u2 q3.1 114 7 (-1 : Int32)) q3.2 q6 hq6) ?_
  split at hf
  · rename_i hg; cases hf; exact bs_rg rfl hg
  · cases hf
/-- Keeper.moreWait(I) on (114,) -/
def c_36_0 (n : Nat) (x1 : Int32) (I : FI) (L : FL) : Option (Int32 × FI × FL) :=
  if pin x1 4 = true then some (I 121 x1.toNatClampNeg, I, L) else none
set_option maxHeartbeats 1000000 in
theorem tc_36_0 (Ls : Nat) (xs : Nat → Int32) (d : Nat) (nh : Option Nat) (rh : Option Nat) (n : Nat) (w2 : Option Value) (w3 : Option Value) (x1 : Int32) (I : FI) (L : FL) (r : Int32 × FI × FL) (hf : c_36_0 n x1 I L = some r) : Bs cd_36 (sf 5 rs_5 false 4 (some (.int)) Ls xs (d + 5)) (70, [some (.ref 114), some (.int x1), w2, w3], [], hp (some 114) nh rh TK (RK (some 3)) I L) (some (.int r.1), hp (some 114) nh rh TK (RK (some 3)) r.2.1 r.2.2) := by
  unfold c_36_0 at hf
  refine bs_st 3 (x' := (75, [some (.ref 114), some (.int x1), w2, w3], [.int x1, .ref 121], hp (some 114) nh rh TK (RK (some 3)) I L)) rfl ?_
  refine bs_gd (x' := (76, [some (.ref 114), some (.int x1), w2, w3], [.int (I 121 x1.toNatClampNeg)], hp (some 114) nh rh TK (RK (some 3)) I L)) rfl hf (fun hc hf => ?_)
  cases hf
  exact bs_ret rfl
def c_36_2 (n : Nat) (K1 : Int32 → Int32 → Int32 → FI → FL → Option (Int32 × FI × FL)) (x1 : Int32) (x2 : Int32) (x3 : Int32) (I : FI) (L : FL) : Option (Int32 × FI × FL) :=
  K1 x1 x2 (x3 + (1 : Int32)) I L
set_option maxHeartbeats 1000000 in
theorem tc_36_2 (Ls : Nat) (xs : Nat → Int32) (d : Nat) (nh : Option Nat) (rh : Option Nat) (n : Nat) (K1 : Int32 → Int32 → Int32 → FI → FL → Option (Int32 × FI × FL)) (hK1 : ∀ (x1 : Int32) (x2 : Int32) (x3 : Int32) (I : FI) (L : FL) (r : Int32 × FI × FL), K1 x1 x2 x3 I L = some r → Bs cd_36 (sf 5 rs_5 false 4 (some (.int)) Ls xs (d + 5)) (33, [some (.ref 114), some (.int x1), some (.int x2), some (.int x3)], [], hp (some 114) nh rh TK (RK (some 3)) I L) (some (.int r.1), hp (some 114) nh rh TK (RK (some 3)) r.2.1 r.2.2)) (x1 : Int32) (x2 : Int32) (x3 : Int32) (I : FI) (L : FL) (r : Int32 × FI × FL) (hf : c_36_2 n K1 x1 x2 x3 I L = some r) : Bs cd_36 (sf 5 rs_5 false 4 (some (.int)) Ls xs (d + 5)) (64, [some (.ref 114), some (.int x1), some (.int x2), some (.int x3)], [], hp (some 114) nh rh TK (RK (some 3)) I L) (some (.int r.1), hp (some 114) nh rh TK (RK (some 3)) r.2.1 r.2.2) := by
  unfold c_36_2 at hf
  refine bs_st 2 (x' := (33, [some (.ref 114), some (.int x1), some (.int x2), some (.int (x3 + (1 : Int32)))], [], hp (some 114) nh rh TK (RK (some 3)) I L)) rfl ?_
  exact hK1 x1 x2 (x3 + (1 : Int32)) I L r hf
def b_36_1 (n : Nat) (K1 : Int32 → Int32 → Int32 → FI → FL → Option (Int32 × FI × FL)) (x1 : Int32) (x2 : Int32) (x3 : Int32) (I : FI) (L : FL) : Option (Int32 × FI × FL) :=
  if x2 < x3 then
    c_36_0 n x1 I L
  else
    if pin x1 4 = true then (if ¬ I 121 x1.toNatClampNeg = (-1 : Int32) then
        c_36_0 n x1 I L
      else
        (f_37 n x1 x3 I L).bind fun q0 =>
        if q0.1 = 0 then
          c_36_2 n K1 x1 x2 x3 q0.2.1 q0.2.2
        else
          if pin x1 4 = true then c_36_2 n K1 x1 x2 x3 (u2 q0.2.1 121 x1.toNatClampNeg x3) q0.2.2 else none) else none
def c_36_1 (n : Nat) : Nat → Int32 → Int32 → Int32 → FI → FL → Option (Int32 × FI × FL)
  | 0, _, _, _, _, _ => none
  | m + 1, x1, x2, x3, I, L => b_36_1 n (c_36_1 n m) x1 x2 x3 I L
set_option maxHeartbeats 1000000 in
theorem tc_36_1 (Ls : Nat) (xs : Nat → Int32) (d : Nat) (nh : Option Nat) (rh : Option Nat) (n : Nat) : ∀ (m : Nat) (x1 : Int32) (x2 : Int32) (x3 : Int32) (I : FI) (L : FL) (r : Int32 × FI × FL), c_36_1 n m x1 x2 x3 I L = some r → Bs cd_36 (sf 5 rs_5 false 4 (some (.int)) Ls xs (d + 5)) (33, [some (.ref 114), some (.int x1), some (.int x2), some (.int x3)], [], hp (some 114) nh rh TK (RK (some 3)) I L) (some (.int r.1), hp (some 114) nh rh TK (RK (some 3)) r.2.1 r.2.2)
  | 0, x1, x2, x3, I, L, r, hf => by cases hf
  | m + 1, x1, x2, x3, I, L, r, hf => by
    unfold c_36_1 b_36_1 at hf
    have hK1 := tc_36_1 Ls xs d nh rh n m
    refine bs_st 2 (x' := (35, [some (.ref 114), some (.int x1), some (.int x2), some (.int x3)], [.int x2, .int x3], hp (some 114) nh rh TK (RK (some 3)) I L)) rfl ?_
    refine bs_br (t := 70) (e := 38) (lo := [some (.ref 114), some (.int x1), some (.int x2), some (.int x3)]) (st := []) (h := hp (some 114) nh rh TK (RK (some 3)) I L) rfl hf (fun hc hf => ?_) (fun hc hf => ?_)
    · exact tc_36_0 Ls xs d nh rh n (some (.int x2)) (some (.int x3)) x1 I L r hf
    · refine bs_st 3 (x' := (43, [some (.ref 114), some (.int x1), some (.int x2), some (.int x3)], [.int x1, .ref 121], hp (some 114) nh rh TK (RK (some 3)) I L)) rfl ?_
      refine bs_gd (x' := (44, [some (.ref 114), some (.int x1), some (.int x2), some (.int x3)], [.int (I 121 x1.toNatClampNeg)], hp (some 114) nh rh TK (RK (some 3)) I L)) rfl hf (fun hc hf => ?_)
      refine bs_st 1 (x' := (45, [some (.ref 114), some (.int x1), some (.int x2), some (.int x3)], [.int (-1 : Int32), .int (I 121 x1.toNatClampNeg)], hp (some 114) nh rh TK (RK (some 3)) I L)) rfl ?_
      refine bs_br (t := 70) (e := 48) (lo := [some (.ref 114), some (.int x1), some (.int x2), some (.int x3)]) (st := []) (h := hp (some 114) nh rh TK (RK (some 3)) I L) rfl hf (fun hc hf => ?_) (fun hc hf => ?_)
      · exact tc_36_0 Ls xs d nh rh n (some (.int x2)) (some (.int x3)) x1 I L r hf
      · refine bs_st 3 (x' := (51, [some (.ref 114), some (.int x1), some (.int x2), some (.int x3)], [.int x3, .int x1, .ref 114], hp (some 114) nh rh TK (RK (some 3)) I L)) rfl ?_
        obtain ⟨q0, hq0, hf⟩ := Option.bind_eq_some_iff.mp hf
        refine bs_call (o := pEN Ls xs (d + 5) 37 [.ref 114, .int x1, .int x3] (hp (some 114) nh rh TK (RK (some 3)) I L)) (w := some (.int q0.1)) (h' := hp (some 114) nh rh TK (RK (some 3)) q0.2.1 q0.2.2) (pc := 54) (lo := [some (.ref 114), some (.int x1), some (.int x2), some (.int x3)]) (rest := []) rfl (t_37 Ls xs (d + 0) nh rh n x1 x3 I L q0 hq0) ?_
        refine bs_br (t := 64) (e := 57) (lo := [some (.ref 114), some (.int x1), some (.int x2), some (.int x3)]) (st := []) (h := hp (some 114) nh rh TK (RK (some 3)) q0.2.1 q0.2.2) rfl hf (fun hc hf => ?_) (fun hc hf => ?_)
        · exact tc_36_2 Ls xs d nh rh n _ hK1 x1 x2 x3 q0.2.1 q0.2.2 r hf
        · refine bs_st 4 (x' := (63, [some (.ref 114), some (.int x1), some (.int x2), some (.int x3)], [.int x3, .int x1, .ref 121], hp (some 114) nh rh TK (RK (some 3)) q0.2.1 q0.2.2)) rfl ?_
          refine bs_gd (x' := (64, [some (.ref 114), some (.int x1), some (.int x2), some (.int x3)], [], hp (some 114) nh rh TK (RK (some 3)) (u2 q0.2.1 121 x1.toNatClampNeg x3) q0.2.2)) rfl hf (fun hc hf => ?_)
          exact tc_36_2 Ls xs d nh rh n _ hK1 x1 x2 x3 (u2 q0.2.1 121 x1.toNatClampNeg x3) q0.2.2 r hf
def f_36 (n : Nat) (x1 : Int32) (I : FI) (L : FL) : Option (Int32 × FI × FL) :=
  if pin x1 4 = true then (if ¬ I 121 x1.toNatClampNeg = (-3 : Int32) then
      c_36_0 n x1 I L
    else
      if pin x1 4 = true then (if pin x1 4 = true then c_36_1 n n x1 ((7 : Int32) - ((u2 I 121 x1.toNatClampNeg (-1 : Int32)) 4 x1.toNatClampNeg)) (0 : Int32) (u2 I 121 x1.toNatClampNeg (-1 : Int32)) L else none) else none) else none
set_option maxHeartbeats 1000000 in
theorem t_36 (Ls : Nat) (xs : Nat → Int32) (d : Nat) (nh : Option Nat) (rh : Option Nat) (n : Nat) (x1 : Int32) (I : FI) (L : FL) (r : Int32 × FI × FL) (hf : f_36 n x1 I L = some r) : pEN Ls xs (d + 6) 36 [.ref 114, .int x1] (hp (some 114) nh rh TK (RK (some 3)) I L) = some (some (.int r.1), hp (some 114) nh rh TK (RK (some 3)) r.2.1 r.2.2) := by
  refine en_run (d := d + 5) (cd := cd_36) (f := (sf 5 rs_5 false 4 (some (.int)) Ls xs (d + 5))) rfl rfl (x := (0, [some (.ref 114), some (.int x1), none, none], [], hp (some 114) nh rh TK (RK (some 3)) I L)) rfl rfl (Nat.le_of_ble_eq_true rfl) ?_
  unfold f_36 at hf
  refine bs_st 3 (x' := (5, [some (.ref 114), some (.int x1), none, none], [.int x1, .ref 121], hp (some 114) nh rh TK (RK (some 3)) I L)) rfl ?_
  refine bs_gd (x' := (6, [some (.ref 114), some (.int x1), none, none], [.int (I 121 x1.toNatClampNeg)], hp (some 114) nh rh TK (RK (some 3)) I L)) rfl hf (fun hc hf => ?_)
  refine bs_st 1 (x' := (8, [some (.ref 114), some (.int x1), none, none], [.int (-3 : Int32), .int (I 121 x1.toNatClampNeg)], hp (some 114) nh rh TK (RK (some 3)) I L)) rfl ?_
  refine bs_br (t := 70) (e := 11) (lo := [some (.ref 114), some (.int x1), none, none]) (st := []) (h := hp (some 114) nh rh TK (RK (some 3)) I L) rfl hf (fun hc hf => ?_) (fun hc hf => ?_)
  · exact tc_36_0 Ls xs d nh rh n none none x1 I L r hf
  · refine bs_st 4 (x' := (17, [some (.ref 114), some (.int x1), none, none], [.int (-1 : Int32), .int x1, .ref 121], hp (some 114) nh rh TK (RK (some 3)) I L)) rfl ?_
    refine bs_gd (x' := (18, [some (.ref 114), some (.int x1), none, none], [], hp (some 114) nh rh TK (RK (some 3)) (u2 I 121 x1.toNatClampNeg (-1 : Int32)) L)) rfl hf (fun hc hf => ?_)
    refine bs_st 5 (x' := (28, [some (.ref 114), some (.int x1), none, none], [.int x1, .ref 4, .int (7 : Int32)], hp (some 114) nh rh TK (RK (some 3)) (u2 I 121 x1.toNatClampNeg (-1 : Int32)) L)) rfl ?_
    refine bs_gd (x' := (29, [some (.ref 114), some (.int x1), none, none], [.int ((u2 I 121 x1.toNatClampNeg (-1 : Int32)) 4 x1.toNatClampNeg), .int (7 : Int32)], hp (some 114) nh rh TK (RK (some 3)) (u2 I 121 x1.toNatClampNeg (-1 : Int32)) L)) rfl hf (fun hc hf => ?_)
    refine bs_st 4 (x' := (33, [some (.ref 114), some (.int x1), some (.int ((7 : Int32) - ((u2 I 121 x1.toNatClampNeg (-1 : Int32)) 4 x1.toNatClampNeg))), some (.int (0 : Int32))], [], hp (some 114) nh rh TK (RK (some 3)) (u2 I 121 x1.toNatClampNeg (-1 : Int32)) L)) rfl ?_
    exact tc_36_1 Ls xs d nh rh n n x1 ((7 : Int32) - ((u2 I 121 x1.toNatClampNeg (-1 : Int32)) 4 x1.toNatClampNeg)) (0 : Int32) (u2 I 121 x1.toNatClampNeg (-1 : Int32)) L r hf
/-- LampRounds.longer(I) on (0,) -/
def f_147 (n : Nat) (x1 : Int32) (I : FI) (L : FL) : Option (Int32 × Bool × FI × FL) :=
  (f_178 x1 I L).bind fun q0 =>
  if q0 = 0 then
    some ((-2 : Int32), false, I, L)
  else
    (f_findA I L).bind fun q1 =>
    (f_36 n x1 q1.1 q1.2).bind fun q2 =>
    some (q2.1, true, q2.2.1, q2.2.2)
set_option maxHeartbeats 1000000 in
theorem t_147 (Ls : Nat) (xs : Nat → Int32) (d : Nat) (nh : Option Nat) (rh : Option Nat) (n : Nat) (x1 : Int32) (I : FI) (L : FL) (r : Int32 × Bool × FI × FL) (hf : f_147 n x1 I L = some r) : pEN Ls xs (d + 7) 147 [.ref 0, .int x1] (hp none nh rh [] [] I L) = some (some (.int r.1), hw r.2.1 nh rh r.2.2.1 r.2.2.2) := by
  refine en_run (d := d + 6) (cd := cd_147) (f := (sf 11 rs_11 false 2 (some (.int)) Ls xs (d + 6))) rfl rfl (x := (0, [some (.ref 0), some (.int x1)], [], hp none nh rh [] [] I L)) rfl rfl (Nat.le_of_ble_eq_true rfl) ?_
  unfold f_147 at hf
  refine bs_st 2 (x' := (2, [some (.ref 0), some (.int x1)], [.int x1, .ref 0], hp none nh rh [] [] I L)) rfl ?_
  obtain ⟨q0, hq0, hf⟩ := Option.bind_eq_some_iff.mp hf
  refine bs_call (o := pEN Ls xs (d + 6) 178 [.ref 0, .int x1] (hp none nh rh [] [] I L)) (w := some (.int q0)) (h' := hp none nh rh [] [] I L) (pc := 5) (lo := [some (.ref 0), some (.int x1)]) (rest := []) rfl (t_178 Ls xs (d + 5) none [] [] nh rh x1 I L q0 hq0) ?_
  refine bs_br (t := 19) (e := 8) (lo := [some (.ref 0), some (.int x1)]) (st := []) (h := hp none nh rh [] [] I L) rfl hf (fun hc hf => ?_) (fun hc hf => ?_)
  · refine bs_st 1 (x' := (21, [some (.ref 0), some (.int x1)], [.int (-2 : Int32)], hp none nh rh [] [] I L)) rfl ?_
    cases hf
    exact bs_ret rfl
  · refine bs_st 1 (x' := (9, [some (.ref 0), some (.int x1)], [.ref 0], hp none nh rh [] [] I L)) rfl ?_
    obtain ⟨q1, hq1, hf⟩ := Option.bind_eq_some_iff.mp hf
    refine bs_call (o := pEN Ls xs (d + 6) 187 [.ref 0] (hp none nh rh [] [] I L)) (w := some (.ref 114)) (h' := hp (some 114) nh rh TK (RK (some 3)) q1.1 q1.2) (pc := 12) (lo := [some (.ref 0), some (.int x1)]) (rest := []) rfl (t_findA Ls xs (d + 0) nh rh I L q1 hq1) ?_
    refine bs_st 1 (x' := (13, [some (.ref 0), some (.int x1)], [.int x1, .ref 114], hp (some 114) nh rh TK (RK (some 3)) q1.1 q1.2)) rfl ?_
    obtain ⟨q2, hq2, hf⟩ := Option.bind_eq_some_iff.mp hf
    refine bs_call (o := pEN Ls xs (d + 6) 36 [.ref 114, .int x1] (hp (some 114) nh rh TK (RK (some 3)) q1.1 q1.2)) (w := some (.int q2.1)) (h' := hp (some 114) nh rh TK (RK (some 3)) q2.2.1 q2.2.2) (pc := 16) (lo := [some (.ref 0), some (.int x1)]) (rest := []) rfl (t_36 Ls xs (d + 0) nh rh n x1 q1.1 q1.2 q2 hq2) ?_
    refine bs_st 1 (x' := (21, [some (.ref 0), some (.int x1)], [.int q2.1], hp (some 114) nh rh TK (RK (some 3)) q2.2.1 q2.2.2)) rfl ?_
    cases hf
    exact bs_ret rfl
/-- LampRounds.longer(I) on (0,) -/
def f_147_1 (n : Nat) (x1 : Int32) (I : FI) (L : FL) : Option (Int32 × FI × FL) :=
  (f_178 x1 I L).bind fun q0 =>
  if q0 = 0 then
    some ((-2 : Int32), I, L)
  else
    (f_187 I L).bind fun q1 =>
    (f_36 n x1 q1.1 q1.2).bind fun q2 =>
    some (q2.1, q2.2.1, q2.2.2)
set_option maxHeartbeats 1000000 in
theorem t_147_1 (Ls : Nat) (xs : Nat → Int32) (d : Nat) (nh : Option Nat) (rh : Option Nat) (n : Nat) (x1 : Int32) (I : FI) (L : FL) (r : Int32 × FI × FL) (hf : f_147_1 n x1 I L = some r) : pEN Ls xs (d + 7) 147 [.ref 0, .int x1] (hp (some 114) nh rh TK (RK (some 3)) I L) = some (some (.int r.1), hp (some 114) nh rh TK (RK (some 3)) r.2.1 r.2.2) := by
  refine en_run (d := d + 6) (cd := cd_147) (f := (sf 11 rs_11 false 2 (some (.int)) Ls xs (d + 6))) rfl rfl (x := (0, [some (.ref 0), some (.int x1)], [], hp (some 114) nh rh TK (RK (some 3)) I L)) rfl rfl (Nat.le_of_ble_eq_true rfl) ?_
  unfold f_147_1 at hf
  refine bs_st 2 (x' := (2, [some (.ref 0), some (.int x1)], [.int x1, .ref 0], hp (some 114) nh rh TK (RK (some 3)) I L)) rfl ?_
  obtain ⟨q0, hq0, hf⟩ := Option.bind_eq_some_iff.mp hf
  refine bs_call (o := pEN Ls xs (d + 6) 178 [.ref 0, .int x1] (hp (some 114) nh rh TK (RK (some 3)) I L)) (w := some (.int q0)) (h' := hp (some 114) nh rh TK (RK (some 3)) I L) (pc := 5) (lo := [some (.ref 0), some (.int x1)]) (rest := []) rfl (t_178 Ls xs (d + 5) (some 114) TK (RK (some 3)) nh rh x1 I L q0 hq0) ?_
  refine bs_br (t := 19) (e := 8) (lo := [some (.ref 0), some (.int x1)]) (st := []) (h := hp (some 114) nh rh TK (RK (some 3)) I L) rfl hf (fun hc hf => ?_) (fun hc hf => ?_)
  · refine bs_st 1 (x' := (21, [some (.ref 0), some (.int x1)], [.int (-2 : Int32)], hp (some 114) nh rh TK (RK (some 3)) I L)) rfl ?_
    cases hf
    exact bs_ret rfl
  · refine bs_st 1 (x' := (9, [some (.ref 0), some (.int x1)], [.ref 0], hp (some 114) nh rh TK (RK (some 3)) I L)) rfl ?_
    obtain ⟨q1, hq1, hf⟩ := Option.bind_eq_some_iff.mp hf
    refine bs_call (o := pEN Ls xs (d + 6) 187 [.ref 0] (hp (some 114) nh rh TK (RK (some 3)) I L)) (w := some (.ref 114)) (h' := hp (some 114) nh rh TK (RK (some 3)) q1.1 q1.2) (pc := 12) (lo := [some (.ref 0), some (.int x1)]) (rest := []) rfl (t_187 Ls xs (d + 5) nh rh I L q1 hq1) ?_
    refine bs_st 1 (x' := (13, [some (.ref 0), some (.int x1)], [.int x1, .ref 114], hp (some 114) nh rh TK (RK (some 3)) q1.1 q1.2)) rfl ?_
    obtain ⟨q2, hq2, hf⟩ := Option.bind_eq_some_iff.mp hf
    refine bs_call (o := pEN Ls xs (d + 6) 36 [.ref 114, .int x1] (hp (some 114) nh rh TK (RK (some 3)) q1.1 q1.2)) (w := some (.int q2.1)) (h' := hp (some 114) nh rh TK (RK (some 3)) q2.2.1 q2.2.2) (pc := 16) (lo := [some (.ref 0), some (.int x1)]) (rest := []) rfl (t_36 Ls xs (d + 0) nh rh n x1 q1.1 q1.2 q2 hq2) ?_
    refine bs_st 1 (x' := (21, [some (.ref 0), some (.int x1)], [.int q2.1], hp (some 114) nh rh TK (RK (some 3)) q2.2.1 q2.2.2)) rfl ?_
    cases hf
    exact bs_ret rfl
/-- LampRounds.fraction(III) on () -/
def c_197_1 (n : Nat) (I : FI) (L : FL) (x0 : Int32) (x1 : Int32) (x2 : Int32) (x3 : Int32) : Option (Int32) :=
  if (1 : Int32) ≤ x3 then
    if ¬ x2 = 0 then
      if x3 = 0 then none else some ((x1 / x3))
    else
      if x3 = 0 then none else some ((x0 / x3))
  else
    some ((-1 : Int32))
set_option maxHeartbeats 1000000 in
theorem tc_197_1 (Ls : Nat) (xs : Nat → Int32) (d : Nat) (kp : Option Nat) (tl : List (Nat × Nat)) (rl : List (List (Option Nat))) (nh : Option Nat) (rh : Option Nat) (n : Nat) (I : FI) (L : FL) (w4 : Option Value) (w5 : Option Value) (w6 : Option Value) (x0 : Int32) (x1 : Int32) (x2 : Int32) (x3 : Int32) (r : Int32) (hf : c_197_1 n I L x0 x1 x2 x3 = some r) : Bs cd_197 (sf 11 rs_11 false 7 (some (.int)) Ls xs (d + 0)) (39, [some (.int x0), some (.int x1), some (.int x2), some (.int x3), w4, w5, w6], [], hp kp nh rh tl rl I L) (some (.int r), hp kp nh rh tl rl I L) := by
  unfold c_197_1 at hf
  refine bs_st 2 (x' := (41, [some (.int x0), some (.int x1), some (.int x2), some (.int x3), w4, w5, w6], [.int (1 : Int32), .int x3], hp kp nh rh tl rl I L)) rfl ?_
  refine bs_br (t := 46) (e := 44) (lo := [some (.int x0), some (.int x1), some (.int x2), some (.int x3), w4, w5, w6]) (st := []) (h := hp kp nh rh tl rl I L) rfl hf (fun hc hf => ?_) (fun hc hf => ?_)
  · refine bs_st 1 (x' := (47, [some (.int x0), some (.int x1), some (.int x2), some (.int x3), w4, w5, w6], [.int x2], hp kp nh rh tl rl I L)) rfl ?_
    refine bs_br (t := 56) (e := 50) (lo := [some (.int x0), some (.int x1), some (.int x2), some (.int x3), w4, w5, w6]) (st := []) (h := hp kp nh rh tl rl I L) rfl hf (fun hc hf => ?_) (fun hc hf => ?_)
    · refine bs_st 2 (x' := (58, [some (.int x0), some (.int x1), some (.int x2), some (.int x3), w4, w5, w6], [.int x3, .int x1], hp kp nh rh tl rl I L)) rfl ?_
      refine bs_dv (x' := (59, [some (.int x0), some (.int x1), some (.int x2), some (.int x3), w4, w5, w6], [.int (x1 / x3)], hp kp nh rh tl rl I L)) rfl hf (fun hc hf => ?_)
      cases hf
      exact bs_ret rfl
    · refine bs_st 2 (x' := (52, [some (.int x0), some (.int x1), some (.int x2), some (.int x3), w4, w5, w6], [.int x3, .int x0], hp kp nh rh tl rl I L)) rfl ?_
      refine bs_dv (x' := (53, [some (.int x0), some (.int x1), some (.int x2), some (.int x3), w4, w5, w6], [.int (x0 / x3)], hp kp nh rh tl rl I L)) rfl hf (fun hc hf => ?_)
      refine bs_st 1 (x' := (59, [some (.int x0), some (.int x1), some (.int x2), some (.int x3), w4, w5, w6], [.int (x0 / x3)], hp kp nh rh tl rl I L)) rfl ?_
      cases hf
      exact bs_ret rfl
  · refine bs_st 1 (x' := (45, [some (.int x0), some (.int x1), some (.int x2), some (.int x3), w4, w5, w6], [.int (-1 : Int32)], hp kp nh rh tl rl I L)) rfl ?_
    cases hf
    exact bs_ret rfl
def b_197_0 (n : Nat) (I : FI) (L : FL) (K0 : Int32 → Int32 → Int32 → Int32 → Int32 → Int32 → Option (Int32)) (x0 : Int32) (x1 : Int32) (x2 : Int32) (x3 : Int32) (x4 : Int32) (x5 : Int32) : Option (Int32) :=
  if (64 : Int32) ≤ x5 then
    c_197_1 n I L x0 x1 x2 x3
  else
    if x4 = 0 then
      c_197_1 n I L x0 x1 x2 x3
    else
      if x4 = 0 then none else K0 x0 x1 x2 x4 (x3 - x3 / x4 * x4) (x5 + (1 : Int32))
def c_197_0 (n : Nat) (I : FI) (L : FL) : Nat → Int32 → Int32 → Int32 → Int32 → Int32 → Int32 → Option (Int32)
  | 0, _, _, _, _, _, _ => none
  | m + 1, x0, x1, x2, x3, x4, x5 => b_197_0 n I L (c_197_0 n I L m) x0 x1 x2 x3 x4 x5
set_option maxHeartbeats 1000000 in
theorem tc_197_0 (Ls : Nat) (xs : Nat → Int32) (d : Nat) (kp : Option Nat) (tl : List (Nat × Nat)) (rl : List (List (Option Nat))) (nh : Option Nat) (rh : Option Nat) (n : Nat) (I : FI) (L : FL) : ∀ (m : Nat) (w6 : Option Value) (x0 : Int32) (x1 : Int32) (x2 : Int32) (x3 : Int32) (x4 : Int32) (x5 : Int32) (r : Int32), c_197_0 n I L m x0 x1 x2 x3 x4 x5 = some r → Bs cd_197 (sf 11 rs_11 false 7 (some (.int)) Ls xs (d + 0)) (8, [some (.int x0), some (.int x1), some (.int x2), some (.int x3), some (.int x4), some (.int x5), w6], [], hp kp nh rh tl rl I L) (some (.int r), hp kp nh rh tl rl I L)
  | 0, w6, x0, x1, x2, x3, x4, x5, r, hf => by cases hf
  | m + 1, w6, x0, x1, x2, x3, x4, x5, r, hf => by
    unfold c_197_0 b_197_0 at hf
    have hK0 := tc_197_0 Ls xs d kp tl rl nh rh n I L m
    refine bs_st 2 (x' := (12, [some (.int x0), some (.int x1), some (.int x2), some (.int x3), some (.int x4), some (.int x5), w6], [.int (64 : Int32), .int x5], hp kp nh rh tl rl I L)) rfl ?_
    refine bs_br (t := 39) (e := 15) (lo := [some (.int x0), some (.int x1), some (.int x2), some (.int x3), some (.int x4), some (.int x5), w6]) (st := []) (h := hp kp nh rh tl rl I L) rfl hf (fun hc hf => ?_) (fun hc hf => ?_)
    · exact tc_197_1 Ls xs d kp tl rl nh rh n I L (some (.int x4)) (some (.int x5)) w6 x0 x1 x2 x3 r hf
    · refine bs_st 1 (x' := (17, [some (.int x0), some (.int x1), some (.int x2), some (.int x3), some (.int x4), some (.int x5), w6], [.int x4], hp kp nh rh tl rl I L)) rfl ?_
      refine bs_br (t := 39) (e := 20) (lo := [some (.int x0), some (.int x1), some (.int x2), some (.int x3), some (.int x4), some (.int x5), w6]) (st := []) (h := hp kp nh rh tl rl I L) rfl hf (fun hc hf => ?_) (fun hc hf => ?_)
      · exact tc_197_1 Ls xs d kp tl rl nh rh n I L (some (.int x4)) (some (.int x5)) w6 x0 x1 x2 x3 r hf
      · refine bs_st 2 (x' := (23, [some (.int x0), some (.int x1), some (.int x2), some (.int x3), some (.int x4), some (.int x5), w6], [.int x4, .int x3], hp kp nh rh tl rl I L)) rfl ?_
        refine bs_dv (x' := (24, [some (.int x0), some (.int x1), some (.int x2), some (.int x3), some (.int x4), some (.int x5), w6], [.int (x3 - x3 / x4 * x4)], hp kp nh rh tl rl I L)) rfl hf (fun hc hf => ?_)
        refine bs_st 7 (x' := (8, [some (.int x0), some (.int x1), some (.int x2), some (.int x4), some (.int (x3 - x3 / x4 * x4)), some (.int (x5 + (1 : Int32))), some (.int (x3 - x3 / x4 * x4))], [], hp kp nh rh tl rl I L)) rfl ?_
        exact hK0 (some (.int (x3 - x3 / x4 * x4))) x0 x1 x2 x4 (x3 - x3 / x4 * x4) (x5 + (1 : Int32)) r hf
def f_197 (n : Nat) (x0 : Int32) (x1 : Int32) (x2 : Int32) (I : FI) (L : FL) : Option (Int32) :=
  c_197_0 n I L n x0 x1 x2 x1 x0 (0 : Int32)
set_option maxHeartbeats 1000000 in
theorem t_197 (Ls : Nat) (xs : Nat → Int32) (d : Nat) (kp : Option Nat) (tl : List (Nat × Nat)) (rl : List (List (Option Nat))) (nh : Option Nat) (rh : Option Nat) (n : Nat) (x0 : Int32) (x1 : Int32) (x2 : Int32) (I : FI) (L : FL) (r : Int32) (hf : f_197 n x0 x1 x2 I L = some r) : pEN Ls xs (d + 1) 197 [.int x0, .int x1, .int x2] (hp kp nh rh tl rl I L) = some (some (.int r), hp kp nh rh tl rl I L) := by
  refine en_run (d := d + 0) (cd := cd_197) (f := (sf 11 rs_11 false 7 (some (.int)) Ls xs (d + 0))) rfl rfl (x := (0, [some (.int x0), some (.int x1), some (.int x2), none, none, none, none], [], hp kp nh rh tl rl I L)) rfl rfl (Nat.le_of_ble_eq_true rfl) ?_
  unfold f_197 at hf
  refine bs_st 6 (x' := (8, [some (.int x0), some (.int x1), some (.int x2), some (.int x1), some (.int x0), some (.int (0 : Int32)), none], [], hp kp nh rh tl rl I L)) rfl ?_
  exact tc_197_0 Ls xs d kp tl rl nh rh n I L n none x0 x1 x2 x1 x0 (0 : Int32) r hf
/-- LampRounds.density(I) on (0,) -/
def b_148_0 (n : Nat) (I : FI) (L : FL) (K0 : Int32 → Int32 → Int32 → Option (Int32)) (x1 : Int32) (x2 : Int32) (x3 : Int32) : Option (Int32) :=
  if I 3 4 ≤ x3 then
    (f_197 n x2 (840 : Int32) x1 I L).bind fun q2 =>
    some (q2)
  else
    if pin x3 4 = true then (if ((I 4 x3.toNatClampNeg) + (1 : Int32)) = 0 then none else K0 x1 (x2 + ((840 : Int32) / ((I 4 x3.toNatClampNeg) + (1 : Int32)))) (x3 + (1 : Int32))) else none
def c_148_0 (n : Nat) (I : FI) (L : FL) : Nat → Int32 → Int32 → Int32 → Option (Int32)
  | 0, _, _, _ => none
  | m + 1, x1, x2, x3 => b_148_0 n I L (c_148_0 n I L m) x1 x2 x3
set_option maxHeartbeats 1000000 in
theorem tc_148_0 (Ls : Nat) (xs : Nat → Int32) (d : Nat) (kp : Option Nat) (tl : List (Nat × Nat)) (rl : List (List (Option Nat))) (nh : Option Nat) (rh : Option Nat) (n : Nat) (I : FI) (L : FL) : ∀ (m : Nat) (x1 : Int32) (x2 : Int32) (x3 : Int32) (r : Int32), c_148_0 n I L m x1 x2 x3 = some r → Bs cd_148 (sf 11 rs_11 false 4 (some (.int)) Ls xs (d + 1)) (21, [some (.ref 0), some (.int x1), some (.int x2), some (.int x3)], [], hp kp nh rh tl rl I L) (some (.int r), hp kp nh rh tl rl I L)
  | 0, x1, x2, x3, r, hf => by cases hf
  | m + 1, x1, x2, x3, r, hf => by
    unfold c_148_0 b_148_0 at hf
    have hK0 := tc_148_0 Ls xs d kp tl rl nh rh n I L m
    refine bs_st 4 (x' := (29, [some (.ref 0), some (.int x1), some (.int x2), some (.int x3)], [.int (I 3 4), .int x3], hp kp nh rh tl rl I L)) rfl ?_
    refine bs_br (t := 56) (e := 32) (lo := [some (.ref 0), some (.int x1), some (.int x2), some (.int x3)]) (st := []) (h := hp kp nh rh tl rl I L) rfl hf (fun hc hf => ?_) (fun hc hf => ?_)
    · refine bs_st 3 (x' := (61, [some (.ref 0), some (.int x1), some (.int x2), some (.int x3)], [.int x1, .int (840 : Int32), .int x2], hp kp nh rh tl rl I L)) rfl ?_
      obtain ⟨q2, hq2, hf⟩ := Option.bind_eq_some_iff.mp hf
      refine bs_call (o := pEN Ls xs (d + 1) 197 [.int x2, .int (840 : Int32), .int x1] (hp kp nh rh tl rl I L)) (w := some (.int q2)) (h' := hp kp nh rh tl rl I L) (pc := 64) (lo := [some (.ref 0), some (.int x1), some (.int x2), some (.int x3)]) (rest := []) rfl (t_197 Ls xs (d + 0) kp tl rl nh rh n x2 (840 : Int32) x1 I L q2 hq2) ?_
      cases hf
      exact bs_ret rfl
    · refine bs_st 6 (x' := (44, [some (.ref 0), some (.int x1), some (.int x2), some (.int x3)], [.int x3, .ref 4, .int (840 : Int32), .int x2], hp kp nh rh tl rl I L)) rfl ?_
      refine bs_gd (x' := (45, [some (.ref 0), some (.int x1), some (.int x2), some (.int x3)], [.int (I 4 x3.toNatClampNeg), .int (840 : Int32), .int x2], hp kp nh rh tl rl I L)) rfl hf (fun hc hf => ?_)
      refine bs_st 2 (x' := (47, [some (.ref 0), some (.int x1), some (.int x2), some (.int x3)], [.int ((I 4 x3.toNatClampNeg) + (1 : Int32)), .int (840 : Int32), .int x2], hp kp nh rh tl rl I L)) rfl ?_
      refine bs_dv (x' := (48, [some (.ref 0), some (.int x1), some (.int x2), some (.int x3)], [.int ((840 : Int32) / ((I 4 x3.toNatClampNeg) + (1 : Int32))), .int x2], hp kp nh rh tl rl I L)) rfl hf (fun hc hf => ?_)
      refine bs_st 4 (x' := (21, [some (.ref 0), some (.int x1), some (.int (x2 + ((840 : Int32) / ((I 4 x3.toNatClampNeg) + (1 : Int32))))), some (.int (x3 + (1 : Int32)))], [], hp kp nh rh tl rl I L)) rfl ?_
      exact hK0 x1 (x2 + ((840 : Int32) / ((I 4 x3.toNatClampNeg) + (1 : Int32)))) (x3 + (1 : Int32)) r hf
def f_148 (n : Nat) (x1 : Int32) (I : FI) (L : FL) : Option (Int32) :=
  (f_177 I L).bind fun q0 =>
  if q0 = 0 then
    some ((-2 : Int32))
  else
    (f_182 x1 I L).bind fun q1 =>
    if ¬ q1 = 0 then
      c_148_0 n I L n x1 (0 : Int32) (0 : Int32)
    else
      some ((-2 : Int32))
set_option maxHeartbeats 1000000 in
theorem t_148 (Ls : Nat) (xs : Nat → Int32) (d : Nat) (kp : Option Nat) (tl : List (Nat × Nat)) (rl : List (List (Option Nat))) (nh : Option Nat) (rh : Option Nat) (n : Nat) (x1 : Int32) (I : FI) (L : FL) (r : Int32) (hf : f_148 n x1 I L = some r) : pEN Ls xs (d + 2) 148 [.ref 0, .int x1] (hp kp nh rh tl rl I L) = some (some (.int r), hp kp nh rh tl rl I L) := by
  refine en_run (d := d + 1) (cd := cd_148) (f := (sf 11 rs_11 false 4 (some (.int)) Ls xs (d + 1))) rfl rfl (x := (0, [some (.ref 0), some (.int x1), none, none], [], hp kp nh rh tl rl I L)) rfl rfl (Nat.le_of_ble_eq_true rfl) ?_
  unfold f_148 at hf
  refine bs_st 1 (x' := (1, [some (.ref 0), some (.int x1), none, none], [.ref 0], hp kp nh rh tl rl I L)) rfl ?_
  obtain ⟨q0, hq0, hf⟩ := Option.bind_eq_some_iff.mp hf
  refine bs_call (o := pEN Ls xs (d + 1) 177 [.ref 0] (hp kp nh rh tl rl I L)) (w := some (.int q0)) (h' := hp kp nh rh tl rl I L) (pc := 4) (lo := [some (.ref 0), some (.int x1), none, none]) (rest := []) rfl (t_177 Ls xs (d + 0) kp tl rl nh rh I L q0 hq0) ?_
  refine bs_br (t := 14) (e := 7) (lo := [some (.ref 0), some (.int x1), none, none]) (st := []) (h := hp kp nh rh tl rl I L) rfl hf (fun hc hf => ?_) (fun hc hf => ?_)
  · refine bs_st 1 (x' := (16, [some (.ref 0), some (.int x1), none, none], [.int (-2 : Int32)], hp kp nh rh tl rl I L)) rfl ?_
    cases hf
    exact bs_ret rfl
  · refine bs_st 1 (x' := (8, [some (.ref 0), some (.int x1), none, none], [.int x1], hp kp nh rh tl rl I L)) rfl ?_
    obtain ⟨q1, hq1, hf⟩ := Option.bind_eq_some_iff.mp hf
    refine bs_call (o := pEN Ls xs (d + 1) 182 [.int x1] (hp kp nh rh tl rl I L)) (w := some (.int q1)) (h' := hp kp nh rh tl rl I L) (pc := 11) (lo := [some (.ref 0), some (.int x1), none, none]) (rest := []) rfl (t_182 Ls xs (d + 0) kp tl rl nh rh x1 I L q1 hq1) ?_
    refine bs_br (t := 17) (e := 14) (lo := [some (.ref 0), some (.int x1), none, none]) (st := []) (h := hp kp nh rh tl rl I L) rfl hf (fun hc hf => ?_) (fun hc hf => ?_)
    · refine bs_st 4 (x' := (21, [some (.ref 0), some (.int x1), some (.int (0 : Int32)), some (.int (0 : Int32))], [], hp kp nh rh tl rl I L)) rfl ?_
      exact tc_148_0 Ls xs d kp tl rl nh rh n I L n x1 (0 : Int32) (0 : Int32) r hf
    · refine bs_st 1 (x' := (16, [some (.ref 0), some (.int x1), none, none], [.int (-2 : Int32)], hp kp nh rh tl rl I L)) rfl ?_
      cases hf
      exact bs_ret rfl
/-- LampRounds.even() on (0,) -/
def b_149_1 (n : Nat) (I : FI) (L : FL) (K0 : Int32 → Option (Int32)) (K1 : Int32 → Int32 → Option (Int32)) (x1 : Int32) (x2 : Int32) : Option (Int32) :=
  if x1 ≤ x2 then
    K0 (x1 + (1 : Int32))
  else
    if pin x1 4 = true then (if pin x2 4 = true then ((f_358_1 ((I 4 x1.toNatClampNeg) + (1 : Int32)) ((I 4 x2.toNatClampNeg) + (1 : Int32)) I L).bind fun q1 =>
        (f_359 ((I 4 x1.toNatClampNeg) + (1 : Int32)) ((I 4 x2.toNatClampNeg) + (1 : Int32)) I L).bind fun q2 =>
        if q2 = 0 then none else (if (q1 - q1 / q2 * q2) = 0 then
            K1 x1 (x2 + (1 : Int32))
          else
            some ((0 : Int32)))) else none) else none
def c_149_1 (n : Nat) (I : FI) (L : FL) (K0 : Int32 → Option (Int32)) : Nat → Int32 → Int32 → Option (Int32)
  | 0, _, _ => none
  | m + 1, x1, x2 => b_149_1 n I L K0 (c_149_1 n I L K0 m) x1 x2
set_option maxHeartbeats 1000000 in
theorem tc_149_1 (Ls : Nat) (xs : Nat → Int32) (d : Nat) (kp : Option Nat) (tl : List (Nat × Nat)) (rl : List (List (Option Nat))) (nh : Option Nat) (rh : Option Nat) (n : Nat) (I : FI) (L : FL) (K0 : Int32 → Option (Int32)) (hK0 : ∀ (w2 : Option Value) (w3 : Option Value) (w4 : Option Value) (x1 : Int32) (r : Int32), K0 x1 = some r → Bs cd_149 (sf 11 rs_11 false 5 (some (.int)) Ls xs (d + 1)) (12, [some (.ref 0), some (.int x1), w2, w3, w4], [], hp kp nh rh tl rl I L) (some (.int r), hp kp nh rh tl rl I L)) : ∀ (m : Nat) (w3 : Option Value) (w4 : Option Value) (x1 : Int32) (x2 : Int32) (r : Int32), c_149_1 n I L K0 m x1 x2 = some r → Bs cd_149 (sf 11 rs_11 false 5 (some (.int)) Ls xs (d + 1)) (25, [some (.ref 0), some (.int x1), some (.int x2), w3, w4], [], hp kp nh rh tl rl I L) (some (.int r), hp kp nh rh tl rl I L)
  | 0, w3, w4, x1, x2, r, hf => by cases hf
  | m + 1, w3, w4, x1, x2, r, hf => by
    unfold c_149_1 b_149_1 at hf
    have hK1 := tc_149_1 Ls xs d kp tl rl nh rh n I L K0 hK0 m
    refine bs_st 2 (x' := (27, [some (.ref 0), some (.int x1), some (.int x2), w3, w4], [.int x1, .int x2], hp kp nh rh tl rl I L)) rfl ?_
    refine bs_br (t := 79) (e := 30) (lo := [some (.ref 0), some (.int x1), some (.int x2), w3, w4]) (st := []) (h := hp kp nh rh tl rl I L) rfl hf (fun hc hf => ?_) (fun hc hf => ?_)
    · refine bs_st 2 (x' := (12, [some (.ref 0), some (.int (x1 + (1 : Int32))), some (.int x2), w3, w4], [], hp kp nh rh tl rl I L)) rfl ?_
      exact hK0 (some (.int x2)) w3 w4 (x1 + (1 : Int32)) r hf
    · refine bs_st 4 (x' := (38, [some (.ref 0), some (.int x1), some (.int x2), w3, w4], [.int x1, .ref 4], hp kp nh rh tl rl I L)) rfl ?_
      refine bs_gd (x' := (39, [some (.ref 0), some (.int x1), some (.int x2), w3, w4], [.int (I 4 x1.toNatClampNeg)], hp kp nh rh tl rl I L)) rfl hf (fun hc hf => ?_)
      refine bs_st 7 (x' := (50, [some (.ref 0), some (.int x1), some (.int x2), some (.int ((I 4 x1.toNatClampNeg) + (1 : Int32))), w4], [.int x2, .ref 4], hp kp nh rh tl rl I L)) rfl ?_
      refine bs_gd (x' := (51, [some (.ref 0), some (.int x1), some (.int x2), some (.int ((I 4 x1.toNatClampNeg) + (1 : Int32))), w4], [.int (I 4 x2.toNatClampNeg)], hp kp nh rh tl rl I L)) rfl hf (fun hc hf => ?_)
      refine bs_st 5 (x' := (58, [some (.ref 0), some (.int x1), some (.int x2), some (.int ((I 4 x1.toNatClampNeg) + (1 : Int32))), some (.int ((I 4 x2.toNatClampNeg) + (1 : Int32)))], [.int ((I 4 x2.toNatClampNeg) + (1 : Int32)), .int ((I 4 x1.toNatClampNeg) + (1 : Int32))], hp kp nh rh tl rl I L)) rfl ?_
      obtain ⟨q1, hq1, hf⟩ := Option.bind_eq_some_iff.mp hf
      refine bs_call (o := pEN Ls xs (d + 1) 358 [.int ((I 4 x1.toNatClampNeg) + (1 : Int32)), .int ((I 4 x2.toNatClampNeg) + (1 : Int32))] (hp kp nh rh tl rl I L)) (w := some (.int q1)) (h' := hp kp nh rh tl rl I L) (pc := 61) (lo := [some (.ref 0), some (.int x1), some (.int x2), some (.int ((I 4 x1.toNatClampNeg) + (1 : Int32))), some (.int ((I 4 x2.toNatClampNeg) + (1 : Int32)))]) (rest := []) rfl (t_358_1 Ls xs (d + 0) kp tl rl nh rh ((I 4 x1.toNatClampNeg) + (1 : Int32)) ((I 4 x2.toNatClampNeg) + (1 : Int32)) I L q1 hq1) ?_
      refine bs_st 2 (x' := (64, [some (.ref 0), some (.int x1), some (.int x2), some (.int ((I 4 x1.toNatClampNeg) + (1 : Int32))), some (.int ((I 4 x2.toNatClampNeg) + (1 : Int32)))], [.int ((I 4 x2.toNatClampNeg) + (1 : Int32)), .int ((I 4 x1.toNatClampNeg) + (1 : Int32)), .int q1], hp kp nh rh tl rl I L)) rfl ?_
      obtain ⟨q2, hq2, hf⟩ := Option.bind_eq_some_iff.mp hf
      refine bs_call (o := pEN Ls xs (d + 1) 359 [.int ((I 4 x1.toNatClampNeg) + (1 : Int32)), .int ((I 4 x2.toNatClampNeg) + (1 : Int32))] (hp kp nh rh tl rl I L)) (w := some (.int q2)) (h' := hp kp nh rh tl rl I L) (pc := 67) (lo := [some (.ref 0), some (.int x1), some (.int x2), some (.int ((I 4 x1.toNatClampNeg) + (1 : Int32))), some (.int ((I 4 x2.toNatClampNeg) + (1 : Int32)))]) (rest := [.int q1]) rfl (t_359 Ls xs (d + 0) kp tl rl nh rh ((I 4 x1.toNatClampNeg) + (1 : Int32)) ((I 4 x2.toNatClampNeg) + (1 : Int32)) I L q2 hq2) ?_
      refine bs_dv (x' := (68, [some (.ref 0), some (.int x1), some (.int x2), some (.int ((I 4 x1.toNatClampNeg) + (1 : Int32))), some (.int ((I 4 x2.toNatClampNeg) + (1 : Int32)))], [.int (q1 - q1 / q2 * q2)], hp kp nh rh tl rl I L)) rfl hf (fun hc hf => ?_)
      refine bs_br (t := 73) (e := 71) (lo := [some (.ref 0), some (.int x1), some (.int x2), some (.int ((I 4 x1.toNatClampNeg) + (1 : Int32))), some (.int ((I 4 x2.toNatClampNeg) + (1 : Int32)))]) (st := []) (h := hp kp nh rh tl rl I L) rfl hf (fun hc hf => ?_) (fun hc hf => ?_)
      · refine bs_st 2 (x' := (25, [some (.ref 0), some (.int x1), some (.int (x2 + (1 : Int32))), some (.int ((I 4 x1.toNatClampNeg) + (1 : Int32))), some (.int ((I 4 x2.toNatClampNeg) + (1 : Int32)))], [], hp kp nh rh tl rl I L)) rfl ?_
        exact hK1 (some (.int ((I 4 x1.toNatClampNeg) + (1 : Int32)))) (some (.int ((I 4 x2.toNatClampNeg) + (1 : Int32)))) x1 (x2 + (1 : Int32)) r hf
      · refine bs_st 1 (x' := (72, [some (.ref 0), some (.int x1), some (.int x2), some (.int ((I 4 x1.toNatClampNeg) + (1 : Int32))), some (.int ((I 4 x2.toNatClampNeg) + (1 : Int32)))], [.int (0 : Int32)], hp kp nh rh tl rl I L)) rfl ?_
        cases hf
        exact bs_ret rfl
def b_149_0 (n : Nat) (I : FI) (L : FL) (K0 : Int32 → Option (Int32)) (x1 : Int32) : Option (Int32) :=
  if I 3 4 ≤ x1 then
    some ((1 : Int32))
  else
    c_149_1 n I L K0 n x1 (0 : Int32)
def c_149_0 (n : Nat) (I : FI) (L : FL) : Nat → Int32 → Option (Int32)
  | 0, _ => none
  | m + 1, x1 => b_149_0 n I L (c_149_0 n I L m) x1
set_option maxHeartbeats 1000000 in
theorem tc_149_0 (Ls : Nat) (xs : Nat → Int32) (d : Nat) (kp : Option Nat) (tl : List (Nat × Nat)) (rl : List (List (Option Nat))) (nh : Option Nat) (rh : Option Nat) (n : Nat) (I : FI) (L : FL) : ∀ (m : Nat) (w2 : Option Value) (w3 : Option Value) (w4 : Option Value) (x1 : Int32) (r : Int32), c_149_0 n I L m x1 = some r → Bs cd_149 (sf 11 rs_11 false 5 (some (.int)) Ls xs (d + 1)) (12, [some (.ref 0), some (.int x1), w2, w3, w4], [], hp kp nh rh tl rl I L) (some (.int r), hp kp nh rh tl rl I L)
  | 0, w2, w3, w4, x1, r, hf => by cases hf
  | m + 1, w2, w3, w4, x1, r, hf => by
    unfold c_149_0 b_149_0 at hf
    have hK0 := tc_149_0 Ls xs d kp tl rl nh rh n I L m
    refine bs_st 4 (x' := (20, [some (.ref 0), some (.int x1), w2, w3, w4], [.int (I 3 4), .int x1], hp kp nh rh tl rl I L)) rfl ?_
    refine bs_br (t := 85) (e := 23) (lo := [some (.ref 0), some (.int x1), w2, w3, w4]) (st := []) (h := hp kp nh rh tl rl I L) rfl hf (fun hc hf => ?_) (fun hc hf => ?_)
    · refine bs_st 1 (x' := (86, [some (.ref 0), some (.int x1), w2, w3, w4], [.int (1 : Int32)], hp kp nh rh tl rl I L)) rfl ?_
      cases hf
      exact bs_ret rfl
    · refine bs_st 2 (x' := (25, [some (.ref 0), some (.int x1), some (.int (0 : Int32)), w3, w4], [], hp kp nh rh tl rl I L)) rfl ?_
      exact tc_149_1 Ls xs d kp tl rl nh rh n I L _ hK0 n w3 w4 x1 (0 : Int32) r hf
def f_149 (n : Nat) (I : FI) (L : FL) : Option (Int32) :=
  (f_177 I L).bind fun q0 =>
  if ¬ q0 = 0 then
    c_149_0 n I L n (0 : Int32)
  else
    some ((-2 : Int32))
set_option maxHeartbeats 1000000 in
theorem t_149 (Ls : Nat) (xs : Nat → Int32) (d : Nat) (kp : Option Nat) (tl : List (Nat × Nat)) (rl : List (List (Option Nat))) (nh : Option Nat) (rh : Option Nat) (n : Nat) (I : FI) (L : FL) (r : Int32) (hf : f_149 n I L = some r) : pEN Ls xs (d + 2) 149 [.ref 0] (hp kp nh rh tl rl I L) = some (some (.int r), hp kp nh rh tl rl I L) := by
  refine en_run (d := d + 1) (cd := cd_149) (f := (sf 11 rs_11 false 5 (some (.int)) Ls xs (d + 1))) rfl rfl (x := (0, [some (.ref 0), none, none, none, none], [], hp kp nh rh tl rl I L)) rfl rfl (Nat.le_of_ble_eq_true rfl) ?_
  unfold f_149 at hf
  refine bs_st 1 (x' := (1, [some (.ref 0), none, none, none, none], [.ref 0], hp kp nh rh tl rl I L)) rfl ?_
  obtain ⟨q0, hq0, hf⟩ := Option.bind_eq_some_iff.mp hf
  refine bs_call (o := pEN Ls xs (d + 1) 177 [.ref 0] (hp kp nh rh tl rl I L)) (w := some (.int q0)) (h' := hp kp nh rh tl rl I L) (pc := 4) (lo := [some (.ref 0), none, none, none, none]) (rest := []) rfl (t_177 Ls xs (d + 0) kp tl rl nh rh I L q0 hq0) ?_
  refine bs_br (t := 10) (e := 7) (lo := [some (.ref 0), none, none, none, none]) (st := []) (h := hp kp nh rh tl rl I L) rfl hf (fun hc hf => ?_) (fun hc hf => ?_)
  · refine bs_st 2 (x' := (12, [some (.ref 0), some (.int (0 : Int32)), none, none, none], [], hp kp nh rh tl rl I L)) rfl ?_
    exact tc_149_0 Ls xs d kp tl rl nh rh n I L n none none none (0 : Int32) r hf
  · refine bs_st 1 (x' := (9, [some (.ref 0), none, none, none, none], [.int (-2 : Int32)], hp kp nh rh tl rl I L)) rfl ?_
    cases hf
    exact bs_ret rfl
/-- LampRounds.leastShare(I) on (0,) -/
def c_190_2 (n : Nat) (K1 : Int32 → Int32 → Int32 → FI → FL → Option (Int32 × Bool × FI × FL)) (x1 : Int32) (x2 : Int32) (x3 : Int32) (I : FI) (L : FL) : Option (Int32 × Bool × FI × FL) :=
  if x2 < x3 then
    some ((-1 : Int32), true, I, L)
  else
    (f_23 I L).bind fun q5 =>
    (f_187 I L).bind fun q6 =>
    (f_32 n x3 q6.1 q6.2).bind fun q7 =>
    (f_188 q5 q7.1 q7.2.1 q7.2.2).bind fun q8 =>
    if q8 = 0 then
      K1 x1 x2 x3 q7.2.1 q7.2.2
    else
      (f_187 q7.2.1 q7.2.2).bind fun q9 =>
      (f_32 n (x2 &&& (x3 ^^^ (-1 : Int32))) q9.1 q9.2).bind fun q10 =>
      (f_188 x1 q10.1 q10.2.1 q10.2.2).bind fun q11 =>
      if q11 = 0 then
        K1 x1 x2 x3 q10.2.1 q10.2.2
      else
        some (x3, true, q10.2.1, q10.2.2)
set_option maxHeartbeats 1000000 in
theorem tc_190_2 (Ls : Nat) (xs : Nat → Int32) (d : Nat) (nh : Option Nat) (rh : Option Nat) (n : Nat) (K1 : Int32 → Int32 → Int32 → FI → FL → Option (Int32 × Bool × FI × FL)) (hK1 : ∀ (w4 : Option Value) (x1 : Int32) (x2 : Int32) (x3 : Int32) (I : FI) (L : FL) (r : Int32 × Bool × FI × FL), K1 x1 x2 x3 I L = some r → Bs cd_190 (sf 11 rs_11 false 5 (some (.int)) Ls xs (d + 6)) (61, [some (.ref 0), some (.int x1), some (.int x2), some (.int x3), w4], [], hp (some 114) nh rh TK (RK (some 3)) I L) (some (.int r.1), hw r.2.1 nh rh r.2.2.1 r.2.2.2)) (w4 : Option Value) (x1 : Int32) (x2 : Int32) (x3 : Int32) (I : FI) (L : FL) (r : Int32 × Bool × FI × FL) (hf : c_190_2 n K1 x1 x2 x3 I L = some r) : Bs cd_190 (sf 11 rs_11 false 5 (some (.int)) Ls xs (d + 6)) (10, [some (.ref 0), some (.int x1), some (.int x2), some (.int x3), w4], [], hp (some 114) nh rh TK (RK (some 3)) I L) (some (.int r.1), hw r.2.1 nh rh r.2.2.1 r.2.2.2) := by
  unfold c_190_2 at hf
  refine bs_st 2 (x' := (12, [some (.ref 0), some (.int x1), some (.int x2), some (.int x3), w4], [.int x2, .int x3], hp (some 114) nh rh TK (RK (some 3)) I L)) rfl ?_
  refine bs_br (t := 67) (e := 15) (lo := [some (.ref 0), some (.int x1), some (.int x2), some (.int x3), w4]) (st := []) (h := hp (some 114) nh rh TK (RK (some 3)) I L) rfl hf (fun hc hf => ?_) (fun hc hf => ?_)
  · refine bs_st 1 (x' := (68, [some (.ref 0), some (.int x1), some (.int x2), some (.int x3), w4], [.int (-1 : Int32)], hp (some 114) nh rh TK (RK (some 3)) I L)) rfl ?_
    cases hf
    exact bs_ret rfl
  · refine bs_st 2 (x' := (19, [some (.ref 0), some (.int x1), some (.int x2), some (.int x3), w4], [.ref 3], hp (some 114) nh rh TK (RK (some 3)) I L)) rfl ?_
    obtain ⟨q5, hq5, hf⟩ := Option.bind_eq_some_iff.mp hf
    refine bs_call (o := pEN Ls xs (d + 6) 23 [.ref 3] (hp (some 114) nh rh TK (RK (some 3)) I L)) (w := some (.int q5)) (h' := hp (some 114) nh rh TK (RK (some 3)) I L) (pc := 22) (lo := [some (.ref 0), some (.int x1), some (.int x2), some (.int x3), w4]) (rest := []) rfl (t_23 Ls xs (d + 5) (some 114) TK (RK (some 3)) nh rh I L q5 hq5) ?_
    refine bs_st 1 (x' := (23, [some (.ref 0), some (.int x1), some (.int x2), some (.int x3), w4], [.ref 0, .int q5], hp (some 114) nh rh TK (RK (some 3)) I L)) rfl ?_
    obtain ⟨q6, hq6, hf⟩ := Option.bind_eq_some_iff.mp hf
    refine bs_call (o := pEN Ls xs (d + 6) 187 [.ref 0] (hp (some 114) nh rh TK (RK (some 3)) I L)) (w := some (.ref 114)) (h' := hp (some 114) nh rh TK (RK (some 3)) q6.1 q6.2) (pc := 26) (lo := [some (.ref 0), some (.int x1), some (.int x2), some (.int x3), w4]) (rest := [.int q5]) rfl (t_187 Ls xs (d + 5) nh rh I L q6 hq6) ?_
    refine bs_st 1 (x' := (27, [some (.ref 0), some (.int x1), some (.int x2), some (.int x3), w4], [.int x3, .ref 114, .int q5], hp (some 114) nh rh TK (RK (some 3)) q6.1 q6.2)) rfl ?_
    obtain ⟨q7, hq7, hf⟩ := Option.bind_eq_some_iff.mp hf
    refine bs_call (o := pEN Ls xs (d + 6) 32 [.ref 114, .int x3] (hp (some 114) nh rh TK (RK (some 3)) q6.1 q6.2)) (w := some (.int q7.1)) (h' := hp (some 114) nh rh TK (RK (some 3)) q7.2.1 q7.2.2) (pc := 30) (lo := [some (.ref 0), some (.int x1), some (.int x2), some (.int x3), w4]) (rest := [.int q5]) rfl (t_32 Ls xs (d + 1) nh rh n x3 q6.1 q6.2 q7 hq7) ?_
    obtain ⟨q8, hq8, hf⟩ := Option.bind_eq_some_iff.mp hf
    refine bs_call (o := pEN Ls xs (d + 6) 188 [.int q5, .int q7.1] (hp (some 114) nh rh TK (RK (some 3)) q7.2.1 q7.2.2)) (w := some (.int q8)) (h' := hp (some 114) nh rh TK (RK (some 3)) q7.2.1 q7.2.2) (pc := 33) (lo := [some (.ref 0), some (.int x1), some (.int x2), some (.int x3), w4]) (rest := []) rfl (t_188 Ls xs (d + 5) (some 114) TK (RK (some 3)) nh rh q5 q7.1 q7.2.1 q7.2.2 q8 hq8) ?_
    refine bs_st 2 (x' := (37, [some (.ref 0), some (.int x1), some (.int x2), some (.int x3), some (.int q8)], [.int q8], hp (some 114) nh rh TK (RK (some 3)) q7.2.1 q7.2.2)) rfl ?_
    refine bs_br (t := 61) (e := 40) (lo := [some (.ref 0), some (.int x1), some (.int x2), some (.int x3), some (.int q8)]) (st := []) (h := hp (some 114) nh rh TK (RK (some 3)) q7.2.1 q7.2.2) rfl hf (fun hc hf => ?_) (fun hc hf => ?_)
    · exact hK1 (some (.int q8)) x1 x2 x3 q7.2.1 q7.2.2 r hf
    · refine bs_st 2 (x' := (42, [some (.ref 0), some (.int x1), some (.int x2), some (.int x3), some (.int q8)], [.ref 0, .int x1], hp (some 114) nh rh TK (RK (some 3)) q7.2.1 q7.2.2)) rfl ?_
      obtain ⟨q9, hq9, hf⟩ := Option.bind_eq_some_iff.mp hf
      refine bs_call (o := pEN Ls xs (d + 6) 187 [.ref 0] (hp (some 114) nh rh TK (RK (some 3)) q7.2.1 q7.2.2)) (w := some (.ref 114)) (h' := hp (some 114) nh rh TK (RK (some 3)) q9.1 q9.2) (pc := 45) (lo := [some (.ref 0), some (.int x1), some (.int x2), some (.int x3), some (.int q8)]) (rest := [.int x1]) rfl (t_187 Ls xs (d + 5) nh rh q7.2.1 q7.2.2 q9 hq9) ?_
      refine bs_st 5 (x' := (50, [some (.ref 0), some (.int x1), some (.int x2), some (.int x3), some (.int q8)], [.int (x2 &&& (x3 ^^^ (-1 : Int32))), .ref 114, .int x1], hp (some 114) nh rh TK (RK (some 3)) q9.1 q9.2)) rfl ?_
      obtain ⟨q10, hq10, hf⟩ := Option.bind_eq_some_iff.mp hf
      refine bs_call (o := pEN Ls xs (d + 6) 32 [.ref 114, .int (x2 &&& (x3 ^^^ (-1 : Int32)))] (hp (some 114) nh rh TK (RK (some 3)) q9.1 q9.2)) (w := some (.int q10.1)) (h' := hp (some 114) nh rh TK (RK (some 3)) q10.2.1 q10.2.2) (pc := 53) (lo := [some (.ref 0), some (.int x1), some (.int x2), some (.int x3), some (.int q8)]) (rest := [.int x1]) rfl (t_32 Ls xs (d + 1) nh rh n (x2 &&& (x3 ^^^ (-1 : Int32))) q9.1 q9.2 q10 hq10) ?_
      obtain ⟨q11, hq11, hf⟩ := Option.bind_eq_some_iff.mp hf
      refine bs_call (o := pEN Ls xs (d + 6) 188 [.int x1, .int q10.1] (hp (some 114) nh rh TK (RK (some 3)) q10.2.1 q10.2.2)) (w := some (.int q11)) (h' := hp (some 114) nh rh TK (RK (some 3)) q10.2.1 q10.2.2) (pc := 56) (lo := [some (.ref 0), some (.int x1), some (.int x2), some (.int x3), some (.int q8)]) (rest := []) rfl (t_188 Ls xs (d + 5) (some 114) TK (RK (some 3)) nh rh x1 q10.1 q10.2.1 q10.2.2 q11 hq11) ?_
      refine bs_br (t := 61) (e := 59) (lo := [some (.ref 0), some (.int x1), some (.int x2), some (.int x3), some (.int q8)]) (st := []) (h := hp (some 114) nh rh TK (RK (some 3)) q10.2.1 q10.2.2) rfl hf (fun hc hf => ?_) (fun hc hf => ?_)
      · exact hK1 (some (.int q8)) x1 x2 x3 q10.2.1 q10.2.2 r hf
      · refine bs_st 1 (x' := (60, [some (.ref 0), some (.int x1), some (.int x2), some (.int x3), some (.int q8)], [.int x3], hp (some 114) nh rh TK (RK (some 3)) q10.2.1 q10.2.2)) rfl ?_
        cases hf
        exact bs_ret rfl
def b_190_1 (n : Nat) (K1 : Int32 → Int32 → Int32 → FI → FL → Option (Int32 × Bool × FI × FL)) (x1 : Int32) (x2 : Int32) (x3 : Int32) (I : FI) (L : FL) : Option (Int32 × Bool × FI × FL) :=
  c_190_2 n K1 x1 x2 (x3 + (1 : Int32)) I L
def c_190_1 (n : Nat) : Nat → Int32 → Int32 → Int32 → FI → FL → Option (Int32 × Bool × FI × FL)
  | 0, _, _, _, _, _ => none
  | m + 1, x1, x2, x3, I, L => b_190_1 n (c_190_1 n m) x1 x2 x3 I L
set_option maxHeartbeats 1000000 in
theorem tc_190_1 (Ls : Nat) (xs : Nat → Int32) (d : Nat) (nh : Option Nat) (rh : Option Nat) (n : Nat) : ∀ (m : Nat) (w4 : Option Value) (x1 : Int32) (x2 : Int32) (x3 : Int32) (I : FI) (L : FL) (r : Int32 × Bool × FI × FL), c_190_1 n m x1 x2 x3 I L = some r → Bs cd_190 (sf 11 rs_11 false 5 (some (.int)) Ls xs (d + 6)) (61, [some (.ref 0), some (.int x1), some (.int x2), some (.int x3), w4], [], hp (some 114) nh rh TK (RK (some 3)) I L) (some (.int r.1), hw r.2.1 nh rh r.2.2.1 r.2.2.2)
  | 0, w4, x1, x2, x3, I, L, r, hf => by cases hf
  | m + 1, w4, x1, x2, x3, I, L, r, hf => by
    unfold c_190_1 b_190_1 at hf
    have hK1 := tc_190_1 Ls xs d nh rh n m
    refine bs_st 2 (x' := (10, [some (.ref 0), some (.int x1), some (.int x2), some (.int (x3 + (1 : Int32))), w4], [], hp (some 114) nh rh TK (RK (some 3)) I L)) rfl ?_
    exact tc_190_2 Ls xs d nh rh n _ hK1 w4 x1 x2 (x3 + (1 : Int32)) I L r hf
def c_190_0 (n : Nat) (x1 : Int32) (x2 : Int32) (x3 : Int32) (I : FI) (L : FL) : Option (Int32 × Bool × FI × FL) :=
  if x2 < x3 then
    some ((-1 : Int32), false, I, L)
  else
    (f_23 I L).bind fun q1 =>
    (f_findA I L).bind fun q2 =>
    (f_32 n x3 q2.1 q2.2).bind fun q3 =>
    (f_188 q1 q3.1 q3.2.1 q3.2.2).bind fun q4 =>
    if q4 = 0 then
      c_190_1 n n x1 x2 x3 q3.2.1 q3.2.2
    else
      (f_187 q3.2.1 q3.2.2).bind fun q12 =>
      (f_32 n (x2 &&& (x3 ^^^ (-1 : Int32))) q12.1 q12.2).bind fun q13 =>
      (f_188 x1 q13.1 q13.2.1 q13.2.2).bind fun q14 =>
      if q14 = 0 then
        c_190_1 n n x1 x2 x3 q13.2.1 q13.2.2
      else
        some (x3, true, q13.2.1, q13.2.2)
set_option maxHeartbeats 1000000 in
theorem tc_190_0 (Ls : Nat) (xs : Nat → Int32) (d : Nat) (nh : Option Nat) (rh : Option Nat) (n : Nat) (w4 : Option Value) (x1 : Int32) (x2 : Int32) (x3 : Int32) (I : FI) (L : FL) (r : Int32 × Bool × FI × FL) (hf : c_190_0 n x1 x2 x3 I L = some r) : Bs cd_190 (sf 11 rs_11 false 5 (some (.int)) Ls xs (d + 6)) (10, [some (.ref 0), some (.int x1), some (.int x2), some (.int x3), w4], [], hp none nh rh [] [] I L) (some (.int r.1), hw r.2.1 nh rh r.2.2.1 r.2.2.2) := by
  unfold c_190_0 at hf
  refine bs_st 2 (x' := (12, [some (.ref 0), some (.int x1), some (.int x2), some (.int x3), w4], [.int x2, .int x3], hp none nh rh [] [] I L)) rfl ?_
  refine bs_br (t := 67) (e := 15) (lo := [some (.ref 0), some (.int x1), some (.int x2), some (.int x3), w4]) (st := []) (h := hp none nh rh [] [] I L) rfl hf (fun hc hf => ?_) (fun hc hf => ?_)
  · refine bs_st 1 (x' := (68, [some (.ref 0), some (.int x1), some (.int x2), some (.int x3), w4], [.int (-1 : Int32)], hp none nh rh [] [] I L)) rfl ?_
    cases hf
    exact bs_ret rfl
  · refine bs_st 2 (x' := (19, [some (.ref 0), some (.int x1), some (.int x2), some (.int x3), w4], [.ref 3], hp none nh rh [] [] I L)) rfl ?_
    obtain ⟨q1, hq1, hf⟩ := Option.bind_eq_some_iff.mp hf
    refine bs_call (o := pEN Ls xs (d + 6) 23 [.ref 3] (hp none nh rh [] [] I L)) (w := some (.int q1)) (h' := hp none nh rh [] [] I L) (pc := 22) (lo := [some (.ref 0), some (.int x1), some (.int x2), some (.int x3), w4]) (rest := []) rfl (t_23 Ls xs (d + 5) none [] [] nh rh I L q1 hq1) ?_
    refine bs_st 1 (x' := (23, [some (.ref 0), some (.int x1), some (.int x2), some (.int x3), w4], [.ref 0, .int q1], hp none nh rh [] [] I L)) rfl ?_
    obtain ⟨q2, hq2, hf⟩ := Option.bind_eq_some_iff.mp hf
    refine bs_call (o := pEN Ls xs (d + 6) 187 [.ref 0] (hp none nh rh [] [] I L)) (w := some (.ref 114)) (h' := hp (some 114) nh rh TK (RK (some 3)) q2.1 q2.2) (pc := 26) (lo := [some (.ref 0), some (.int x1), some (.int x2), some (.int x3), w4]) (rest := [.int q1]) rfl (t_findA Ls xs (d + 0) nh rh I L q2 hq2) ?_
    refine bs_st 1 (x' := (27, [some (.ref 0), some (.int x1), some (.int x2), some (.int x3), w4], [.int x3, .ref 114, .int q1], hp (some 114) nh rh TK (RK (some 3)) q2.1 q2.2)) rfl ?_
    obtain ⟨q3, hq3, hf⟩ := Option.bind_eq_some_iff.mp hf
    refine bs_call (o := pEN Ls xs (d + 6) 32 [.ref 114, .int x3] (hp (some 114) nh rh TK (RK (some 3)) q2.1 q2.2)) (w := some (.int q3.1)) (h' := hp (some 114) nh rh TK (RK (some 3)) q3.2.1 q3.2.2) (pc := 30) (lo := [some (.ref 0), some (.int x1), some (.int x2), some (.int x3), w4]) (rest := [.int q1]) rfl (t_32 Ls xs (d + 1) nh rh n x3 q2.1 q2.2 q3 hq3) ?_
    obtain ⟨q4, hq4, hf⟩ := Option.bind_eq_some_iff.mp hf
    refine bs_call (o := pEN Ls xs (d + 6) 188 [.int q1, .int q3.1] (hp (some 114) nh rh TK (RK (some 3)) q3.2.1 q3.2.2)) (w := some (.int q4)) (h' := hp (some 114) nh rh TK (RK (some 3)) q3.2.1 q3.2.2) (pc := 33) (lo := [some (.ref 0), some (.int x1), some (.int x2), some (.int x3), w4]) (rest := []) rfl (t_188 Ls xs (d + 5) (some 114) TK (RK (some 3)) nh rh q1 q3.1 q3.2.1 q3.2.2 q4 hq4) ?_
    refine bs_st 2 (x' := (37, [some (.ref 0), some (.int x1), some (.int x2), some (.int x3), some (.int q4)], [.int q4], hp (some 114) nh rh TK (RK (some 3)) q3.2.1 q3.2.2)) rfl ?_
    refine bs_br (t := 61) (e := 40) (lo := [some (.ref 0), some (.int x1), some (.int x2), some (.int x3), some (.int q4)]) (st := []) (h := hp (some 114) nh rh TK (RK (some 3)) q3.2.1 q3.2.2) rfl hf (fun hc hf => ?_) (fun hc hf => ?_)
    · exact tc_190_1 Ls xs d nh rh n n (some (.int q4)) x1 x2 x3 q3.2.1 q3.2.2 r hf
    · refine bs_st 2 (x' := (42, [some (.ref 0), some (.int x1), some (.int x2), some (.int x3), some (.int q4)], [.ref 0, .int x1], hp (some 114) nh rh TK (RK (some 3)) q3.2.1 q3.2.2)) rfl ?_
      obtain ⟨q12, hq12, hf⟩ := Option.bind_eq_some_iff.mp hf
      refine bs_call (o := pEN Ls xs (d + 6) 187 [.ref 0] (hp (some 114) nh rh TK (RK (some 3)) q3.2.1 q3.2.2)) (w := some (.ref 114)) (h' := hp (some 114) nh rh TK (RK (some 3)) q12.1 q12.2) (pc := 45) (lo := [some (.ref 0), some (.int x1), some (.int x2), some (.int x3), some (.int q4)]) (rest := [.int x1]) rfl (t_187 Ls xs (d + 5) nh rh q3.2.1 q3.2.2 q12 hq12) ?_
      refine bs_st 5 (x' := (50, [some (.ref 0), some (.int x1), some (.int x2), some (.int x3), some (.int q4)], [.int (x2 &&& (x3 ^^^ (-1 : Int32))), .ref 114, .int x1], hp (some 114) nh rh TK (RK (some 3)) q12.1 q12.2)) rfl ?_
      obtain ⟨q13, hq13, hf⟩ := Option.bind_eq_some_iff.mp hf
      refine bs_call (o := pEN Ls xs (d + 6) 32 [.ref 114, .int (x2 &&& (x3 ^^^ (-1 : Int32)))] (hp (some 114) nh rh TK (RK (some 3)) q12.1 q12.2)) (w := some (.int q13.1)) (h' := hp (some 114) nh rh TK (RK (some 3)) q13.2.1 q13.2.2) (pc := 53) (lo := [some (.ref 0), some (.int x1), some (.int x2), some (.int x3), some (.int q4)]) (rest := [.int x1]) rfl (t_32 Ls xs (d + 1) nh rh n (x2 &&& (x3 ^^^ (-1 : Int32))) q12.1 q12.2 q13 hq13) ?_
      obtain ⟨q14, hq14, hf⟩ := Option.bind_eq_some_iff.mp hf
      refine bs_call (o := pEN Ls xs (d + 6) 188 [.int x1, .int q13.1] (hp (some 114) nh rh TK (RK (some 3)) q13.2.1 q13.2.2)) (w := some (.int q14)) (h' := hp (some 114) nh rh TK (RK (some 3)) q13.2.1 q13.2.2) (pc := 56) (lo := [some (.ref 0), some (.int x1), some (.int x2), some (.int x3), some (.int q4)]) (rest := []) rfl (t_188 Ls xs (d + 5) (some 114) TK (RK (some 3)) nh rh x1 q13.1 q13.2.1 q13.2.2 q14 hq14) ?_
      refine bs_br (t := 61) (e := 59) (lo := [some (.ref 0), some (.int x1), some (.int x2), some (.int x3), some (.int q4)]) (st := []) (h := hp (some 114) nh rh TK (RK (some 3)) q13.2.1 q13.2.2) rfl hf (fun hc hf => ?_) (fun hc hf => ?_)
      · exact tc_190_1 Ls xs d nh rh n n (some (.int q4)) x1 x2 x3 q13.2.1 q13.2.2 r hf
      · refine bs_st 1 (x' := (60, [some (.ref 0), some (.int x1), some (.int x2), some (.int x3), some (.int q4)], [.int x3], hp (some 114) nh rh TK (RK (some 3)) q13.2.1 q13.2.2)) rfl ?_
        cases hf
        exact bs_ret rfl
def f_190 (n : Nat) (x1 : Int32) (I : FI) (L : FL) : Option (Int32 × Bool × FI × FL) :=
  (f_24 I L).bind fun q0 =>
  c_190_0 n x1 q0 (0 : Int32) I L
set_option maxHeartbeats 1000000 in
theorem t_190 (Ls : Nat) (xs : Nat → Int32) (d : Nat) (nh : Option Nat) (rh : Option Nat) (n : Nat) (x1 : Int32) (I : FI) (L : FL) (r : Int32 × Bool × FI × FL) (hf : f_190 n x1 I L = some r) : pEN Ls xs (d + 7) 190 [.ref 0, .int x1] (hp none nh rh [] [] I L) = some (some (.int r.1), hw r.2.1 nh rh r.2.2.1 r.2.2.2) := by
  refine en_run (d := d + 6) (cd := cd_190) (f := (sf 11 rs_11 false 5 (some (.int)) Ls xs (d + 6))) rfl rfl (x := (0, [some (.ref 0), some (.int x1), none, none, none], [], hp none nh rh [] [] I L)) rfl rfl (Nat.le_of_ble_eq_true rfl) ?_
  unfold f_190 at hf
  refine bs_st 2 (x' := (4, [some (.ref 0), some (.int x1), none, none, none], [.ref 3], hp none nh rh [] [] I L)) rfl ?_
  obtain ⟨q0, hq0, hf⟩ := Option.bind_eq_some_iff.mp hf
  refine bs_call (o := pEN Ls xs (d + 6) 24 [.ref 3] (hp none nh rh [] [] I L)) (w := some (.int q0)) (h' := hp none nh rh [] [] I L) (pc := 7) (lo := [some (.ref 0), some (.int x1), none, none, none]) (rest := []) rfl (t_24 Ls xs (d + 5) none [] [] nh rh I L q0 hq0) ?_
  refine bs_st 3 (x' := (10, [some (.ref 0), some (.int x1), some (.int q0), some (.int (0 : Int32)), none], [], hp none nh rh [] [] I L)) rfl ?_
  exact tc_190_0 Ls xs d nh rh n none x1 q0 (0 : Int32) I L r hf
/-- LampRounds.shares(I) on (0,) -/
def f_150 (n : Nat) (x1 : Int32) (I : FI) (L : FL) : Option (Int32 × Bool × FI × FL) :=
  (f_178 x1 I L).bind fun q0 =>
  if q0 = 0 then
    some ((-2 : Int32), false, I, L)
  else
    (f_190 n x1 I L).bind fun q1 =>
    if q1.2.1 = true then
      some (q1.1, true, q1.2.2.1, q1.2.2.2)
    else
      some (q1.1, false, q1.2.2.1, q1.2.2.2)
set_option maxHeartbeats 1000000 in
theorem t_150 (Ls : Nat) (xs : Nat → Int32) (d : Nat) (nh : Option Nat) (rh : Option Nat) (n : Nat) (x1 : Int32) (I : FI) (L : FL) (r : Int32 × Bool × FI × FL) (hf : f_150 n x1 I L = some r) : pEN Ls xs (d + 8) 150 [.ref 0, .int x1] (hp none nh rh [] [] I L) = some (some (.int r.1), hw r.2.1 nh rh r.2.2.1 r.2.2.2) := by
  refine en_run (d := d + 7) (cd := cd_150) (f := (sf 11 rs_11 false 2 (some (.int)) Ls xs (d + 7))) rfl rfl (x := (0, [some (.ref 0), some (.int x1)], [], hp none nh rh [] [] I L)) rfl rfl (Nat.le_of_ble_eq_true rfl) ?_
  unfold f_150 at hf
  refine bs_st 2 (x' := (2, [some (.ref 0), some (.int x1)], [.int x1, .ref 0], hp none nh rh [] [] I L)) rfl ?_
  obtain ⟨q0, hq0, hf⟩ := Option.bind_eq_some_iff.mp hf
  refine bs_call (o := pEN Ls xs (d + 7) 178 [.ref 0, .int x1] (hp none nh rh [] [] I L)) (w := some (.int q0)) (h' := hp none nh rh [] [] I L) (pc := 5) (lo := [some (.ref 0), some (.int x1)]) (rest := []) rfl (t_178 Ls xs (d + 6) none [] [] nh rh x1 I L q0 hq0) ?_
  refine bs_br (t := 16) (e := 8) (lo := [some (.ref 0), some (.int x1)]) (st := []) (h := hp none nh rh [] [] I L) rfl hf (fun hc hf => ?_) (fun hc hf => ?_)
  · refine bs_st 1 (x' := (18, [some (.ref 0), some (.int x1)], [.int (-2 : Int32)], hp none nh rh [] [] I L)) rfl ?_
    cases hf
    exact bs_ret rfl
  · refine bs_st 2 (x' := (10, [some (.ref 0), some (.int x1)], [.int x1, .ref 0], hp none nh rh [] [] I L)) rfl ?_
    obtain ⟨q1, hq1, hf⟩ := Option.bind_eq_some_iff.mp hf
    refine bs_cs hf (fun hb hf => ?_) (fun hb hf => ?_)
    · refine bs_call (o := pEN Ls xs (d + 7) 190 [.ref 0, .int x1] (hp none nh rh [] [] I L)) (w := some (.int q1.1)) (h' := hp (some 114) nh rh TK (RK (some 3)) q1.2.2.1 q1.2.2.2) (pc := 13) (lo := [some (.ref 0), some (.int x1)]) (rest := []) rfl ((t_190 Ls xs (d + 0) nh rh n x1 I L q1 hq1).trans (by rw [hb]; rfl)) ?_
      refine bs_st 1 (x' := (18, [some (.ref 0), some (.int x1)], [.int q1.1], hp (some 114) nh rh TK (RK (some 3)) q1.2.2.1 q1.2.2.2)) rfl ?_
      cases hf
      exact bs_ret rfl
    · refine bs_call (o := pEN Ls xs (d + 7) 190 [.ref 0, .int x1] (hp none nh rh [] [] I L)) (w := some (.int q1.1)) (h' := hp none nh rh [] [] q1.2.2.1 q1.2.2.2) (pc := 13) (lo := [some (.ref 0), some (.int x1)]) (rest := []) rfl ((t_190 Ls xs (d + 0) nh rh n x1 I L q1 hq1).trans (by rw [Bool.not_eq_true] at hb; rw [hb]; rfl)) ?_
      refine bs_st 1 (x' := (18, [some (.ref 0), some (.int x1)], [.int q1.1], hp none nh rh [] [] q1.2.2.1 q1.2.2.2)) rfl ?_
      cases hf
      exact bs_ret rfl
/-- LampRounds.leastShare(I) on (0,) -/
def c_190_1_1 (n : Nat) (K0 : Int32 → Int32 → Int32 → FI → FL → Option (Int32 × FI × FL)) (x1 : Int32) (x2 : Int32) (x3 : Int32) (I : FI) (L : FL) : Option (Int32 × FI × FL) :=
  K0 x1 x2 (x3 + (1 : Int32)) I L
set_option maxHeartbeats 1000000 in
theorem tc_190_1_1 (Ls : Nat) (xs : Nat → Int32) (d : Nat) (nh : Option Nat) (rh : Option Nat) (n : Nat) (K0 : Int32 → Int32 → Int32 → FI → FL → Option (Int32 × FI × FL)) (hK0 : ∀ (w4 : Option Value) (x1 : Int32) (x2 : Int32) (x3 : Int32) (I : FI) (L : FL) (r : Int32 × FI × FL), K0 x1 x2 x3 I L = some r → Bs cd_190 (sf 11 rs_11 false 5 (some (.int)) Ls xs (d + 5)) (10, [some (.ref 0), some (.int x1), some (.int x2), some (.int x3), w4], [], hp (some 114) nh rh TK (RK (some 3)) I L) (some (.int r.1), hp (some 114) nh rh TK (RK (some 3)) r.2.1 r.2.2)) (w4 : Option Value) (x1 : Int32) (x2 : Int32) (x3 : Int32) (I : FI) (L : FL) (r : Int32 × FI × FL) (hf : c_190_1_1 n K0 x1 x2 x3 I L = some r) : Bs cd_190 (sf 11 rs_11 false 5 (some (.int)) Ls xs (d + 5)) (61, [some (.ref 0), some (.int x1), some (.int x2), some (.int x3), w4], [], hp (some 114) nh rh TK (RK (some 3)) I L) (some (.int r.1), hp (some 114) nh rh TK (RK (some 3)) r.2.1 r.2.2) := by
  unfold c_190_1_1 at hf
  refine bs_st 2 (x' := (10, [some (.ref 0), some (.int x1), some (.int x2), some (.int (x3 + (1 : Int32))), w4], [], hp (some 114) nh rh TK (RK (some 3)) I L)) rfl ?_
  exact hK0 w4 x1 x2 (x3 + (1 : Int32)) I L r hf
def b_190_1_0 (n : Nat) (K0 : Int32 → Int32 → Int32 → FI → FL → Option (Int32 × FI × FL)) (x1 : Int32) (x2 : Int32) (x3 : Int32) (I : FI) (L : FL) : Option (Int32 × FI × FL) :=
  if x2 < x3 then
    some ((-1 : Int32), I, L)
  else
    (f_23 I L).bind fun q1 =>
    (f_187 I L).bind fun q2 =>
    (f_32 n x3 q2.1 q2.2).bind fun q3 =>
    (f_188 q1 q3.1 q3.2.1 q3.2.2).bind fun q4 =>
    if q4 = 0 then
      c_190_1_1 n K0 x1 x2 x3 q3.2.1 q3.2.2
    else
      (f_187 q3.2.1 q3.2.2).bind fun q5 =>
      (f_32 n (x2 &&& (x3 ^^^ (-1 : Int32))) q5.1 q5.2).bind fun q6 =>
      (f_188 x1 q6.1 q6.2.1 q6.2.2).bind fun q7 =>
      if q7 = 0 then
        c_190_1_1 n K0 x1 x2 x3 q6.2.1 q6.2.2
      else
        some (x3, q6.2.1, q6.2.2)
def c_190_1_0 (n : Nat) : Nat → Int32 → Int32 → Int32 → FI → FL → Option (Int32 × FI × FL)
  | 0, _, _, _, _, _ => none
  | m + 1, x1, x2, x3, I, L => b_190_1_0 n (c_190_1_0 n m) x1 x2 x3 I L
set_option maxHeartbeats 1000000 in
theorem tc_190_1_0 (Ls : Nat) (xs : Nat → Int32) (d : Nat) (nh : Option Nat) (rh : Option Nat) (n : Nat) : ∀ (m : Nat) (w4 : Option Value) (x1 : Int32) (x2 : Int32) (x3 : Int32) (I : FI) (L : FL) (r : Int32 × FI × FL), c_190_1_0 n m x1 x2 x3 I L = some r → Bs cd_190 (sf 11 rs_11 false 5 (some (.int)) Ls xs (d + 5)) (10, [some (.ref 0), some (.int x1), some (.int x2), some (.int x3), w4], [], hp (some 114) nh rh TK (RK (some 3)) I L) (some (.int r.1), hp (some 114) nh rh TK (RK (some 3)) r.2.1 r.2.2)
  | 0, w4, x1, x2, x3, I, L, r, hf => by cases hf
  | m + 1, w4, x1, x2, x3, I, L, r, hf => by
    unfold c_190_1_0 b_190_1_0 at hf
    have hK0 := tc_190_1_0 Ls xs d nh rh n m
    refine bs_st 2 (x' := (12, [some (.ref 0), some (.int x1), some (.int x2), some (.int x3), w4], [.int x2, .int x3], hp (some 114) nh rh TK (RK (some 3)) I L)) rfl ?_
    refine bs_br (t := 67) (e := 15) (lo := [some (.ref 0), some (.int x1), some (.int x2), some (.int x3), w4]) (st := []) (h := hp (some 114) nh rh TK (RK (some 3)) I L) rfl hf (fun hc hf => ?_) (fun hc hf => ?_)
    · refine bs_st 1 (x' := (68, [some (.ref 0), some (.int x1), some (.int x2), some (.int x3), w4], [.int (-1 : Int32)], hp (some 114) nh rh TK (RK (some 3)) I L)) rfl ?_
      cases hf
      exact bs_ret rfl
    · refine bs_st 2 (x' := (19, [some (.ref 0), some (.int x1), some (.int x2), some (.int x3), w4], [.ref 3], hp (some 114) nh rh TK (RK (some 3)) I L)) rfl ?_
      obtain ⟨q1, hq1, hf⟩ := Option.bind_eq_some_iff.mp hf
      refine bs_call (o := pEN Ls xs (d + 5) 23 [.ref 3] (hp (some 114) nh rh TK (RK (some 3)) I L)) (w := some (.int q1)) (h' := hp (some 114) nh rh TK (RK (some 3)) I L) (pc := 22) (lo := [some (.ref 0), some (.int x1), some (.int x2), some (.int x3), w4]) (rest := []) rfl (t_23 Ls xs (d + 4) (some 114) TK (RK (some 3)) nh rh I L q1 hq1) ?_
      refine bs_st 1 (x' := (23, [some (.ref 0), some (.int x1), some (.int x2), some (.int x3), w4], [.ref 0, .int q1], hp (some 114) nh rh TK (RK (some 3)) I L)) rfl ?_
      obtain ⟨q2, hq2, hf⟩ := Option.bind_eq_some_iff.mp hf
      refine bs_call (o := pEN Ls xs (d + 5) 187 [.ref 0] (hp (some 114) nh rh TK (RK (some 3)) I L)) (w := some (.ref 114)) (h' := hp (some 114) nh rh TK (RK (some 3)) q2.1 q2.2) (pc := 26) (lo := [some (.ref 0), some (.int x1), some (.int x2), some (.int x3), w4]) (rest := [.int q1]) rfl (t_187 Ls xs (d + 4) nh rh I L q2 hq2) ?_
      refine bs_st 1 (x' := (27, [some (.ref 0), some (.int x1), some (.int x2), some (.int x3), w4], [.int x3, .ref 114, .int q1], hp (some 114) nh rh TK (RK (some 3)) q2.1 q2.2)) rfl ?_
      obtain ⟨q3, hq3, hf⟩ := Option.bind_eq_some_iff.mp hf
      refine bs_call (o := pEN Ls xs (d + 5) 32 [.ref 114, .int x3] (hp (some 114) nh rh TK (RK (some 3)) q2.1 q2.2)) (w := some (.int q3.1)) (h' := hp (some 114) nh rh TK (RK (some 3)) q3.2.1 q3.2.2) (pc := 30) (lo := [some (.ref 0), some (.int x1), some (.int x2), some (.int x3), w4]) (rest := [.int q1]) rfl (t_32 Ls xs (d + 0) nh rh n x3 q2.1 q2.2 q3 hq3) ?_
      obtain ⟨q4, hq4, hf⟩ := Option.bind_eq_some_iff.mp hf
      refine bs_call (o := pEN Ls xs (d + 5) 188 [.int q1, .int q3.1] (hp (some 114) nh rh TK (RK (some 3)) q3.2.1 q3.2.2)) (w := some (.int q4)) (h' := hp (some 114) nh rh TK (RK (some 3)) q3.2.1 q3.2.2) (pc := 33) (lo := [some (.ref 0), some (.int x1), some (.int x2), some (.int x3), w4]) (rest := []) rfl (t_188 Ls xs (d + 4) (some 114) TK (RK (some 3)) nh rh q1 q3.1 q3.2.1 q3.2.2 q4 hq4) ?_
      refine bs_st 2 (x' := (37, [some (.ref 0), some (.int x1), some (.int x2), some (.int x3), some (.int q4)], [.int q4], hp (some 114) nh rh TK (RK (some 3)) q3.2.1 q3.2.2)) rfl ?_
      refine bs_br (t := 61) (e := 40) (lo := [some (.ref 0), some (.int x1), some (.int x2), some (.int x3), some (.int q4)]) (st := []) (h := hp (some 114) nh rh TK (RK (some 3)) q3.2.1 q3.2.2) rfl hf (fun hc hf => ?_) (fun hc hf => ?_)
      · exact tc_190_1_1 Ls xs d nh rh n _ hK0 (some (.int q4)) x1 x2 x3 q3.2.1 q3.2.2 r hf
      · refine bs_st 2 (x' := (42, [some (.ref 0), some (.int x1), some (.int x2), some (.int x3), some (.int q4)], [.ref 0, .int x1], hp (some 114) nh rh TK (RK (some 3)) q3.2.1 q3.2.2)) rfl ?_
        obtain ⟨q5, hq5, hf⟩ := Option.bind_eq_some_iff.mp hf
        refine bs_call (o := pEN Ls xs (d + 5) 187 [.ref 0] (hp (some 114) nh rh TK (RK (some 3)) q3.2.1 q3.2.2)) (w := some (.ref 114)) (h' := hp (some 114) nh rh TK (RK (some 3)) q5.1 q5.2) (pc := 45) (lo := [some (.ref 0), some (.int x1), some (.int x2), some (.int x3), some (.int q4)]) (rest := [.int x1]) rfl (t_187 Ls xs (d + 4) nh rh q3.2.1 q3.2.2 q5 hq5) ?_
        refine bs_st 5 (x' := (50, [some (.ref 0), some (.int x1), some (.int x2), some (.int x3), some (.int q4)], [.int (x2 &&& (x3 ^^^ (-1 : Int32))), .ref 114, .int x1], hp (some 114) nh rh TK (RK (some 3)) q5.1 q5.2)) rfl ?_
        obtain ⟨q6, hq6, hf⟩ := Option.bind_eq_some_iff.mp hf
        refine bs_call (o := pEN Ls xs (d + 5) 32 [.ref 114, .int (x2 &&& (x3 ^^^ (-1 : Int32)))] (hp (some 114) nh rh TK (RK (some 3)) q5.1 q5.2)) (w := some (.int q6.1)) (h' := hp (some 114) nh rh TK (RK (some 3)) q6.2.1 q6.2.2) (pc := 53) (lo := [some (.ref 0), some (.int x1), some (.int x2), some (.int x3), some (.int q4)]) (rest := [.int x1]) rfl (t_32 Ls xs (d + 0) nh rh n (x2 &&& (x3 ^^^ (-1 : Int32))) q5.1 q5.2 q6 hq6) ?_
        obtain ⟨q7, hq7, hf⟩ := Option.bind_eq_some_iff.mp hf
        refine bs_call (o := pEN Ls xs (d + 5) 188 [.int x1, .int q6.1] (hp (some 114) nh rh TK (RK (some 3)) q6.2.1 q6.2.2)) (w := some (.int q7)) (h' := hp (some 114) nh rh TK (RK (some 3)) q6.2.1 q6.2.2) (pc := 56) (lo := [some (.ref 0), some (.int x1), some (.int x2), some (.int x3), some (.int q4)]) (rest := []) rfl (t_188 Ls xs (d + 4) (some 114) TK (RK (some 3)) nh rh x1 q6.1 q6.2.1 q6.2.2 q7 hq7) ?_
        refine bs_br (t := 61) (e := 59) (lo := [some (.ref 0), some (.int x1), some (.int x2), some (.int x3), some (.int q4)]) (st := []) (h := hp (some 114) nh rh TK (RK (some 3)) q6.2.1 q6.2.2) rfl hf (fun hc hf => ?_) (fun hc hf => ?_)
        · exact tc_190_1_1 Ls xs d nh rh n _ hK0 (some (.int q4)) x1 x2 x3 q6.2.1 q6.2.2 r hf
        · refine bs_st 1 (x' := (60, [some (.ref 0), some (.int x1), some (.int x2), some (.int x3), some (.int q4)], [.int x3], hp (some 114) nh rh TK (RK (some 3)) q6.2.1 q6.2.2)) rfl ?_
          cases hf
          exact bs_ret rfl
def f_190_1 (n : Nat) (x1 : Int32) (I : FI) (L : FL) : Option (Int32 × FI × FL) :=
  (f_24 I L).bind fun q0 =>
  c_190_1_0 n n x1 q0 (0 : Int32) I L
set_option maxHeartbeats 1000000 in
theorem t_190_1 (Ls : Nat) (xs : Nat → Int32) (d : Nat) (nh : Option Nat) (rh : Option Nat) (n : Nat) (x1 : Int32) (I : FI) (L : FL) (r : Int32 × FI × FL) (hf : f_190_1 n x1 I L = some r) : pEN Ls xs (d + 6) 190 [.ref 0, .int x1] (hp (some 114) nh rh TK (RK (some 3)) I L) = some (some (.int r.1), hp (some 114) nh rh TK (RK (some 3)) r.2.1 r.2.2) := by
  refine en_run (d := d + 5) (cd := cd_190) (f := (sf 11 rs_11 false 5 (some (.int)) Ls xs (d + 5))) rfl rfl (x := (0, [some (.ref 0), some (.int x1), none, none, none], [], hp (some 114) nh rh TK (RK (some 3)) I L)) rfl rfl (Nat.le_of_ble_eq_true rfl) ?_
  unfold f_190_1 at hf
  refine bs_st 2 (x' := (4, [some (.ref 0), some (.int x1), none, none, none], [.ref 3], hp (some 114) nh rh TK (RK (some 3)) I L)) rfl ?_
  obtain ⟨q0, hq0, hf⟩ := Option.bind_eq_some_iff.mp hf
  refine bs_call (o := pEN Ls xs (d + 5) 24 [.ref 3] (hp (some 114) nh rh TK (RK (some 3)) I L)) (w := some (.int q0)) (h' := hp (some 114) nh rh TK (RK (some 3)) I L) (pc := 7) (lo := [some (.ref 0), some (.int x1), none, none, none]) (rest := []) rfl (t_24 Ls xs (d + 4) (some 114) TK (RK (some 3)) nh rh I L q0 hq0) ?_
  refine bs_st 3 (x' := (10, [some (.ref 0), some (.int x1), some (.int q0), some (.int (0 : Int32)), none], [], hp (some 114) nh rh TK (RK (some 3)) I L)) rfl ?_
  exact tc_190_1_0 Ls xs d nh rh n n none x1 q0 (0 : Int32) I L r hf
/-- LampRounds.shares(I) on (0,) -/
def f_150_1 (n : Nat) (x1 : Int32) (I : FI) (L : FL) : Option (Int32 × FI × FL) :=
  (f_178 x1 I L).bind fun q0 =>
  if q0 = 0 then
    some ((-2 : Int32), I, L)
  else
    (f_190_1 n x1 I L).bind fun q1 =>
    some (q1.1, q1.2.1, q1.2.2)
set_option maxHeartbeats 1000000 in
theorem t_150_1 (Ls : Nat) (xs : Nat → Int32) (d : Nat) (nh : Option Nat) (rh : Option Nat) (n : Nat) (x1 : Int32) (I : FI) (L : FL) (r : Int32 × FI × FL) (hf : f_150_1 n x1 I L = some r) : pEN Ls xs (d + 7) 150 [.ref 0, .int x1] (hp (some 114) nh rh TK (RK (some 3)) I L) = some (some (.int r.1), hp (some 114) nh rh TK (RK (some 3)) r.2.1 r.2.2) := by
  refine en_run (d := d + 6) (cd := cd_150) (f := (sf 11 rs_11 false 2 (some (.int)) Ls xs (d + 6))) rfl rfl (x := (0, [some (.ref 0), some (.int x1)], [], hp (some 114) nh rh TK (RK (some 3)) I L)) rfl rfl (Nat.le_of_ble_eq_true rfl) ?_
  unfold f_150_1 at hf
  refine bs_st 2 (x' := (2, [some (.ref 0), some (.int x1)], [.int x1, .ref 0], hp (some 114) nh rh TK (RK (some 3)) I L)) rfl ?_
  obtain ⟨q0, hq0, hf⟩ := Option.bind_eq_some_iff.mp hf
  refine bs_call (o := pEN Ls xs (d + 6) 178 [.ref 0, .int x1] (hp (some 114) nh rh TK (RK (some 3)) I L)) (w := some (.int q0)) (h' := hp (some 114) nh rh TK (RK (some 3)) I L) (pc := 5) (lo := [some (.ref 0), some (.int x1)]) (rest := []) rfl (t_178 Ls xs (d + 5) (some 114) TK (RK (some 3)) nh rh x1 I L q0 hq0) ?_
  refine bs_br (t := 16) (e := 8) (lo := [some (.ref 0), some (.int x1)]) (st := []) (h := hp (some 114) nh rh TK (RK (some 3)) I L) rfl hf (fun hc hf => ?_) (fun hc hf => ?_)
  · refine bs_st 1 (x' := (18, [some (.ref 0), some (.int x1)], [.int (-2 : Int32)], hp (some 114) nh rh TK (RK (some 3)) I L)) rfl ?_
    cases hf
    exact bs_ret rfl
  · refine bs_st 2 (x' := (10, [some (.ref 0), some (.int x1)], [.int x1, .ref 0], hp (some 114) nh rh TK (RK (some 3)) I L)) rfl ?_
    obtain ⟨q1, hq1, hf⟩ := Option.bind_eq_some_iff.mp hf
    refine bs_call (o := pEN Ls xs (d + 6) 190 [.ref 0, .int x1] (hp (some 114) nh rh TK (RK (some 3)) I L)) (w := some (.int q1.1)) (h' := hp (some 114) nh rh TK (RK (some 3)) q1.2.1 q1.2.2) (pc := 13) (lo := [some (.ref 0), some (.int x1)]) (rest := []) rfl (t_190_1 Ls xs (d + 0) nh rh n x1 I L q1 hq1) ?_
    refine bs_st 1 (x' := (18, [some (.ref 0), some (.int x1)], [.int q1.1], hp (some 114) nh rh TK (RK (some 3)) q1.2.1 q1.2.2)) rfl ?_
    cases hf
    exact bs_ret rfl
/-- LampRounds.second() on (0,) -/
def b_151_1 (n : Nat) (K1 : Int32 → FI → FL → Option (Int32 × Bool × FI × FL)) (x1 : Int32) (I : FI) (L : FL) : Option (Int32 × Bool × FI × FL) :=
  if I 3 4 ≤ x1 then
    some ((-1 : Int32), true, I, L)
  else
    (f_190_1 n x1 I L).bind fun q2 =>
    if q2.1 = (-1 : Int32) then
      K1 (x1 + (1 : Int32)) q2.2.1 q2.2.2
    else
      some (x1, true, q2.2.1, q2.2.2)
def c_151_1 (n : Nat) : Nat → Int32 → FI → FL → Option (Int32 × Bool × FI × FL)
  | 0, _, _, _ => none
  | m + 1, x1, I, L => b_151_1 n (c_151_1 n m) x1 I L
set_option maxHeartbeats 1000000 in
theorem tc_151_1 (Ls : Nat) (xs : Nat → Int32) (d : Nat) (nh : Option Nat) (rh : Option Nat) (n : Nat) : ∀ (m : Nat) (x1 : Int32) (I : FI) (L : FL) (r : Int32 × Bool × FI × FL), c_151_1 n m x1 I L = some r → Bs cd_151 (sf 11 rs_11 false 2 (some (.int)) Ls xs (d + 7)) (12, [some (.ref 0), some (.int x1)], [], hp (some 114) nh rh TK (RK (some 3)) I L) (some (.int r.1), hw r.2.1 nh rh r.2.2.1 r.2.2.2)
  | 0, x1, I, L, r, hf => by cases hf
  | m + 1, x1, I, L, r, hf => by
    unfold c_151_1 b_151_1 at hf
    have hK1 := tc_151_1 Ls xs d nh rh n m
    refine bs_st 4 (x' := (20, [some (.ref 0), some (.int x1)], [.int (I 3 4), .int x1], hp (some 114) nh rh TK (RK (some 3)) I L)) rfl ?_
    refine bs_br (t := 40) (e := 23) (lo := [some (.ref 0), some (.int x1)]) (st := []) (h := hp (some 114) nh rh TK (RK (some 3)) I L) rfl hf (fun hc hf => ?_) (fun hc hf => ?_)
    · refine bs_st 1 (x' := (41, [some (.ref 0), some (.int x1)], [.int (-1 : Int32)], hp (some 114) nh rh TK (RK (some 3)) I L)) rfl ?_
      cases hf
      exact bs_ret rfl
    · refine bs_st 2 (x' := (25, [some (.ref 0), some (.int x1)], [.int x1, .ref 0], hp (some 114) nh rh TK (RK (some 3)) I L)) rfl ?_
      obtain ⟨q2, hq2, hf⟩ := Option.bind_eq_some_iff.mp hf
      refine bs_call (o := pEN Ls xs (d + 7) 190 [.ref 0, .int x1] (hp (some 114) nh rh TK (RK (some 3)) I L)) (w := some (.int q2.1)) (h' := hp (some 114) nh rh TK (RK (some 3)) q2.2.1 q2.2.2) (pc := 28) (lo := [some (.ref 0), some (.int x1)]) (rest := []) rfl (t_190_1 Ls xs (d + 1) nh rh n x1 I L q2 hq2) ?_
      refine bs_st 1 (x' := (29, [some (.ref 0), some (.int x1)], [.int (-1 : Int32), .int q2.1], hp (some 114) nh rh TK (RK (some 3)) q2.2.1 q2.2.2)) rfl ?_
      refine bs_br (t := 34) (e := 32) (lo := [some (.ref 0), some (.int x1)]) (st := []) (h := hp (some 114) nh rh TK (RK (some 3)) q2.2.1 q2.2.2) rfl hf (fun hc hf => ?_) (fun hc hf => ?_)
      · refine bs_st 2 (x' := (12, [some (.ref 0), some (.int (x1 + (1 : Int32)))], [], hp (some 114) nh rh TK (RK (some 3)) q2.2.1 q2.2.2)) rfl ?_
        exact hK1 (x1 + (1 : Int32)) q2.2.1 q2.2.2 r hf
      · refine bs_st 1 (x' := (33, [some (.ref 0), some (.int x1)], [.int x1], hp (some 114) nh rh TK (RK (some 3)) q2.2.1 q2.2.2)) rfl ?_
        cases hf
        exact bs_ret rfl
def b_151_0 (n : Nat) (K0 : Int32 → FI → FL → Option (Int32 × Bool × FI × FL)) (x1 : Int32) (I : FI) (L : FL) : Option (Int32 × Bool × FI × FL) :=
  if I 3 4 ≤ x1 then
    some ((-1 : Int32), false, I, L)
  else
    (f_190 n x1 I L).bind fun q1 =>
    if q1.2.1 = true then
      if q1.1 = (-1 : Int32) then
        c_151_1 n n (x1 + (1 : Int32)) q1.2.2.1 q1.2.2.2
      else
        some (x1, true, q1.2.2.1, q1.2.2.2)
    else
      if q1.1 = (-1 : Int32) then
        K0 (x1 + (1 : Int32)) q1.2.2.1 q1.2.2.2
      else
        some (x1, false, q1.2.2.1, q1.2.2.2)
def c_151_0 (n : Nat) : Nat → Int32 → FI → FL → Option (Int32 × Bool × FI × FL)
  | 0, _, _, _ => none
  | m + 1, x1, I, L => b_151_0 n (c_151_0 n m) x1 I L
set_option maxHeartbeats 1000000 in
theorem tc_151_0 (Ls : Nat) (xs : Nat → Int32) (d : Nat) (nh : Option Nat) (rh : Option Nat) (n : Nat) : ∀ (m : Nat) (x1 : Int32) (I : FI) (L : FL) (r : Int32 × Bool × FI × FL), c_151_0 n m x1 I L = some r → Bs cd_151 (sf 11 rs_11 false 2 (some (.int)) Ls xs (d + 7)) (12, [some (.ref 0), some (.int x1)], [], hp none nh rh [] [] I L) (some (.int r.1), hw r.2.1 nh rh r.2.2.1 r.2.2.2)
  | 0, x1, I, L, r, hf => by cases hf
  | m + 1, x1, I, L, r, hf => by
    unfold c_151_0 b_151_0 at hf
    have hK0 := tc_151_0 Ls xs d nh rh n m
    refine bs_st 4 (x' := (20, [some (.ref 0), some (.int x1)], [.int (I 3 4), .int x1], hp none nh rh [] [] I L)) rfl ?_
    refine bs_br (t := 40) (e := 23) (lo := [some (.ref 0), some (.int x1)]) (st := []) (h := hp none nh rh [] [] I L) rfl hf (fun hc hf => ?_) (fun hc hf => ?_)
    · refine bs_st 1 (x' := (41, [some (.ref 0), some (.int x1)], [.int (-1 : Int32)], hp none nh rh [] [] I L)) rfl ?_
      cases hf
      exact bs_ret rfl
    · refine bs_st 2 (x' := (25, [some (.ref 0), some (.int x1)], [.int x1, .ref 0], hp none nh rh [] [] I L)) rfl ?_
      obtain ⟨q1, hq1, hf⟩ := Option.bind_eq_some_iff.mp hf
      refine bs_cs hf (fun hb hf => ?_) (fun hb hf => ?_)
      · refine bs_call (o := pEN Ls xs (d + 7) 190 [.ref 0, .int x1] (hp none nh rh [] [] I L)) (w := some (.int q1.1)) (h' := hp (some 114) nh rh TK (RK (some 3)) q1.2.2.1 q1.2.2.2) (pc := 28) (lo := [some (.ref 0), some (.int x1)]) (rest := []) rfl ((t_190 Ls xs (d + 0) nh rh n x1 I L q1 hq1).trans (by rw [hb]; rfl)) ?_
        refine bs_st 1 (x' := (29, [some (.ref 0), some (.int x1)], [.int (-1 : Int32), .int q1.1], hp (some 114) nh rh TK (RK (some 3)) q1.2.2.1 q1.2.2.2)) rfl ?_
        refine bs_br (t := 34) (e := 32) (lo := [some (.ref 0), some (.int x1)]) (st := []) (h := hp (some 114) nh rh TK (RK (some 3)) q1.2.2.1 q1.2.2.2) rfl hf (fun hc hf => ?_) (fun hc hf => ?_)
        · refine bs_st 2 (x' := (12, [some (.ref 0), some (.int (x1 + (1 : Int32)))], [], hp (some 114) nh rh TK (RK (some 3)) q1.2.2.1 q1.2.2.2)) rfl ?_
          exact tc_151_1 Ls xs d nh rh n n (x1 + (1 : Int32)) q1.2.2.1 q1.2.2.2 r hf
        · refine bs_st 1 (x' := (33, [some (.ref 0), some (.int x1)], [.int x1], hp (some 114) nh rh TK (RK (some 3)) q1.2.2.1 q1.2.2.2)) rfl ?_
          cases hf
          exact bs_ret rfl
      · refine bs_call (o := pEN Ls xs (d + 7) 190 [.ref 0, .int x1] (hp none nh rh [] [] I L)) (w := some (.int q1.1)) (h' := hp none nh rh [] [] q1.2.2.1 q1.2.2.2) (pc := 28) (lo := [some (.ref 0), some (.int x1)]) (rest := []) rfl ((t_190 Ls xs (d + 0) nh rh n x1 I L q1 hq1).trans (by rw [Bool.not_eq_true] at hb; rw [hb]; rfl)) ?_
        refine bs_st 1 (x' := (29, [some (.ref 0), some (.int x1)], [.int (-1 : Int32), .int q1.1], hp none nh rh [] [] q1.2.2.1 q1.2.2.2)) rfl ?_
        refine bs_br (t := 34) (e := 32) (lo := [some (.ref 0), some (.int x1)]) (st := []) (h := hp none nh rh [] [] q1.2.2.1 q1.2.2.2) rfl hf (fun hc hf => ?_) (fun hc hf => ?_)
        · refine bs_st 2 (x' := (12, [some (.ref 0), some (.int (x1 + (1 : Int32)))], [], hp none nh rh [] [] q1.2.2.1 q1.2.2.2)) rfl ?_
          exact hK0 (x1 + (1 : Int32)) q1.2.2.1 q1.2.2.2 r hf
        · refine bs_st 1 (x' := (33, [some (.ref 0), some (.int x1)], [.int x1], hp none nh rh [] [] q1.2.2.1 q1.2.2.2)) rfl ?_
          cases hf
          exact bs_ret rfl
def f_151 (n : Nat) (I : FI) (L : FL) : Option (Int32 × Bool × FI × FL) :=
  (f_177 I L).bind fun q0 =>
  if ¬ q0 = 0 then
    c_151_0 n n (0 : Int32) I L
  else
    some ((-2 : Int32), false, I, L)
set_option maxHeartbeats 1000000 in
theorem t_151 (Ls : Nat) (xs : Nat → Int32) (d : Nat) (nh : Option Nat) (rh : Option Nat) (n : Nat) (I : FI) (L : FL) (r : Int32 × Bool × FI × FL) (hf : f_151 n I L = some r) : pEN Ls xs (d + 8) 151 [.ref 0] (hp none nh rh [] [] I L) = some (some (.int r.1), hw r.2.1 nh rh r.2.2.1 r.2.2.2) := by
  refine en_run (d := d + 7) (cd := cd_151) (f := (sf 11 rs_11 false 2 (some (.int)) Ls xs (d + 7))) rfl rfl (x := (0, [some (.ref 0), none], [], hp none nh rh [] [] I L)) rfl rfl (Nat.le_of_ble_eq_true rfl) ?_
  unfold f_151 at hf
  refine bs_st 1 (x' := (1, [some (.ref 0), none], [.ref 0], hp none nh rh [] [] I L)) rfl ?_
  obtain ⟨q0, hq0, hf⟩ := Option.bind_eq_some_iff.mp hf
  refine bs_call (o := pEN Ls xs (d + 7) 177 [.ref 0] (hp none nh rh [] [] I L)) (w := some (.int q0)) (h' := hp none nh rh [] [] I L) (pc := 4) (lo := [some (.ref 0), none]) (rest := []) rfl (t_177 Ls xs (d + 6) none [] [] nh rh I L q0 hq0) ?_
  refine bs_br (t := 10) (e := 7) (lo := [some (.ref 0), none]) (st := []) (h := hp none nh rh [] [] I L) rfl hf (fun hc hf => ?_) (fun hc hf => ?_)
  · refine bs_st 2 (x' := (12, [some (.ref 0), some (.int (0 : Int32))], [], hp none nh rh [] [] I L)) rfl ?_
    exact tc_151_0 Ls xs d nh rh n n (0 : Int32) I L r hf
  · refine bs_st 1 (x' := (9, [some (.ref 0), none], [.int (-2 : Int32)], hp none nh rh [] [] I L)) rfl ?_
    cases hf
    exact bs_ret rfl
/-- LampRounds.second() on (0,) -/
def b_151_1_0 (n : Nat) (K0 : Int32 → FI → FL → Option (Int32 × FI × FL)) (x1 : Int32) (I : FI) (L : FL) : Option (Int32 × FI × FL) :=
  if I 3 4 ≤ x1 then
    some ((-1 : Int32), I, L)
  else
    (f_190_1 n x1 I L).bind fun q1 =>
    if q1.1 = (-1 : Int32) then
      K0 (x1 + (1 : Int32)) q1.2.1 q1.2.2
    else
      some (x1, q1.2.1, q1.2.2)
def c_151_1_0 (n : Nat) : Nat → Int32 → FI → FL → Option (Int32 × FI × FL)
  | 0, _, _, _ => none
  | m + 1, x1, I, L => b_151_1_0 n (c_151_1_0 n m) x1 I L
set_option maxHeartbeats 1000000 in
theorem tc_151_1_0 (Ls : Nat) (xs : Nat → Int32) (d : Nat) (nh : Option Nat) (rh : Option Nat) (n : Nat) : ∀ (m : Nat) (x1 : Int32) (I : FI) (L : FL) (r : Int32 × FI × FL), c_151_1_0 n m x1 I L = some r → Bs cd_151 (sf 11 rs_11 false 2 (some (.int)) Ls xs (d + 6)) (12, [some (.ref 0), some (.int x1)], [], hp (some 114) nh rh TK (RK (some 3)) I L) (some (.int r.1), hp (some 114) nh rh TK (RK (some 3)) r.2.1 r.2.2)
  | 0, x1, I, L, r, hf => by cases hf
  | m + 1, x1, I, L, r, hf => by
    unfold c_151_1_0 b_151_1_0 at hf
    have hK0 := tc_151_1_0 Ls xs d nh rh n m
    refine bs_st 4 (x' := (20, [some (.ref 0), some (.int x1)], [.int (I 3 4), .int x1], hp (some 114) nh rh TK (RK (some 3)) I L)) rfl ?_
    refine bs_br (t := 40) (e := 23) (lo := [some (.ref 0), some (.int x1)]) (st := []) (h := hp (some 114) nh rh TK (RK (some 3)) I L) rfl hf (fun hc hf => ?_) (fun hc hf => ?_)
    · refine bs_st 1 (x' := (41, [some (.ref 0), some (.int x1)], [.int (-1 : Int32)], hp (some 114) nh rh TK (RK (some 3)) I L)) rfl ?_
      cases hf
      exact bs_ret rfl
    · refine bs_st 2 (x' := (25, [some (.ref 0), some (.int x1)], [.int x1, .ref 0], hp (some 114) nh rh TK (RK (some 3)) I L)) rfl ?_
      obtain ⟨q1, hq1, hf⟩ := Option.bind_eq_some_iff.mp hf
      refine bs_call (o := pEN Ls xs (d + 6) 190 [.ref 0, .int x1] (hp (some 114) nh rh TK (RK (some 3)) I L)) (w := some (.int q1.1)) (h' := hp (some 114) nh rh TK (RK (some 3)) q1.2.1 q1.2.2) (pc := 28) (lo := [some (.ref 0), some (.int x1)]) (rest := []) rfl (t_190_1 Ls xs (d + 0) nh rh n x1 I L q1 hq1) ?_
      refine bs_st 1 (x' := (29, [some (.ref 0), some (.int x1)], [.int (-1 : Int32), .int q1.1], hp (some 114) nh rh TK (RK (some 3)) q1.2.1 q1.2.2)) rfl ?_
      refine bs_br (t := 34) (e := 32) (lo := [some (.ref 0), some (.int x1)]) (st := []) (h := hp (some 114) nh rh TK (RK (some 3)) q1.2.1 q1.2.2) rfl hf (fun hc hf => ?_) (fun hc hf => ?_)
      · refine bs_st 2 (x' := (12, [some (.ref 0), some (.int (x1 + (1 : Int32)))], [], hp (some 114) nh rh TK (RK (some 3)) q1.2.1 q1.2.2)) rfl ?_
        exact hK0 (x1 + (1 : Int32)) q1.2.1 q1.2.2 r hf
      · refine bs_st 1 (x' := (33, [some (.ref 0), some (.int x1)], [.int x1], hp (some 114) nh rh TK (RK (some 3)) q1.2.1 q1.2.2)) rfl ?_
        cases hf
        exact bs_ret rfl
def f_151_1 (n : Nat) (I : FI) (L : FL) : Option (Int32 × FI × FL) :=
  (f_177 I L).bind fun q0 =>
  if ¬ q0 = 0 then
    c_151_1_0 n n (0 : Int32) I L
  else
    some ((-2 : Int32), I, L)
set_option maxHeartbeats 1000000 in
theorem t_151_1 (Ls : Nat) (xs : Nat → Int32) (d : Nat) (nh : Option Nat) (rh : Option Nat) (n : Nat) (I : FI) (L : FL) (r : Int32 × FI × FL) (hf : f_151_1 n I L = some r) : pEN Ls xs (d + 7) 151 [.ref 0] (hp (some 114) nh rh TK (RK (some 3)) I L) = some (some (.int r.1), hp (some 114) nh rh TK (RK (some 3)) r.2.1 r.2.2) := by
  refine en_run (d := d + 6) (cd := cd_151) (f := (sf 11 rs_11 false 2 (some (.int)) Ls xs (d + 6))) rfl rfl (x := (0, [some (.ref 0), none], [], hp (some 114) nh rh TK (RK (some 3)) I L)) rfl rfl (Nat.le_of_ble_eq_true rfl) ?_
  unfold f_151_1 at hf
  refine bs_st 1 (x' := (1, [some (.ref 0), none], [.ref 0], hp (some 114) nh rh TK (RK (some 3)) I L)) rfl ?_
  obtain ⟨q0, hq0, hf⟩ := Option.bind_eq_some_iff.mp hf
  refine bs_call (o := pEN Ls xs (d + 6) 177 [.ref 0] (hp (some 114) nh rh TK (RK (some 3)) I L)) (w := some (.int q0)) (h' := hp (some 114) nh rh TK (RK (some 3)) I L) (pc := 4) (lo := [some (.ref 0), none]) (rest := []) rfl (t_177 Ls xs (d + 5) (some 114) TK (RK (some 3)) nh rh I L q0 hq0) ?_
  refine bs_br (t := 10) (e := 7) (lo := [some (.ref 0), none]) (st := []) (h := hp (some 114) nh rh TK (RK (some 3)) I L) rfl hf (fun hc hf => ?_) (fun hc hf => ?_)
  · refine bs_st 2 (x' := (12, [some (.ref 0), some (.int (0 : Int32))], [], hp (some 114) nh rh TK (RK (some 3)) I L)) rfl ?_
    exact tc_151_1_0 Ls xs d nh rh n n (0 : Int32) I L r hf
  · refine bs_st 1 (x' := (9, [some (.ref 0), none], [.int (-2 : Int32)], hp (some 114) nh rh TK (RK (some 3)) I L)) rfl ?_
    cases hf
    exact bs_ret rfl
/-- LampRounds.isSlot(I) on () -/
def f_184 (x0 : Int32) (I : FI) (L : FL) : Option (Int32) :=
  if x0 < 0 then
    some ((0 : Int32))
  else
    if (4 : Int32) ≤ x0 then
      some ((0 : Int32))
    else
      some ((1 : Int32))
set_option maxHeartbeats 1000000 in
theorem t_184 (Ls : Nat) (xs : Nat → Int32) (d : Nat) (kp : Option Nat) (tl : List (Nat × Nat)) (rl : List (List (Option Nat))) (nh : Option Nat) (rh : Option Nat) (x0 : Int32) (I : FI) (L : FL) (r : Int32) (hf : f_184 x0 I L = some r) : pEN Ls xs (d + 1) 184 [.int x0] (hp kp nh rh tl rl I L) = some (some (.int r), hp kp nh rh tl rl I L) := by
  refine en_run (d := d + 0) (cd := cd_184) (f := (sf 11 rs_11 false 1 (some (.boolean)) Ls xs (d + 0))) rfl rfl (x := (0, [some (.int x0)], [], hp kp nh rh tl rl I L)) rfl rfl (Nat.le_of_ble_eq_true rfl) ?_
  unfold f_184 at hf
  refine bs_st 1 (x' := (1, [some (.int x0)], [.int x0], hp kp nh rh tl rl I L)) rfl ?_
  refine bs_br (t := 13) (e := 4) (lo := [some (.int x0)]) (st := []) (h := hp kp nh rh tl rl I L) rfl hf (fun hc hf => ?_) (fun hc hf => ?_)
  · refine bs_st 1 (x' := (14, [some (.int x0)], [.int (0 : Int32)], hp kp nh rh tl rl I L)) rfl ?_
    cases hf
    exact bs_ret rfl
  · refine bs_st 2 (x' := (6, [some (.int x0)], [.int (4 : Int32), .int x0], hp kp nh rh tl rl I L)) rfl ?_
    refine bs_br (t := 13) (e := 9) (lo := [some (.int x0)]) (st := []) (h := hp kp nh rh tl rl I L) rfl hf (fun hc hf => ?_) (fun hc hf => ?_)
    · refine bs_st 1 (x' := (14, [some (.int x0)], [.int (0 : Int32)], hp kp nh rh tl rl I L)) rfl ?_
      cases hf
      exact bs_ret rfl
    · refine bs_st 2 (x' := (14, [some (.int x0)], [.int (1 : Int32)], hp kp nh rh tl rl I L)) rfl ?_
      cases hf
      exact bs_ret rfl
/-- Row.isBelow(II) on (81,) -/
def f_109 (x1 : Int32) (x2 : Int32) (I : FI) (L : FL) : Option (Int32) :=
  if pin x1 60 = true then (if (lg_cmp (L 82 x1.toNatClampNeg) (0 : Int64)) < 0 then
      some ((0 : Int32))
    else
      if pin x1 60 = true then (if 0 ≤ (lg_cmp (L 82 x1.toNatClampNeg) x2.toInt64) then
          some ((0 : Int32))
        else
          some ((1 : Int32))) else none) else none
set_option maxHeartbeats 1000000 in
theorem t_109 (Ls : Nat) (xs : Nat → Int32) (d : Nat) (kp : Option Nat) (tl : List (Nat × Nat)) (rl : List (List (Option Nat))) (nh : Option Nat) (rh : Option Nat) (x1 : Int32) (x2 : Int32) (I : FI) (L : FL) (r : Int32) (hf : f_109 x1 x2 I L = some r) : pEN Ls xs (d + 1) 109 [.ref 81, .int x1, .int x2] (hp kp nh rh tl rl I L) = some (some (.int r), hp kp nh rh tl rl I L) := by
  refine en_run (d := d + 0) (cd := cd_109) (f := (sf 9 rs_9 false 3 (some (.boolean)) Ls xs (d + 0))) rfl rfl (x := (0, [some (.ref 81), some (.int x1), some (.int x2)], [], hp kp nh rh tl rl I L)) rfl rfl (Nat.le_of_ble_eq_true rfl) ?_
  unfold f_109 at hf
  refine bs_st 3 (x' := (5, [some (.ref 81), some (.int x1), some (.int x2)], [.int x1, .ref 82], hp kp nh rh tl rl I L)) rfl ?_
  refine bs_gd (x' := (6, [some (.ref 81), some (.int x1), some (.int x2)], [.long (L 82 x1.toNatClampNeg)], hp kp nh rh tl rl I L)) rfl hf (fun hc hf => ?_)
  refine bs_st 2 (x' := (8, [some (.ref 81), some (.int x1), some (.int x2)], [.int (lg_cmp (L 82 x1.toNatClampNeg) (0 : Int64))], hp kp nh rh tl rl I L)) rfl ?_
  refine bs_br (t := 27) (e := 11) (lo := [some (.ref 81), some (.int x1), some (.int x2)]) (st := []) (h := hp kp nh rh tl rl I L) rfl hf (fun hc hf => ?_) (fun hc hf => ?_)
  · refine bs_st 1 (x' := (28, [some (.ref 81), some (.int x1), some (.int x2)], [.int (0 : Int32)], hp kp nh rh tl rl I L)) rfl ?_
    cases hf
    exact bs_ret rfl
  · refine bs_st 3 (x' := (16, [some (.ref 81), some (.int x1), some (.int x2)], [.int x1, .ref 82], hp kp nh rh tl rl I L)) rfl ?_
    refine bs_gd (x' := (17, [some (.ref 81), some (.int x1), some (.int x2)], [.long (L 82 x1.toNatClampNeg)], hp kp nh rh tl rl I L)) rfl hf (fun hc hf => ?_)
    refine bs_st 3 (x' := (20, [some (.ref 81), some (.int x1), some (.int x2)], [.int (lg_cmp (L 82 x1.toNatClampNeg) x2.toInt64)], hp kp nh rh tl rl I L)) rfl ?_
    refine bs_br (t := 27) (e := 23) (lo := [some (.ref 81), some (.int x1), some (.int x2)]) (st := []) (h := hp kp nh rh tl rl I L) rfl hf (fun hc hf => ?_) (fun hc hf => ?_)
    · refine bs_st 1 (x' := (28, [some (.ref 81), some (.int x1), some (.int x2)], [.int (0 : Int32)], hp kp nh rh tl rl I L)) rfl ?_
      cases hf
      exact bs_ret rfl
    · refine bs_st 2 (x' := (28, [some (.ref 81), some (.int x1), some (.int x2)], [.int (1 : Int32)], hp kp nh rh tl rl I L)) rfl ?_
      cases hf
      exact bs_ret rfl
/-- Row.isBelow(II) on (83,) -/
def f_109_1 (x1 : Int32) (x2 : Int32) (I : FI) (L : FL) : Option (Int32) :=
  if pin x1 60 = true then (if (lg_cmp (L 84 x1.toNatClampNeg) (0 : Int64)) < 0 then
      some ((0 : Int32))
    else
      if pin x1 60 = true then (if 0 ≤ (lg_cmp (L 84 x1.toNatClampNeg) x2.toInt64) then
          some ((0 : Int32))
        else
          some ((1 : Int32))) else none) else none
set_option maxHeartbeats 1000000 in
theorem t_109_1 (Ls : Nat) (xs : Nat → Int32) (d : Nat) (kp : Option Nat) (tl : List (Nat × Nat)) (rl : List (List (Option Nat))) (nh : Option Nat) (rh : Option Nat) (x1 : Int32) (x2 : Int32) (I : FI) (L : FL) (r : Int32) (hf : f_109_1 x1 x2 I L = some r) : pEN Ls xs (d + 1) 109 [.ref 83, .int x1, .int x2] (hp kp nh rh tl rl I L) = some (some (.int r), hp kp nh rh tl rl I L) := by
  refine en_run (d := d + 0) (cd := cd_109) (f := (sf 9 rs_9 false 3 (some (.boolean)) Ls xs (d + 0))) rfl rfl (x := (0, [some (.ref 83), some (.int x1), some (.int x2)], [], hp kp nh rh tl rl I L)) rfl rfl (Nat.le_of_ble_eq_true rfl) ?_
  unfold f_109_1 at hf
  refine bs_st 3 (x' := (5, [some (.ref 83), some (.int x1), some (.int x2)], [.int x1, .ref 84], hp kp nh rh tl rl I L)) rfl ?_
  refine bs_gd (x' := (6, [some (.ref 83), some (.int x1), some (.int x2)], [.long (L 84 x1.toNatClampNeg)], hp kp nh rh tl rl I L)) rfl hf (fun hc hf => ?_)
  refine bs_st 2 (x' := (8, [some (.ref 83), some (.int x1), some (.int x2)], [.int (lg_cmp (L 84 x1.toNatClampNeg) (0 : Int64))], hp kp nh rh tl rl I L)) rfl ?_
  refine bs_br (t := 27) (e := 11) (lo := [some (.ref 83), some (.int x1), some (.int x2)]) (st := []) (h := hp kp nh rh tl rl I L) rfl hf (fun hc hf => ?_) (fun hc hf => ?_)
  · refine bs_st 1 (x' := (28, [some (.ref 83), some (.int x1), some (.int x2)], [.int (0 : Int32)], hp kp nh rh tl rl I L)) rfl ?_
    cases hf
    exact bs_ret rfl
  · refine bs_st 3 (x' := (16, [some (.ref 83), some (.int x1), some (.int x2)], [.int x1, .ref 84], hp kp nh rh tl rl I L)) rfl ?_
    refine bs_gd (x' := (17, [some (.ref 83), some (.int x1), some (.int x2)], [.long (L 84 x1.toNatClampNeg)], hp kp nh rh tl rl I L)) rfl hf (fun hc hf => ?_)
    refine bs_st 3 (x' := (20, [some (.ref 83), some (.int x1), some (.int x2)], [.int (lg_cmp (L 84 x1.toNatClampNeg) x2.toInt64)], hp kp nh rh tl rl I L)) rfl ?_
    refine bs_br (t := 27) (e := 23) (lo := [some (.ref 83), some (.int x1), some (.int x2)]) (st := []) (h := hp kp nh rh tl rl I L) rfl hf (fun hc hf => ?_) (fun hc hf => ?_)
    · refine bs_st 1 (x' := (28, [some (.ref 83), some (.int x1), some (.int x2)], [.int (0 : Int32)], hp kp nh rh tl rl I L)) rfl ?_
      cases hf
      exact bs_ret rfl
    · refine bs_st 2 (x' := (28, [some (.ref 83), some (.int x1), some (.int x2)], [.int (1 : Int32)], hp kp nh rh tl rl I L)) rfl ?_
      cases hf
      exact bs_ret rfl
/-- Row.isBelow(II) on (85,) -/
def f_109_2 (x1 : Int32) (x2 : Int32) (I : FI) (L : FL) : Option (Int32) :=
  if pin x1 60 = true then (if (lg_cmp (L 86 x1.toNatClampNeg) (0 : Int64)) < 0 then
      some ((0 : Int32))
    else
      if pin x1 60 = true then (if 0 ≤ (lg_cmp (L 86 x1.toNatClampNeg) x2.toInt64) then
          some ((0 : Int32))
        else
          some ((1 : Int32))) else none) else none
set_option maxHeartbeats 1000000 in
theorem t_109_2 (Ls : Nat) (xs : Nat → Int32) (d : Nat) (kp : Option Nat) (tl : List (Nat × Nat)) (rl : List (List (Option Nat))) (nh : Option Nat) (rh : Option Nat) (x1 : Int32) (x2 : Int32) (I : FI) (L : FL) (r : Int32) (hf : f_109_2 x1 x2 I L = some r) : pEN Ls xs (d + 1) 109 [.ref 85, .int x1, .int x2] (hp kp nh rh tl rl I L) = some (some (.int r), hp kp nh rh tl rl I L) := by
  refine en_run (d := d + 0) (cd := cd_109) (f := (sf 9 rs_9 false 3 (some (.boolean)) Ls xs (d + 0))) rfl rfl (x := (0, [some (.ref 85), some (.int x1), some (.int x2)], [], hp kp nh rh tl rl I L)) rfl rfl (Nat.le_of_ble_eq_true rfl) ?_
  unfold f_109_2 at hf
  refine bs_st 3 (x' := (5, [some (.ref 85), some (.int x1), some (.int x2)], [.int x1, .ref 86], hp kp nh rh tl rl I L)) rfl ?_
  refine bs_gd (x' := (6, [some (.ref 85), some (.int x1), some (.int x2)], [.long (L 86 x1.toNatClampNeg)], hp kp nh rh tl rl I L)) rfl hf (fun hc hf => ?_)
  refine bs_st 2 (x' := (8, [some (.ref 85), some (.int x1), some (.int x2)], [.int (lg_cmp (L 86 x1.toNatClampNeg) (0 : Int64))], hp kp nh rh tl rl I L)) rfl ?_
  refine bs_br (t := 27) (e := 11) (lo := [some (.ref 85), some (.int x1), some (.int x2)]) (st := []) (h := hp kp nh rh tl rl I L) rfl hf (fun hc hf => ?_) (fun hc hf => ?_)
  · refine bs_st 1 (x' := (28, [some (.ref 85), some (.int x1), some (.int x2)], [.int (0 : Int32)], hp kp nh rh tl rl I L)) rfl ?_
    cases hf
    exact bs_ret rfl
  · refine bs_st 3 (x' := (16, [some (.ref 85), some (.int x1), some (.int x2)], [.int x1, .ref 86], hp kp nh rh tl rl I L)) rfl ?_
    refine bs_gd (x' := (17, [some (.ref 85), some (.int x1), some (.int x2)], [.long (L 86 x1.toNatClampNeg)], hp kp nh rh tl rl I L)) rfl hf (fun hc hf => ?_)
    refine bs_st 3 (x' := (20, [some (.ref 85), some (.int x1), some (.int x2)], [.int (lg_cmp (L 86 x1.toNatClampNeg) x2.toInt64)], hp kp nh rh tl rl I L)) rfl ?_
    refine bs_br (t := 27) (e := 23) (lo := [some (.ref 85), some (.int x1), some (.int x2)]) (st := []) (h := hp kp nh rh tl rl I L) rfl hf (fun hc hf => ?_) (fun hc hf => ?_)
    · refine bs_st 1 (x' := (28, [some (.ref 85), some (.int x1), some (.int x2)], [.int (0 : Int32)], hp kp nh rh tl rl I L)) rfl ?_
      cases hf
      exact bs_ret rfl
    · refine bs_st 2 (x' := (28, [some (.ref 85), some (.int x1), some (.int x2)], [.int (1 : Int32)], hp kp nh rh tl rl I L)) rfl ?_
      cases hf
      exact bs_ret rfl
/-- Row.isBelow(II) on (87,) -/
def f_109_3 (x1 : Int32) (x2 : Int32) (I : FI) (L : FL) : Option (Int32) :=
  if pin x1 60 = true then (if (lg_cmp (L 88 x1.toNatClampNeg) (0 : Int64)) < 0 then
      some ((0 : Int32))
    else
      if pin x1 60 = true then (if 0 ≤ (lg_cmp (L 88 x1.toNatClampNeg) x2.toInt64) then
          some ((0 : Int32))
        else
          some ((1 : Int32))) else none) else none
set_option maxHeartbeats 1000000 in
theorem t_109_3 (Ls : Nat) (xs : Nat → Int32) (d : Nat) (kp : Option Nat) (tl : List (Nat × Nat)) (rl : List (List (Option Nat))) (nh : Option Nat) (rh : Option Nat) (x1 : Int32) (x2 : Int32) (I : FI) (L : FL) (r : Int32) (hf : f_109_3 x1 x2 I L = some r) : pEN Ls xs (d + 1) 109 [.ref 87, .int x1, .int x2] (hp kp nh rh tl rl I L) = some (some (.int r), hp kp nh rh tl rl I L) := by
  refine en_run (d := d + 0) (cd := cd_109) (f := (sf 9 rs_9 false 3 (some (.boolean)) Ls xs (d + 0))) rfl rfl (x := (0, [some (.ref 87), some (.int x1), some (.int x2)], [], hp kp nh rh tl rl I L)) rfl rfl (Nat.le_of_ble_eq_true rfl) ?_
  unfold f_109_3 at hf
  refine bs_st 3 (x' := (5, [some (.ref 87), some (.int x1), some (.int x2)], [.int x1, .ref 88], hp kp nh rh tl rl I L)) rfl ?_
  refine bs_gd (x' := (6, [some (.ref 87), some (.int x1), some (.int x2)], [.long (L 88 x1.toNatClampNeg)], hp kp nh rh tl rl I L)) rfl hf (fun hc hf => ?_)
  refine bs_st 2 (x' := (8, [some (.ref 87), some (.int x1), some (.int x2)], [.int (lg_cmp (L 88 x1.toNatClampNeg) (0 : Int64))], hp kp nh rh tl rl I L)) rfl ?_
  refine bs_br (t := 27) (e := 11) (lo := [some (.ref 87), some (.int x1), some (.int x2)]) (st := []) (h := hp kp nh rh tl rl I L) rfl hf (fun hc hf => ?_) (fun hc hf => ?_)
  · refine bs_st 1 (x' := (28, [some (.ref 87), some (.int x1), some (.int x2)], [.int (0 : Int32)], hp kp nh rh tl rl I L)) rfl ?_
    cases hf
    exact bs_ret rfl
  · refine bs_st 3 (x' := (16, [some (.ref 87), some (.int x1), some (.int x2)], [.int x1, .ref 88], hp kp nh rh tl rl I L)) rfl ?_
    refine bs_gd (x' := (17, [some (.ref 87), some (.int x1), some (.int x2)], [.long (L 88 x1.toNatClampNeg)], hp kp nh rh tl rl I L)) rfl hf (fun hc hf => ?_)
    refine bs_st 3 (x' := (20, [some (.ref 87), some (.int x1), some (.int x2)], [.int (lg_cmp (L 88 x1.toNatClampNeg) x2.toInt64)], hp kp nh rh tl rl I L)) rfl ?_
    refine bs_br (t := 27) (e := 23) (lo := [some (.ref 87), some (.int x1), some (.int x2)]) (st := []) (h := hp kp nh rh tl rl I L) rfl hf (fun hc hf => ?_) (fun hc hf => ?_)
    · refine bs_st 1 (x' := (28, [some (.ref 87), some (.int x1), some (.int x2)], [.int (0 : Int32)], hp kp nh rh tl rl I L)) rfl ?_
      cases hf
      exact bs_ret rfl
    · refine bs_st 2 (x' := (28, [some (.ref 87), some (.int x1), some (.int x2)], [.int (1 : Int32)], hp kp nh rh tl rl I L)) rfl ?_
      cases hf
      exact bs_ret rfl
