/-- LampRoundsModel.in(JJJ) on () -/
def f_201 (y0 : Int64) (y2 : Int64) (y4 : Int64) (I : FI) (L : FL) : Option (Int32) :=
  if (lg_cmp y0 y2) < 0 then
    some ((0 : Int32))
  else
    if 0 < (lg_cmp y0 y4) then
      some ((0 : Int32))
    else
      some ((1 : Int32))
set_option maxHeartbeats 1000000 in
set_option maxRecDepth 20000 in
theorem t_201 (Ls : Nat) (xs : Nat → Int32) (d : Nat) (kp : Option Nat) (tl : List (Nat × Nat)) (rl : List (List (Option Nat))) (nh : Option Nat) (rh : Option Nat) (y0 : Int64) (y2 : Int64) (y4 : Int64) (I : FI) (L : FL) (r : Int32) (hf : f_201 y0 y2 y4 I L = some r) : pEN Ls xs (d + 1) 201 [.long y0, .long y2, .long y4] (hp kp nh rh tl rl I L) = some (some (.int r), hp kp nh rh tl rl I L) := by
  refine en_run (d := d + 0) (cd := cd_201) (f := (sf 12 rs_12 false 6 (some (.boolean)) Ls xs (d + 0))) rfl rfl (x := (0, [some (.long y0), none, some (.long y2), none, some (.long y4), none], [], hp kp nh rh tl rl I L)) rfl rfl (Nat.le_of_ble_eq_true rfl) ?_
  unfold f_201 at hf
  refine bs_st 3 (x' := (3, [some (.long y0), none, some (.long y2), none, some (.long y4), none], [.int (lg_cmp y0 y2)], hp kp nh rh tl rl I L)) rfl ?_
  refine bs_br (t := 17) (e := 6) (lo := [some (.long y0), none, some (.long y2), none, some (.long y4), none]) (st := []) (h := hp kp nh rh tl rl I L) rfl hf (fun hc hf => ?_) (fun hc hf => ?_)
  · refine bs_st 1 (x' := (18, [some (.long y0), none, some (.long y2), none, some (.long y4), none], [.int (0 : Int32)], hp kp nh rh tl rl I L)) rfl ?_
    cases hf
    exact bs_ret rfl
  · refine bs_st 3 (x' := (10, [some (.long y0), none, some (.long y2), none, some (.long y4), none], [.int (lg_cmp y0 y4)], hp kp nh rh tl rl I L)) rfl ?_
    refine bs_br (t := 17) (e := 13) (lo := [some (.long y0), none, some (.long y2), none, some (.long y4), none]) (st := []) (h := hp kp nh rh tl rl I L) rfl hf (fun hc hf => ?_) (fun hc hf => ?_)
    · refine bs_st 1 (x' := (18, [some (.long y0), none, some (.long y2), none, some (.long y4), none], [.int (0 : Int32)], hp kp nh rh tl rl I L)) rfl ?_
      cases hf
      exact bs_ret rfl
    · refine bs_st 2 (x' := (18, [some (.long y0), none, some (.long y2), none, some (.long y4), none], [.int (1 : Int32)], hp kp nh rh tl rl I L)) rfl ?_
      cases hf
      exact bs_ret rfl
/-- LampRoundsModel.isSlot(I) on () -/
def f_202 (x0 : Int32) (I : FI) (L : FL) : Option (Int32) :=
  (f_201 x0.toInt64 (0 : Int64) (3 : Int64) I L).bind fun q0 =>
  if narrow .boolean (.int q0) = .int q0 then some (q0) else none
set_option maxHeartbeats 1000000 in
set_option maxRecDepth 20000 in
theorem t_202 (Ls : Nat) (xs : Nat → Int32) (d : Nat) (kp : Option Nat) (tl : List (Nat × Nat)) (rl : List (List (Option Nat))) (nh : Option Nat) (rh : Option Nat) (x0 : Int32) (I : FI) (L : FL) (r : Int32) (hf : f_202 x0 I L = some r) : pEN Ls xs (d + 2) 202 [.int x0] (hp kp nh rh tl rl I L) = some (some (.int r), hp kp nh rh tl rl I L) := by
  refine en_run (d := d + 1) (cd := cd_202) (f := (sf 12 rs_12 false 1 (some (.boolean)) Ls xs (d + 1))) rfl rfl (x := (0, [some (.int x0)], [], hp kp nh rh tl rl I L)) rfl rfl (Nat.le_of_ble_eq_true rfl) ?_
  unfold f_202 at hf
  refine bs_st 4 (x' := (6, [some (.int x0)], [.long (3 : Int64), .long (0 : Int64), .long x0.toInt64], hp kp nh rh tl rl I L)) rfl ?_
  obtain ⟨q0, hq0, hf⟩ := Option.bind_eq_some_iff.mp hf
  refine bs_call (o := pEN Ls xs (d + 1) 201 [.long x0.toInt64, .long (0 : Int64), .long (3 : Int64)] (hp kp nh rh tl rl I L)) (w := some (.int q0)) (h' := hp kp nh rh tl rl I L) (pc := 9) (lo := [some (.int x0)]) (rest := []) rfl (t_201 Ls xs (d + 0) kp tl rl nh rh x0.toInt64 (0 : Int64) (3 : Int64) I L q0 hq0) ?_
  split at hf
  · rename_i hg; cases hf; exact bs_rg rfl hg
  · cases hf
/-- LampRoundsModel.row(III) on (89,) -/
def b_203_0 (n : Nat) (K0 : Int32 → Int32 → Int32 → FI → FL → Option (Int32 × FI × FL)) (x1 : Int32) (x3 : Int32) (x4 : Int32) (I : FI) (L : FL) : Option (Int32 × FI × FL) :=
  if x3 ≤ x4 then
    some ((0 : Int32), I, L)
  else
    if pin (((60 : Int32) * x1) + x4) 240 = true then K0 x1 x3 (x4 + (1 : Int32)) I (u2 L 92 ((((60 : Int32) * x1) + x4).toNatClampNeg) (0 : Int64)) else none
def c_203_0 (n : Nat) : Nat → Int32 → Int32 → Int32 → FI → FL → Option (Int32 × FI × FL)
  | 0, _, _, _, _, _ => none
  | m + 1, x1, x3, x4, I, L => b_203_0 n (c_203_0 n m) x1 x3 x4 I L
set_option maxHeartbeats 1000000 in
set_option maxRecDepth 20000 in
theorem tc_203_0 (Ls : Nat) (xs : Nat → Int32) (d : Nat) (kp : Option Nat) (tl : List (Nat × Nat)) (rl : List (List (Option Nat))) (nh : Option Nat) (rh : Option Nat) (n : Nat) : ∀ (m : Nat) (w2 : Option Value) (x1 : Int32) (x3 : Int32) (x4 : Int32) (I : FI) (L : FL) (r : Int32 × FI × FL), c_203_0 n m x1 x3 x4 I L = some r → Bs cd_203 (sf 12 rs_12 false 5 (some (.int)) Ls xs (d + 2)) (57, [some (.ref 89), some (.int x1), w2, some (.int x3), some (.int x4)], [], hp kp nh rh tl rl I L) (some (.int r.1), hp kp nh rh tl rl r.2.1 r.2.2)
  | 0, w2, x1, x3, x4, I, L, r, hf => by cases hf
  | m + 1, w2, x1, x3, x4, I, L, r, hf => by
    unfold c_203_0 b_203_0 at hf
    have hK0 := tc_203_0 Ls xs d kp tl rl nh rh n m
    refine bs_st 2 (x' := (60, [some (.ref 89), some (.int x1), w2, some (.int x3), some (.int x4)], [.int x3, .int x4], hp kp nh rh tl rl I L)) rfl ?_
    refine bs_br (t := 82) (e := 63) (lo := [some (.ref 89), some (.int x1), w2, some (.int x3), some (.int x4)]) (st := []) (h := hp kp nh rh tl rl I L) rfl hf (fun hc hf => ?_) (fun hc hf => ?_)
    · refine bs_st 1 (x' := (83, [some (.ref 89), some (.int x1), w2, some (.int x3), some (.int x4)], [.int (0 : Int32)], hp kp nh rh tl rl I L)) rfl ?_
      cases hf
      exact bs_ret rfl
    · refine bs_st 8 (x' := (75, [some (.ref 89), some (.int x1), w2, some (.int x3), some (.int x4)], [.long (0 : Int64), .int (((60 : Int32) * x1) + x4), .ref 92], hp kp nh rh tl rl I L)) rfl ?_
      refine bs_gd (x' := (76, [some (.ref 89), some (.int x1), w2, some (.int x3), some (.int x4)], [], hp kp nh rh tl rl I (u2 L 92 ((((60 : Int32) * x1) + x4).toNatClampNeg) (0 : Int64)))) rfl hf (fun hc hf => ?_)
      refine bs_st 2 (x' := (57, [some (.ref 89), some (.int x1), w2, some (.int x3), some (.int (x4 + (1 : Int32)))], [], hp kp nh rh tl rl I (u2 L 92 ((((60 : Int32) * x1) + x4).toNatClampNeg) (0 : Int64)))) rfl ?_
      exact hK0 w2 x1 x3 (x4 + (1 : Int32)) I (u2 L 92 ((((60 : Int32) * x1) + x4).toNatClampNeg) (0 : Int64)) r hf
def f_203 (n : Nat) (x1 : Int32) (x2 : Int32) (x3 : Int32) (I : FI) (L : FL) : Option (Int32 × FI × FL) :=
  (f_202 x1 (u2 I 89 0 (0 : Int32)) L).bind fun q0 =>
  if q0 = 0 then
    some ((-2 : Int32), (u2 I 89 0 (0 : Int32)), L)
  else
    (f_201 x2.toInt64 (0 : Int64) (3 : Int64) (u2 I 89 0 (0 : Int32)) L).bind fun q1 =>
    if q1 = 0 then
      some ((-2 : Int32), (u2 I 89 0 (0 : Int32)), L)
    else
      if x3 ≤ (60 : Int32) then
        if 0 ≤ x3 then
          if pin x1 4 = true then (if pin x1 4 = true then c_203_0 n n x1 x3 (0 : Int32) (u2 (u2 (u2 I 89 0 (0 : Int32)) 90 x1.toNatClampNeg x2) 91 x1.toNatClampNeg x3) L else none) else none
        else
          some ((-3 : Int32), (u2 I 89 0 (0 : Int32)), L)
      else
        some ((-2 : Int32), (u2 I 89 0 (0 : Int32)), L)
set_option maxHeartbeats 1000000 in
set_option maxRecDepth 20000 in
theorem t_203 (Ls : Nat) (xs : Nat → Int32) (d : Nat) (kp : Option Nat) (tl : List (Nat × Nat)) (rl : List (List (Option Nat))) (nh : Option Nat) (rh : Option Nat) (n : Nat) (x1 : Int32) (x2 : Int32) (x3 : Int32) (I : FI) (L : FL) (r : Int32 × FI × FL) (hf : f_203 n x1 x2 x3 I L = some r) : pEN Ls xs (d + 3) 203 [.ref 89, .int x1, .int x2, .int x3] (hp kp nh rh tl rl I L) = some (some (.int r.1), hp kp nh rh tl rl r.2.1 r.2.2) := by
  refine en_run (d := d + 2) (cd := cd_203) (f := (sf 12 rs_12 false 5 (some (.int)) Ls xs (d + 2))) rfl rfl (x := (0, [some (.ref 89), some (.int x1), some (.int x2), some (.int x3), none], [], hp kp nh rh tl rl I L)) rfl rfl (Nat.le_of_ble_eq_true rfl) ?_
  unfold f_203 at hf
  refine bs_st 4 (x' := (6, [some (.ref 89), some (.int x1), some (.int x2), some (.int x3), none], [.int x1], hp kp nh rh tl rl (u2 I 89 0 (0 : Int32)) L)) rfl ?_
  obtain ⟨q0, hq0, hf⟩ := Option.bind_eq_some_iff.mp hf
  refine bs_call (o := pEN Ls xs (d + 2) 202 [.int x1] (hp kp nh rh tl rl (u2 I 89 0 (0 : Int32)) L)) (w := some (.int q0)) (h' := hp kp nh rh tl rl (u2 I 89 0 (0 : Int32)) L) (pc := 9) (lo := [some (.ref 89), some (.int x1), some (.int x2), some (.int x3), none]) (rest := []) rfl (t_202 Ls xs (d + 0) kp tl rl nh rh x1 (u2 I 89 0 (0 : Int32)) L q0 hq0) ?_
  refine bs_br (t := 30) (e := 12) (lo := [some (.ref 89), some (.int x1), some (.int x2), some (.int x3), none]) (st := []) (h := hp kp nh rh tl rl (u2 I 89 0 (0 : Int32)) L) rfl hf (fun hc hf => ?_) (fun hc hf => ?_)
  · refine bs_st 1 (x' := (32, [some (.ref 89), some (.int x1), some (.int x2), some (.int x3), none], [.int (-2 : Int32)], hp kp nh rh tl rl (u2 I 89 0 (0 : Int32)) L)) rfl ?_
    cases hf
    exact bs_ret rfl
  · refine bs_st 4 (x' := (18, [some (.ref 89), some (.int x1), some (.int x2), some (.int x3), none], [.long (3 : Int64), .long (0 : Int64), .long x2.toInt64], hp kp nh rh tl rl (u2 I 89 0 (0 : Int32)) L)) rfl ?_
    obtain ⟨q1, hq1, hf⟩ := Option.bind_eq_some_iff.mp hf
    refine bs_call (o := pEN Ls xs (d + 2) 201 [.long x2.toInt64, .long (0 : Int64), .long (3 : Int64)] (hp kp nh rh tl rl (u2 I 89 0 (0 : Int32)) L)) (w := some (.int q1)) (h' := hp kp nh rh tl rl (u2 I 89 0 (0 : Int32)) L) (pc := 21) (lo := [some (.ref 89), some (.int x1), some (.int x2), some (.int x3), none]) (rest := []) rfl (t_201 Ls xs (d + 1) kp tl rl nh rh x2.toInt64 (0 : Int64) (3 : Int64) (u2 I 89 0 (0 : Int32)) L q1 hq1) ?_
    refine bs_br (t := 30) (e := 24) (lo := [some (.ref 89), some (.int x1), some (.int x2), some (.int x3), none]) (st := []) (h := hp kp nh rh tl rl (u2 I 89 0 (0 : Int32)) L) rfl hf (fun hc hf => ?_) (fun hc hf => ?_)
    · refine bs_st 1 (x' := (32, [some (.ref 89), some (.int x1), some (.int x2), some (.int x3), none], [.int (-2 : Int32)], hp kp nh rh tl rl (u2 I 89 0 (0 : Int32)) L)) rfl ?_
      cases hf
      exact bs_ret rfl
    · refine bs_st 2 (x' := (27, [some (.ref 89), some (.int x1), some (.int x2), some (.int x3), none], [.int (60 : Int32), .int x3], hp kp nh rh tl rl (u2 I 89 0 (0 : Int32)) L)) rfl ?_
      refine bs_br (t := 33) (e := 30) (lo := [some (.ref 89), some (.int x1), some (.int x2), some (.int x3), none]) (st := []) (h := hp kp nh rh tl rl (u2 I 89 0 (0 : Int32)) L) rfl hf (fun hc hf => ?_) (fun hc hf => ?_)
      · refine bs_st 1 (x' := (34, [some (.ref 89), some (.int x1), some (.int x2), some (.int x3), none], [.int x3], hp kp nh rh tl rl (u2 I 89 0 (0 : Int32)) L)) rfl ?_
        refine bs_br (t := 40) (e := 37) (lo := [some (.ref 89), some (.int x1), some (.int x2), some (.int x3), none]) (st := []) (h := hp kp nh rh tl rl (u2 I 89 0 (0 : Int32)) L) rfl hf (fun hc hf => ?_) (fun hc hf => ?_)
        · refine bs_st 4 (x' := (46, [some (.ref 89), some (.int x1), some (.int x2), some (.int x3), none], [.int x2, .int x1, .ref 90], hp kp nh rh tl rl (u2 I 89 0 (0 : Int32)) L)) rfl ?_
          refine bs_gd (x' := (47, [some (.ref 89), some (.int x1), some (.int x2), some (.int x3), none], [], hp kp nh rh tl rl (u2 (u2 I 89 0 (0 : Int32)) 90 x1.toNatClampNeg x2) L)) rfl hf (fun hc hf => ?_)
          refine bs_st 4 (x' := (53, [some (.ref 89), some (.int x1), some (.int x2), some (.int x3), none], [.int x3, .int x1, .ref 91], hp kp nh rh tl rl (u2 (u2 I 89 0 (0 : Int32)) 90 x1.toNatClampNeg x2) L)) rfl ?_
          refine bs_gd (x' := (54, [some (.ref 89), some (.int x1), some (.int x2), some (.int x3), none], [], hp kp nh rh tl rl (u2 (u2 (u2 I 89 0 (0 : Int32)) 90 x1.toNatClampNeg x2) 91 x1.toNatClampNeg x3) L)) rfl hf (fun hc hf => ?_)
          refine bs_st 2 (x' := (57, [some (.ref 89), some (.int x1), some (.int x2), some (.int x3), some (.int (0 : Int32))], [], hp kp nh rh tl rl (u2 (u2 (u2 I 89 0 (0 : Int32)) 90 x1.toNatClampNeg x2) 91 x1.toNatClampNeg x3) L)) rfl ?_
          exact tc_203_0 Ls xs d kp tl rl nh rh n n (some (.int x2)) x1 x3 (0 : Int32) (u2 (u2 (u2 I 89 0 (0 : Int32)) 90 x1.toNatClampNeg x2) 91 x1.toNatClampNeg x3) L r hf
        · refine bs_st 1 (x' := (39, [some (.ref 89), some (.int x1), some (.int x2), some (.int x3), none], [.int (-3 : Int32)], hp kp nh rh tl rl (u2 I 89 0 (0 : Int32)) L)) rfl ?_
          cases hf
          exact bs_ret rfl
      · refine bs_st 1 (x' := (32, [some (.ref 89), some (.int x1), some (.int x2), some (.int x3), none], [.int (-2 : Int32)], hp kp nh rh tl rl (u2 I 89 0 (0 : Int32)) L)) rfl ?_
        cases hf
        exact bs_ret rfl
/-- LampRoundsModel.cut(JI) on () -/
def f_204 (y0 : Int64) (x2 : Int32) (I : FI) (L : FL) : Option (Int64) :=
  if ¬ x2 = 0 then
    if ¬ x2 = (1 : Int32) then
      if ¬ x2 = (2 : Int32) then
        some (y0)
      else
        some (y0.toInt32.toInt64)
    else
      some (y0.toInt32.toInt16.toInt32.toInt64)
  else
    some (y0.toInt32.toInt8.toInt32.toInt64)
set_option maxHeartbeats 1000000 in
set_option maxRecDepth 20000 in
theorem t_204 (Ls : Nat) (xs : Nat → Int32) (d : Nat) (kp : Option Nat) (tl : List (Nat × Nat)) (rl : List (List (Option Nat))) (nh : Option Nat) (rh : Option Nat) (y0 : Int64) (x2 : Int32) (I : FI) (L : FL) (r : Int64) (hf : f_204 y0 x2 I L = some r) : pEN Ls xs (d + 1) 204 [.long y0, .int x2] (hp kp nh rh tl rl I L) = some (some (.long r), hp kp nh rh tl rl I L) := by
  refine en_run (d := d + 0) (cd := cd_204) (f := (sf 12 rs_12 false 3 (some (.long)) Ls xs (d + 0))) rfl rfl (x := (0, [some (.long y0), none, some (.int x2)], [], hp kp nh rh tl rl I L)) rfl rfl (Nat.le_of_ble_eq_true rfl) ?_
  unfold f_204 at hf
  refine bs_st 1 (x' := (1, [some (.long y0), none, some (.int x2)], [.int x2], hp kp nh rh tl rl I L)) rfl ?_
  refine bs_br (t := 11) (e := 4) (lo := [some (.long y0), none, some (.int x2)]) (st := []) (h := hp kp nh rh tl rl I L) rfl hf (fun hc hf => ?_) (fun hc hf => ?_)
  · refine bs_st 2 (x' := (13, [some (.long y0), none, some (.int x2)], [.int (1 : Int32), .int x2], hp kp nh rh tl rl I L)) rfl ?_
    refine bs_br (t := 23) (e := 16) (lo := [some (.long y0), none, some (.int x2)]) (st := []) (h := hp kp nh rh tl rl I L) rfl hf (fun hc hf => ?_) (fun hc hf => ?_)
    · refine bs_st 2 (x' := (25, [some (.long y0), none, some (.int x2)], [.int (2 : Int32), .int x2], hp kp nh rh tl rl I L)) rfl ?_
      refine bs_br (t := 34) (e := 28) (lo := [some (.long y0), none, some (.int x2)]) (st := []) (h := hp kp nh rh tl rl I L) rfl hf (fun hc hf => ?_) (fun hc hf => ?_)
      · refine bs_st 1 (x' := (35, [some (.long y0), none, some (.int x2)], [.long y0], hp kp nh rh tl rl I L)) rfl ?_
        cases hf
        exact bs_ret rfl
      · refine bs_st 4 (x' := (35, [some (.long y0), none, some (.int x2)], [.long y0.toInt32.toInt64], hp kp nh rh tl rl I L)) rfl ?_
        cases hf
        exact bs_ret rfl
    · refine bs_st 5 (x' := (35, [some (.long y0), none, some (.int x2)], [.long y0.toInt32.toInt16.toInt32.toInt64], hp kp nh rh tl rl I L)) rfl ?_
      cases hf
      exact bs_ret rfl
  · refine bs_st 5 (x' := (35, [some (.long y0), none, some (.int x2)], [.long y0.toInt32.toInt8.toInt32.toInt64], hp kp nh rh tl rl I L)) rfl ?_
    cases hf
    exact bs_ret rfl
/-- LampRoundsModel.write(IIJ) on (89,) -/
def f_205 (x1 : Int32) (x2 : Int32) (y3 : Int64) (I : FI) (L : FL) : Option (Int32 × FI × FL) :=
  (f_202 x1 (u2 I 89 0 (0 : Int32)) L).bind fun q0 =>
  if ¬ q0 = 0 then
    if pin x1 4 = true then (if ¬ I 90 x1.toNatClampNeg = (-1 : Int32) then
        if pin x1 4 = true then ((f_201 x2.toInt64 (0 : Int64) (((I 91 x1.toNatClampNeg) - (1 : Int32)).toInt64) (u2 I 89 0 (0 : Int32)) L).bind fun q1 =>
          if ¬ q1 = 0 then
            if pin x1 4 = true then ((f_204 y3 (I 90 x1.toNatClampNeg) (u2 I 89 0 (0 : Int32)) L).bind fun q2 =>
              if pin (((60 : Int32) * x1) + x2) 240 = true then some ((0 : Int32), (u2 I 89 0 (0 : Int32)), (u2 L 92 ((((60 : Int32) * x1) + x2).toNatClampNeg) q2)) else none) else none
          else
            some ((-7 : Int32), (u2 I 89 0 (0 : Int32)), L)) else none
      else
        some ((-6 : Int32), (u2 I 89 0 (0 : Int32)), L)) else none
  else
    some ((-2 : Int32), (u2 I 89 0 (0 : Int32)), L)
set_option maxHeartbeats 1000000 in
set_option maxRecDepth 20000 in
theorem t_205 (Ls : Nat) (xs : Nat → Int32) (d : Nat) (kp : Option Nat) (tl : List (Nat × Nat)) (rl : List (List (Option Nat))) (nh : Option Nat) (rh : Option Nat) (x1 : Int32) (x2 : Int32) (y3 : Int64) (I : FI) (L : FL) (r : Int32 × FI × FL) (hf : f_205 x1 x2 y3 I L = some r) : pEN Ls xs (d + 3) 205 [.ref 89, .int x1, .int x2, .long y3] (hp kp nh rh tl rl I L) = some (some (.int r.1), hp kp nh rh tl rl r.2.1 r.2.2) := by
  refine en_run (d := d + 2) (cd := cd_205) (f := (sf 12 rs_12 false 5 (some (.int)) Ls xs (d + 2))) rfl rfl (x := (0, [some (.ref 89), some (.int x1), some (.int x2), some (.long y3), none], [], hp kp nh rh tl rl I L)) rfl rfl (Nat.le_of_ble_eq_true rfl) ?_
  unfold f_205 at hf
  refine bs_st 4 (x' := (6, [some (.ref 89), some (.int x1), some (.int x2), some (.long y3), none], [.int x1], hp kp nh rh tl rl (u2 I 89 0 (0 : Int32)) L)) rfl ?_
  obtain ⟨q0, hq0, hf⟩ := Option.bind_eq_some_iff.mp hf
  refine bs_call (o := pEN Ls xs (d + 2) 202 [.int x1] (hp kp nh rh tl rl (u2 I 89 0 (0 : Int32)) L)) (w := some (.int q0)) (h' := hp kp nh rh tl rl (u2 I 89 0 (0 : Int32)) L) (pc := 9) (lo := [some (.ref 89), some (.int x1), some (.int x2), some (.long y3), none]) (rest := []) rfl (t_202 Ls xs (d + 0) kp tl rl nh rh x1 (u2 I 89 0 (0 : Int32)) L q0 hq0) ?_
  refine bs_br (t := 15) (e := 12) (lo := [some (.ref 89), some (.int x1), some (.int x2), some (.long y3), none]) (st := []) (h := hp kp nh rh tl rl (u2 I 89 0 (0 : Int32)) L) rfl hf (fun hc hf => ?_) (fun hc hf => ?_)
  · refine bs_st 3 (x' := (20, [some (.ref 89), some (.int x1), some (.int x2), some (.long y3), none], [.int x1, .ref 90], hp kp nh rh tl rl (u2 I 89 0 (0 : Int32)) L)) rfl ?_
    refine bs_gd (x' := (21, [some (.ref 89), some (.int x1), some (.int x2), some (.long y3), none], [.int (I 90 x1.toNatClampNeg)], hp kp nh rh tl rl (u2 I 89 0 (0 : Int32)) L)) rfl hf (fun hc hf => ?_)
    refine bs_st 1 (x' := (22, [some (.ref 89), some (.int x1), some (.int x2), some (.long y3), none], [.int (-1 : Int32), .int (I 90 x1.toNatClampNeg)], hp kp nh rh tl rl (u2 I 89 0 (0 : Int32)) L)) rfl ?_
    refine bs_br (t := 28) (e := 25) (lo := [some (.ref 89), some (.int x1), some (.int x2), some (.long y3), none]) (st := []) (h := hp kp nh rh tl rl (u2 I 89 0 (0 : Int32)) L) rfl hf (fun hc hf => ?_) (fun hc hf => ?_)
    · refine bs_st 6 (x' := (36, [some (.ref 89), some (.int x1), some (.int x2), some (.long y3), none], [.int x1, .ref 91, .long (0 : Int64), .long x2.toInt64], hp kp nh rh tl rl (u2 I 89 0 (0 : Int32)) L)) rfl ?_
      refine bs_gd (x' := (37, [some (.ref 89), some (.int x1), some (.int x2), some (.long y3), none], [.int (I 91 x1.toNatClampNeg), .long (0 : Int64), .long x2.toInt64], hp kp nh rh tl rl (u2 I 89 0 (0 : Int32)) L)) rfl hf (fun hc hf => ?_)
      refine bs_st 3 (x' := (40, [some (.ref 89), some (.int x1), some (.int x2), some (.long y3), none], [.long (((I 91 x1.toNatClampNeg) - (1 : Int32)).toInt64), .long (0 : Int64), .long x2.toInt64], hp kp nh rh tl rl (u2 I 89 0 (0 : Int32)) L)) rfl ?_
      obtain ⟨q1, hq1, hf⟩ := Option.bind_eq_some_iff.mp hf
      refine bs_call (o := pEN Ls xs (d + 2) 201 [.long x2.toInt64, .long (0 : Int64), .long (((I 91 x1.toNatClampNeg) - (1 : Int32)).toInt64)] (hp kp nh rh tl rl (u2 I 89 0 (0 : Int32)) L)) (w := some (.int q1)) (h' := hp kp nh rh tl rl (u2 I 89 0 (0 : Int32)) L) (pc := 43) (lo := [some (.ref 89), some (.int x1), some (.int x2), some (.long y3), none]) (rest := []) rfl (t_201 Ls xs (d + 1) kp tl rl nh rh x2.toInt64 (0 : Int64) (((I 91 x1.toNatClampNeg) - (1 : Int32)).toInt64) (u2 I 89 0 (0 : Int32)) L q1 hq1) ?_
      refine bs_br (t := 49) (e := 46) (lo := [some (.ref 89), some (.int x1), some (.int x2), some (.long y3), none]) (st := []) (h := hp kp nh rh tl rl (u2 I 89 0 (0 : Int32)) L) rfl hf (fun hc hf => ?_) (fun hc hf => ?_)
      · refine bs_st 11 (x' := (65, [some (.ref 89), some (.int x1), some (.int x2), some (.long y3), none], [.int x1, .ref 90, .long y3, .int (((60 : Int32) * x1) + x2), .ref 92], hp kp nh rh tl rl (u2 I 89 0 (0 : Int32)) L)) rfl ?_
        refine bs_gd (x' := (66, [some (.ref 89), some (.int x1), some (.int x2), some (.long y3), none], [.int (I 90 x1.toNatClampNeg), .long y3, .int (((60 : Int32) * x1) + x2), .ref 92], hp kp nh rh tl rl (u2 I 89 0 (0 : Int32)) L)) rfl hf (fun hc hf => ?_)
        obtain ⟨q2, hq2, hf⟩ := Option.bind_eq_some_iff.mp hf
        refine bs_call (o := pEN Ls xs (d + 2) 204 [.long y3, .int (I 90 x1.toNatClampNeg)] (hp kp nh rh tl rl (u2 I 89 0 (0 : Int32)) L)) (w := some (.long q2)) (h' := hp kp nh rh tl rl (u2 I 89 0 (0 : Int32)) L) (pc := 69) (lo := [some (.ref 89), some (.int x1), some (.int x2), some (.long y3), none]) (rest := [.int (((60 : Int32) * x1) + x2), .ref 92]) rfl (t_204 Ls xs (d + 1) kp tl rl nh rh y3 (I 90 x1.toNatClampNeg) (u2 I 89 0 (0 : Int32)) L q2 hq2) ?_
        refine bs_gd (x' := (70, [some (.ref 89), some (.int x1), some (.int x2), some (.long y3), none], [], hp kp nh rh tl rl (u2 I 89 0 (0 : Int32)) (u2 L 92 ((((60 : Int32) * x1) + x2).toNatClampNeg) q2))) rfl hf (fun hc hf => ?_)
        refine bs_st 1 (x' := (71, [some (.ref 89), some (.int x1), some (.int x2), some (.long y3), none], [.int (0 : Int32)], hp kp nh rh tl rl (u2 I 89 0 (0 : Int32)) (u2 L 92 ((((60 : Int32) * x1) + x2).toNatClampNeg) q2))) rfl ?_
        cases hf
        exact bs_ret rfl
      · refine bs_st 1 (x' := (48, [some (.ref 89), some (.int x1), some (.int x2), some (.long y3), none], [.int (-7 : Int32)], hp kp nh rh tl rl (u2 I 89 0 (0 : Int32)) L)) rfl ?_
        cases hf
        exact bs_ret rfl
    · refine bs_st 1 (x' := (27, [some (.ref 89), some (.int x1), some (.int x2), some (.long y3), none], [.int (-6 : Int32)], hp kp nh rh tl rl (u2 I 89 0 (0 : Int32)) L)) rfl ?_
      cases hf
      exact bs_ret rfl
  · refine bs_st 1 (x' := (14, [some (.ref 89), some (.int x1), some (.int x2), some (.long y3), none], [.int (-2 : Int32)], hp kp nh rh tl rl (u2 I 89 0 (0 : Int32)) L)) rfl ?_
    cases hf
    exact bs_ret rfl
/-- LampRoundsModel.paste(IIIII) on (89,) -/
def b_206_1 (n : Nat) (K1 : Int32 → Int32 → Int32 → Int32 → FI → FL → Option (Int32 × FI × FL)) (x3 : Int32) (x4 : Int32) (x5 : Int32) (x6 : Int32) (I : FI) (L : FL) : Option (Int32 × FI × FL) :=
  if x5 ≤ x6 then
    some ((0 : Int32), I, L)
  else
    if pin x6 60 = true then (if pin ((((60 : Int32) * x3) + x4) + x6) 240 = true then K1 x3 x4 x5 (x6 + (1 : Int32)) I (u2 L 92 (((((60 : Int32) * x3) + x4) + x6).toNatClampNeg) (L 93 x6.toNatClampNeg)) else none) else none
def c_206_1 (n : Nat) : Nat → Int32 → Int32 → Int32 → Int32 → FI → FL → Option (Int32 × FI × FL)
  | 0, _, _, _, _, _, _ => none
  | m + 1, x3, x4, x5, x6, I, L => b_206_1 n (c_206_1 n m) x3 x4 x5 x6 I L
set_option maxHeartbeats 1000000 in
set_option maxRecDepth 20000 in
theorem tc_206_1 (Ls : Nat) (xs : Nat → Int32) (d : Nat) (kp : Option Nat) (tl : List (Nat × Nat)) (rl : List (List (Option Nat))) (nh : Option Nat) (rh : Option Nat) (n : Nat) : ∀ (m : Nat) (w1 : Option Value) (w2 : Option Value) (x3 : Int32) (x4 : Int32) (x5 : Int32) (x6 : Int32) (I : FI) (L : FL) (r : Int32 × FI × FL), c_206_1 n m x3 x4 x5 x6 I L = some r → Bs cd_206 (sf 12 rs_12 false 7 (some (.int)) Ls xs (d + 2)) (155, [some (.ref 89), w1, w2, some (.int x3), some (.int x4), some (.int x5), some (.int x6)], [], hp kp nh rh tl rl I L) (some (.int r.1), hp kp nh rh tl rl r.2.1 r.2.2)
  | 0, w1, w2, x3, x4, x5, x6, I, L, r, hf => by cases hf
  | m + 1, w1, w2, x3, x4, x5, x6, I, L, r, hf => by
    unfold c_206_1 b_206_1 at hf
    have hK1 := tc_206_1 Ls xs d kp tl rl nh rh n m
    refine bs_st 2 (x' := (159, [some (.ref 89), w1, w2, some (.int x3), some (.int x4), some (.int x5), some (.int x6)], [.int x5, .int x6], hp kp nh rh tl rl I L)) rfl ?_
    refine bs_br (t := 190) (e := 162) (lo := [some (.ref 89), w1, w2, some (.int x3), some (.int x4), some (.int x5), some (.int x6)]) (st := []) (h := hp kp nh rh tl rl I L) rfl hf (fun hc hf => ?_) (fun hc hf => ?_)
    · refine bs_st 1 (x' := (191, [some (.ref 89), w1, w2, some (.int x3), some (.int x4), some (.int x5), some (.int x6)], [.int (0 : Int32)], hp kp nh rh tl rl I L)) rfl ?_
      cases hf
      exact bs_ret rfl
    · refine bs_st 12 (x' := (182, [some (.ref 89), w1, w2, some (.int x3), some (.int x4), some (.int x5), some (.int x6)], [.int x6, .ref 93, .int ((((60 : Int32) * x3) + x4) + x6), .ref 92], hp kp nh rh tl rl I L)) rfl ?_
      refine bs_gd (x' := (183, [some (.ref 89), w1, w2, some (.int x3), some (.int x4), some (.int x5), some (.int x6)], [.long (L 93 x6.toNatClampNeg), .int ((((60 : Int32) * x3) + x4) + x6), .ref 92], hp kp nh rh tl rl I L)) rfl hf (fun hc hf => ?_)
      refine bs_gd (x' := (184, [some (.ref 89), w1, w2, some (.int x3), some (.int x4), some (.int x5), some (.int x6)], [], hp kp nh rh tl rl I (u2 L 92 (((((60 : Int32) * x3) + x4) + x6).toNatClampNeg) (L 93 x6.toNatClampNeg)))) rfl hf (fun hc hf => ?_)
      refine bs_st 2 (x' := (155, [some (.ref 89), w1, w2, some (.int x3), some (.int x4), some (.int x5), some (.int (x6 + (1 : Int32)))], [], hp kp nh rh tl rl I (u2 L 92 (((((60 : Int32) * x3) + x4) + x6).toNatClampNeg) (L 93 x6.toNatClampNeg)))) rfl ?_
      exact hK1 w1 w2 x3 x4 x5 (x6 + (1 : Int32)) I (u2 L 92 (((((60 : Int32) * x3) + x4) + x6).toNatClampNeg) (L 93 x6.toNatClampNeg)) r hf
def b_206_0 (n : Nat) (K0 : Int32 → Int32 → Int32 → Int32 → Int32 → Int32 → FI → FL → Option (Int32 × FI × FL)) (x1 : Int32) (x2 : Int32) (x3 : Int32) (x4 : Int32) (x5 : Int32) (x6 : Int32) (I : FI) (L : FL) : Option (Int32 × FI × FL) :=
  if x5 ≤ x6 then
    c_206_1 n n x3 x4 x5 (0 : Int32) I L
  else
    if pin ((((60 : Int32) * x1) + x2) + x6) 240 = true then (if pin x6 60 = true then K0 x1 x2 x3 x4 x5 (x6 + (1 : Int32)) I (u2 L 93 x6.toNatClampNeg (L 92 (((((60 : Int32) * x1) + x2) + x6).toNatClampNeg))) else none) else none
def c_206_0 (n : Nat) : Nat → Int32 → Int32 → Int32 → Int32 → Int32 → Int32 → FI → FL → Option (Int32 × FI × FL)
  | 0, _, _, _, _, _, _, _, _ => none
  | m + 1, x1, x2, x3, x4, x5, x6, I, L => b_206_0 n (c_206_0 n m) x1 x2 x3 x4 x5 x6 I L
set_option maxHeartbeats 1000000 in
set_option maxRecDepth 20000 in
theorem tc_206_0 (Ls : Nat) (xs : Nat → Int32) (d : Nat) (kp : Option Nat) (tl : List (Nat × Nat)) (rl : List (List (Option Nat))) (nh : Option Nat) (rh : Option Nat) (n : Nat) : ∀ (m : Nat) (x1 : Int32) (x2 : Int32) (x3 : Int32) (x4 : Int32) (x5 : Int32) (x6 : Int32) (I : FI) (L : FL) (r : Int32 × FI × FL), c_206_0 n m x1 x2 x3 x4 x5 x6 I L = some r → Bs cd_206 (sf 12 rs_12 false 7 (some (.int)) Ls xs (d + 2)) (118, [some (.ref 89), some (.int x1), some (.int x2), some (.int x3), some (.int x4), some (.int x5), some (.int x6)], [], hp kp nh rh tl rl I L) (some (.int r.1), hp kp nh rh tl rl r.2.1 r.2.2)
  | 0, x1, x2, x3, x4, x5, x6, I, L, r, hf => by cases hf
  | m + 1, x1, x2, x3, x4, x5, x6, I, L, r, hf => by
    unfold c_206_0 b_206_0 at hf
    have hK0 := tc_206_0 Ls xs d kp tl rl nh rh n m
    refine bs_st 2 (x' := (122, [some (.ref 89), some (.int x1), some (.int x2), some (.int x3), some (.int x4), some (.int x5), some (.int x6)], [.int x5, .int x6], hp kp nh rh tl rl I L)) rfl ?_
    refine bs_br (t := 152) (e := 125) (lo := [some (.ref 89), some (.int x1), some (.int x2), some (.int x3), some (.int x4), some (.int x5), some (.int x6)]) (st := []) (h := hp kp nh rh tl rl I L) rfl hf (fun hc hf => ?_) (fun hc hf => ?_)
    · refine bs_st 2 (x' := (155, [some (.ref 89), some (.int x1), some (.int x2), some (.int x3), some (.int x4), some (.int x5), some (.int (0 : Int32))], [], hp kp nh rh tl rl I L)) rfl ?_
      exact tc_206_1 Ls xs d kp tl rl nh rh n n (some (.int x1)) (some (.int x2)) x3 x4 x5 (0 : Int32) I L r hf
    · refine bs_st 12 (x' := (144, [some (.ref 89), some (.int x1), some (.int x2), some (.int x3), some (.int x4), some (.int x5), some (.int x6)], [.int ((((60 : Int32) * x1) + x2) + x6), .ref 92, .int x6, .ref 93], hp kp nh rh tl rl I L)) rfl ?_
      refine bs_gd (x' := (145, [some (.ref 89), some (.int x1), some (.int x2), some (.int x3), some (.int x4), some (.int x5), some (.int x6)], [.long (L 92 (((((60 : Int32) * x1) + x2) + x6).toNatClampNeg)), .int x6, .ref 93], hp kp nh rh tl rl I L)) rfl hf (fun hc hf => ?_)
      refine bs_gd (x' := (146, [some (.ref 89), some (.int x1), some (.int x2), some (.int x3), some (.int x4), some (.int x5), some (.int x6)], [], hp kp nh rh tl rl I (u2 L 93 x6.toNatClampNeg (L 92 (((((60 : Int32) * x1) + x2) + x6).toNatClampNeg))))) rfl hf (fun hc hf => ?_)
      refine bs_st 2 (x' := (118, [some (.ref 89), some (.int x1), some (.int x2), some (.int x3), some (.int x4), some (.int x5), some (.int (x6 + (1 : Int32)))], [], hp kp nh rh tl rl I (u2 L 93 x6.toNatClampNeg (L 92 (((((60 : Int32) * x1) + x2) + x6).toNatClampNeg))))) rfl ?_
      exact hK0 x1 x2 x3 x4 x5 (x6 + (1 : Int32)) I (u2 L 93 x6.toNatClampNeg (L 92 (((((60 : Int32) * x1) + x2) + x6).toNatClampNeg))) r hf
def f_206 (n : Nat) (x1 : Int32) (x2 : Int32) (x3 : Int32) (x4 : Int32) (x5 : Int32) (I : FI) (L : FL) : Option (Int32 × FI × FL) :=
  (f_202 x1 (u2 I 89 0 (0 : Int32)) L).bind fun q0 =>
  if q0 = 0 then
    some ((-2 : Int32), (u2 I 89 0 (0 : Int32)), L)
  else
    (f_202 x3 (u2 I 89 0 (0 : Int32)) L).bind fun q1 =>
    if ¬ q1 = 0 then
      if pin x1 4 = true then (if I 90 x1.toNatClampNeg = (-1 : Int32) then
          some ((-6 : Int32), (u2 I 89 0 (0 : Int32)), L)
        else
          if pin x3 4 = true then (if ¬ I 90 x3.toNatClampNeg = (-1 : Int32) then
              if pin x1 4 = true then (if pin x3 4 = true then (if I 90 x1.toNatClampNeg = I 90 x3.toNatClampNeg then
                    if x2 < 0 then
                      some ((-7 : Int32), (u2 I 89 0 (0 : Int32)), L)
                    else
                      if x4 < 0 then
                        some ((-7 : Int32), (u2 I 89 0 (0 : Int32)), L)
                      else
                        if x5 < 0 then
                          some ((-7 : Int32), (u2 I 89 0 (0 : Int32)), L)
                        else
                          if pin x1 4 = true then (if 0 < (lg_cmp (x2.toInt64 + x5.toInt64) ((I 91 x1.toNatClampNeg).toInt64)) then
                              some ((-7 : Int32), (u2 I 89 0 (0 : Int32)), L)
                            else
                              if pin x3 4 = true then (if (lg_cmp (x4.toInt64 + x5.toInt64) ((I 91 x3.toNatClampNeg).toInt64)) ≤ 0 then
                                  c_206_0 n n x1 x2 x3 x4 x5 (0 : Int32) (u2 I 89 0 (0 : Int32)) L
                                else
                                  some ((-7 : Int32), (u2 I 89 0 (0 : Int32)), L)) else none) else none
                  else
                    some ((-8 : Int32), (u2 I 89 0 (0 : Int32)), L)) else none) else none
            else
              some ((-6 : Int32), (u2 I 89 0 (0 : Int32)), L)) else none) else none
    else
      some ((-2 : Int32), (u2 I 89 0 (0 : Int32)), L)
set_option maxHeartbeats 1000000 in
set_option maxRecDepth 20000 in
theorem t_206 (Ls : Nat) (xs : Nat → Int32) (d : Nat) (kp : Option Nat) (tl : List (Nat × Nat)) (rl : List (List (Option Nat))) (nh : Option Nat) (rh : Option Nat) (n : Nat) (x1 : Int32) (x2 : Int32) (x3 : Int32) (x4 : Int32) (x5 : Int32) (I : FI) (L : FL) (r : Int32 × FI × FL) (hf : f_206 n x1 x2 x3 x4 x5 I L = some r) : pEN Ls xs (d + 3) 206 [.ref 89, .int x1, .int x2, .int x3, .int x4, .int x5] (hp kp nh rh tl rl I L) = some (some (.int r.1), hp kp nh rh tl rl r.2.1 r.2.2) := by
  refine en_run (d := d + 2) (cd := cd_206) (f := (sf 12 rs_12 false 7 (some (.int)) Ls xs (d + 2))) rfl rfl (x := (0, [some (.ref 89), some (.int x1), some (.int x2), some (.int x3), some (.int x4), some (.int x5), none], [], hp kp nh rh tl rl I L)) rfl rfl (Nat.le_of_ble_eq_true rfl) ?_
  unfold f_206 at hf
  refine bs_st 4 (x' := (6, [some (.ref 89), some (.int x1), some (.int x2), some (.int x3), some (.int x4), some (.int x5), none], [.int x1], hp kp nh rh tl rl (u2 I 89 0 (0 : Int32)) L)) rfl ?_
  obtain ⟨q0, hq0, hf⟩ := Option.bind_eq_some_iff.mp hf
  refine bs_call (o := pEN Ls xs (d + 2) 202 [.int x1] (hp kp nh rh tl rl (u2 I 89 0 (0 : Int32)) L)) (w := some (.int q0)) (h' := hp kp nh rh tl rl (u2 I 89 0 (0 : Int32)) L) (pc := 9) (lo := [some (.ref 89), some (.int x1), some (.int x2), some (.int x3), some (.int x4), some (.int x5), none]) (rest := []) rfl (t_202 Ls xs (d + 0) kp tl rl nh rh x1 (u2 I 89 0 (0 : Int32)) L q0 hq0) ?_
  refine bs_br (t := 19) (e := 12) (lo := [some (.ref 89), some (.int x1), some (.int x2), some (.int x3), some (.int x4), some (.int x5), none]) (st := []) (h := hp kp nh rh tl rl (u2 I 89 0 (0 : Int32)) L) rfl hf (fun hc hf => ?_) (fun hc hf => ?_)
  · refine bs_st 1 (x' := (21, [some (.ref 89), some (.int x1), some (.int x2), some (.int x3), some (.int x4), some (.int x5), none], [.int (-2 : Int32)], hp kp nh rh tl rl (u2 I 89 0 (0 : Int32)) L)) rfl ?_
    cases hf
    exact bs_ret rfl
  · refine bs_st 1 (x' := (13, [some (.ref 89), some (.int x1), some (.int x2), some (.int x3), some (.int x4), some (.int x5), none], [.int x3], hp kp nh rh tl rl (u2 I 89 0 (0 : Int32)) L)) rfl ?_
    obtain ⟨q1, hq1, hf⟩ := Option.bind_eq_some_iff.mp hf
    refine bs_call (o := pEN Ls xs (d + 2) 202 [.int x3] (hp kp nh rh tl rl (u2 I 89 0 (0 : Int32)) L)) (w := some (.int q1)) (h' := hp kp nh rh tl rl (u2 I 89 0 (0 : Int32)) L) (pc := 16) (lo := [some (.ref 89), some (.int x1), some (.int x2), some (.int x3), some (.int x4), some (.int x5), none]) (rest := []) rfl (t_202 Ls xs (d + 0) kp tl rl nh rh x3 (u2 I 89 0 (0 : Int32)) L q1 hq1) ?_
    refine bs_br (t := 22) (e := 19) (lo := [some (.ref 89), some (.int x1), some (.int x2), some (.int x3), some (.int x4), some (.int x5), none]) (st := []) (h := hp kp nh rh tl rl (u2 I 89 0 (0 : Int32)) L) rfl hf (fun hc hf => ?_) (fun hc hf => ?_)
    · refine bs_st 3 (x' := (27, [some (.ref 89), some (.int x1), some (.int x2), some (.int x3), some (.int x4), some (.int x5), none], [.int x1, .ref 90], hp kp nh rh tl rl (u2 I 89 0 (0 : Int32)) L)) rfl ?_
      refine bs_gd (x' := (28, [some (.ref 89), some (.int x1), some (.int x2), some (.int x3), some (.int x4), some (.int x5), none], [.int (I 90 x1.toNatClampNeg)], hp kp nh rh tl rl (u2 I 89 0 (0 : Int32)) L)) rfl hf (fun hc hf => ?_)
      refine bs_st 1 (x' := (29, [some (.ref 89), some (.int x1), some (.int x2), some (.int x3), some (.int x4), some (.int x5), none], [.int (-1 : Int32), .int (I 90 x1.toNatClampNeg)], hp kp nh rh tl rl (u2 I 89 0 (0 : Int32)) L)) rfl ?_
      refine bs_br (t := 42) (e := 32) (lo := [some (.ref 89), some (.int x1), some (.int x2), some (.int x3), some (.int x4), some (.int x5), none]) (st := []) (h := hp kp nh rh tl rl (u2 I 89 0 (0 : Int32)) L) rfl hf (fun hc hf => ?_) (fun hc hf => ?_)
      · refine bs_st 1 (x' := (44, [some (.ref 89), some (.int x1), some (.int x2), some (.int x3), some (.int x4), some (.int x5), none], [.int (-6 : Int32)], hp kp nh rh tl rl (u2 I 89 0 (0 : Int32)) L)) rfl ?_
        cases hf
        exact bs_ret rfl
      · refine bs_st 3 (x' := (37, [some (.ref 89), some (.int x1), some (.int x2), some (.int x3), some (.int x4), some (.int x5), none], [.int x3, .ref 90], hp kp nh rh tl rl (u2 I 89 0 (0 : Int32)) L)) rfl ?_
        refine bs_gd (x' := (38, [some (.ref 89), some (.int x1), some (.int x2), some (.int x3), some (.int x4), some (.int x5), none], [.int (I 90 x3.toNatClampNeg)], hp kp nh rh tl rl (u2 I 89 0 (0 : Int32)) L)) rfl hf (fun hc hf => ?_)
        refine bs_st 1 (x' := (39, [some (.ref 89), some (.int x1), some (.int x2), some (.int x3), some (.int x4), some (.int x5), none], [.int (-1 : Int32), .int (I 90 x3.toNatClampNeg)], hp kp nh rh tl rl (u2 I 89 0 (0 : Int32)) L)) rfl ?_
        refine bs_br (t := 45) (e := 42) (lo := [some (.ref 89), some (.int x1), some (.int x2), some (.int x3), some (.int x4), some (.int x5), none]) (st := []) (h := hp kp nh rh tl rl (u2 I 89 0 (0 : Int32)) L) rfl hf (fun hc hf => ?_) (fun hc hf => ?_)
        · refine bs_st 3 (x' := (50, [some (.ref 89), some (.int x1), some (.int x2), some (.int x3), some (.int x4), some (.int x5), none], [.int x1, .ref 90], hp kp nh rh tl rl (u2 I 89 0 (0 : Int32)) L)) rfl ?_
          refine bs_gd (x' := (51, [some (.ref 89), some (.int x1), some (.int x2), some (.int x3), some (.int x4), some (.int x5), none], [.int (I 90 x1.toNatClampNeg)], hp kp nh rh tl rl (u2 I 89 0 (0 : Int32)) L)) rfl hf (fun hc hf => ?_)
          refine bs_st 3 (x' := (56, [some (.ref 89), some (.int x1), some (.int x2), some (.int x3), some (.int x4), some (.int x5), none], [.int x3, .ref 90, .int (I 90 x1.toNatClampNeg)], hp kp nh rh tl rl (u2 I 89 0 (0 : Int32)) L)) rfl ?_
          refine bs_gd (x' := (57, [some (.ref 89), some (.int x1), some (.int x2), some (.int x3), some (.int x4), some (.int x5), none], [.int (I 90 x3.toNatClampNeg), .int (I 90 x1.toNatClampNeg)], hp kp nh rh tl rl (u2 I 89 0 (0 : Int32)) L)) rfl hf (fun hc hf => ?_)
          refine bs_br (t := 63) (e := 60) (lo := [some (.ref 89), some (.int x1), some (.int x2), some (.int x3), some (.int x4), some (.int x5), none]) (st := []) (h := hp kp nh rh tl rl (u2 I 89 0 (0 : Int32)) L) rfl hf (fun hc hf => ?_) (fun hc hf => ?_)
          · refine bs_st 1 (x' := (64, [some (.ref 89), some (.int x1), some (.int x2), some (.int x3), some (.int x4), some (.int x5), none], [.int x2], hp kp nh rh tl rl (u2 I 89 0 (0 : Int32)) L)) rfl ?_
            refine bs_br (t := 112) (e := 67) (lo := [some (.ref 89), some (.int x1), some (.int x2), some (.int x3), some (.int x4), some (.int x5), none]) (st := []) (h := hp kp nh rh tl rl (u2 I 89 0 (0 : Int32)) L) rfl hf (fun hc hf => ?_) (fun hc hf => ?_)
            · refine bs_st 1 (x' := (114, [some (.ref 89), some (.int x1), some (.int x2), some (.int x3), some (.int x4), some (.int x5), none], [.int (-7 : Int32)], hp kp nh rh tl rl (u2 I 89 0 (0 : Int32)) L)) rfl ?_
              cases hf
              exact bs_ret rfl
            · refine bs_st 1 (x' := (69, [some (.ref 89), some (.int x1), some (.int x2), some (.int x3), some (.int x4), some (.int x5), none], [.int x4], hp kp nh rh tl rl (u2 I 89 0 (0 : Int32)) L)) rfl ?_
              refine bs_br (t := 112) (e := 72) (lo := [some (.ref 89), some (.int x1), some (.int x2), some (.int x3), some (.int x4), some (.int x5), none]) (st := []) (h := hp kp nh rh tl rl (u2 I 89 0 (0 : Int32)) L) rfl hf (fun hc hf => ?_) (fun hc hf => ?_)
              · refine bs_st 1 (x' := (114, [some (.ref 89), some (.int x1), some (.int x2), some (.int x3), some (.int x4), some (.int x5), none], [.int (-7 : Int32)], hp kp nh rh tl rl (u2 I 89 0 (0 : Int32)) L)) rfl ?_
                cases hf
                exact bs_ret rfl
              · refine bs_st 1 (x' := (74, [some (.ref 89), some (.int x1), some (.int x2), some (.int x3), some (.int x4), some (.int x5), none], [.int x5], hp kp nh rh tl rl (u2 I 89 0 (0 : Int32)) L)) rfl ?_
                refine bs_br (t := 112) (e := 77) (lo := [some (.ref 89), some (.int x1), some (.int x2), some (.int x3), some (.int x4), some (.int x5), none]) (st := []) (h := hp kp nh rh tl rl (u2 I 89 0 (0 : Int32)) L) rfl hf (fun hc hf => ?_) (fun hc hf => ?_)
                · refine bs_st 1 (x' := (114, [some (.ref 89), some (.int x1), some (.int x2), some (.int x3), some (.int x4), some (.int x5), none], [.int (-7 : Int32)], hp kp nh rh tl rl (u2 I 89 0 (0 : Int32)) L)) rfl ?_
                  cases hf
                  exact bs_ret rfl
                · refine bs_st 8 (x' := (88, [some (.ref 89), some (.int x1), some (.int x2), some (.int x3), some (.int x4), some (.int x5), none], [.int x1, .ref 91, .long (x2.toInt64 + x5.toInt64)], hp kp nh rh tl rl (u2 I 89 0 (0 : Int32)) L)) rfl ?_
                  refine bs_gd (x' := (89, [some (.ref 89), some (.int x1), some (.int x2), some (.int x3), some (.int x4), some (.int x5), none], [.int (I 91 x1.toNatClampNeg), .long (x2.toInt64 + x5.toInt64)], hp kp nh rh tl rl (u2 I 89 0 (0 : Int32)) L)) rfl hf (fun hc hf => ?_)
                  refine bs_st 2 (x' := (91, [some (.ref 89), some (.int x1), some (.int x2), some (.int x3), some (.int x4), some (.int x5), none], [.int (lg_cmp (x2.toInt64 + x5.toInt64) ((I 91 x1.toNatClampNeg).toInt64))], hp kp nh rh tl rl (u2 I 89 0 (0 : Int32)) L)) rfl ?_
                  refine bs_br (t := 112) (e := 94) (lo := [some (.ref 89), some (.int x1), some (.int x2), some (.int x3), some (.int x4), some (.int x5), none]) (st := []) (h := hp kp nh rh tl rl (u2 I 89 0 (0 : Int32)) L) rfl hf (fun hc hf => ?_) (fun hc hf => ?_)
                  · refine bs_st 1 (x' := (114, [some (.ref 89), some (.int x1), some (.int x2), some (.int x3), some (.int x4), some (.int x5), none], [.int (-7 : Int32)], hp kp nh rh tl rl (u2 I 89 0 (0 : Int32)) L)) rfl ?_
                    cases hf
                    exact bs_ret rfl
                  · refine bs_st 8 (x' := (106, [some (.ref 89), some (.int x1), some (.int x2), some (.int x3), some (.int x4), some (.int x5), none], [.int x3, .ref 91, .long (x4.toInt64 + x5.toInt64)], hp kp nh rh tl rl (u2 I 89 0 (0 : Int32)) L)) rfl ?_
                    refine bs_gd (x' := (107, [some (.ref 89), some (.int x1), some (.int x2), some (.int x3), some (.int x4), some (.int x5), none], [.int (I 91 x3.toNatClampNeg), .long (x4.toInt64 + x5.toInt64)], hp kp nh rh tl rl (u2 I 89 0 (0 : Int32)) L)) rfl hf (fun hc hf => ?_)
                    refine bs_st 2 (x' := (109, [some (.ref 89), some (.int x1), some (.int x2), some (.int x3), some (.int x4), some (.int x5), none], [.int (lg_cmp (x4.toInt64 + x5.toInt64) ((I 91 x3.toNatClampNeg).toInt64))], hp kp nh rh tl rl (u2 I 89 0 (0 : Int32)) L)) rfl ?_
                    refine bs_br (t := 115) (e := 112) (lo := [some (.ref 89), some (.int x1), some (.int x2), some (.int x3), some (.int x4), some (.int x5), none]) (st := []) (h := hp kp nh rh tl rl (u2 I 89 0 (0 : Int32)) L) rfl hf (fun hc hf => ?_) (fun hc hf => ?_)
                    · refine bs_st 2 (x' := (118, [some (.ref 89), some (.int x1), some (.int x2), some (.int x3), some (.int x4), some (.int x5), some (.int (0 : Int32))], [], hp kp nh rh tl rl (u2 I 89 0 (0 : Int32)) L)) rfl ?_
                      exact tc_206_0 Ls xs d kp tl rl nh rh n n x1 x2 x3 x4 x5 (0 : Int32) (u2 I 89 0 (0 : Int32)) L r hf
                    · refine bs_st 1 (x' := (114, [some (.ref 89), some (.int x1), some (.int x2), some (.int x3), some (.int x4), some (.int x5), none], [.int (-7 : Int32)], hp kp nh rh tl rl (u2 I 89 0 (0 : Int32)) L)) rfl ?_
                      cases hf
                      exact bs_ret rfl
          · refine bs_st 1 (x' := (62, [some (.ref 89), some (.int x1), some (.int x2), some (.int x3), some (.int x4), some (.int x5), none], [.int (-8 : Int32)], hp kp nh rh tl rl (u2 I 89 0 (0 : Int32)) L)) rfl ?_
            cases hf
            exact bs_ret rfl
        · refine bs_st 1 (x' := (44, [some (.ref 89), some (.int x1), some (.int x2), some (.int x3), some (.int x4), some (.int x5), none], [.int (-6 : Int32)], hp kp nh rh tl rl (u2 I 89 0 (0 : Int32)) L)) rfl ?_
          cases hf
          exact bs_ret rfl
    · refine bs_st 1 (x' := (21, [some (.ref 89), some (.int x1), some (.int x2), some (.int x3), some (.int x4), some (.int x5), none], [.int (-2 : Int32)], hp kp nh rh tl rl (u2 I 89 0 (0 : Int32)) L)) rfl ?_
      cases hf
      exact bs_ret rfl
/-- LampRoundsModel.four(I) on (89,) -/
def b_208_0 (n : Nat) (K0 : Int32 → Int32 → FI → FL → Option (FI × FL)) (x1 : Int32) (x2 : Int32) (I : FI) (L : FL) : Option (FI × FL) :=
  if x2 < 0 then
    some (I, L)
  else
    if pin (I 89 6) 500 = true then K0 x1 (x2 + (-8 : Int32)) (u2 (u2 I 94 ((I 89 6).toNatClampNeg) (vp_nar .byte ((x1 >>> (x2 &&& 31)).toInt8.toInt32))) 89 6 ((I 89 6) + (1 : Int32))) L else none
def c_208_0 (n : Nat) : Nat → Int32 → Int32 → FI → FL → Option (FI × FL)
  | 0, _, _, _, _ => none
  | m + 1, x1, x2, I, L => b_208_0 n (c_208_0 n m) x1 x2 I L
set_option maxHeartbeats 1000000 in
set_option maxRecDepth 20000 in
theorem tc_208_0 (Ls : Nat) (xs : Nat → Int32) (d : Nat) (kp : Option Nat) (tl : List (Nat × Nat)) (rl : List (List (Option Nat))) (nh : Option Nat) (rh : Option Nat) (n : Nat) : ∀ (m : Nat) (x1 : Int32) (x2 : Int32) (I : FI) (L : FL) (r : FI × FL), c_208_0 n m x1 x2 I L = some r → Bs cd_208 (sf 12 rs_12 false 3 none Ls xs (d + 0)) (3, [some (.ref 89), some (.int x1), some (.int x2)], [], hp kp nh rh tl rl I L) (none, hp kp nh rh tl rl r.1 r.2)
  | 0, x1, x2, I, L, r, hf => by cases hf
  | m + 1, x1, x2, I, L, r, hf => by
    unfold c_208_0 b_208_0 at hf
    have hK0 := tc_208_0 Ls xs d kp tl rl nh rh n m
    refine bs_st 1 (x' := (4, [some (.ref 89), some (.int x1), some (.int x2)], [.int x2], hp kp nh rh tl rl I L)) rfl ?_
    refine bs_br (t := 36) (e := 7) (lo := [some (.ref 89), some (.int x1), some (.int x2)]) (st := []) (h := hp kp nh rh tl rl I L) rfl hf (fun hc hf => ?_) (fun hc hf => ?_)
    · cases hf
      exact bs_ret rfl
    · refine bs_st 8 (x' := (19, [some (.ref 89), some (.int x1), some (.int x2)], [.int ((x1 >>> (x2 &&& 31)).toInt8.toInt32), .int (I 89 6), .ref 94], hp kp nh rh tl rl I L)) rfl ?_
      refine bs_gd (x' := (20, [some (.ref 89), some (.int x1), some (.int x2)], [], hp kp nh rh tl rl (u2 I 94 ((I 89 6).toNatClampNeg) (vp_nar .byte ((x1 >>> (x2 &&& 31)).toInt8.toInt32))) L)) rfl hf (fun hc hf => ?_)
      refine bs_st 8 (x' := (3, [some (.ref 89), some (.int x1), some (.int (x2 + (-8 : Int32)))], [], hp kp nh rh tl rl (u2 (u2 I 94 ((I 89 6).toNatClampNeg) (vp_nar .byte ((x1 >>> (x2 &&& 31)).toInt8.toInt32))) 89 6 ((I 89 6) + (1 : Int32))) L)) rfl ?_
      exact hK0 x1 (x2 + (-8 : Int32)) (u2 (u2 I 94 ((I 89 6).toNatClampNeg) (vp_nar .byte ((x1 >>> (x2 &&& 31)).toInt8.toInt32))) 89 6 ((I 89 6) + (1 : Int32))) L r hf
def f_208 (n : Nat) (x1 : Int32) (I : FI) (L : FL) : Option (FI × FL) :=
  c_208_0 n n x1 (24 : Int32) I L
set_option maxHeartbeats 1000000 in
set_option maxRecDepth 20000 in
theorem t_208 (Ls : Nat) (xs : Nat → Int32) (d : Nat) (kp : Option Nat) (tl : List (Nat × Nat)) (rl : List (List (Option Nat))) (nh : Option Nat) (rh : Option Nat) (n : Nat) (x1 : Int32) (I : FI) (L : FL) (r : FI × FL) (hf : f_208 n x1 I L = some r) : pEN Ls xs (d + 1) 208 [.ref 89, .int x1] (hp kp nh rh tl rl I L) = some (none, hp kp nh rh tl rl r.1 r.2) := by
  refine en_run (d := d + 0) (cd := cd_208) (f := (sf 12 rs_12 false 3 none Ls xs (d + 0))) rfl rfl (x := (0, [some (.ref 89), some (.int x1), none], [], hp kp nh rh tl rl I L)) rfl rfl (Nat.le_of_ble_eq_true rfl) ?_
  unfold f_208 at hf
  refine bs_st 2 (x' := (3, [some (.ref 89), some (.int x1), some (.int (24 : Int32))], [], hp kp nh rh tl rl I L)) rfl ?_
  exact tc_208_0 Ls xs d kp tl rl nh rh n n x1 (24 : Int32) I L r hf
/-- LampRoundsModel.feed(IIIII) on (89,) -/
def f_207 (n : Nat) (x1 : Int32) (x2 : Int32) (x3 : Int32) (x4 : Int32) (x5 : Int32) (I : FI) (L : FL) : Option (Int32 × FI × FL) :=
  if ((I 89 6) + (20 : Int32)) ≤ (500 : Int32) then
    (f_208 n x1 (u2 I 89 0 (0 : Int32)) L).bind fun q0 =>
    (f_208 n x2 q0.1 q0.2).bind fun q1 =>
    (f_208 n x3 q1.1 q1.2).bind fun q2 =>
    (f_208 n x4 q2.1 q2.2).bind fun q3 =>
    (f_208 n x5 q3.1 q3.2).bind fun q4 =>
    some (q4.1 89 6, q4.1, q4.2)
  else
    some ((-1 : Int32), (u2 I 89 0 (0 : Int32)), L)
set_option maxHeartbeats 1000000 in
set_option maxRecDepth 20000 in
theorem t_207 (Ls : Nat) (xs : Nat → Int32) (d : Nat) (kp : Option Nat) (tl : List (Nat × Nat)) (rl : List (List (Option Nat))) (nh : Option Nat) (rh : Option Nat) (n : Nat) (x1 : Int32) (x2 : Int32) (x3 : Int32) (x4 : Int32) (x5 : Int32) (I : FI) (L : FL) (r : Int32 × FI × FL) (hf : f_207 n x1 x2 x3 x4 x5 I L = some r) : pEN Ls xs (d + 2) 207 [.ref 89, .int x1, .int x2, .int x3, .int x4, .int x5] (hp kp nh rh tl rl I L) = some (some (.int r.1), hp kp nh rh tl rl r.2.1 r.2.2) := by
  refine en_run (d := d + 1) (cd := cd_207) (f := (sf 12 rs_12 false 6 (some (.int)) Ls xs (d + 1))) rfl rfl (x := (0, [some (.ref 89), some (.int x1), some (.int x2), some (.int x3), some (.int x4), some (.int x5)], [], hp kp nh rh tl rl I L)) rfl rfl (Nat.le_of_ble_eq_true rfl) ?_
  unfold f_207 at hf
  refine bs_st 8 (x' := (15, [some (.ref 89), some (.int x1), some (.int x2), some (.int x3), some (.int x4), some (.int x5)], [.int (500 : Int32), .int ((I 89 6) + (20 : Int32))], hp kp nh rh tl rl (u2 I 89 0 (0 : Int32)) L)) rfl ?_
  refine bs_br (t := 20) (e := 18) (lo := [some (.ref 89), some (.int x1), some (.int x2), some (.int x3), some (.int x4), some (.int x5)]) (st := []) (h := hp kp nh rh tl rl (u2 I 89 0 (0 : Int32)) L) rfl hf (fun hc hf => ?_) (fun hc hf => ?_)
  · refine bs_st 2 (x' := (22, [some (.ref 89), some (.int x1), some (.int x2), some (.int x3), some (.int x4), some (.int x5)], [.int x1, .ref 89], hp kp nh rh tl rl (u2 I 89 0 (0 : Int32)) L)) rfl ?_
    obtain ⟨q0, hq0, hf⟩ := Option.bind_eq_some_iff.mp hf
    refine bs_call (o := pEN Ls xs (d + 1) 208 [.ref 89, .int x1] (hp kp nh rh tl rl (u2 I 89 0 (0 : Int32)) L)) (w := none) (h' := hp kp nh rh tl rl q0.1 q0.2) (pc := 25) (lo := [some (.ref 89), some (.int x1), some (.int x2), some (.int x3), some (.int x4), some (.int x5)]) (rest := []) rfl (t_208 Ls xs (d + 0) kp tl rl nh rh n x1 (u2 I 89 0 (0 : Int32)) L q0 hq0) ?_
    refine bs_st 2 (x' := (27, [some (.ref 89), some (.int x1), some (.int x2), some (.int x3), some (.int x4), some (.int x5)], [.int x2, .ref 89], hp kp nh rh tl rl q0.1 q0.2)) rfl ?_
    obtain ⟨q1, hq1, hf⟩ := Option.bind_eq_some_iff.mp hf
    refine bs_call (o := pEN Ls xs (d + 1) 208 [.ref 89, .int x2] (hp kp nh rh tl rl q0.1 q0.2)) (w := none) (h' := hp kp nh rh tl rl q1.1 q1.2) (pc := 30) (lo := [some (.ref 89), some (.int x1), some (.int x2), some (.int x3), some (.int x4), some (.int x5)]) (rest := []) rfl (t_208 Ls xs (d + 0) kp tl rl nh rh n x2 q0.1 q0.2 q1 hq1) ?_
    refine bs_st 2 (x' := (32, [some (.ref 89), some (.int x1), some (.int x2), some (.int x3), some (.int x4), some (.int x5)], [.int x3, .ref 89], hp kp nh rh tl rl q1.1 q1.2)) rfl ?_
    obtain ⟨q2, hq2, hf⟩ := Option.bind_eq_some_iff.mp hf
    refine bs_call (o := pEN Ls xs (d + 1) 208 [.ref 89, .int x3] (hp kp nh rh tl rl q1.1 q1.2)) (w := none) (h' := hp kp nh rh tl rl q2.1 q2.2) (pc := 35) (lo := [some (.ref 89), some (.int x1), some (.int x2), some (.int x3), some (.int x4), some (.int x5)]) (rest := []) rfl (t_208 Ls xs (d + 0) kp tl rl nh rh n x3 q1.1 q1.2 q2 hq2) ?_
    refine bs_st 2 (x' := (38, [some (.ref 89), some (.int x1), some (.int x2), some (.int x3), some (.int x4), some (.int x5)], [.int x4, .ref 89], hp kp nh rh tl rl q2.1 q2.2)) rfl ?_
    obtain ⟨q3, hq3, hf⟩ := Option.bind_eq_some_iff.mp hf
    refine bs_call (o := pEN Ls xs (d + 1) 208 [.ref 89, .int x4] (hp kp nh rh tl rl q2.1 q2.2)) (w := none) (h' := hp kp nh rh tl rl q3.1 q3.2) (pc := 41) (lo := [some (.ref 89), some (.int x1), some (.int x2), some (.int x3), some (.int x4), some (.int x5)]) (rest := []) rfl (t_208 Ls xs (d + 0) kp tl rl nh rh n x4 q2.1 q2.2 q3 hq3) ?_
    refine bs_st 2 (x' := (44, [some (.ref 89), some (.int x1), some (.int x2), some (.int x3), some (.int x4), some (.int x5)], [.int x5, .ref 89], hp kp nh rh tl rl q3.1 q3.2)) rfl ?_
    obtain ⟨q4, hq4, hf⟩ := Option.bind_eq_some_iff.mp hf
    refine bs_call (o := pEN Ls xs (d + 1) 208 [.ref 89, .int x5] (hp kp nh rh tl rl q3.1 q3.2)) (w := none) (h' := hp kp nh rh tl rl q4.1 q4.2) (pc := 47) (lo := [some (.ref 89), some (.int x1), some (.int x2), some (.int x3), some (.int x4), some (.int x5)]) (rest := []) rfl (t_208 Ls xs (d + 0) kp tl rl nh rh n x5 q3.1 q3.2 q4 hq4) ?_
    refine bs_st 2 (x' := (51, [some (.ref 89), some (.int x1), some (.int x2), some (.int x3), some (.int x4), some (.int x5)], [.int (q4.1 89 6)], hp kp nh rh tl rl q4.1 q4.2)) rfl ?_
    cases hf
    exact bs_ret rfl
  · refine bs_st 1 (x' := (19, [some (.ref 89), some (.int x1), some (.int x2), some (.int x3), some (.int x4), some (.int x5)], [.int (-1 : Int32)], hp kp nh rh tl rl (u2 I 89 0 (0 : Int32)) L)) rfl ?_
    cases hf
    exact bs_ret rfl
/-- LampRoundsModel.end(I) on (89,) -/
def f_209 (x1 : Int32) (I : FI) (L : FL) : Option (Int32 × FI × FL) :=
  (f_201 x1.toInt64 (0 : Int64) ((I 89 6).toInt64) (u2 I 89 0 (0 : Int32)) L).bind fun q0 =>
  if ¬ q0 = 0 then
    some (x1, (u2 (u2 I 89 0 (0 : Int32)) 89 6 x1), L)
  else
    some ((-1 : Int32), (u2 I 89 0 (0 : Int32)), L)
set_option maxHeartbeats 1000000 in
set_option maxRecDepth 20000 in
theorem t_209 (Ls : Nat) (xs : Nat → Int32) (d : Nat) (kp : Option Nat) (tl : List (Nat × Nat)) (rl : List (List (Option Nat))) (nh : Option Nat) (rh : Option Nat) (x1 : Int32) (I : FI) (L : FL) (r : Int32 × FI × FL) (hf : f_209 x1 I L = some r) : pEN Ls xs (d + 2) 209 [.ref 89, .int x1] (hp kp nh rh tl rl I L) = some (some (.int r.1), hp kp nh rh tl rl r.2.1 r.2.2) := by
  refine en_run (d := d + 1) (cd := cd_209) (f := (sf 12 rs_12 false 2 (some (.int)) Ls xs (d + 1))) rfl rfl (x := (0, [some (.ref 89), some (.int x1)], [], hp kp nh rh tl rl I L)) rfl rfl (Nat.le_of_ble_eq_true rfl) ?_
  unfold f_209 at hf
  refine bs_st 9 (x' := (13, [some (.ref 89), some (.int x1)], [.long ((I 89 6).toInt64), .long (0 : Int64), .long x1.toInt64], hp kp nh rh tl rl (u2 I 89 0 (0 : Int32)) L)) rfl ?_
  obtain ⟨q0, hq0, hf⟩ := Option.bind_eq_some_iff.mp hf
  refine bs_call (o := pEN Ls xs (d + 1) 201 [.long x1.toInt64, .long (0 : Int64), .long ((I 89 6).toInt64)] (hp kp nh rh tl rl (u2 I 89 0 (0 : Int32)) L)) (w := some (.int q0)) (h' := hp kp nh rh tl rl (u2 I 89 0 (0 : Int32)) L) (pc := 16) (lo := [some (.ref 89), some (.int x1)]) (rest := []) rfl (t_201 Ls xs (d + 0) kp tl rl nh rh x1.toInt64 (0 : Int64) ((I 89 6).toInt64) (u2 I 89 0 (0 : Int32)) L q0 hq0) ?_
  refine bs_br (t := 21) (e := 19) (lo := [some (.ref 89), some (.int x1)]) (st := []) (h := hp kp nh rh tl rl (u2 I 89 0 (0 : Int32)) L) rfl hf (fun hc hf => ?_) (fun hc hf => ?_)
  · refine bs_st 4 (x' := (27, [some (.ref 89), some (.int x1)], [.int x1], hp kp nh rh tl rl (u2 (u2 I 89 0 (0 : Int32)) 89 6 x1) L)) rfl ?_
    cases hf
    exact bs_ret rfl
  · refine bs_st 1 (x' := (20, [some (.ref 89), some (.int x1)], [.int (-1 : Int32)], hp kp nh rh tl rl (u2 I 89 0 (0 : Int32)) L)) rfl ?_
    cases hf
    exact bs_ret rfl
/-- LampRoundsModel.isByte(III) on (89,) -/
def f_210 (x1 : Int32) (x2 : Int32) (x3 : Int32) (I : FI) (L : FL) : Option (Int32) :=
  if I 89 6 ≤ x1 then
    some ((0 : Int32))
  else
    if pin x1 500 = true then (if I 94 x1.toNatClampNeg < x2 then
        some ((0 : Int32))
      else
        if pin x1 500 = true then (if x3 < I 94 x1.toNatClampNeg then
            some ((0 : Int32))
          else
            some ((1 : Int32))) else none) else none
set_option maxHeartbeats 1000000 in
set_option maxRecDepth 20000 in
theorem t_210 (Ls : Nat) (xs : Nat → Int32) (d : Nat) (kp : Option Nat) (tl : List (Nat × Nat)) (rl : List (List (Option Nat))) (nh : Option Nat) (rh : Option Nat) (x1 : Int32) (x2 : Int32) (x3 : Int32) (I : FI) (L : FL) (r : Int32) (hf : f_210 x1 x2 x3 I L = some r) : pEN Ls xs (d + 1) 210 [.ref 89, .int x1, .int x2, .int x3] (hp kp nh rh tl rl I L) = some (some (.int r), hp kp nh rh tl rl I L) := by
  refine en_run (d := d + 0) (cd := cd_210) (f := (sf 12 rs_12 false 4 (some (.boolean)) Ls xs (d + 0))) rfl rfl (x := (0, [some (.ref 89), some (.int x1), some (.int x2), some (.int x3)], [], hp kp nh rh tl rl I L)) rfl rfl (Nat.le_of_ble_eq_true rfl) ?_
  unfold f_210 at hf
  refine bs_st 3 (x' := (5, [some (.ref 89), some (.int x1), some (.int x2), some (.int x3)], [.int (I 89 6), .int x1], hp kp nh rh tl rl I L)) rfl ?_
  refine bs_br (t := 32) (e := 8) (lo := [some (.ref 89), some (.int x1), some (.int x2), some (.int x3)]) (st := []) (h := hp kp nh rh tl rl I L) rfl hf (fun hc hf => ?_) (fun hc hf => ?_)
  · refine bs_st 1 (x' := (33, [some (.ref 89), some (.int x1), some (.int x2), some (.int x3)], [.int (0 : Int32)], hp kp nh rh tl rl I L)) rfl ?_
    cases hf
    exact bs_ret rfl
  · refine bs_st 3 (x' := (13, [some (.ref 89), some (.int x1), some (.int x2), some (.int x3)], [.int x1, .ref 94], hp kp nh rh tl rl I L)) rfl ?_
    refine bs_gd (x' := (14, [some (.ref 89), some (.int x1), some (.int x2), some (.int x3)], [.int (I 94 x1.toNatClampNeg)], hp kp nh rh tl rl I L)) rfl hf (fun hc hf => ?_)
    refine bs_st 1 (x' := (15, [some (.ref 89), some (.int x1), some (.int x2), some (.int x3)], [.int x2, .int (I 94 x1.toNatClampNeg)], hp kp nh rh tl rl I L)) rfl ?_
    refine bs_br (t := 32) (e := 18) (lo := [some (.ref 89), some (.int x1), some (.int x2), some (.int x3)]) (st := []) (h := hp kp nh rh tl rl I L) rfl hf (fun hc hf => ?_) (fun hc hf => ?_)
    · refine bs_st 1 (x' := (33, [some (.ref 89), some (.int x1), some (.int x2), some (.int x3)], [.int (0 : Int32)], hp kp nh rh tl rl I L)) rfl ?_
      cases hf
      exact bs_ret rfl
    · refine bs_st 3 (x' := (23, [some (.ref 89), some (.int x1), some (.int x2), some (.int x3)], [.int x1, .ref 94], hp kp nh rh tl rl I L)) rfl ?_
      refine bs_gd (x' := (24, [some (.ref 89), some (.int x1), some (.int x2), some (.int x3)], [.int (I 94 x1.toNatClampNeg)], hp kp nh rh tl rl I L)) rfl hf (fun hc hf => ?_)
      refine bs_st 1 (x' := (25, [some (.ref 89), some (.int x1), some (.int x2), some (.int x3)], [.int x3, .int (I 94 x1.toNatClampNeg)], hp kp nh rh tl rl I L)) rfl ?_
      refine bs_br (t := 32) (e := 28) (lo := [some (.ref 89), some (.int x1), some (.int x2), some (.int x3)]) (st := []) (h := hp kp nh rh tl rl I L) rfl hf (fun hc hf => ?_) (fun hc hf => ?_)
      · refine bs_st 1 (x' := (33, [some (.ref 89), some (.int x1), some (.int x2), some (.int x3)], [.int (0 : Int32)], hp kp nh rh tl rl I L)) rfl ?_
        cases hf
        exact bs_ret rfl
      · refine bs_st 2 (x' := (33, [some (.ref 89), some (.int x1), some (.int x2), some (.int x3)], [.int (1 : Int32)], hp kp nh rh tl rl I L)) rfl ?_
        cases hf
        exact bs_ret rfl
/-- LampRoundsModel.follows() on (89,) -/
def c_211_1 (n : Nat) (K0 : FI → FL → Option (FI × FL)) (I : FI) (L : FL) : Option (FI × FL) :=
  K0 (u2 I 89 7 ((I 89 7) + (1 : Int32))) L
set_option maxHeartbeats 1000000 in
set_option maxRecDepth 20000 in
theorem tc_211_1 (Ls : Nat) (xs : Nat → Int32) (d : Nat) (kp : Option Nat) (tl : List (Nat × Nat)) (rl : List (List (Option Nat))) (nh : Option Nat) (rh : Option Nat) (n : Nat) (K0 : FI → FL → Option (FI × FL)) (hK0 : ∀ (w1 : Option Value) (I : FI) (L : FL) (r : FI × FL), K0 I L = some r → Bs cd_211 (sf 12 rs_12 false 2 none Ls xs (d + 1)) (0, [some (.ref 89), w1], [], hp kp nh rh tl rl I L) (none, hp kp nh rh tl rl r.1 r.2)) (w1 : Option Value) (I : FI) (L : FL) (r : FI × FL) (hf : c_211_1 n K0 I L = some r) : Bs cd_211 (sf 12 rs_12 false 2 none Ls xs (d + 1)) (30, [some (.ref 89), w1], [], hp kp nh rh tl rl I L) (none, hp kp nh rh tl rl r.1 r.2) := by
  unfold c_211_1 at hf
  refine bs_st 7 (x' := (0, [some (.ref 89), w1], [], hp kp nh rh tl rl (u2 I 89 7 ((I 89 7) + (1 : Int32))) L)) rfl ?_
  exact hK0 w1 (u2 I 89 7 ((I 89 7) + (1 : Int32))) L r hf
def c_211_2 (n : Nat) (s0 : Int32) (I : FI) (L : FL) : Option (FI × FL) :=
  some ((u2 (u2 I 89 8 s0) 89 7 ((I 89 7) + (1 : Int32))), L)
set_option maxHeartbeats 1000000 in
set_option maxRecDepth 20000 in
theorem tc_211_2 (Ls : Nat) (xs : Nat → Int32) (d : Nat) (kp : Option Nat) (tl : List (Nat × Nat)) (rl : List (List (Option Nat))) (nh : Option Nat) (rh : Option Nat) (n : Nat) (w1 : Option Value) (s0 : Int32) (I : FI) (L : FL) (r : FI × FL) (hf : c_211_2 n s0 I L = some r) : Bs cd_211 (sf 12 rs_12 false 2 none Ls xs (d + 1)) (294, [some (.ref 89), w1], [.int s0, .ref 89], hp kp nh rh tl rl I L) (none, hp kp nh rh tl rl r.1 r.2) := by
  unfold c_211_2 at hf
  refine bs_st 7 (x' := (307, [some (.ref 89), w1], [], hp kp nh rh tl rl (u2 (u2 I 89 8 s0) 89 7 ((I 89 7) + (1 : Int32))) L)) rfl ?_
  cases hf
  exact bs_ret rfl
def c_211_4 (n : Nat) (K3 : FI → FL → Option (FI × FL)) (s0 : Int32) (I : FI) (L : FL) : Option (FI × FL) :=
  K3 (u2 (u2 I 89 10 s0) 89 7 ((I 89 7) + (1 : Int32))) L
set_option maxHeartbeats 1000000 in
set_option maxRecDepth 20000 in
theorem tc_211_4 (Ls : Nat) (xs : Nat → Int32) (d : Nat) (kp : Option Nat) (tl : List (Nat × Nat)) (rl : List (List (Option Nat))) (nh : Option Nat) (rh : Option Nat) (n : Nat) (K3 : FI → FL → Option (FI × FL)) (hK3 : ∀ (w1 : Option Value) (I : FI) (L : FL) (r : FI × FL), K3 I L = some r → Bs cd_211 (sf 12 rs_12 false 2 none Ls xs (d + 1)) (208, [some (.ref 89), w1], [], hp kp nh rh tl rl I L) (none, hp kp nh rh tl rl r.1 r.2)) (w1 : Option Value) (s0 : Int32) (I : FI) (L : FL) (r : FI × FL) (hf : c_211_4 n K3 s0 I L = some r) : Bs cd_211 (sf 12 rs_12 false 2 none Ls xs (d + 1)) (258, [some (.ref 89), w1], [.int s0, .ref 89], hp kp nh rh tl rl I L) (none, hp kp nh rh tl rl r.1 r.2) := by
  unfold c_211_4 at hf
  refine bs_st 8 (x' := (208, [some (.ref 89), w1], [], hp kp nh rh tl rl (u2 (u2 I 89 10 s0) 89 7 ((I 89 7) + (1 : Int32))) L)) rfl ?_
  exact hK3 w1 (u2 (u2 I 89 10 s0) 89 7 ((I 89 7) + (1 : Int32))) L r hf
def b_211_3 (n : Nat) (K3 : FI → FL → Option (FI × FL)) (I : FI) (L : FL) : Option (FI × FL) :=
  (f_210 (I 89 7) (48 : Int32) (57 : Int32) I L).bind fun q4 =>
  if q4 = 0 then
    some (I, L)
  else
    if I 89 10 ≤ (100000 : Int32) then
      if pin (I 89 7) 500 = true then c_211_4 n K3 ((((10 : Int32) * (I 89 10)) + (I 94 ((I 89 7).toNatClampNeg))) - (48 : Int32)) I L else none
    else
      c_211_4 n K3 (1000000 : Int32) I L
def c_211_3 (n : Nat) : Nat → FI → FL → Option (FI × FL)
  | 0, _, _ => none
  | m + 1, I, L => b_211_3 n (c_211_3 n m) I L
set_option maxHeartbeats 1000000 in
set_option maxRecDepth 20000 in
theorem tc_211_3 (Ls : Nat) (xs : Nat → Int32) (d : Nat) (kp : Option Nat) (tl : List (Nat × Nat)) (rl : List (List (Option Nat))) (nh : Option Nat) (rh : Option Nat) (n : Nat) : ∀ (m : Nat) (w1 : Option Value) (I : FI) (L : FL) (r : FI × FL), c_211_3 n m I L = some r → Bs cd_211 (sf 12 rs_12 false 2 none Ls xs (d + 1)) (208, [some (.ref 89), w1], [], hp kp nh rh tl rl I L) (none, hp kp nh rh tl rl r.1 r.2)
  | 0, w1, I, L, r, hf => by cases hf
  | m + 1, w1, I, L, r, hf => by
    unfold c_211_3 b_211_3 at hf
    have hK3 := tc_211_3 Ls xs d kp tl rl nh rh n m
    refine bs_st 5 (x' := (217, [some (.ref 89), w1], [.int (57 : Int32), .int (48 : Int32), .int (I 89 7), .ref 89], hp kp nh rh tl rl I L)) rfl ?_
    obtain ⟨q4, hq4, hf⟩ := Option.bind_eq_some_iff.mp hf
    refine bs_call (o := pEN Ls xs (d + 1) 210 [.ref 89, .int (I 89 7), .int (48 : Int32), .int (57 : Int32)] (hp kp nh rh tl rl I L)) (w := some (.int q4)) (h' := hp kp nh rh tl rl I L) (pc := 220) (lo := [some (.ref 89), w1]) (rest := []) rfl (t_210 Ls xs (d + 0) kp tl rl nh rh (I 89 7) (48 : Int32) (57 : Int32) I L q4 hq4) ?_
    refine bs_br (t := 307) (e := 223) (lo := [some (.ref 89), w1]) (st := []) (h := hp kp nh rh tl rl I L) rfl hf (fun hc hf => ?_) (fun hc hf => ?_)
    · cases hf
      exact bs_ret rfl
    · refine bs_st 4 (x' := (230, [some (.ref 89), w1], [.int (100000 : Int32), .int (I 89 10), .ref 89], hp kp nh rh tl rl I L)) rfl ?_
      refine bs_br (t := 238) (e := 233) (lo := [some (.ref 89), w1]) (st := [.ref 89]) (h := hp kp nh rh tl rl I L) rfl hf (fun hc hf => ?_) (fun hc hf => ?_)
      · refine bs_st 8 (x' := (253, [some (.ref 89), w1], [.int (I 89 7), .ref 94, .int ((10 : Int32) * (I 89 10)), .ref 89], hp kp nh rh tl rl I L)) rfl ?_
        refine bs_gd (x' := (254, [some (.ref 89), w1], [.int (I 94 ((I 89 7).toNatClampNeg)), .int ((10 : Int32) * (I 89 10)), .ref 89], hp kp nh rh tl rl I L)) rfl hf (fun hc hf => ?_)
        refine bs_st 3 (x' := (258, [some (.ref 89), w1], [.int ((((10 : Int32) * (I 89 10)) + (I 94 ((I 89 7).toNatClampNeg))) - (48 : Int32)), .ref 89], hp kp nh rh tl rl I L)) rfl ?_
        exact tc_211_4 Ls xs d kp tl rl nh rh n _ hK3 w1 ((((10 : Int32) * (I 89 10)) + (I 94 ((I 89 7).toNatClampNeg))) - (48 : Int32)) I L r hf
      · refine bs_st 2 (x' := (258, [some (.ref 89), w1], [.int (1000000 : Int32), .ref 89], hp kp nh rh tl rl I L)) rfl ?_
        exact tc_211_4 Ls xs d kp tl rl nh rh n _ hK3 w1 (1000000 : Int32) I L r hf
def c_211_7 (n : Nat) (K5 : Int32 → FI → FL → Option (FI × FL)) (x1 : Int32) (I : FI) (L : FL) : Option (FI × FL) :=
  K5 (x1 + (1 : Int32)) (u2 I 89 7 ((I 89 7) + (1 : Int32))) L
set_option maxHeartbeats 1000000 in
set_option maxRecDepth 20000 in
theorem tc_211_7 (Ls : Nat) (xs : Nat → Int32) (d : Nat) (kp : Option Nat) (tl : List (Nat × Nat)) (rl : List (List (Option Nat))) (nh : Option Nat) (rh : Option Nat) (n : Nat) (K5 : Int32 → FI → FL → Option (FI × FL)) (hK5 : ∀ (x1 : Int32) (I : FI) (L : FL) (r : FI × FL), K5 x1 I L = some r → Bs cd_211 (sf 12 rs_12 false 2 none Ls xs (d + 1)) (102, [some (.ref 89), some (.int x1)], [], hp kp nh rh tl rl I L) (none, hp kp nh rh tl rl r.1 r.2)) (x1 : Int32) (I : FI) (L : FL) (r : FI × FL) (hf : c_211_7 n K5 x1 I L = some r) : Bs cd_211 (sf 12 rs_12 false 2 none Ls xs (d + 1)) (169, [some (.ref 89), some (.int x1)], [], hp kp nh rh tl rl I L) (none, hp kp nh rh tl rl r.1 r.2) := by
  unfold c_211_7 at hf
  refine bs_st 8 (x' := (102, [some (.ref 89), some (.int (x1 + (1 : Int32)))], [], hp kp nh rh tl rl (u2 I 89 7 ((I 89 7) + (1 : Int32))) L)) rfl ?_
  exact hK5 (x1 + (1 : Int32)) (u2 I 89 7 ((I 89 7) + (1 : Int32))) L r hf
def c_211_6 (n : Nat) (K5 : Int32 → FI → FL → Option (FI × FL)) (x1 : Int32) (t0 : Int64) (I : FI) (L : FL) : Option (FI × FL) :=
  if x1 ≤ (11 : Int32) then
    c_211_7 n K5 x1 I (u2 L 89 11 t0)
  else
    c_211_7 n K5 x1 I (u2 (u2 L 89 11 t0) 89 11 (-1 : Int64))
set_option maxHeartbeats 1000000 in
set_option maxRecDepth 20000 in
theorem tc_211_6 (Ls : Nat) (xs : Nat → Int32) (d : Nat) (kp : Option Nat) (tl : List (Nat × Nat)) (rl : List (List (Option Nat))) (nh : Option Nat) (rh : Option Nat) (n : Nat) (K5 : Int32 → FI → FL → Option (FI × FL)) (hK5 : ∀ (x1 : Int32) (I : FI) (L : FL) (r : FI × FL), K5 x1 I L = some r → Bs cd_211 (sf 12 rs_12 false 2 none Ls xs (d + 1)) (102, [some (.ref 89), some (.int x1)], [], hp kp nh rh tl rl I L) (none, hp kp nh rh tl rl r.1 r.2)) (x1 : Int32) (t0 : Int64) (I : FI) (L : FL) (r : FI × FL) (hf : c_211_6 n K5 x1 t0 I L = some r) : Bs cd_211 (sf 12 rs_12 false 2 none Ls xs (d + 1)) (153, [some (.ref 89), some (.int x1)], [.long t0, .ref 89], hp kp nh rh tl rl I L) (none, hp kp nh rh tl rl r.1 r.2) := by
  unfold c_211_6 at hf
  refine bs_st 3 (x' := (159, [some (.ref 89), some (.int x1)], [.int (11 : Int32), .int x1], hp kp nh rh tl rl I (u2 L 89 11 t0))) rfl ?_
  refine bs_br (t := 169) (e := 162) (lo := [some (.ref 89), some (.int x1)]) (st := []) (h := hp kp nh rh tl rl I (u2 L 89 11 t0)) rfl hf (fun hc hf => ?_) (fun hc hf => ?_)
  · exact tc_211_7 Ls xs d kp tl rl nh rh n _ hK5 x1 I (u2 L 89 11 t0) r hf
  · refine bs_st 3 (x' := (169, [some (.ref 89), some (.int x1)], [], hp kp nh rh tl rl I (u2 (u2 L 89 11 t0) 89 11 (-1 : Int64)))) rfl ?_
    exact tc_211_7 Ls xs d kp tl rl nh rh n _ hK5 x1 I (u2 (u2 L 89 11 t0) 89 11 (-1 : Int64)) r hf
def b_211_5 (n : Nat) (K5 : Int32 → FI → FL → Option (FI × FL)) (x1 : Int32) (I : FI) (L : FL) : Option (FI × FL) :=
  (f_210 (I 89 7) (97 : Int32) (122 : Int32) I L).bind fun q5 =>
  if q5 = 0 then
    some (I, L)
  else
    if x1 ≤ (11 : Int32) then
      if pin (I 89 7) 500 = true then c_211_6 n K5 x1 ((((27 : Int64) * (L 89 11)) + ((I 94 ((I 89 7).toNatClampNeg)).toInt64)) - (96 : Int64)) I L else none
    else
      c_211_6 n K5 x1 (-1 : Int64) I L
def c_211_5 (n : Nat) : Nat → Int32 → FI → FL → Option (FI × FL)
  | 0, _, _, _ => none
  | m + 1, x1, I, L => b_211_5 n (c_211_5 n m) x1 I L
set_option maxHeartbeats 1000000 in
set_option maxRecDepth 20000 in
theorem tc_211_5 (Ls : Nat) (xs : Nat → Int32) (d : Nat) (kp : Option Nat) (tl : List (Nat × Nat)) (rl : List (List (Option Nat))) (nh : Option Nat) (rh : Option Nat) (n : Nat) : ∀ (m : Nat) (x1 : Int32) (I : FI) (L : FL) (r : FI × FL), c_211_5 n m x1 I L = some r → Bs cd_211 (sf 12 rs_12 false 2 none Ls xs (d + 1)) (102, [some (.ref 89), some (.int x1)], [], hp kp nh rh tl rl I L) (none, hp kp nh rh tl rl r.1 r.2)
  | 0, x1, I, L, r, hf => by cases hf
  | m + 1, x1, I, L, r, hf => by
    unfold c_211_5 b_211_5 at hf
    have hK5 := tc_211_5 Ls xs d kp tl rl nh rh n m
    refine bs_st 5 (x' := (111, [some (.ref 89), some (.int x1)], [.int (122 : Int32), .int (97 : Int32), .int (I 89 7), .ref 89], hp kp nh rh tl rl I L)) rfl ?_
    obtain ⟨q5, hq5, hf⟩ := Option.bind_eq_some_iff.mp hf
    refine bs_call (o := pEN Ls xs (d + 1) 210 [.ref 89, .int (I 89 7), .int (97 : Int32), .int (122 : Int32)] (hp kp nh rh tl rl I L)) (w := some (.int q5)) (h' := hp kp nh rh tl rl I L) (pc := 114) (lo := [some (.ref 89), some (.int x1)]) (rest := []) rfl (t_210 Ls xs (d + 0) kp tl rl nh rh (I 89 7) (97 : Int32) (122 : Int32) I L q5 hq5) ?_
    refine bs_br (t := 185) (e := 117) (lo := [some (.ref 89), some (.int x1)]) (st := []) (h := hp kp nh rh tl rl I L) rfl hf (fun hc hf => ?_) (fun hc hf => ?_)
    · refine bs_st 1 (x' := (307, [some (.ref 89), some (.int x1)], [], hp kp nh rh tl rl I L)) rfl ?_
      cases hf
      exact bs_ret rfl
    · refine bs_st 3 (x' := (121, [some (.ref 89), some (.int x1)], [.int (11 : Int32), .int x1, .ref 89], hp kp nh rh tl rl I L)) rfl ?_
      refine bs_br (t := 130) (e := 124) (lo := [some (.ref 89), some (.int x1)]) (st := [.ref 89]) (h := hp kp nh rh tl rl I L) rfl hf (fun hc hf => ?_) (fun hc hf => ?_)
      · refine bs_st 8 (x' := (146, [some (.ref 89), some (.int x1)], [.int (I 89 7), .ref 94, .long ((27 : Int64) * (L 89 11)), .ref 89], hp kp nh rh tl rl I L)) rfl ?_
        refine bs_gd (x' := (147, [some (.ref 89), some (.int x1)], [.int (I 94 ((I 89 7).toNatClampNeg)), .long ((27 : Int64) * (L 89 11)), .ref 89], hp kp nh rh tl rl I L)) rfl hf (fun hc hf => ?_)
        refine bs_st 4 (x' := (153, [some (.ref 89), some (.int x1)], [.long ((((27 : Int64) * (L 89 11)) + ((I 94 ((I 89 7).toNatClampNeg)).toInt64)) - (96 : Int64)), .ref 89], hp kp nh rh tl rl I L)) rfl ?_
        exact tc_211_6 Ls xs d kp tl rl nh rh n _ hK5 x1 ((((27 : Int64) * (L 89 11)) + ((I 94 ((I 89 7).toNatClampNeg)).toInt64)) - (96 : Int64)) I L r hf
      · refine bs_st 2 (x' := (153, [some (.ref 89), some (.int x1)], [.long (-1 : Int64), .ref 89], hp kp nh rh tl rl I L)) rfl ?_
        exact tc_211_6 Ls xs d kp tl rl nh rh n _ hK5 x1 (-1 : Int64) I L r hf
def b_211_0 (n : Nat) (K0 : FI → FL → Option (FI × FL)) (I : FI) (L : FL) : Option (FI × FL) :=
  (f_210 (I 89 7) (32 : Int32) (32 : Int32) I L).bind fun q0 =>
  if ¬ q0 = 0 then
    c_211_1 n K0 I L
  else
    (f_210 (I 89 7) (10 : Int32) (10 : Int32) I L).bind fun q1 =>
    if q1 = 0 then
      if ¬ I 89 7 = I 89 6 then
        (f_210 (I 89 7) (97 : Int32) (122 : Int32) (u2 (u2 I 89 9 (I 89 7)) 89 10 (0 : Int32)) (u2 L 89 11 (0 : Int64))).bind fun q2 =>
        if q2 = 0 then
          (f_210 (I 89 7) (48 : Int32) (57 : Int32) (u2 (u2 I 89 9 (I 89 7)) 89 10 (0 : Int32)) (u2 L 89 11 (0 : Int64))).bind fun q3 =>
          if q3 = 0 then
            if pin (I 89 7) 500 = true then (if ¬ I 94 ((I 89 7).toNatClampNeg) = (59 : Int32) then
                c_211_2 n (4 : Int32) (u2 (u2 I 89 9 (I 89 7)) 89 10 (0 : Int32)) (u2 L 89 11 (0 : Int64))
              else
                c_211_2 n (3 : Int32) (u2 (u2 I 89 9 (I 89 7)) 89 10 (0 : Int32)) (u2 L 89 11 (0 : Int64))) else none
          else
            c_211_3 n n (u2 (u2 (u2 I 89 9 (I 89 7)) 89 10 (0 : Int32)) 89 8 (2 : Int32)) (u2 L 89 11 (0 : Int64))
        else
          c_211_5 n n (0 : Int32) (u2 (u2 (u2 I 89 9 (I 89 7)) 89 10 (0 : Int32)) 89 8 (1 : Int32)) (u2 L 89 11 (0 : Int64))
      else
        some ((u2 (u2 (u2 I 89 9 (I 89 7)) 89 10 (0 : Int32)) 89 8 (0 : Int32)), (u2 L 89 11 (0 : Int64)))
    else
      c_211_1 n K0 I L
def c_211_0 (n : Nat) : Nat → FI → FL → Option (FI × FL)
  | 0, _, _ => none
  | m + 1, I, L => b_211_0 n (c_211_0 n m) I L
set_option maxHeartbeats 1000000 in
set_option maxRecDepth 20000 in
theorem tc_211_0 (Ls : Nat) (xs : Nat → Int32) (d : Nat) (kp : Option Nat) (tl : List (Nat × Nat)) (rl : List (List (Option Nat))) (nh : Option Nat) (rh : Option Nat) (n : Nat) : ∀ (m : Nat) (w1 : Option Value) (I : FI) (L : FL) (r : FI × FL), c_211_0 n m I L = some r → Bs cd_211 (sf 12 rs_12 false 2 none Ls xs (d + 1)) (0, [some (.ref 89), w1], [], hp kp nh rh tl rl I L) (none, hp kp nh rh tl rl r.1 r.2)
  | 0, w1, I, L, r, hf => by cases hf
  | m + 1, w1, I, L, r, hf => by
    unfold c_211_0 b_211_0 at hf
    have hK0 := tc_211_0 Ls xs d kp tl rl nh rh n m
    refine bs_st 5 (x' := (9, [some (.ref 89), w1], [.int (32 : Int32), .int (32 : Int32), .int (I 89 7), .ref 89], hp kp nh rh tl rl I L)) rfl ?_
    obtain ⟨q0, hq0, hf⟩ := Option.bind_eq_some_iff.mp hf
    refine bs_call (o := pEN Ls xs (d + 1) 210 [.ref 89, .int (I 89 7), .int (32 : Int32), .int (32 : Int32)] (hp kp nh rh tl rl I L)) (w := some (.int q0)) (h' := hp kp nh rh tl rl I L) (pc := 12) (lo := [some (.ref 89), w1]) (rest := []) rfl (t_210 Ls xs (d + 0) kp tl rl nh rh (I 89 7) (32 : Int32) (32 : Int32) I L q0 hq0) ?_
    refine bs_br (t := 30) (e := 15) (lo := [some (.ref 89), w1]) (st := []) (h := hp kp nh rh tl rl I L) rfl hf (fun hc hf => ?_) (fun hc hf => ?_)
    · exact tc_211_1 Ls xs d kp tl rl nh rh n _ hK0 w1 I L r hf
    · refine bs_st 5 (x' := (24, [some (.ref 89), w1], [.int (10 : Int32), .int (10 : Int32), .int (I 89 7), .ref 89], hp kp nh rh tl rl I L)) rfl ?_
      obtain ⟨q1, hq1, hf⟩ := Option.bind_eq_some_iff.mp hf
      refine bs_call (o := pEN Ls xs (d + 1) 210 [.ref 89, .int (I 89 7), .int (10 : Int32), .int (10 : Int32)] (hp kp nh rh tl rl I L)) (w := some (.int q1)) (h' := hp kp nh rh tl rl I L) (pc := 27) (lo := [some (.ref 89), w1]) (rest := []) rfl (t_210 Ls xs (d + 0) kp tl rl nh rh (I 89 7) (10 : Int32) (10 : Int32) I L q1 hq1) ?_
      refine bs_br (t := 43) (e := 30) (lo := [some (.ref 89), w1]) (st := []) (h := hp kp nh rh tl rl I L) rfl hf (fun hc hf => ?_) (fun hc hf => ?_)
      · refine bs_st 14 (x' := (69, [some (.ref 89), w1], [.int (I 89 6), .int (I 89 7)], hp kp nh rh tl rl (u2 (u2 I 89 9 (I 89 7)) 89 10 (0 : Int32)) (u2 L 89 11 (0 : Int64)))) rfl ?_
        refine bs_br (t := 80) (e := 72) (lo := [some (.ref 89), w1]) (st := []) (h := hp kp nh rh tl rl (u2 (u2 I 89 9 (I 89 7)) 89 10 (0 : Int32)) (u2 L 89 11 (0 : Int64))) rfl hf (fun hc hf => ?_) (fun hc hf => ?_)
        · refine bs_st 5 (x' := (89, [some (.ref 89), w1], [.int (122 : Int32), .int (97 : Int32), .int (I 89 7), .ref 89], hp kp nh rh tl rl (u2 (u2 I 89 9 (I 89 7)) 89 10 (0 : Int32)) (u2 L 89 11 (0 : Int64)))) rfl ?_
          obtain ⟨q2, hq2, hf⟩ := Option.bind_eq_some_iff.mp hf
          refine bs_call (o := pEN Ls xs (d + 1) 210 [.ref 89, .int (I 89 7), .int (97 : Int32), .int (122 : Int32)] (hp kp nh rh tl rl (u2 (u2 I 89 9 (I 89 7)) 89 10 (0 : Int32)) (u2 L 89 11 (0 : Int64)))) (w := some (.int q2)) (h' := hp kp nh rh tl rl (u2 (u2 I 89 9 (I 89 7)) 89 10 (0 : Int32)) (u2 L 89 11 (0 : Int64))) (pc := 92) (lo := [some (.ref 89), w1]) (rest := []) rfl (t_210 Ls xs (d + 0) kp tl rl nh rh (I 89 7) (97 : Int32) (122 : Int32) (u2 (u2 I 89 9 (I 89 7)) 89 10 (0 : Int32)) (u2 L 89 11 (0 : Int64)) q2 hq2) ?_
          refine bs_br (t := 188) (e := 95) (lo := [some (.ref 89), w1]) (st := []) (h := hp kp nh rh tl rl (u2 (u2 I 89 9 (I 89 7)) 89 10 (0 : Int32)) (u2 L 89 11 (0 : Int64))) rfl hf (fun hc hf => ?_) (fun hc hf => ?_)
          · refine bs_st 5 (x' := (197, [some (.ref 89), w1], [.int (57 : Int32), .int (48 : Int32), .int (I 89 7), .ref 89], hp kp nh rh tl rl (u2 (u2 I 89 9 (I 89 7)) 89 10 (0 : Int32)) (u2 L 89 11 (0 : Int64)))) rfl ?_
            obtain ⟨q3, hq3, hf⟩ := Option.bind_eq_some_iff.mp hf
            refine bs_call (o := pEN Ls xs (d + 1) 210 [.ref 89, .int (I 89 7), .int (48 : Int32), .int (57 : Int32)] (hp kp nh rh tl rl (u2 (u2 I 89 9 (I 89 7)) 89 10 (0 : Int32)) (u2 L 89 11 (0 : Int64)))) (w := some (.int q3)) (h' := hp kp nh rh tl rl (u2 (u2 I 89 9 (I 89 7)) 89 10 (0 : Int32)) (u2 L 89 11 (0 : Int64))) (pc := 200) (lo := [some (.ref 89), w1]) (rest := []) rfl (t_210 Ls xs (d + 0) kp tl rl nh rh (I 89 7) (48 : Int32) (57 : Int32) (u2 (u2 I 89 9 (I 89 7)) 89 10 (0 : Int32)) (u2 L 89 11 (0 : Int64)) q3 hq3) ?_
            refine bs_br (t := 274) (e := 203) (lo := [some (.ref 89), w1]) (st := []) (h := hp kp nh rh tl rl (u2 (u2 I 89 9 (I 89 7)) 89 10 (0 : Int32)) (u2 L 89 11 (0 : Int64))) rfl hf (fun hc hf => ?_) (fun hc hf => ?_)
            · refine bs_st 5 (x' := (283, [some (.ref 89), w1], [.int (I 89 7), .ref 94, .ref 89], hp kp nh rh tl rl (u2 (u2 I 89 9 (I 89 7)) 89 10 (0 : Int32)) (u2 L 89 11 (0 : Int64)))) rfl ?_
              refine bs_gd (x' := (284, [some (.ref 89), w1], [.int (I 94 ((I 89 7).toNatClampNeg)), .ref 89], hp kp nh rh tl rl (u2 (u2 I 89 9 (I 89 7)) 89 10 (0 : Int32)) (u2 L 89 11 (0 : Int64)))) rfl hf (fun hc hf => ?_)
              refine bs_st 1 (x' := (286, [some (.ref 89), w1], [.int (59 : Int32), .int (I 94 ((I 89 7).toNatClampNeg)), .ref 89], hp kp nh rh tl rl (u2 (u2 I 89 9 (I 89 7)) 89 10 (0 : Int32)) (u2 L 89 11 (0 : Int64)))) rfl ?_
              refine bs_br (t := 293) (e := 289) (lo := [some (.ref 89), w1]) (st := [.ref 89]) (h := hp kp nh rh tl rl (u2 (u2 I 89 9 (I 89 7)) 89 10 (0 : Int32)) (u2 L 89 11 (0 : Int64))) rfl hf (fun hc hf => ?_) (fun hc hf => ?_)
              · refine bs_st 1 (x' := (294, [some (.ref 89), w1], [.int (4 : Int32), .ref 89], hp kp nh rh tl rl (u2 (u2 I 89 9 (I 89 7)) 89 10 (0 : Int32)) (u2 L 89 11 (0 : Int64)))) rfl ?_
                exact tc_211_2 Ls xs d kp tl rl nh rh n w1 (4 : Int32) (u2 (u2 I 89 9 (I 89 7)) 89 10 (0 : Int32)) (u2 L 89 11 (0 : Int64)) r hf
              · refine bs_st 2 (x' := (294, [some (.ref 89), w1], [.int (3 : Int32), .ref 89], hp kp nh rh tl rl (u2 (u2 I 89 9 (I 89 7)) 89 10 (0 : Int32)) (u2 L 89 11 (0 : Int64)))) rfl ?_
                exact tc_211_2 Ls xs d kp tl rl nh rh n w1 (3 : Int32) (u2 (u2 I 89 9 (I 89 7)) 89 10 (0 : Int32)) (u2 L 89 11 (0 : Int64)) r hf
            · refine bs_st 3 (x' := (208, [some (.ref 89), w1], [], hp kp nh rh tl rl (u2 (u2 (u2 I 89 9 (I 89 7)) 89 10 (0 : Int32)) 89 8 (2 : Int32)) (u2 L 89 11 (0 : Int64)))) rfl ?_
              exact tc_211_3 Ls xs d kp tl rl nh rh n n w1 (u2 (u2 (u2 I 89 9 (I 89 7)) 89 10 (0 : Int32)) 89 8 (2 : Int32)) (u2 L 89 11 (0 : Int64)) r hf
          · refine bs_st 5 (x' := (102, [some (.ref 89), some (.int (0 : Int32))], [], hp kp nh rh tl rl (u2 (u2 (u2 I 89 9 (I 89 7)) 89 10 (0 : Int32)) 89 8 (1 : Int32)) (u2 L 89 11 (0 : Int64)))) rfl ?_
            exact tc_211_5 Ls xs d kp tl rl nh rh n n (0 : Int32) (u2 (u2 (u2 I 89 9 (I 89 7)) 89 10 (0 : Int32)) 89 8 (1 : Int32)) (u2 L 89 11 (0 : Int64)) r hf
        · refine bs_st 4 (x' := (307, [some (.ref 89), w1], [], hp kp nh rh tl rl (u2 (u2 (u2 I 89 9 (I 89 7)) 89 10 (0 : Int32)) 89 8 (0 : Int32)) (u2 L 89 11 (0 : Int64)))) rfl ?_
          cases hf
          exact bs_ret rfl
      · exact tc_211_1 Ls xs d kp tl rl nh rh n _ hK0 w1 I L r hf
def f_211 (n : Nat) (I : FI) (L : FL) : Option (FI × FL) :=
  c_211_0 n n I L
set_option maxHeartbeats 1000000 in
set_option maxRecDepth 20000 in
theorem t_211 (Ls : Nat) (xs : Nat → Int32) (d : Nat) (kp : Option Nat) (tl : List (Nat × Nat)) (rl : List (List (Option Nat))) (nh : Option Nat) (rh : Option Nat) (n : Nat) (I : FI) (L : FL) (r : FI × FL) (hf : f_211 n I L = some r) : pEN Ls xs (d + 2) 211 [.ref 89] (hp kp nh rh tl rl I L) = some (none, hp kp nh rh tl rl r.1 r.2) := by
  refine en_run (d := d + 1) (cd := cd_211) (f := (sf 12 rs_12 false 2 none Ls xs (d + 1))) rfl rfl (x := (0, [some (.ref 89), none], [], hp kp nh rh tl rl I L)) rfl rfl (Nat.le_of_ble_eq_true rfl) ?_
  unfold f_211 at hf
  exact tc_211_0 Ls xs d kp tl rl nh rh n n none I L r hf
/-- LampRoundsModel.isGood() on (89,) -/
def f_212 (I : FI) (L : FL) : Option (Int32) :=
  if ¬ I 89 12 = 0 then
    some ((0 : Int32))
  else
    some ((1 : Int32))
set_option maxHeartbeats 1000000 in
set_option maxRecDepth 20000 in
theorem t_212 (Ls : Nat) (xs : Nat → Int32) (d : Nat) (kp : Option Nat) (tl : List (Nat × Nat)) (rl : List (List (Option Nat))) (nh : Option Nat) (rh : Option Nat) (I : FI) (L : FL) (r : Int32) (hf : f_212 I L = some r) : pEN Ls xs (d + 1) 212 [.ref 89] (hp kp nh rh tl rl I L) = some (some (.int r), hp kp nh rh tl rl I L) := by
  refine en_run (d := d + 0) (cd := cd_212) (f := (sf 12 rs_12 false 1 (some (.boolean)) Ls xs (d + 0))) rfl rfl (x := (0, [some (.ref 89)], [], hp kp nh rh tl rl I L)) rfl rfl (Nat.le_of_ble_eq_true rfl) ?_
  unfold f_212 at hf
  refine bs_st 2 (x' := (4, [some (.ref 89)], [.int (I 89 12)], hp kp nh rh tl rl I L)) rfl ?_
  refine bs_br (t := 11) (e := 7) (lo := [some (.ref 89)]) (st := []) (h := hp kp nh rh tl rl I L) rfl hf (fun hc hf => ?_) (fun hc hf => ?_)
  · refine bs_st 1 (x' := (12, [some (.ref 89)], [.int (0 : Int32)], hp kp nh rh tl rl I L)) rfl ?_
    cases hf
    exact bs_ret rfl
  · refine bs_st 2 (x' := (12, [some (.ref 89)], [.int (1 : Int32)], hp kp nh rh tl rl I L)) rfl ?_
    cases hf
    exact bs_ret rfl
/-- LampRoundsModel.fails(I) on (89,) -/
def f_213 (x1 : Int32) (I : FI) (L : FL) : Option (FI × FL) :=
  if I 89 12 = 0 then
    some ((u2 (u2 I 89 12 x1) 89 13 (I 89 9)), L)
  else
    some (I, L)
set_option maxHeartbeats 1000000 in
set_option maxRecDepth 20000 in
theorem t_213 (Ls : Nat) (xs : Nat → Int32) (d : Nat) (kp : Option Nat) (tl : List (Nat × Nat)) (rl : List (List (Option Nat))) (nh : Option Nat) (rh : Option Nat) (x1 : Int32) (I : FI) (L : FL) (r : FI × FL) (hf : f_213 x1 I L = some r) : pEN Ls xs (d + 1) 213 [.ref 89, .int x1] (hp kp nh rh tl rl I L) = some (none, hp kp nh rh tl rl r.1 r.2) := by
  refine en_run (d := d + 0) (cd := cd_213) (f := (sf 12 rs_12 false 2 none Ls xs (d + 0))) rfl rfl (x := (0, [some (.ref 89), some (.int x1)], [], hp kp nh rh tl rl I L)) rfl rfl (Nat.le_of_ble_eq_true rfl) ?_
  unfold f_213 at hf
  refine bs_st 2 (x' := (4, [some (.ref 89), some (.int x1)], [.int (I 89 12)], hp kp nh rh tl rl I L)) rfl ?_
  refine bs_br (t := 8) (e := 7) (lo := [some (.ref 89), some (.int x1)]) (st := []) (h := hp kp nh rh tl rl I L) rfl hf (fun hc hf => ?_) (fun hc hf => ?_)
  · refine bs_st 7 (x' := (21, [some (.ref 89), some (.int x1)], [], hp kp nh rh tl rl (u2 (u2 I 89 12 x1) 89 13 (I 89 9)) L)) rfl ?_
    cases hf
    exact bs_ret rfl
  · cases hf
    exact bs_ret rfl
/-- LampRoundsModel.is(J) on (89,) -/
def f_214 (y1 : Int64) (I : FI) (L : FL) : Option (Int32) :=
  if ¬ I 89 12 = 0 then
    some ((0 : Int32))
  else
    if ¬ I 89 8 = (1 : Int32) then
      some ((0 : Int32))
    else
      if ¬ (lg_cmp (L 89 11) y1) = 0 then
        some ((0 : Int32))
      else
        some ((1 : Int32))
set_option maxHeartbeats 1000000 in
set_option maxRecDepth 20000 in
theorem t_214 (Ls : Nat) (xs : Nat → Int32) (d : Nat) (kp : Option Nat) (tl : List (Nat × Nat)) (rl : List (List (Option Nat))) (nh : Option Nat) (rh : Option Nat) (y1 : Int64) (I : FI) (L : FL) (r : Int32) (hf : f_214 y1 I L = some r) : pEN Ls xs (d + 1) 214 [.ref 89, .long y1] (hp kp nh rh tl rl I L) = some (some (.int r), hp kp nh rh tl rl I L) := by
  refine en_run (d := d + 0) (cd := cd_214) (f := (sf 12 rs_12 false 3 (some (.boolean)) Ls xs (d + 0))) rfl rfl (x := (0, [some (.ref 89), some (.long y1), none], [], hp kp nh rh tl rl I L)) rfl rfl (Nat.le_of_ble_eq_true rfl) ?_
  unfold f_214 at hf
  refine bs_st 2 (x' := (4, [some (.ref 89), some (.long y1), none], [.int (I 89 12)], hp kp nh rh tl rl I L)) rfl ?_
  refine bs_br (t := 28) (e := 7) (lo := [some (.ref 89), some (.long y1), none]) (st := []) (h := hp kp nh rh tl rl I L) rfl hf (fun hc hf => ?_) (fun hc hf => ?_)
  · refine bs_st 1 (x' := (29, [some (.ref 89), some (.long y1), none], [.int (0 : Int32)], hp kp nh rh tl rl I L)) rfl ?_
    cases hf
    exact bs_ret rfl
  · refine bs_st 3 (x' := (12, [some (.ref 89), some (.long y1), none], [.int (1 : Int32), .int (I 89 8)], hp kp nh rh tl rl I L)) rfl ?_
    refine bs_br (t := 28) (e := 15) (lo := [some (.ref 89), some (.long y1), none]) (st := []) (h := hp kp nh rh tl rl I L) rfl hf (fun hc hf => ?_) (fun hc hf => ?_)
    · refine bs_st 1 (x' := (29, [some (.ref 89), some (.long y1), none], [.int (0 : Int32)], hp kp nh rh tl rl I L)) rfl ?_
      cases hf
      exact bs_ret rfl
    · refine bs_st 4 (x' := (21, [some (.ref 89), some (.long y1), none], [.int (lg_cmp (L 89 11) y1)], hp kp nh rh tl rl I L)) rfl ?_
      refine bs_br (t := 28) (e := 24) (lo := [some (.ref 89), some (.long y1), none]) (st := []) (h := hp kp nh rh tl rl I L) rfl hf (fun hc hf => ?_) (fun hc hf => ?_)
      · refine bs_st 1 (x' := (29, [some (.ref 89), some (.long y1), none], [.int (0 : Int32)], hp kp nh rh tl rl I L)) rfl ?_
        cases hf
        exact bs_ret rfl
      · refine bs_st 2 (x' := (29, [some (.ref 89), some (.long y1), none], [.int (1 : Int32)], hp kp nh rh tl rl I L)) rfl ?_
        cases hf
        exact bs_ret rfl
/-- LampRoundsModel.takes(J) on (89,) -/
def f_215 (n : Nat) (y1 : Int64) (I : FI) (L : FL) : Option (Int32 × FI × FL) :=
  (f_214 y1 I L).bind fun q0 =>
  if ¬ q0 = 0 then
    (f_211 n I L).bind fun q1 =>
    some ((1 : Int32), q1.1, q1.2)
  else
    some ((0 : Int32), I, L)
set_option maxHeartbeats 1000000 in
set_option maxRecDepth 20000 in
theorem t_215 (Ls : Nat) (xs : Nat → Int32) (d : Nat) (kp : Option Nat) (tl : List (Nat × Nat)) (rl : List (List (Option Nat))) (nh : Option Nat) (rh : Option Nat) (n : Nat) (y1 : Int64) (I : FI) (L : FL) (r : Int32 × FI × FL) (hf : f_215 n y1 I L = some r) : pEN Ls xs (d + 3) 215 [.ref 89, .long y1] (hp kp nh rh tl rl I L) = some (some (.int r.1), hp kp nh rh tl rl r.2.1 r.2.2) := by
  refine en_run (d := d + 2) (cd := cd_215) (f := (sf 12 rs_12 false 3 (some (.boolean)) Ls xs (d + 2))) rfl rfl (x := (0, [some (.ref 89), some (.long y1), none], [], hp kp nh rh tl rl I L)) rfl rfl (Nat.le_of_ble_eq_true rfl) ?_
  unfold f_215 at hf
  refine bs_st 2 (x' := (2, [some (.ref 89), some (.long y1), none], [.long y1, .ref 89], hp kp nh rh tl rl I L)) rfl ?_
  obtain ⟨q0, hq0, hf⟩ := Option.bind_eq_some_iff.mp hf
  refine bs_call (o := pEN Ls xs (d + 2) 214 [.ref 89, .long y1] (hp kp nh rh tl rl I L)) (w := some (.int q0)) (h' := hp kp nh rh tl rl I L) (pc := 5) (lo := [some (.ref 89), some (.long y1), none]) (rest := []) rfl (t_214 Ls xs (d + 1) kp tl rl nh rh y1 I L q0 hq0) ?_
  refine bs_br (t := 10) (e := 8) (lo := [some (.ref 89), some (.long y1), none]) (st := []) (h := hp kp nh rh tl rl I L) rfl hf (fun hc hf => ?_) (fun hc hf => ?_)
  · refine bs_st 1 (x' := (11, [some (.ref 89), some (.long y1), none], [.ref 89], hp kp nh rh tl rl I L)) rfl ?_
    obtain ⟨q1, hq1, hf⟩ := Option.bind_eq_some_iff.mp hf
    refine bs_call (o := pEN Ls xs (d + 2) 211 [.ref 89] (hp kp nh rh tl rl I L)) (w := none) (h' := hp kp nh rh tl rl q1.1 q1.2) (pc := 14) (lo := [some (.ref 89), some (.long y1), none]) (rest := []) rfl (t_211 Ls xs (d + 0) kp tl rl nh rh n I L q1 hq1) ?_
    refine bs_st 1 (x' := (15, [some (.ref 89), some (.long y1), none], [.int (1 : Int32)], hp kp nh rh tl rl q1.1 q1.2)) rfl ?_
    cases hf
    exact bs_ret rfl
  · refine bs_st 1 (x' := (9, [some (.ref 89), some (.long y1), none], [.int (0 : Int32)], hp kp nh rh tl rl I L)) rfl ?_
    cases hf
    exact bs_ret rfl
/-- LampRoundsModel.asks(J) on (89,) -/
def f_216 (n : Nat) (y1 : Int64) (I : FI) (L : FL) : Option (FI × FL) :=
  (f_215 n y1 I L).bind fun q0 =>
  if ¬ q0.1 = 0 then
    some (q0.2.1, q0.2.2)
  else
    (f_213 (1 : Int32) q0.2.1 q0.2.2).bind fun q1 =>
    some (q1.1, q1.2)
set_option maxHeartbeats 1000000 in
set_option maxRecDepth 20000 in
theorem t_216 (Ls : Nat) (xs : Nat → Int32) (d : Nat) (kp : Option Nat) (tl : List (Nat × Nat)) (rl : List (List (Option Nat))) (nh : Option Nat) (rh : Option Nat) (n : Nat) (y1 : Int64) (I : FI) (L : FL) (r : FI × FL) (hf : f_216 n y1 I L = some r) : pEN Ls xs (d + 4) 216 [.ref 89, .long y1] (hp kp nh rh tl rl I L) = some (none, hp kp nh rh tl rl r.1 r.2) := by
  refine en_run (d := d + 3) (cd := cd_216) (f := (sf 12 rs_12 false 3 none Ls xs (d + 3))) rfl rfl (x := (0, [some (.ref 89), some (.long y1), none], [], hp kp nh rh tl rl I L)) rfl rfl (Nat.le_of_ble_eq_true rfl) ?_
  unfold f_216 at hf
  refine bs_st 2 (x' := (2, [some (.ref 89), some (.long y1), none], [.long y1, .ref 89], hp kp nh rh tl rl I L)) rfl ?_
  obtain ⟨q0, hq0, hf⟩ := Option.bind_eq_some_iff.mp hf
  refine bs_call (o := pEN Ls xs (d + 3) 215 [.ref 89, .long y1] (hp kp nh rh tl rl I L)) (w := some (.int q0.1)) (h' := hp kp nh rh tl rl q0.2.1 q0.2.2) (pc := 5) (lo := [some (.ref 89), some (.long y1), none]) (rest := []) rfl (t_215 Ls xs (d + 0) kp tl rl nh rh n y1 I L q0 hq0) ?_
  refine bs_br (t := 13) (e := 8) (lo := [some (.ref 89), some (.long y1), none]) (st := []) (h := hp kp nh rh tl rl q0.2.1 q0.2.2) rfl hf (fun hc hf => ?_) (fun hc hf => ?_)
  · cases hf
    exact bs_ret rfl
  · refine bs_st 2 (x' := (10, [some (.ref 89), some (.long y1), none], [.int (1 : Int32), .ref 89], hp kp nh rh tl rl q0.2.1 q0.2.2)) rfl ?_
    obtain ⟨q1, hq1, hf⟩ := Option.bind_eq_some_iff.mp hf
    refine bs_call (o := pEN Ls xs (d + 3) 213 [.ref 89, .int (1 : Int32)] (hp kp nh rh tl rl q0.2.1 q0.2.2)) (w := none) (h' := hp kp nh rh tl rl q1.1 q1.2) (pc := 13) (lo := [some (.ref 89), some (.long y1), none]) (rest := []) rfl (t_213 Ls xs (d + 2) kp tl rl nh rh (1 : Int32) q0.2.1 q0.2.2 q1 hq1) ?_
    cases hf
    exact bs_ret rfl
/-- LampRoundsModel.number(II) on (89,) -/
def f_217 (n : Nat) (x1 : Int32) (x2 : Int32) (I : FI) (L : FL) : Option (Int32 × FI × FL) :=
  if I 89 12 = 0 then
    if I 89 8 = (2 : Int32) then
      (f_201 ((I 89 10).toInt64) x1.toInt64 x2.toInt64 I L).bind fun q0 =>
      if ¬ q0 = 0 then
        (f_211 n I L).bind fun q1 =>
        some (I 89 10, q1.1, q1.2)
      else
        (f_213 (2 : Int32) I L).bind fun q2 =>
        some (x1, q2.1, q2.2)
    else
      (f_213 (1 : Int32) I L).bind fun q3 =>
      some (x1, q3.1, q3.2)
  else
    some (x1, I, L)
set_option maxHeartbeats 1000000 in
set_option maxRecDepth 20000 in
theorem t_217 (Ls : Nat) (xs : Nat → Int32) (d : Nat) (kp : Option Nat) (tl : List (Nat × Nat)) (rl : List (List (Option Nat))) (nh : Option Nat) (rh : Option Nat) (n : Nat) (x1 : Int32) (x2 : Int32) (I : FI) (L : FL) (r : Int32 × FI × FL) (hf : f_217 n x1 x2 I L = some r) : pEN Ls xs (d + 3) 217 [.ref 89, .int x1, .int x2] (hp kp nh rh tl rl I L) = some (some (.int r.1), hp kp nh rh tl rl r.2.1 r.2.2) := by
  refine en_run (d := d + 2) (cd := cd_217) (f := (sf 12 rs_12 false 4 (some (.int)) Ls xs (d + 2))) rfl rfl (x := (0, [some (.ref 89), some (.int x1), some (.int x2), none], [], hp kp nh rh tl rl I L)) rfl rfl (Nat.le_of_ble_eq_true rfl) ?_
  unfold f_217 at hf
  refine bs_st 2 (x' := (4, [some (.ref 89), some (.int x1), some (.int x2), none], [.int (I 89 12)], hp kp nh rh tl rl I L)) rfl ?_
  refine bs_br (t := 9) (e := 7) (lo := [some (.ref 89), some (.int x1), some (.int x2), none]) (st := []) (h := hp kp nh rh tl rl I L) rfl hf (fun hc hf => ?_) (fun hc hf => ?_)
  · refine bs_st 3 (x' := (14, [some (.ref 89), some (.int x1), some (.int x2), none], [.int (2 : Int32), .int (I 89 8)], hp kp nh rh tl rl I L)) rfl ?_
    refine bs_br (t := 24) (e := 17) (lo := [some (.ref 89), some (.int x1), some (.int x2), none]) (st := []) (h := hp kp nh rh tl rl I L) rfl hf (fun hc hf => ?_) (fun hc hf => ?_)
    · refine bs_st 7 (x' := (33, [some (.ref 89), some (.int x1), some (.int x2), none], [.long x2.toInt64, .long x1.toInt64, .long ((I 89 10).toInt64)], hp kp nh rh tl rl I L)) rfl ?_
      obtain ⟨q0, hq0, hf⟩ := Option.bind_eq_some_iff.mp hf
      refine bs_call (o := pEN Ls xs (d + 2) 201 [.long ((I 89 10).toInt64), .long x1.toInt64, .long x2.toInt64] (hp kp nh rh tl rl I L)) (w := some (.int q0)) (h' := hp kp nh rh tl rl I L) (pc := 36) (lo := [some (.ref 89), some (.int x1), some (.int x2), none]) (rest := []) rfl (t_201 Ls xs (d + 1) kp tl rl nh rh ((I 89 10).toInt64) x1.toInt64 x2.toInt64 I L q0 hq0) ?_
      refine bs_br (t := 46) (e := 39) (lo := [some (.ref 89), some (.int x1), some (.int x2), none]) (st := []) (h := hp kp nh rh tl rl I L) rfl hf (fun hc hf => ?_) (fun hc hf => ?_)
      · refine bs_st 4 (x' := (52, [some (.ref 89), some (.int x1), some (.int x2), some (.int (I 89 10))], [.ref 89], hp kp nh rh tl rl I L)) rfl ?_
        obtain ⟨q1, hq1, hf⟩ := Option.bind_eq_some_iff.mp hf
        refine bs_call (o := pEN Ls xs (d + 2) 211 [.ref 89] (hp kp nh rh tl rl I L)) (w := none) (h' := hp kp nh rh tl rl q1.1 q1.2) (pc := 55) (lo := [some (.ref 89), some (.int x1), some (.int x2), some (.int (I 89 10))]) (rest := []) rfl (t_211 Ls xs (d + 0) kp tl rl nh rh n I L q1 hq1) ?_
        refine bs_st 1 (x' := (56, [some (.ref 89), some (.int x1), some (.int x2), some (.int (I 89 10))], [.int (I 89 10)], hp kp nh rh tl rl q1.1 q1.2)) rfl ?_
        cases hf
        exact bs_ret rfl
      · refine bs_st 2 (x' := (41, [some (.ref 89), some (.int x1), some (.int x2), none], [.int (2 : Int32), .ref 89], hp kp nh rh tl rl I L)) rfl ?_
        obtain ⟨q2, hq2, hf⟩ := Option.bind_eq_some_iff.mp hf
        refine bs_call (o := pEN Ls xs (d + 2) 213 [.ref 89, .int (2 : Int32)] (hp kp nh rh tl rl I L)) (w := none) (h' := hp kp nh rh tl rl q2.1 q2.2) (pc := 44) (lo := [some (.ref 89), some (.int x1), some (.int x2), none]) (rest := []) rfl (t_213 Ls xs (d + 1) kp tl rl nh rh (2 : Int32) I L q2 hq2) ?_
        refine bs_st 1 (x' := (45, [some (.ref 89), some (.int x1), some (.int x2), none], [.int x1], hp kp nh rh tl rl q2.1 q2.2)) rfl ?_
        cases hf
        exact bs_ret rfl
    · refine bs_st 2 (x' := (19, [some (.ref 89), some (.int x1), some (.int x2), none], [.int (1 : Int32), .ref 89], hp kp nh rh tl rl I L)) rfl ?_
      obtain ⟨q3, hq3, hf⟩ := Option.bind_eq_some_iff.mp hf
      refine bs_call (o := pEN Ls xs (d + 2) 213 [.ref 89, .int (1 : Int32)] (hp kp nh rh tl rl I L)) (w := none) (h' := hp kp nh rh tl rl q3.1 q3.2) (pc := 22) (lo := [some (.ref 89), some (.int x1), some (.int x2), none]) (rest := []) rfl (t_213 Ls xs (d + 1) kp tl rl nh rh (1 : Int32) I L q3 hq3) ?_
      refine bs_st 1 (x' := (23, [some (.ref 89), some (.int x1), some (.int x2), none], [.int x1], hp kp nh rh tl rl q3.1 q3.2)) rfl ?_
      cases hf
      exact bs_ret rfl
  · refine bs_st 1 (x' := (8, [some (.ref 89), some (.int x1), some (.int x2), none], [.int x1], hp kp nh rh tl rl I L)) rfl ?_
    cases hf
    exact bs_ret rfl
/-- LampRoundsModel.number(JII) on (89,) -/
def f_218 (n : Nat) (y1 : Int64) (x3 : Int32) (x4 : Int32) (I : FI) (L : FL) : Option (Int32 × FI × FL) :=
  (f_216 n y1 I L).bind fun q0 =>
  (f_217 n x3 x4 q0.1 q0.2).bind fun q1 =>
  some (q1.1, q1.2.1, q1.2.2)
set_option maxHeartbeats 1000000 in
set_option maxRecDepth 20000 in
theorem t_218 (Ls : Nat) (xs : Nat → Int32) (d : Nat) (kp : Option Nat) (tl : List (Nat × Nat)) (rl : List (List (Option Nat))) (nh : Option Nat) (rh : Option Nat) (n : Nat) (y1 : Int64) (x3 : Int32) (x4 : Int32) (I : FI) (L : FL) (r : Int32 × FI × FL) (hf : f_218 n y1 x3 x4 I L = some r) : pEN Ls xs (d + 5) 218 [.ref 89, .long y1, .int x3, .int x4] (hp kp nh rh tl rl I L) = some (some (.int r.1), hp kp nh rh tl rl r.2.1 r.2.2) := by
  refine en_run (d := d + 4) (cd := cd_218) (f := (sf 12 rs_12 false 5 (some (.int)) Ls xs (d + 4))) rfl rfl (x := (0, [some (.ref 89), some (.long y1), none, some (.int x3), some (.int x4)], [], hp kp nh rh tl rl I L)) rfl rfl (Nat.le_of_ble_eq_true rfl) ?_
  unfold f_218 at hf
  refine bs_st 2 (x' := (2, [some (.ref 89), some (.long y1), none, some (.int x3), some (.int x4)], [.long y1, .ref 89], hp kp nh rh tl rl I L)) rfl ?_
  obtain ⟨q0, hq0, hf⟩ := Option.bind_eq_some_iff.mp hf
  refine bs_call (o := pEN Ls xs (d + 4) 216 [.ref 89, .long y1] (hp kp nh rh tl rl I L)) (w := none) (h' := hp kp nh rh tl rl q0.1 q0.2) (pc := 5) (lo := [some (.ref 89), some (.long y1), none, some (.int x3), some (.int x4)]) (rest := []) rfl (t_216 Ls xs (d + 0) kp tl rl nh rh n y1 I L q0 hq0) ?_
  refine bs_st 3 (x' := (9, [some (.ref 89), some (.long y1), none, some (.int x3), some (.int x4)], [.int x4, .int x3, .ref 89], hp kp nh rh tl rl q0.1 q0.2)) rfl ?_
  obtain ⟨q1, hq1, hf⟩ := Option.bind_eq_some_iff.mp hf
  refine bs_call (o := pEN Ls xs (d + 4) 217 [.ref 89, .int x3, .int x4] (hp kp nh rh tl rl q0.1 q0.2)) (w := some (.int q1.1)) (h' := hp kp nh rh tl rl q1.2.1 q1.2.2) (pc := 12) (lo := [some (.ref 89), some (.long y1), none, some (.int x3), some (.int x4)]) (rest := []) rfl (t_217 Ls xs (d + 1) kp tl rl nh rh n x3 x4 q0.1 q0.2 q1 hq1) ?_
  cases hf
  exact bs_ret rfl
/-- LampRoundsModel.ends() on (89,) -/
def c_219_0 (n : Nat) (I : FI) (L : FL) : Option (FI × FL) :=
  if ¬ I 89 12 = 0 then
    some (I, L)
  else
    (f_211 n I L).bind fun q0 =>
    some (q0.1, q0.2)
set_option maxHeartbeats 1000000 in
set_option maxRecDepth 20000 in
theorem tc_219_0 (Ls : Nat) (xs : Nat → Int32) (d : Nat) (kp : Option Nat) (tl : List (Nat × Nat)) (rl : List (List (Option Nat))) (nh : Option Nat) (rh : Option Nat) (n : Nat) (I : FI) (L : FL) (r : FI × FL) (hf : c_219_0 n I L = some r) : Bs cd_219 (sf 12 rs_12 false 1 none Ls xs (d + 2)) (13, [some (.ref 89)], [], hp kp nh rh tl rl I L) (none, hp kp nh rh tl rl r.1 r.2) := by
  unfold c_219_0 at hf
  refine bs_st 2 (x' := (17, [some (.ref 89)], [.int (I 89 12)], hp kp nh rh tl rl I L)) rfl ?_
  refine bs_br (t := 24) (e := 20) (lo := [some (.ref 89)]) (st := []) (h := hp kp nh rh tl rl I L) rfl hf (fun hc hf => ?_) (fun hc hf => ?_)
  · cases hf
    exact bs_ret rfl
  · refine bs_st 1 (x' := (21, [some (.ref 89)], [.ref 89], hp kp nh rh tl rl I L)) rfl ?_
    obtain ⟨q0, hq0, hf⟩ := Option.bind_eq_some_iff.mp hf
    refine bs_call (o := pEN Ls xs (d + 2) 211 [.ref 89] (hp kp nh rh tl rl I L)) (w := none) (h' := hp kp nh rh tl rl q0.1 q0.2) (pc := 24) (lo := [some (.ref 89)]) (rest := []) rfl (t_211 Ls xs (d + 0) kp tl rl nh rh n I L q0 hq0) ?_
    cases hf
    exact bs_ret rfl
def f_219 (n : Nat) (I : FI) (L : FL) : Option (FI × FL) :=
  if I 89 8 = (3 : Int32) then
    c_219_0 n I L
  else
    (f_213 (1 : Int32) I L).bind fun q1 =>
    c_219_0 n q1.1 q1.2
set_option maxHeartbeats 1000000 in
set_option maxRecDepth 20000 in
theorem t_219 (Ls : Nat) (xs : Nat → Int32) (d : Nat) (kp : Option Nat) (tl : List (Nat × Nat)) (rl : List (List (Option Nat))) (nh : Option Nat) (rh : Option Nat) (n : Nat) (I : FI) (L : FL) (r : FI × FL) (hf : f_219 n I L = some r) : pEN Ls xs (d + 3) 219 [.ref 89] (hp kp nh rh tl rl I L) = some (none, hp kp nh rh tl rl r.1 r.2) := by
  refine en_run (d := d + 2) (cd := cd_219) (f := (sf 12 rs_12 false 1 none Ls xs (d + 2))) rfl rfl (x := (0, [some (.ref 89)], [], hp kp nh rh tl rl I L)) rfl rfl (Nat.le_of_ble_eq_true rfl) ?_
  unfold f_219 at hf
  refine bs_st 3 (x' := (5, [some (.ref 89)], [.int (3 : Int32), .int (I 89 8)], hp kp nh rh tl rl I L)) rfl ?_
  refine bs_br (t := 13) (e := 8) (lo := [some (.ref 89)]) (st := []) (h := hp kp nh rh tl rl I L) rfl hf (fun hc hf => ?_) (fun hc hf => ?_)
  · exact tc_219_0 Ls xs d kp tl rl nh rh n I L r hf
  · refine bs_st 2 (x' := (10, [some (.ref 89)], [.int (1 : Int32), .ref 89], hp kp nh rh tl rl I L)) rfl ?_
    obtain ⟨q1, hq1, hf⟩ := Option.bind_eq_some_iff.mp hf
    refine bs_call (o := pEN Ls xs (d + 2) 213 [.ref 89, .int (1 : Int32)] (hp kp nh rh tl rl I L)) (w := none) (h' := hp kp nh rh tl rl q1.1 q1.2) (pc := 13) (lo := [some (.ref 89)]) (rest := []) rfl (t_213 Ls xs (d + 1) kp tl rl nh rh (1 : Int32) I L q1 hq1) ?_
    exact tc_219_0 Ls xs d kp tl rl nh rh n q1.1 q1.2 r hf
/-- LampRoundsModel.begins() on (89,) -/
def f_220 (n : Nat) (I : FI) (L : FL) : Option (FI × FL) :=
  (f_211 n (u2 (u2 (u2 I 89 12 (0 : Int32)) 89 13 (-1 : Int32)) 89 7 (0 : Int32)) L).bind fun q0 =>
  some (q0.1, q0.2)
set_option maxHeartbeats 1000000 in
set_option maxRecDepth 20000 in
theorem t_220 (Ls : Nat) (xs : Nat → Int32) (d : Nat) (kp : Option Nat) (tl : List (Nat × Nat)) (rl : List (List (Option Nat))) (nh : Option Nat) (rh : Option Nat) (n : Nat) (I : FI) (L : FL) (r : FI × FL) (hf : f_220 n I L = some r) : pEN Ls xs (d + 3) 220 [.ref 89] (hp kp nh rh tl rl I L) = some (none, hp kp nh rh tl rl r.1 r.2) := by
  refine en_run (d := d + 2) (cd := cd_220) (f := (sf 12 rs_12 false 1 none Ls xs (d + 2))) rfl rfl (x := (0, [some (.ref 89)], [], hp kp nh rh tl rl I L)) rfl rfl (Nat.le_of_ble_eq_true rfl) ?_
  unfold f_220 at hf
  refine bs_st 10 (x' := (16, [some (.ref 89)], [.ref 89], hp kp nh rh tl rl (u2 (u2 (u2 I 89 12 (0 : Int32)) 89 13 (-1 : Int32)) 89 7 (0 : Int32)) L)) rfl ?_
  obtain ⟨q0, hq0, hf⟩ := Option.bind_eq_some_iff.mp hf
  refine bs_call (o := pEN Ls xs (d + 2) 211 [.ref 89] (hp kp nh rh tl rl (u2 (u2 (u2 I 89 12 (0 : Int32)) 89 13 (-1 : Int32)) 89 7 (0 : Int32)) L)) (w := none) (h' := hp kp nh rh tl rl q0.1 q0.2) (pc := 19) (lo := [some (.ref 89)]) (rest := []) rfl (t_211 Ls xs (d + 0) kp tl rl nh rh n (u2 (u2 (u2 I 89 12 (0 : Int32)) 89 13 (-1 : Int32)) 89 7 (0 : Int32)) L q0 hq0) ?_
  cases hf
  exact bs_ret rfl
/-- LampRoundsModel.isOver() on (89,) -/
def f_221 (I : FI) (L : FL) : Option (FI × FL) :=
  if ¬ I 89 12 = 0 then
    some ((u2 (u2 (u2 I 89 6 (0 : Int32)) 89 14 (I 89 12)) 89 15 (I 89 13)), L)
  else
    some ((u2 (u2 (u2 I 89 6 (0 : Int32)) 89 14 (I 89 12)) 89 15 (-1 : Int32)), L)
set_option maxHeartbeats 1000000 in
set_option maxRecDepth 20000 in
theorem t_221 (Ls : Nat) (xs : Nat → Int32) (d : Nat) (kp : Option Nat) (tl : List (Nat × Nat)) (rl : List (List (Option Nat))) (nh : Option Nat) (rh : Option Nat) (I : FI) (L : FL) (r : FI × FL) (hf : f_221 I L = some r) : pEN Ls xs (d + 1) 221 [.ref 89] (hp kp nh rh tl rl I L) = some (none, hp kp nh rh tl rl r.1 r.2) := by
  refine en_run (d := d + 0) (cd := cd_221) (f := (sf 12 rs_12 false 1 none Ls xs (d + 0))) rfl rfl (x := (0, [some (.ref 89)], [], hp kp nh rh tl rl I L)) rfl rfl (Nat.le_of_ble_eq_true rfl) ?_
  unfold f_221 at hf
  refine bs_st 10 (x' := (18, [some (.ref 89)], [.int (I 89 12), .ref 89], hp kp nh rh tl rl (u2 (u2 I 89 6 (0 : Int32)) 89 14 (I 89 12)) L)) rfl ?_
  refine bs_br (t := 25) (e := 21) (lo := [some (.ref 89)]) (st := [.ref 89]) (h := hp kp nh rh tl rl (u2 (u2 I 89 6 (0 : Int32)) 89 14 (I 89 12)) L) rfl hf (fun hc hf => ?_) (fun hc hf => ?_)
  · refine bs_st 3 (x' := (32, [some (.ref 89)], [], hp kp nh rh tl rl (u2 (u2 (u2 I 89 6 (0 : Int32)) 89 14 (I 89 12)) 89 15 (I 89 13)) L)) rfl ?_
    cases hf
    exact bs_ret rfl
  · refine bs_st 3 (x' := (32, [some (.ref 89)], [], hp kp nh rh tl rl (u2 (u2 (u2 I 89 6 (0 : Int32)) 89 14 (I 89 12)) 89 15 (-1 : Int32)) L)) rfl ?_
    cases hf
    exact bs_ret rfl
/-- LampRoundsModel.fault(I) on (89,) -/
def f_222 (x1 : Int32) (I : FI) (L : FL) : Option (Int32 × FI × FL) :=
  if ¬ x1 = 0 then
    if ¬ x1 = (1 : Int32) then
      some ((-1 : Int32), (u2 I 89 0 (0 : Int32)), L)
    else
      some (I 89 15, (u2 I 89 0 (0 : Int32)), L)
  else
    some (I 89 14, (u2 I 89 0 (0 : Int32)), L)
set_option maxHeartbeats 1000000 in
set_option maxRecDepth 20000 in
theorem t_222 (Ls : Nat) (xs : Nat → Int32) (d : Nat) (kp : Option Nat) (tl : List (Nat × Nat)) (rl : List (List (Option Nat))) (nh : Option Nat) (rh : Option Nat) (x1 : Int32) (I : FI) (L : FL) (r : Int32 × FI × FL) (hf : f_222 x1 I L = some r) : pEN Ls xs (d + 1) 222 [.ref 89, .int x1] (hp kp nh rh tl rl I L) = some (some (.int r.1), hp kp nh rh tl rl r.2.1 r.2.2) := by
  refine en_run (d := d + 0) (cd := cd_222) (f := (sf 12 rs_12 false 2 (some (.int)) Ls xs (d + 0))) rfl rfl (x := (0, [some (.ref 89), some (.int x1)], [], hp kp nh rh tl rl I L)) rfl rfl (Nat.le_of_ble_eq_true rfl) ?_
  unfold f_222 at hf
  refine bs_st 4 (x' := (6, [some (.ref 89), some (.int x1)], [.int x1], hp kp nh rh tl rl (u2 I 89 0 (0 : Int32)) L)) rfl ?_
  refine bs_br (t := 16) (e := 9) (lo := [some (.ref 89), some (.int x1)]) (st := []) (h := hp kp nh rh tl rl (u2 I 89 0 (0 : Int32)) L) rfl hf (fun hc hf => ?_) (fun hc hf => ?_)
  · refine bs_st 2 (x' := (18, [some (.ref 89), some (.int x1)], [.int (1 : Int32), .int x1], hp kp nh rh tl rl (u2 I 89 0 (0 : Int32)) L)) rfl ?_
    refine bs_br (t := 28) (e := 21) (lo := [some (.ref 89), some (.int x1)]) (st := []) (h := hp kp nh rh tl rl (u2 I 89 0 (0 : Int32)) L) rfl hf (fun hc hf => ?_) (fun hc hf => ?_)
    · refine bs_st 1 (x' := (29, [some (.ref 89), some (.int x1)], [.int (-1 : Int32)], hp kp nh rh tl rl (u2 I 89 0 (0 : Int32)) L)) rfl ?_
      cases hf
      exact bs_ret rfl
    · refine bs_st 3 (x' := (29, [some (.ref 89), some (.int x1)], [.int (I 89 15)], hp kp nh rh tl rl (u2 I 89 0 (0 : Int32)) L)) rfl ?_
      cases hf
      exact bs_ret rfl
  · refine bs_st 3 (x' := (29, [some (.ref 89), some (.int x1)], [.int (I 89 14)], hp kp nh rh tl rl (u2 I 89 0 (0 : Int32)) L)) rfl ?_
    cases hf
    exact bs_ret rfl
/-- LampRoundsModel.hasRead(I) on (89,) -/
def f_223 (x1 : Int32) (I : FI) (L : FL) : Option (Int32) :=
  if pin ((36 : Int32) + x1) 45 = true then some (I 96 (((36 : Int32) + x1).toNatClampNeg)) else none
set_option maxHeartbeats 1000000 in
set_option maxRecDepth 20000 in
theorem t_223 (Ls : Nat) (xs : Nat → Int32) (d : Nat) (kp : Option Nat) (tl : List (Nat × Nat)) (rl : List (List (Option Nat))) (nh : Option Nat) (rh : Option Nat) (x1 : Int32) (I : FI) (L : FL) (r : Int32) (hf : f_223 x1 I L = some r) : pEN Ls xs (d + 1) 223 [.ref 89, .int x1] (hp kp nh rh tl rl I L) = some (some (.int r), hp kp nh rh tl rl I L) := by
  refine en_run (d := d + 0) (cd := cd_223) (f := (sf 12 rs_12 false 2 (some (.int)) Ls xs (d + 0))) rfl rfl (x := (0, [some (.ref 89), some (.int x1)], [], hp kp nh rh tl rl I L)) rfl rfl (Nat.le_of_ble_eq_true rfl) ?_
  unfold f_223 at hf
  refine bs_st 5 (x' := (8, [some (.ref 89), some (.int x1)], [.int ((36 : Int32) + x1), .ref 96], hp kp nh rh tl rl I L)) rfl ?_
  refine bs_gd (x' := (9, [some (.ref 89), some (.int x1)], [.int (I 96 (((36 : Int32) + x1).toNatClampNeg))], hp kp nh rh tl rl I L)) rfl hf (fun hc hf => ?_)
  cases hf
  exact bs_ret rfl
/-- LampRoundsModel.tells(II) on (89,) -/
def f_224 (x1 : Int32) (x2 : Int32) (I : FI) (L : FL) : Option (FI × FL) :=
  if pin ((36 : Int32) + x1) 45 = true then some ((u2 I 96 (((36 : Int32) + x1).toNatClampNeg) x2), L) else none
set_option maxHeartbeats 1000000 in
set_option maxRecDepth 20000 in
theorem t_224 (Ls : Nat) (xs : Nat → Int32) (d : Nat) (kp : Option Nat) (tl : List (Nat × Nat)) (rl : List (List (Option Nat))) (nh : Option Nat) (rh : Option Nat) (x1 : Int32) (x2 : Int32) (I : FI) (L : FL) (r : FI × FL) (hf : f_224 x1 x2 I L = some r) : pEN Ls xs (d + 1) 224 [.ref 89, .int x1, .int x2] (hp kp nh rh tl rl I L) = some (none, hp kp nh rh tl rl r.1 r.2) := by
  refine en_run (d := d + 0) (cd := cd_224) (f := (sf 12 rs_12 false 3 none Ls xs (d + 0))) rfl rfl (x := (0, [some (.ref 89), some (.int x1), some (.int x2)], [], hp kp nh rh tl rl I L)) rfl rfl (Nat.le_of_ble_eq_true rfl) ?_
  unfold f_224 at hf
  refine bs_st 6 (x' := (9, [some (.ref 89), some (.int x1), some (.int x2)], [.int x2, .int ((36 : Int32) + x1), .ref 96], hp kp nh rh tl rl I L)) rfl ?_
  refine bs_gd (x' := (10, [some (.ref 89), some (.int x1), some (.int x2)], [], hp kp nh rh tl rl (u2 I 96 (((36 : Int32) + x1).toNatClampNeg) x2) L)) rfl hf (fun hc hf => ?_)
  cases hf
  exact bs_ret rfl
/-- LampRoundsModel.roomHere() on (89,) -/
def f_225 (n : Nat) (I : FI) (L : FL) : Option (Int32 × FI × FL) :=
  (f_223 (3 : Int32) I L).bind fun q0 =>
  (f_217 n (0 : Int32) (q0 - (1 : Int32)) I L).bind fun q1 =>
  some (q1.1, q1.2.1, q1.2.2)
set_option maxHeartbeats 1000000 in
set_option maxRecDepth 20000 in
theorem t_225 (Ls : Nat) (xs : Nat → Int32) (d : Nat) (kp : Option Nat) (tl : List (Nat × Nat)) (rl : List (List (Option Nat))) (nh : Option Nat) (rh : Option Nat) (n : Nat) (I : FI) (L : FL) (r : Int32 × FI × FL) (hf : f_225 n I L = some r) : pEN Ls xs (d + 4) 225 [.ref 89] (hp kp nh rh tl rl I L) = some (some (.int r.1), hp kp nh rh tl rl r.2.1 r.2.2) := by
  refine en_run (d := d + 3) (cd := cd_225) (f := (sf 12 rs_12 false 1 (some (.int)) Ls xs (d + 3))) rfl rfl (x := (0, [some (.ref 89)], [], hp kp nh rh tl rl I L)) rfl rfl (Nat.le_of_ble_eq_true rfl) ?_
  unfold f_225 at hf
  refine bs_st 4 (x' := (4, [some (.ref 89)], [.int (3 : Int32), .ref 89, .int (0 : Int32), .ref 89], hp kp nh rh tl rl I L)) rfl ?_
  obtain ⟨q0, hq0, hf⟩ := Option.bind_eq_some_iff.mp hf
  refine bs_call (o := pEN Ls xs (d + 3) 223 [.ref 89, .int (3 : Int32)] (hp kp nh rh tl rl I L)) (w := some (.int q0)) (h' := hp kp nh rh tl rl I L) (pc := 7) (lo := [some (.ref 89)]) (rest := [.int (0 : Int32), .ref 89]) rfl (t_223 Ls xs (d + 2) kp tl rl nh rh (3 : Int32) I L q0 hq0) ?_
  refine bs_st 2 (x' := (9, [some (.ref 89)], [.int (q0 - (1 : Int32)), .int (0 : Int32), .ref 89], hp kp nh rh tl rl I L)) rfl ?_
  obtain ⟨q1, hq1, hf⟩ := Option.bind_eq_some_iff.mp hf
  refine bs_call (o := pEN Ls xs (d + 3) 217 [.ref 89, .int (0 : Int32), .int (q0 - (1 : Int32))] (hp kp nh rh tl rl I L)) (w := some (.int q1.1)) (h' := hp kp nh rh tl rl q1.2.1 q1.2.2) (pc := 12) (lo := [some (.ref 89)]) (rest := []) rfl (t_217 Ls xs (d + 0) kp tl rl nh rh n (0 : Int32) (q0 - (1 : Int32)) I L q1 hq1) ?_
  cases hf
  exact bs_ret rfl
/-- LampRoundsModel.roomLine() on (89,) -/
def f_226 (n : Nat) (I : FI) (L : FL) : Option (FI × FL) :=
  (f_223 (3 : Int32) I L).bind fun q0 =>
  (f_218 n (453701 : Int64) (1 : Int32) (7 : Int32) I L).bind fun q1 =>
  if pin ((2 : Int32) * ((16 : Int32) + q0)) 40 = true then ((f_218 n (12532058 : Int64) (0 : Int32) (99 : Int32) (u2 q1.2.1 97 (((2 : Int32) * ((16 : Int32) + q0)).toNatClampNeg) q1.1) q1.2.2).bind fun q2 =>
    if pin (((2 : Int32) * ((16 : Int32) + q0)) + (1 : Int32)) 40 = true then ((f_223 (3 : Int32) (u2 q2.2.1 97 ((((2 : Int32) * ((16 : Int32) + q0)) + (1 : Int32)).toNatClampNeg) q2.1) q2.2.2).bind fun q3 =>
      (f_224 (3 : Int32) (q3 + (1 : Int32)) (u2 q2.2.1 97 ((((2 : Int32) * ((16 : Int32) + q0)) + (1 : Int32)).toNatClampNeg) q2.1) q2.2.2).bind fun q4 =>
      some (q4.1, q4.2)) else none) else none
set_option maxHeartbeats 1000000 in
set_option maxRecDepth 20000 in
theorem t_226 (Ls : Nat) (xs : Nat → Int32) (d : Nat) (kp : Option Nat) (tl : List (Nat × Nat)) (rl : List (List (Option Nat))) (nh : Option Nat) (rh : Option Nat) (n : Nat) (I : FI) (L : FL) (r : FI × FL) (hf : f_226 n I L = some r) : pEN Ls xs (d + 6) 226 [.ref 89] (hp kp nh rh tl rl I L) = some (none, hp kp nh rh tl rl r.1 r.2) := by
  refine en_run (d := d + 5) (cd := cd_226) (f := (sf 12 rs_12 false 2 none Ls xs (d + 5))) rfl rfl (x := (0, [some (.ref 89), none], [], hp kp nh rh tl rl I L)) rfl rfl (Nat.le_of_ble_eq_true rfl) ?_
  unfold f_226 at hf
  refine bs_st 4 (x' := (5, [some (.ref 89), none], [.int (3 : Int32), .ref 89, .int (16 : Int32), .int (2 : Int32)], hp kp nh rh tl rl I L)) rfl ?_
  obtain ⟨q0, hq0, hf⟩ := Option.bind_eq_some_iff.mp hf
  refine bs_call (o := pEN Ls xs (d + 5) 223 [.ref 89, .int (3 : Int32)] (hp kp nh rh tl rl I L)) (w := some (.int q0)) (h' := hp kp nh rh tl rl I L) (pc := 8) (lo := [some (.ref 89), none]) (rest := [.int (16 : Int32), .int (2 : Int32)]) rfl (t_223 Ls xs (d + 4) kp tl rl nh rh (3 : Int32) I L q0 hq0) ?_
  refine bs_st 10 (x' := (23, [some (.ref 89), some (.int ((2 : Int32) * ((16 : Int32) + q0)))], [.int (7 : Int32), .int (1 : Int32), .long (453701 : Int64), .ref 89, .int ((2 : Int32) * ((16 : Int32) + q0)), .ref 97], hp kp nh rh tl rl I L)) rfl ?_
  obtain ⟨q1, hq1, hf⟩ := Option.bind_eq_some_iff.mp hf
  refine bs_call (o := pEN Ls xs (d + 5) 218 [.ref 89, .long (453701 : Int64), .int (1 : Int32), .int (7 : Int32)] (hp kp nh rh tl rl I L)) (w := some (.int q1.1)) (h' := hp kp nh rh tl rl q1.2.1 q1.2.2) (pc := 26) (lo := [some (.ref 89), some (.int ((2 : Int32) * ((16 : Int32) + q0)))]) (rest := [.int ((2 : Int32) * ((16 : Int32) + q0)), .ref 97]) rfl (t_218 Ls xs (d + 0) kp tl rl nh rh n (453701 : Int64) (1 : Int32) (7 : Int32) I L q1 hq1) ?_
  refine bs_gd (x' := (27, [some (.ref 89), some (.int ((2 : Int32) * ((16 : Int32) + q0)))], [], hp kp nh rh tl rl (u2 q1.2.1 97 (((2 : Int32) * ((16 : Int32) + q0)).toNatClampNeg) q1.1) q1.2.2)) rfl hf (fun hc hf => ?_)
  refine bs_st 9 (x' := (41, [some (.ref 89), some (.int ((2 : Int32) * ((16 : Int32) + q0)))], [.int (99 : Int32), .int (0 : Int32), .long (12532058 : Int64), .ref 89, .int (((2 : Int32) * ((16 : Int32) + q0)) + (1 : Int32)), .ref 97], hp kp nh rh tl rl (u2 q1.2.1 97 (((2 : Int32) * ((16 : Int32) + q0)).toNatClampNeg) q1.1) q1.2.2)) rfl ?_
  obtain ⟨q2, hq2, hf⟩ := Option.bind_eq_some_iff.mp hf
  refine bs_call (o := pEN Ls xs (d + 5) 218 [.ref 89, .long (12532058 : Int64), .int (0 : Int32), .int (99 : Int32)] (hp kp nh rh tl rl (u2 q1.2.1 97 (((2 : Int32) * ((16 : Int32) + q0)).toNatClampNeg) q1.1) q1.2.2)) (w := some (.int q2.1)) (h' := hp kp nh rh tl rl q2.2.1 q2.2.2) (pc := 44) (lo := [some (.ref 89), some (.int ((2 : Int32) * ((16 : Int32) + q0)))]) (rest := [.int (((2 : Int32) * ((16 : Int32) + q0)) + (1 : Int32)), .ref 97]) rfl (t_218 Ls xs (d + 0) kp tl rl nh rh n (12532058 : Int64) (0 : Int32) (99 : Int32) (u2 q1.2.1 97 (((2 : Int32) * ((16 : Int32) + q0)).toNatClampNeg) q1.1) q1.2.2 q2 hq2) ?_
  refine bs_gd (x' := (45, [some (.ref 89), some (.int ((2 : Int32) * ((16 : Int32) + q0)))], [], hp kp nh rh tl rl (u2 q2.2.1 97 ((((2 : Int32) * ((16 : Int32) + q0)) + (1 : Int32)).toNatClampNeg) q2.1) q2.2.2)) rfl hf (fun hc hf => ?_)
  refine bs_st 4 (x' := (49, [some (.ref 89), some (.int ((2 : Int32) * ((16 : Int32) + q0)))], [.int (3 : Int32), .ref 89, .int (3 : Int32), .ref 89], hp kp nh rh tl rl (u2 q2.2.1 97 ((((2 : Int32) * ((16 : Int32) + q0)) + (1 : Int32)).toNatClampNeg) q2.1) q2.2.2)) rfl ?_
  obtain ⟨q3, hq3, hf⟩ := Option.bind_eq_some_iff.mp hf
  refine bs_call (o := pEN Ls xs (d + 5) 223 [.ref 89, .int (3 : Int32)] (hp kp nh rh tl rl (u2 q2.2.1 97 ((((2 : Int32) * ((16 : Int32) + q0)) + (1 : Int32)).toNatClampNeg) q2.1) q2.2.2)) (w := some (.int q3)) (h' := hp kp nh rh tl rl (u2 q2.2.1 97 ((((2 : Int32) * ((16 : Int32) + q0)) + (1 : Int32)).toNatClampNeg) q2.1) q2.2.2) (pc := 52) (lo := [some (.ref 89), some (.int ((2 : Int32) * ((16 : Int32) + q0)))]) (rest := [.int (3 : Int32), .ref 89]) rfl (t_223 Ls xs (d + 4) kp tl rl nh rh (3 : Int32) (u2 q2.2.1 97 ((((2 : Int32) * ((16 : Int32) + q0)) + (1 : Int32)).toNatClampNeg) q2.1) q2.2.2 q3 hq3) ?_
  refine bs_st 2 (x' := (54, [some (.ref 89), some (.int ((2 : Int32) * ((16 : Int32) + q0)))], [.int (q3 + (1 : Int32)), .int (3 : Int32), .ref 89], hp kp nh rh tl rl (u2 q2.2.1 97 ((((2 : Int32) * ((16 : Int32) + q0)) + (1 : Int32)).toNatClampNeg) q2.1) q2.2.2)) rfl ?_
  obtain ⟨q4, hq4, hf⟩ := Option.bind_eq_some_iff.mp hf
  refine bs_call (o := pEN Ls xs (d + 5) 224 [.ref 89, .int (3 : Int32), .int (q3 + (1 : Int32))] (hp kp nh rh tl rl (u2 q2.2.1 97 ((((2 : Int32) * ((16 : Int32) + q0)) + (1 : Int32)).toNatClampNeg) q2.1) q2.2.2)) (w := none) (h' := hp kp nh rh tl rl q4.1 q4.2) (pc := 57) (lo := [some (.ref 89), some (.int ((2 : Int32) * ((16 : Int32) + q0)))]) (rest := []) rfl (t_224 Ls xs (d + 4) kp tl rl nh rh (3 : Int32) (q3 + (1 : Int32)) (u2 q2.2.1 97 ((((2 : Int32) * ((16 : Int32) + q0)) + (1 : Int32)).toNatClampNeg) q2.1) q2.2.2 q4 hq4) ?_
  cases hf
  exact bs_ret rfl
/-- LampRoundsModel.wayLine() on (89,) -/
def c_227_0 (n : Nat) (x1 : Int32) (I : FI) (L : FL) : Option (FI × FL) :=
  (f_225 n I L).bind fun q2 =>
  if pin (x1 + (1 : Int32)) 60 = true then ((f_223 (4 : Int32) (u2 q2.2.1 98 ((x1 + (1 : Int32)).toNatClampNeg) q2.1) q2.2.2).bind fun q3 =>
    (f_224 (4 : Int32) (q3 + (1 : Int32)) (u2 q2.2.1 98 ((x1 + (1 : Int32)).toNatClampNeg) q2.1) q2.2.2).bind fun q4 =>
    some (q4.1, q4.2)) else none
set_option maxHeartbeats 1000000 in
set_option maxRecDepth 20000 in
theorem tc_227_0 (Ls : Nat) (xs : Nat → Int32) (d : Nat) (kp : Option Nat) (tl : List (Nat × Nat)) (rl : List (List (Option Nat))) (nh : Option Nat) (rh : Option Nat) (n : Nat) (x1 : Int32) (I : FI) (L : FL) (r : FI × FL) (hf : c_227_0 n x1 I L = some r) : Bs cd_227 (sf 12 rs_12 false 2 none Ls xs (d + 4)) (54, [some (.ref 89), some (.int x1)], [], hp kp nh rh tl rl I L) (none, hp kp nh rh tl rl r.1 r.2) := by
  unfold c_227_0 at hf
  refine bs_st 6 (x' := (62, [some (.ref 89), some (.int x1)], [.ref 89, .int (x1 + (1 : Int32)), .ref 98], hp kp nh rh tl rl I L)) rfl ?_
  obtain ⟨q2, hq2, hf⟩ := Option.bind_eq_some_iff.mp hf
  refine bs_call (o := pEN Ls xs (d + 4) 225 [.ref 89] (hp kp nh rh tl rl I L)) (w := some (.int q2.1)) (h' := hp kp nh rh tl rl q2.2.1 q2.2.2) (pc := 65) (lo := [some (.ref 89), some (.int x1)]) (rest := [.int (x1 + (1 : Int32)), .ref 98]) rfl (t_225 Ls xs (d + 0) kp tl rl nh rh n I L q2 hq2) ?_
  refine bs_gd (x' := (66, [some (.ref 89), some (.int x1)], [], hp kp nh rh tl rl (u2 q2.2.1 98 ((x1 + (1 : Int32)).toNatClampNeg) q2.1) q2.2.2)) rfl hf (fun hc hf => ?_)
  refine bs_st 4 (x' := (70, [some (.ref 89), some (.int x1)], [.int (4 : Int32), .ref 89, .int (4 : Int32), .ref 89], hp kp nh rh tl rl (u2 q2.2.1 98 ((x1 + (1 : Int32)).toNatClampNeg) q2.1) q2.2.2)) rfl ?_
  obtain ⟨q3, hq3, hf⟩ := Option.bind_eq_some_iff.mp hf
  refine bs_call (o := pEN Ls xs (d + 4) 223 [.ref 89, .int (4 : Int32)] (hp kp nh rh tl rl (u2 q2.2.1 98 ((x1 + (1 : Int32)).toNatClampNeg) q2.1) q2.2.2)) (w := some (.int q3)) (h' := hp kp nh rh tl rl (u2 q2.2.1 98 ((x1 + (1 : Int32)).toNatClampNeg) q2.1) q2.2.2) (pc := 73) (lo := [some (.ref 89), some (.int x1)]) (rest := [.int (4 : Int32), .ref 89]) rfl (t_223 Ls xs (d + 3) kp tl rl nh rh (4 : Int32) (u2 q2.2.1 98 ((x1 + (1 : Int32)).toNatClampNeg) q2.1) q2.2.2 q3 hq3) ?_
  refine bs_st 2 (x' := (75, [some (.ref 89), some (.int x1)], [.int (q3 + (1 : Int32)), .int (4 : Int32), .ref 89], hp kp nh rh tl rl (u2 q2.2.1 98 ((x1 + (1 : Int32)).toNatClampNeg) q2.1) q2.2.2)) rfl ?_
  obtain ⟨q4, hq4, hf⟩ := Option.bind_eq_some_iff.mp hf
  refine bs_call (o := pEN Ls xs (d + 4) 224 [.ref 89, .int (4 : Int32), .int (q3 + (1 : Int32))] (hp kp nh rh tl rl (u2 q2.2.1 98 ((x1 + (1 : Int32)).toNatClampNeg) q2.1) q2.2.2)) (w := none) (h' := hp kp nh rh tl rl q4.1 q4.2) (pc := 78) (lo := [some (.ref 89), some (.int x1)]) (rest := []) rfl (t_224 Ls xs (d + 3) kp tl rl nh rh (4 : Int32) (q3 + (1 : Int32)) (u2 q2.2.1 98 ((x1 + (1 : Int32)).toNatClampNeg) q2.1) q2.2.2 q4 hq4) ?_
  cases hf
  exact bs_ret rfl
def f_227 (n : Nat) (I : FI) (L : FL) : Option (FI × FL) :=
  (f_223 (4 : Int32) I L).bind fun q0 =>
  (f_225 n I L).bind fun q1 =>
  if pin ((2 : Int32) * ((24 : Int32) + q0)) 60 = true then (if ¬ q1.2.1 89 12 = 0 then
      c_227_0 n ((2 : Int32) * ((24 : Int32) + q0)) (u2 q1.2.1 98 (((2 : Int32) * ((24 : Int32) + q0)).toNatClampNeg) q1.1) q1.2.2
    else
      if ¬ q1.2.1 89 8 = (2 : Int32) then
        c_227_0 n ((2 : Int32) * ((24 : Int32) + q0)) (u2 q1.2.1 98 (((2 : Int32) * ((24 : Int32) + q0)).toNatClampNeg) q1.1) q1.2.2
      else
        if pin ((2 : Int32) * ((24 : Int32) + q0)) 60 = true then (if ¬ q1.2.1 89 10 = (u2 q1.2.1 98 (((2 : Int32) * ((24 : Int32) + q0)).toNatClampNeg) q1.1) 98 (((2 : Int32) * ((24 : Int32) + q0)).toNatClampNeg) then
            c_227_0 n ((2 : Int32) * ((24 : Int32) + q0)) (u2 q1.2.1 98 (((2 : Int32) * ((24 : Int32) + q0)).toNatClampNeg) q1.1) q1.2.2
          else
            (f_213 (2 : Int32) (u2 q1.2.1 98 (((2 : Int32) * ((24 : Int32) + q0)).toNatClampNeg) q1.1) q1.2.2).bind fun q5 =>
            c_227_0 n ((2 : Int32) * ((24 : Int32) + q0)) q5.1 q5.2) else none) else none
set_option maxHeartbeats 1000000 in
set_option maxRecDepth 20000 in
theorem t_227 (Ls : Nat) (xs : Nat → Int32) (d : Nat) (kp : Option Nat) (tl : List (Nat × Nat)) (rl : List (List (Option Nat))) (nh : Option Nat) (rh : Option Nat) (n : Nat) (I : FI) (L : FL) (r : FI × FL) (hf : f_227 n I L = some r) : pEN Ls xs (d + 5) 227 [.ref 89] (hp kp nh rh tl rl I L) = some (none, hp kp nh rh tl rl r.1 r.2) := by
  refine en_run (d := d + 4) (cd := cd_227) (f := (sf 12 rs_12 false 2 none Ls xs (d + 4))) rfl rfl (x := (0, [some (.ref 89), none], [], hp kp nh rh tl rl I L)) rfl rfl (Nat.le_of_ble_eq_true rfl) ?_
  unfold f_227 at hf
  refine bs_st 4 (x' := (5, [some (.ref 89), none], [.int (4 : Int32), .ref 89, .int (24 : Int32), .int (2 : Int32)], hp kp nh rh tl rl I L)) rfl ?_
  obtain ⟨q0, hq0, hf⟩ := Option.bind_eq_some_iff.mp hf
  refine bs_call (o := pEN Ls xs (d + 4) 223 [.ref 89, .int (4 : Int32)] (hp kp nh rh tl rl I L)) (w := some (.int q0)) (h' := hp kp nh rh tl rl I L) (pc := 8) (lo := [some (.ref 89), none]) (rest := [.int (24 : Int32), .int (2 : Int32)]) rfl (t_223 Ls xs (d + 3) kp tl rl nh rh (4 : Int32) I L q0 hq0) ?_
  refine bs_st 7 (x' := (17, [some (.ref 89), some (.int ((2 : Int32) * ((24 : Int32) + q0)))], [.ref 89, .int ((2 : Int32) * ((24 : Int32) + q0)), .ref 98], hp kp nh rh tl rl I L)) rfl ?_
  obtain ⟨q1, hq1, hf⟩ := Option.bind_eq_some_iff.mp hf
  refine bs_call (o := pEN Ls xs (d + 4) 225 [.ref 89] (hp kp nh rh tl rl I L)) (w := some (.int q1.1)) (h' := hp kp nh rh tl rl q1.2.1 q1.2.2) (pc := 20) (lo := [some (.ref 89), some (.int ((2 : Int32) * ((24 : Int32) + q0)))]) (rest := [.int ((2 : Int32) * ((24 : Int32) + q0)), .ref 98]) rfl (t_225 Ls xs (d + 0) kp tl rl nh rh n I L q1 hq1) ?_
  refine bs_gd (x' := (21, [some (.ref 89), some (.int ((2 : Int32) * ((24 : Int32) + q0)))], [], hp kp nh rh tl rl (u2 q1.2.1 98 (((2 : Int32) * ((24 : Int32) + q0)).toNatClampNeg) q1.1) q1.2.2)) rfl hf (fun hc hf => ?_)
  refine bs_st 2 (x' := (25, [some (.ref 89), some (.int ((2 : Int32) * ((24 : Int32) + q0)))], [.int (q1.2.1 89 12)], hp kp nh rh tl rl (u2 q1.2.1 98 (((2 : Int32) * ((24 : Int32) + q0)).toNatClampNeg) q1.1) q1.2.2)) rfl ?_
  refine bs_br (t := 54) (e := 28) (lo := [some (.ref 89), some (.int ((2 : Int32) * ((24 : Int32) + q0)))]) (st := []) (h := hp kp nh rh tl rl (u2 q1.2.1 98 (((2 : Int32) * ((24 : Int32) + q0)).toNatClampNeg) q1.1) q1.2.2) rfl hf (fun hc hf => ?_) (fun hc hf => ?_)
  · exact tc_227_0 Ls xs d kp tl rl nh rh n ((2 : Int32) * ((24 : Int32) + q0)) (u2 q1.2.1 98 (((2 : Int32) * ((24 : Int32) + q0)).toNatClampNeg) q1.1) q1.2.2 r hf
  · refine bs_st 3 (x' := (33, [some (.ref 89), some (.int ((2 : Int32) * ((24 : Int32) + q0)))], [.int (2 : Int32), .int (q1.2.1 89 8)], hp kp nh rh tl rl (u2 q1.2.1 98 (((2 : Int32) * ((24 : Int32) + q0)).toNatClampNeg) q1.1) q1.2.2)) rfl ?_
    refine bs_br (t := 54) (e := 36) (lo := [some (.ref 89), some (.int ((2 : Int32) * ((24 : Int32) + q0)))]) (st := []) (h := hp kp nh rh tl rl (u2 q1.2.1 98 (((2 : Int32) * ((24 : Int32) + q0)).toNatClampNeg) q1.1) q1.2.2) rfl hf (fun hc hf => ?_) (fun hc hf => ?_)
    · exact tc_227_0 Ls xs d kp tl rl nh rh n ((2 : Int32) * ((24 : Int32) + q0)) (u2 q1.2.1 98 (((2 : Int32) * ((24 : Int32) + q0)).toNatClampNeg) q1.1) q1.2.2 r hf
    · refine bs_st 5 (x' := (45, [some (.ref 89), some (.int ((2 : Int32) * ((24 : Int32) + q0)))], [.int ((2 : Int32) * ((24 : Int32) + q0)), .ref 98, .int (q1.2.1 89 10)], hp kp nh rh tl rl (u2 q1.2.1 98 (((2 : Int32) * ((24 : Int32) + q0)).toNatClampNeg) q1.1) q1.2.2)) rfl ?_
      refine bs_gd (x' := (46, [some (.ref 89), some (.int ((2 : Int32) * ((24 : Int32) + q0)))], [.int ((u2 q1.2.1 98 (((2 : Int32) * ((24 : Int32) + q0)).toNatClampNeg) q1.1) 98 (((2 : Int32) * ((24 : Int32) + q0)).toNatClampNeg)), .int (q1.2.1 89 10)], hp kp nh rh tl rl (u2 q1.2.1 98 (((2 : Int32) * ((24 : Int32) + q0)).toNatClampNeg) q1.1) q1.2.2)) rfl hf (fun hc hf => ?_)
      refine bs_br (t := 54) (e := 49) (lo := [some (.ref 89), some (.int ((2 : Int32) * ((24 : Int32) + q0)))]) (st := []) (h := hp kp nh rh tl rl (u2 q1.2.1 98 (((2 : Int32) * ((24 : Int32) + q0)).toNatClampNeg) q1.1) q1.2.2) rfl hf (fun hc hf => ?_) (fun hc hf => ?_)
      · exact tc_227_0 Ls xs d kp tl rl nh rh n ((2 : Int32) * ((24 : Int32) + q0)) (u2 q1.2.1 98 (((2 : Int32) * ((24 : Int32) + q0)).toNatClampNeg) q1.1) q1.2.2 r hf
      · refine bs_st 2 (x' := (51, [some (.ref 89), some (.int ((2 : Int32) * ((24 : Int32) + q0)))], [.int (2 : Int32), .ref 89], hp kp nh rh tl rl (u2 q1.2.1 98 (((2 : Int32) * ((24 : Int32) + q0)).toNatClampNeg) q1.1) q1.2.2)) rfl ?_
        obtain ⟨q5, hq5, hf⟩ := Option.bind_eq_some_iff.mp hf
        refine bs_call (o := pEN Ls xs (d + 4) 213 [.ref 89, .int (2 : Int32)] (hp kp nh rh tl rl (u2 q1.2.1 98 (((2 : Int32) * ((24 : Int32) + q0)).toNatClampNeg) q1.1) q1.2.2)) (w := none) (h' := hp kp nh rh tl rl q5.1 q5.2) (pc := 54) (lo := [some (.ref 89), some (.int ((2 : Int32) * ((24 : Int32) + q0)))]) (rest := []) rfl (t_213 Ls xs (d + 3) kp tl rl nh rh (2 : Int32) (u2 q1.2.1 98 (((2 : Int32) * ((24 : Int32) + q0)).toNatClampNeg) q1.1) q1.2.2 q5 hq5) ?_
        exact tc_227_0 Ls xs d kp tl rl nh rh n ((2 : Int32) * ((24 : Int32) + q0)) q5.1 q5.2 r hf
/-- LampRoundsModel.visitorLine() on (89,) -/
def f_228 (n : Nat) (I : FI) (L : FL) : Option (FI × FL) :=
  (f_223 (5 : Int32) I L).bind fun q0 =>
  (f_216 n (257 : Int64) I L).bind fun q1 =>
  (f_225 n q1.1 q1.2).bind fun q2 =>
  if pin ((2 : Int32) * ((20 : Int32) + q0)) 50 = true then ((f_218 n (47 : Int64) (0 : Int32) (29 : Int32) (u2 q2.2.1 99 (((2 : Int32) * ((20 : Int32) + q0)).toNatClampNeg) q2.1) q2.2.2).bind fun q3 =>
    if pin (((2 : Int32) * ((20 : Int32) + q0)) + (1 : Int32)) 50 = true then ((f_223 (5 : Int32) (u2 q3.2.1 99 ((((2 : Int32) * ((20 : Int32) + q0)) + (1 : Int32)).toNatClampNeg) q3.1) q3.2.2).bind fun q4 =>
      (f_224 (5 : Int32) (q4 + (1 : Int32)) (u2 q3.2.1 99 ((((2 : Int32) * ((20 : Int32) + q0)) + (1 : Int32)).toNatClampNeg) q3.1) q3.2.2).bind fun q5 =>
      some (q5.1, q5.2)) else none) else none
set_option maxHeartbeats 1000000 in
set_option maxRecDepth 20000 in
theorem t_228 (Ls : Nat) (xs : Nat → Int32) (d : Nat) (kp : Option Nat) (tl : List (Nat × Nat)) (rl : List (List (Option Nat))) (nh : Option Nat) (rh : Option Nat) (n : Nat) (I : FI) (L : FL) (r : FI × FL) (hf : f_228 n I L = some r) : pEN Ls xs (d + 6) 228 [.ref 89] (hp kp nh rh tl rl I L) = some (none, hp kp nh rh tl rl r.1 r.2) := by
  refine en_run (d := d + 5) (cd := cd_228) (f := (sf 12 rs_12 false 2 none Ls xs (d + 5))) rfl rfl (x := (0, [some (.ref 89), none], [], hp kp nh rh tl rl I L)) rfl rfl (Nat.le_of_ble_eq_true rfl) ?_
  unfold f_228 at hf
  refine bs_st 4 (x' := (5, [some (.ref 89), none], [.int (5 : Int32), .ref 89, .int (20 : Int32), .int (2 : Int32)], hp kp nh rh tl rl I L)) rfl ?_
  obtain ⟨q0, hq0, hf⟩ := Option.bind_eq_some_iff.mp hf
  refine bs_call (o := pEN Ls xs (d + 5) 223 [.ref 89, .int (5 : Int32)] (hp kp nh rh tl rl I L)) (w := some (.int q0)) (h' := hp kp nh rh tl rl I L) (pc := 8) (lo := [some (.ref 89), none]) (rest := [.int (20 : Int32), .int (2 : Int32)]) rfl (t_223 Ls xs (d + 4) kp tl rl nh rh (5 : Int32) I L q0 hq0) ?_
  refine bs_st 5 (x' := (15, [some (.ref 89), some (.int ((2 : Int32) * ((20 : Int32) + q0)))], [.long (257 : Int64), .ref 89], hp kp nh rh tl rl I L)) rfl ?_
  obtain ⟨q1, hq1, hf⟩ := Option.bind_eq_some_iff.mp hf
  refine bs_call (o := pEN Ls xs (d + 5) 216 [.ref 89, .long (257 : Int64)] (hp kp nh rh tl rl I L)) (w := none) (h' := hp kp nh rh tl rl q1.1 q1.2) (pc := 18) (lo := [some (.ref 89), some (.int ((2 : Int32) * ((20 : Int32) + q0)))]) (rest := []) rfl (t_216 Ls xs (d + 1) kp tl rl nh rh n (257 : Int64) I L q1 hq1) ?_
  refine bs_st 4 (x' := (24, [some (.ref 89), some (.int ((2 : Int32) * ((20 : Int32) + q0)))], [.ref 89, .int ((2 : Int32) * ((20 : Int32) + q0)), .ref 99], hp kp nh rh tl rl q1.1 q1.2)) rfl ?_
  obtain ⟨q2, hq2, hf⟩ := Option.bind_eq_some_iff.mp hf
  refine bs_call (o := pEN Ls xs (d + 5) 225 [.ref 89] (hp kp nh rh tl rl q1.1 q1.2)) (w := some (.int q2.1)) (h' := hp kp nh rh tl rl q2.2.1 q2.2.2) (pc := 27) (lo := [some (.ref 89), some (.int ((2 : Int32) * ((20 : Int32) + q0)))]) (rest := [.int ((2 : Int32) * ((20 : Int32) + q0)), .ref 99]) rfl (t_225 Ls xs (d + 1) kp tl rl nh rh n q1.1 q1.2 q2 hq2) ?_
  refine bs_gd (x' := (28, [some (.ref 89), some (.int ((2 : Int32) * ((20 : Int32) + q0)))], [], hp kp nh rh tl rl (u2 q2.2.1 99 (((2 : Int32) * ((20 : Int32) + q0)).toNatClampNeg) q2.1) q2.2.2)) rfl hf (fun hc hf => ?_)
  refine bs_st 9 (x' := (42, [some (.ref 89), some (.int ((2 : Int32) * ((20 : Int32) + q0)))], [.int (29 : Int32), .int (0 : Int32), .long (47 : Int64), .ref 89, .int (((2 : Int32) * ((20 : Int32) + q0)) + (1 : Int32)), .ref 99], hp kp nh rh tl rl (u2 q2.2.1 99 (((2 : Int32) * ((20 : Int32) + q0)).toNatClampNeg) q2.1) q2.2.2)) rfl ?_
  obtain ⟨q3, hq3, hf⟩ := Option.bind_eq_some_iff.mp hf
  refine bs_call (o := pEN Ls xs (d + 5) 218 [.ref 89, .long (47 : Int64), .int (0 : Int32), .int (29 : Int32)] (hp kp nh rh tl rl (u2 q2.2.1 99 (((2 : Int32) * ((20 : Int32) + q0)).toNatClampNeg) q2.1) q2.2.2)) (w := some (.int q3.1)) (h' := hp kp nh rh tl rl q3.2.1 q3.2.2) (pc := 45) (lo := [some (.ref 89), some (.int ((2 : Int32) * ((20 : Int32) + q0)))]) (rest := [.int (((2 : Int32) * ((20 : Int32) + q0)) + (1 : Int32)), .ref 99]) rfl (t_218 Ls xs (d + 0) kp tl rl nh rh n (47 : Int64) (0 : Int32) (29 : Int32) (u2 q2.2.1 99 (((2 : Int32) * ((20 : Int32) + q0)).toNatClampNeg) q2.1) q2.2.2 q3 hq3) ?_
  refine bs_gd (x' := (46, [some (.ref 89), some (.int ((2 : Int32) * ((20 : Int32) + q0)))], [], hp kp nh rh tl rl (u2 q3.2.1 99 ((((2 : Int32) * ((20 : Int32) + q0)) + (1 : Int32)).toNatClampNeg) q3.1) q3.2.2)) rfl hf (fun hc hf => ?_)
  refine bs_st 4 (x' := (50, [some (.ref 89), some (.int ((2 : Int32) * ((20 : Int32) + q0)))], [.int (5 : Int32), .ref 89, .int (5 : Int32), .ref 89], hp kp nh rh tl rl (u2 q3.2.1 99 ((((2 : Int32) * ((20 : Int32) + q0)) + (1 : Int32)).toNatClampNeg) q3.1) q3.2.2)) rfl ?_
  obtain ⟨q4, hq4, hf⟩ := Option.bind_eq_some_iff.mp hf
  refine bs_call (o := pEN Ls xs (d + 5) 223 [.ref 89, .int (5 : Int32)] (hp kp nh rh tl rl (u2 q3.2.1 99 ((((2 : Int32) * ((20 : Int32) + q0)) + (1 : Int32)).toNatClampNeg) q3.1) q3.2.2)) (w := some (.int q4)) (h' := hp kp nh rh tl rl (u2 q3.2.1 99 ((((2 : Int32) * ((20 : Int32) + q0)) + (1 : Int32)).toNatClampNeg) q3.1) q3.2.2) (pc := 53) (lo := [some (.ref 89), some (.int ((2 : Int32) * ((20 : Int32) + q0)))]) (rest := [.int (5 : Int32), .ref 89]) rfl (t_223 Ls xs (d + 4) kp tl rl nh rh (5 : Int32) (u2 q3.2.1 99 ((((2 : Int32) * ((20 : Int32) + q0)) + (1 : Int32)).toNatClampNeg) q3.1) q3.2.2 q4 hq4) ?_
  refine bs_st 2 (x' := (55, [some (.ref 89), some (.int ((2 : Int32) * ((20 : Int32) + q0)))], [.int (q4 + (1 : Int32)), .int (5 : Int32), .ref 89], hp kp nh rh tl rl (u2 q3.2.1 99 ((((2 : Int32) * ((20 : Int32) + q0)) + (1 : Int32)).toNatClampNeg) q3.1) q3.2.2)) rfl ?_
  obtain ⟨q5, hq5, hf⟩ := Option.bind_eq_some_iff.mp hf
  refine bs_call (o := pEN Ls xs (d + 5) 224 [.ref 89, .int (5 : Int32), .int (q4 + (1 : Int32))] (hp kp nh rh tl rl (u2 q3.2.1 99 ((((2 : Int32) * ((20 : Int32) + q0)) + (1 : Int32)).toNatClampNeg) q3.1) q3.2.2)) (w := none) (h' := hp kp nh rh tl rl q5.1 q5.2) (pc := 58) (lo := [some (.ref 89), some (.int ((2 : Int32) * ((20 : Int32) + q0)))]) (rest := []) rfl (t_224 Ls xs (d + 4) kp tl rl nh rh (5 : Int32) (q4 + (1 : Int32)) (u2 q3.2.1 99 ((((2 : Int32) * ((20 : Int32) + q0)) + (1 : Int32)).toNatClampNeg) q3.1) q3.2.2 q5 hq5) ?_
  cases hf
  exact bs_ret rfl
/-- LampRoundsModel.roundLine() on (89,) -/
def c_229_1 (n : Nat) (K0 : Int32 → FI → FL → Option (FI × FL)) (I : FI) (L : FL) : Option (FI × FL) :=
  (f_225 n I L).bind fun q7 =>
  K0 q7.1 q7.2.1 q7.2.2
set_option maxHeartbeats 1000000 in
set_option maxRecDepth 20000 in
theorem tc_229_1 (Ls : Nat) (xs : Nat → Int32) (d : Nat) (kp : Option Nat) (tl : List (Nat × Nat)) (rl : List (List (Option Nat))) (nh : Option Nat) (rh : Option Nat) (n : Nat) (K0 : Int32 → FI → FL → Option (FI × FL)) (hK0 : ∀ (x1 : Int32) (I : FI) (L : FL) (r : FI × FL), K0 x1 I L = some r → Bs cd_229 (sf 12 rs_12 false 2 none Ls xs (d + 4)) (19, [some (.ref 89), some (.int x1)], [], hp kp nh rh tl rl I L) (none, hp kp nh rh tl rl r.1 r.2)) (w1 : Option Value) (I : FI) (L : FL) (r : FI × FL) (hf : c_229_1 n K0 I L = some r) : Bs cd_229 (sf 12 rs_12 false 2 none Ls xs (d + 4)) (96, [some (.ref 89), w1], [], hp kp nh rh tl rl I L) (none, hp kp nh rh tl rl r.1 r.2) := by
  unfold c_229_1 at hf
  refine bs_st 1 (x' := (97, [some (.ref 89), w1], [.ref 89], hp kp nh rh tl rl I L)) rfl ?_
  obtain ⟨q7, hq7, hf⟩ := Option.bind_eq_some_iff.mp hf
  refine bs_call (o := pEN Ls xs (d + 4) 225 [.ref 89] (hp kp nh rh tl rl I L)) (w := some (.int q7.1)) (h' := hp kp nh rh tl rl q7.2.1 q7.2.2) (pc := 100) (lo := [some (.ref 89), w1]) (rest := []) rfl (t_225 Ls xs (d + 0) kp tl rl nh rh n I L q7 hq7) ?_
  refine bs_st 2 (x' := (19, [some (.ref 89), some (.int q7.1)], [], hp kp nh rh tl rl q7.2.1 q7.2.2)) rfl ?_
  exact hK0 q7.1 q7.2.1 q7.2.2 r hf
def c_229_2 (n : Nat) (K0 : Int32 → FI → FL → Option (FI × FL)) (s0 : Int32) (I : FI) (L : FL) : Option (FI × FL) :=
  (f_213 s0 I L).bind fun q9 =>
  c_229_1 n K0 q9.1 q9.2
set_option maxHeartbeats 1000000 in
set_option maxRecDepth 20000 in
theorem tc_229_2 (Ls : Nat) (xs : Nat → Int32) (d : Nat) (kp : Option Nat) (tl : List (Nat × Nat)) (rl : List (List (Option Nat))) (nh : Option Nat) (rh : Option Nat) (n : Nat) (K0 : Int32 → FI → FL → Option (FI × FL)) (hK0 : ∀ (x1 : Int32) (I : FI) (L : FL) (r : FI × FL), K0 x1 I L = some r → Bs cd_229 (sf 12 rs_12 false 2 none Ls xs (d + 4)) (19, [some (.ref 89), some (.int x1)], [], hp kp nh rh tl rl I L) (none, hp kp nh rh tl rl r.1 r.2)) (w1 : Option Value) (s0 : Int32) (I : FI) (L : FL) (r : FI × FL) (hf : c_229_2 n K0 s0 I L = some r) : Bs cd_229 (sf 12 rs_12 false 2 none Ls xs (d + 4)) (93, [some (.ref 89), w1], [.int s0, .ref 89], hp kp nh rh tl rl I L) (none, hp kp nh rh tl rl r.1 r.2) := by
  unfold c_229_2 at hf
  obtain ⟨q9, hq9, hf⟩ := Option.bind_eq_some_iff.mp hf
  refine bs_call (o := pEN Ls xs (d + 4) 213 [.ref 89, .int s0] (hp kp nh rh tl rl I L)) (w := none) (h' := hp kp nh rh tl rl q9.1 q9.2) (pc := 96) (lo := [some (.ref 89), w1]) (rest := []) rfl (t_213 Ls xs (d + 3) kp tl rl nh rh s0 I L q9 hq9) ?_
  exact tc_229_1 Ls xs d kp tl rl nh rh n _ hK0 w1 q9.1 q9.2 r hf
def b_229_0 (n : Nat) (K0 : Int32 → FI → FL → Option (FI × FL)) (x1 : Int32) (I : FI) (L : FL) : Option (FI × FL) :=
  if ¬ I 89 12 = 0 then
    some (I, L)
  else
    (f_223 (6 : Int32) I L).bind fun q3 =>
    if pin ((48 : Int32) + q3) 60 = true then ((f_223 (6 : Int32) (u2 I 100 (((48 : Int32) + q3).toNatClampNeg) x1) L).bind fun q4 =>
      (f_224 (6 : Int32) (q4 + (1 : Int32)) (u2 I 100 (((48 : Int32) + q3).toNatClampNeg) x1) L).bind fun q5 =>
      if q5.1 89 8 = (2 : Int32) then
        (f_223 (6 : Int32) q5.1 q5.2).bind fun q6 =>
        if ¬ q6 = (12 : Int32) then
          c_229_1 n K0 q5.1 q5.2
        else
          (f_223 (3 : Int32) q5.1 q5.2).bind fun q8 =>
          if q8 ≤ q5.1 89 10 then
            c_229_2 n K0 (2 : Int32) q5.1 q5.2
          else
            c_229_2 n K0 (3 : Int32) q5.1 q5.2
      else
        some (q5.1, q5.2)) else none
def c_229_0 (n : Nat) : Nat → Int32 → FI → FL → Option (FI × FL)
  | 0, _, _, _ => none
  | m + 1, x1, I, L => b_229_0 n (c_229_0 n m) x1 I L
set_option maxHeartbeats 1000000 in
set_option maxRecDepth 20000 in
theorem tc_229_0 (Ls : Nat) (xs : Nat → Int32) (d : Nat) (kp : Option Nat) (tl : List (Nat × Nat)) (rl : List (List (Option Nat))) (nh : Option Nat) (rh : Option Nat) (n : Nat) : ∀ (m : Nat) (x1 : Int32) (I : FI) (L : FL) (r : FI × FL), c_229_0 n m x1 I L = some r → Bs cd_229 (sf 12 rs_12 false 2 none Ls xs (d + 4)) (19, [some (.ref 89), some (.int x1)], [], hp kp nh rh tl rl I L) (none, hp kp nh rh tl rl r.1 r.2)
  | 0, x1, I, L, r, hf => by cases hf
  | m + 1, x1, I, L, r, hf => by
    unfold c_229_0 b_229_0 at hf
    have hK0 := tc_229_0 Ls xs d kp tl rl nh rh n m
    refine bs_st 2 (x' := (23, [some (.ref 89), some (.int x1)], [.int (I 89 12)], hp kp nh rh tl rl I L)) rfl ?_
    refine bs_br (t := 104) (e := 26) (lo := [some (.ref 89), some (.int x1)]) (st := []) (h := hp kp nh rh tl rl I L) rfl hf (fun hc hf => ?_) (fun hc hf => ?_)
    · cases hf
      exact bs_ret rfl
    · refine bs_st 5 (x' := (35, [some (.ref 89), some (.int x1)], [.int (6 : Int32), .ref 89, .int (48 : Int32), .ref 100], hp kp nh rh tl rl I L)) rfl ?_
      obtain ⟨q3, hq3, hf⟩ := Option.bind_eq_some_iff.mp hf
      refine bs_call (o := pEN Ls xs (d + 4) 223 [.ref 89, .int (6 : Int32)] (hp kp nh rh tl rl I L)) (w := some (.int q3)) (h' := hp kp nh rh tl rl I L) (pc := 38) (lo := [some (.ref 89), some (.int x1)]) (rest := [.int (48 : Int32), .ref 100]) rfl (t_223 Ls xs (d + 3) kp tl rl nh rh (6 : Int32) I L q3 hq3) ?_
      refine bs_st 2 (x' := (40, [some (.ref 89), some (.int x1)], [.int x1, .int ((48 : Int32) + q3), .ref 100], hp kp nh rh tl rl I L)) rfl ?_
      refine bs_gd (x' := (41, [some (.ref 89), some (.int x1)], [], hp kp nh rh tl rl (u2 I 100 (((48 : Int32) + q3).toNatClampNeg) x1) L)) rfl hf (fun hc hf => ?_)
      refine bs_st 4 (x' := (47, [some (.ref 89), some (.int x1)], [.int (6 : Int32), .ref 89, .int (6 : Int32), .ref 89], hp kp nh rh tl rl (u2 I 100 (((48 : Int32) + q3).toNatClampNeg) x1) L)) rfl ?_
      obtain ⟨q4, hq4, hf⟩ := Option.bind_eq_some_iff.mp hf
      refine bs_call (o := pEN Ls xs (d + 4) 223 [.ref 89, .int (6 : Int32)] (hp kp nh rh tl rl (u2 I 100 (((48 : Int32) + q3).toNatClampNeg) x1) L)) (w := some (.int q4)) (h' := hp kp nh rh tl rl (u2 I 100 (((48 : Int32) + q3).toNatClampNeg) x1) L) (pc := 50) (lo := [some (.ref 89), some (.int x1)]) (rest := [.int (6 : Int32), .ref 89]) rfl (t_223 Ls xs (d + 3) kp tl rl nh rh (6 : Int32) (u2 I 100 (((48 : Int32) + q3).toNatClampNeg) x1) L q4 hq4) ?_
      refine bs_st 2 (x' := (52, [some (.ref 89), some (.int x1)], [.int (q4 + (1 : Int32)), .int (6 : Int32), .ref 89], hp kp nh rh tl rl (u2 I 100 (((48 : Int32) + q3).toNatClampNeg) x1) L)) rfl ?_
      obtain ⟨q5, hq5, hf⟩ := Option.bind_eq_some_iff.mp hf
      refine bs_call (o := pEN Ls xs (d + 4) 224 [.ref 89, .int (6 : Int32), .int (q4 + (1 : Int32))] (hp kp nh rh tl rl (u2 I 100 (((48 : Int32) + q3).toNatClampNeg) x1) L)) (w := none) (h' := hp kp nh rh tl rl q5.1 q5.2) (pc := 55) (lo := [some (.ref 89), some (.int x1)]) (rest := []) rfl (t_224 Ls xs (d + 3) kp tl rl nh rh (6 : Int32) (q4 + (1 : Int32)) (u2 I 100 (((48 : Int32) + q3).toNatClampNeg) x1) L q5 hq5) ?_
      refine bs_st 3 (x' := (60, [some (.ref 89), some (.int x1)], [.int (2 : Int32), .int (q5.1 89 8)], hp kp nh rh tl rl q5.1 q5.2)) rfl ?_
      refine bs_br (t := 64) (e := 63) (lo := [some (.ref 89), some (.int x1)]) (st := []) (h := hp kp nh rh tl rl q5.1 q5.2) rfl hf (fun hc hf => ?_) (fun hc hf => ?_)
      · refine bs_st 2 (x' := (67, [some (.ref 89), some (.int x1)], [.int (6 : Int32), .ref 89], hp kp nh rh tl rl q5.1 q5.2)) rfl ?_
        obtain ⟨q6, hq6, hf⟩ := Option.bind_eq_some_iff.mp hf
        refine bs_call (o := pEN Ls xs (d + 4) 223 [.ref 89, .int (6 : Int32)] (hp kp nh rh tl rl q5.1 q5.2)) (w := some (.int q6)) (h' := hp kp nh rh tl rl q5.1 q5.2) (pc := 70) (lo := [some (.ref 89), some (.int x1)]) (rest := []) rfl (t_223 Ls xs (d + 3) kp tl rl nh rh (6 : Int32) q5.1 q5.2 q6 hq6) ?_
        refine bs_st 1 (x' := (72, [some (.ref 89), some (.int x1)], [.int (12 : Int32), .int q6], hp kp nh rh tl rl q5.1 q5.2)) rfl ?_
        refine bs_br (t := 96) (e := 75) (lo := [some (.ref 89), some (.int x1)]) (st := []) (h := hp kp nh rh tl rl q5.1 q5.2) rfl hf (fun hc hf => ?_) (fun hc hf => ?_)
        · exact tc_229_1 Ls xs d kp tl rl nh rh n _ hK0 (some (.int x1)) q5.1 q5.2 r hf
        · refine bs_st 5 (x' := (82, [some (.ref 89), some (.int x1)], [.int (3 : Int32), .ref 89, .int (q5.1 89 10), .ref 89], hp kp nh rh tl rl q5.1 q5.2)) rfl ?_
          obtain ⟨q8, hq8, hf⟩ := Option.bind_eq_some_iff.mp hf
          refine bs_call (o := pEN Ls xs (d + 4) 223 [.ref 89, .int (3 : Int32)] (hp kp nh rh tl rl q5.1 q5.2)) (w := some (.int q8)) (h' := hp kp nh rh tl rl q5.1 q5.2) (pc := 85) (lo := [some (.ref 89), some (.int x1)]) (rest := [.int (q5.1 89 10), .ref 89]) rfl (t_223 Ls xs (d + 3) kp tl rl nh rh (3 : Int32) q5.1 q5.2 q8 hq8) ?_
          refine bs_br (t := 92) (e := 88) (lo := [some (.ref 89), some (.int x1)]) (st := [.ref 89]) (h := hp kp nh rh tl rl q5.1 q5.2) rfl hf (fun hc hf => ?_) (fun hc hf => ?_)
          · refine bs_st 1 (x' := (93, [some (.ref 89), some (.int x1)], [.int (2 : Int32), .ref 89], hp kp nh rh tl rl q5.1 q5.2)) rfl ?_
            exact tc_229_2 Ls xs d kp tl rl nh rh n _ hK0 (some (.int x1)) (2 : Int32) q5.1 q5.2 r hf
          · refine bs_st 2 (x' := (93, [some (.ref 89), some (.int x1)], [.int (3 : Int32), .ref 89], hp kp nh rh tl rl q5.1 q5.2)) rfl ?_
            exact tc_229_2 Ls xs d kp tl rl nh rh n _ hK0 (some (.int x1)) (3 : Int32) q5.1 q5.2 r hf
      · cases hf
        exact bs_ret rfl
def f_229 (n : Nat) (I : FI) (L : FL) : Option (FI × FL) :=
  (f_224 (8 : Int32) (1 : Int32) I L).bind fun q0 =>
  (f_224 (6 : Int32) (0 : Int32) q0.1 q0.2).bind fun q1 =>
  (f_225 n q1.1 q1.2).bind fun q2 =>
  c_229_0 n n q2.1 q2.2.1 q2.2.2
set_option maxHeartbeats 1000000 in
set_option maxRecDepth 20000 in
theorem t_229 (Ls : Nat) (xs : Nat → Int32) (d : Nat) (kp : Option Nat) (tl : List (Nat × Nat)) (rl : List (List (Option Nat))) (nh : Option Nat) (rh : Option Nat) (n : Nat) (I : FI) (L : FL) (r : FI × FL) (hf : f_229 n I L = some r) : pEN Ls xs (d + 5) 229 [.ref 89] (hp kp nh rh tl rl I L) = some (none, hp kp nh rh tl rl r.1 r.2) := by
  refine en_run (d := d + 4) (cd := cd_229) (f := (sf 12 rs_12 false 2 none Ls xs (d + 4))) rfl rfl (x := (0, [some (.ref 89), none], [], hp kp nh rh tl rl I L)) rfl rfl (Nat.le_of_ble_eq_true rfl) ?_
  unfold f_229 at hf
  refine bs_st 3 (x' := (4, [some (.ref 89), none], [.int (1 : Int32), .int (8 : Int32), .ref 89], hp kp nh rh tl rl I L)) rfl ?_
  obtain ⟨q0, hq0, hf⟩ := Option.bind_eq_some_iff.mp hf
  refine bs_call (o := pEN Ls xs (d + 4) 224 [.ref 89, .int (8 : Int32), .int (1 : Int32)] (hp kp nh rh tl rl I L)) (w := none) (h' := hp kp nh rh tl rl q0.1 q0.2) (pc := 7) (lo := [some (.ref 89), none]) (rest := []) rfl (t_224 Ls xs (d + 3) kp tl rl nh rh (8 : Int32) (1 : Int32) I L q0 hq0) ?_
  refine bs_st 3 (x' := (11, [some (.ref 89), none], [.int (0 : Int32), .int (6 : Int32), .ref 89], hp kp nh rh tl rl q0.1 q0.2)) rfl ?_
  obtain ⟨q1, hq1, hf⟩ := Option.bind_eq_some_iff.mp hf
  refine bs_call (o := pEN Ls xs (d + 4) 224 [.ref 89, .int (6 : Int32), .int (0 : Int32)] (hp kp nh rh tl rl q0.1 q0.2)) (w := none) (h' := hp kp nh rh tl rl q1.1 q1.2) (pc := 14) (lo := [some (.ref 89), none]) (rest := []) rfl (t_224 Ls xs (d + 3) kp tl rl nh rh (6 : Int32) (0 : Int32) q0.1 q0.2 q1 hq1) ?_
  refine bs_st 1 (x' := (15, [some (.ref 89), none], [.ref 89], hp kp nh rh tl rl q1.1 q1.2)) rfl ?_
  obtain ⟨q2, hq2, hf⟩ := Option.bind_eq_some_iff.mp hf
  refine bs_call (o := pEN Ls xs (d + 4) 225 [.ref 89] (hp kp nh rh tl rl q1.1 q1.2)) (w := some (.int q2.1)) (h' := hp kp nh rh tl rl q2.2.1 q2.2.2) (pc := 18) (lo := [some (.ref 89), none]) (rest := []) rfl (t_225 Ls xs (d + 0) kp tl rl nh rh n q1.1 q1.2 q2 hq2) ?_
  refine bs_st 1 (x' := (19, [some (.ref 89), some (.int q2.1)], [], hp kp nh rh tl rl q2.2.1 q2.2.2)) rfl ?_
  exact tc_229_0 Ls xs d kp tl rl nh rh n n q2.1 q2.2.1 q2.2.2 r hf
/-- LampRoundsModel.isRoom(ZII) on (89,) -/
def c_230_1 (n : Nat) (x1 : Int32) (I : FI) (L : FL) : Option (Int32 × FI × FL) :=
  if x1 = 0 then
    some ((0 : Int32), I, L)
  else
    if ¬ I 89 12 = 0 then
      some ((0 : Int32), I, L)
    else
      some ((1 : Int32), I, L)
set_option maxHeartbeats 1000000 in
set_option maxRecDepth 20000 in
theorem tc_230_1 (Ls : Nat) (xs : Nat → Int32) (d : Nat) (kp : Option Nat) (tl : List (Nat × Nat)) (rl : List (List (Option Nat))) (nh : Option Nat) (rh : Option Nat) (n : Nat) (w2 : Option Value) (w3 : Option Value) (x1 : Int32) (I : FI) (L : FL) (r : Int32 × FI × FL) (hf : c_230_1 n x1 I L = some r) : Bs cd_230 (sf 12 rs_12 false 4 (some (.boolean)) Ls xs (d + 2)) (33, [some (.ref 89), some (.int x1), w2, w3], [], hp kp nh rh tl rl I L) (some (.int r.1), hp kp nh rh tl rl r.2.1 r.2.2) := by
  unfold c_230_1 at hf
  refine bs_st 1 (x' := (34, [some (.ref 89), some (.int x1), w2, w3], [.int x1], hp kp nh rh tl rl I L)) rfl ?_
  refine bs_br (t := 48) (e := 37) (lo := [some (.ref 89), some (.int x1), w2, w3]) (st := []) (h := hp kp nh rh tl rl I L) rfl hf (fun hc hf => ?_) (fun hc hf => ?_)
  · refine bs_st 1 (x' := (49, [some (.ref 89), some (.int x1), w2, w3], [.int (0 : Int32)], hp kp nh rh tl rl I L)) rfl ?_
    cases hf
    exact bs_ret rfl
  · refine bs_st 2 (x' := (41, [some (.ref 89), some (.int x1), w2, w3], [.int (I 89 12)], hp kp nh rh tl rl I L)) rfl ?_
    refine bs_br (t := 48) (e := 44) (lo := [some (.ref 89), some (.int x1), w2, w3]) (st := []) (h := hp kp nh rh tl rl I L) rfl hf (fun hc hf => ?_) (fun hc hf => ?_)
    · refine bs_st 1 (x' := (49, [some (.ref 89), some (.int x1), w2, w3], [.int (0 : Int32)], hp kp nh rh tl rl I L)) rfl ?_
      cases hf
      exact bs_ret rfl
    · refine bs_st 2 (x' := (49, [some (.ref 89), some (.int x1), w2, w3], [.int (1 : Int32)], hp kp nh rh tl rl I L)) rfl ?_
      cases hf
      exact bs_ret rfl
def c_230_0 (n : Nat) (x1 : Int32) (I : FI) (L : FL) : Option (Int32 × FI × FL) :=
  if x1 = 0 then
    c_230_1 n x1 I L
  else
    if ¬ I 89 12 = 0 then
      c_230_1 n x1 I L
    else
      (f_211 n I L).bind fun q0 =>
      c_230_1 n x1 q0.1 q0.2
set_option maxHeartbeats 1000000 in
set_option maxRecDepth 20000 in
theorem tc_230_0 (Ls : Nat) (xs : Nat → Int32) (d : Nat) (kp : Option Nat) (tl : List (Nat × Nat)) (rl : List (List (Option Nat))) (nh : Option Nat) (rh : Option Nat) (n : Nat) (w2 : Option Value) (w3 : Option Value) (x1 : Int32) (I : FI) (L : FL) (r : Int32 × FI × FL) (hf : c_230_0 n x1 I L = some r) : Bs cd_230 (sf 12 rs_12 false 4 (some (.boolean)) Ls xs (d + 2)) (18, [some (.ref 89), some (.int x1), w2, w3], [], hp kp nh rh tl rl I L) (some (.int r.1), hp kp nh rh tl rl r.2.1 r.2.2) := by
  unfold c_230_0 at hf
  refine bs_st 1 (x' := (19, [some (.ref 89), some (.int x1), w2, w3], [.int x1], hp kp nh rh tl rl I L)) rfl ?_
  refine bs_br (t := 33) (e := 22) (lo := [some (.ref 89), some (.int x1), w2, w3]) (st := []) (h := hp kp nh rh tl rl I L) rfl hf (fun hc hf => ?_) (fun hc hf => ?_)
  · exact tc_230_1 Ls xs d kp tl rl nh rh n w2 w3 x1 I L r hf
  · refine bs_st 2 (x' := (26, [some (.ref 89), some (.int x1), w2, w3], [.int (I 89 12)], hp kp nh rh tl rl I L)) rfl ?_
    refine bs_br (t := 33) (e := 29) (lo := [some (.ref 89), some (.int x1), w2, w3]) (st := []) (h := hp kp nh rh tl rl I L) rfl hf (fun hc hf => ?_) (fun hc hf => ?_)
    · exact tc_230_1 Ls xs d kp tl rl nh rh n w2 w3 x1 I L r hf
    · refine bs_st 1 (x' := (30, [some (.ref 89), some (.int x1), w2, w3], [.ref 89], hp kp nh rh tl rl I L)) rfl ?_
      obtain ⟨q0, hq0, hf⟩ := Option.bind_eq_some_iff.mp hf
      refine bs_call (o := pEN Ls xs (d + 2) 211 [.ref 89] (hp kp nh rh tl rl I L)) (w := none) (h' := hp kp nh rh tl rl q0.1 q0.2) (pc := 33) (lo := [some (.ref 89), some (.int x1), w2, w3]) (rest := []) rfl (t_211 Ls xs (d + 0) kp tl rl nh rh n I L q0 hq0) ?_
      exact tc_230_1 Ls xs d kp tl rl nh rh n w2 w3 x1 q0.1 q0.2 r hf
def f_230 (n : Nat) (x1 : Int32) (x2 : Int32) (x3 : Int32) (I : FI) (L : FL) : Option (Int32 × FI × FL) :=
  if x1 = 0 then
    c_230_0 n x1 I L
  else
    (f_223 x2 I L).bind fun q1 =>
    if ¬ q1 = x3 then
      c_230_0 n x1 I L
    else
      (f_213 (3 : Int32) I L).bind fun q2 =>
      c_230_0 n x1 q2.1 q2.2
set_option maxHeartbeats 1000000 in
set_option maxRecDepth 20000 in
theorem t_230 (Ls : Nat) (xs : Nat → Int32) (d : Nat) (kp : Option Nat) (tl : List (Nat × Nat)) (rl : List (List (Option Nat))) (nh : Option Nat) (rh : Option Nat) (n : Nat) (x1 : Int32) (x2 : Int32) (x3 : Int32) (I : FI) (L : FL) (r : Int32 × FI × FL) (hf : f_230 n x1 x2 x3 I L = some r) : pEN Ls xs (d + 3) 230 [.ref 89, .int x1, .int x2, .int x3] (hp kp nh rh tl rl I L) = some (some (.int r.1), hp kp nh rh tl rl r.2.1 r.2.2) := by
  refine en_run (d := d + 2) (cd := cd_230) (f := (sf 12 rs_12 false 4 (some (.boolean)) Ls xs (d + 2))) rfl rfl (x := (0, [some (.ref 89), some (.int x1), some (.int x2), some (.int x3)], [], hp kp nh rh tl rl I L)) rfl rfl (Nat.le_of_ble_eq_true rfl) ?_
  unfold f_230 at hf
  refine bs_st 1 (x' := (1, [some (.ref 89), some (.int x1), some (.int x2), some (.int x3)], [.int x1], hp kp nh rh tl rl I L)) rfl ?_
  refine bs_br (t := 18) (e := 4) (lo := [some (.ref 89), some (.int x1), some (.int x2), some (.int x3)]) (st := []) (h := hp kp nh rh tl rl I L) rfl hf (fun hc hf => ?_) (fun hc hf => ?_)
  · exact tc_230_0 Ls xs d kp tl rl nh rh n (some (.int x2)) (some (.int x3)) x1 I L r hf
  · refine bs_st 2 (x' := (6, [some (.ref 89), some (.int x1), some (.int x2), some (.int x3)], [.int x2, .ref 89], hp kp nh rh tl rl I L)) rfl ?_
    obtain ⟨q1, hq1, hf⟩ := Option.bind_eq_some_iff.mp hf
    refine bs_call (o := pEN Ls xs (d + 2) 223 [.ref 89, .int x2] (hp kp nh rh tl rl I L)) (w := some (.int q1)) (h' := hp kp nh rh tl rl I L) (pc := 9) (lo := [some (.ref 89), some (.int x1), some (.int x2), some (.int x3)]) (rest := []) rfl (t_223 Ls xs (d + 1) kp tl rl nh rh x2 I L q1 hq1) ?_
    refine bs_st 1 (x' := (10, [some (.ref 89), some (.int x1), some (.int x2), some (.int x3)], [.int x3, .int q1], hp kp nh rh tl rl I L)) rfl ?_
    refine bs_br (t := 18) (e := 13) (lo := [some (.ref 89), some (.int x1), some (.int x2), some (.int x3)]) (st := []) (h := hp kp nh rh tl rl I L) rfl hf (fun hc hf => ?_) (fun hc hf => ?_)
    · exact tc_230_0 Ls xs d kp tl rl nh rh n (some (.int x2)) (some (.int x3)) x1 I L r hf
    · refine bs_st 2 (x' := (15, [some (.ref 89), some (.int x1), some (.int x2), some (.int x3)], [.int (3 : Int32), .ref 89], hp kp nh rh tl rl I L)) rfl ?_
      obtain ⟨q2, hq2, hf⟩ := Option.bind_eq_some_iff.mp hf
      refine bs_call (o := pEN Ls xs (d + 2) 213 [.ref 89, .int (3 : Int32)] (hp kp nh rh tl rl I L)) (w := none) (h' := hp kp nh rh tl rl q2.1 q2.2) (pc := 18) (lo := [some (.ref 89), some (.int x1), some (.int x2), some (.int x3)]) (rest := []) rfl (t_213 Ls xs (d + 1) kp tl rl nh rh (3 : Int32) I L q2 hq2) ?_
      exact tc_230_0 Ls xs d kp tl rl nh rh n (some (.int x2)) (some (.int x3)) x1 q2.1 q2.2 r hf
/-- LampRoundsModel.lineHere() on (89,) -/
def c_231_2 (n : Nat) (I : FI) (L : FL) : Option (FI × FL) :=
  if ¬ I 89 12 = 0 then
    some (I, L)
  else
    (f_213 (1 : Int32) I L).bind fun q2 =>
    some (q2.1, q2.2)
set_option maxHeartbeats 1000000 in
set_option maxRecDepth 20000 in
theorem tc_231_2 (Ls : Nat) (xs : Nat → Int32) (d : Nat) (kp : Option Nat) (tl : List (Nat × Nat)) (rl : List (List (Option Nat))) (nh : Option Nat) (rh : Option Nat) (n : Nat) (I : FI) (L : FL) (r : FI × FL) (hf : c_231_2 n I L = some r) : Bs cd_231 (sf 12 rs_12 false 1 none Ls xs (d + 6)) (115, [some (.ref 89)], [], hp kp nh rh tl rl I L) (none, hp kp nh rh tl rl r.1 r.2) := by
  unfold c_231_2 at hf
  refine bs_st 2 (x' := (119, [some (.ref 89)], [.int (I 89 12)], hp kp nh rh tl rl I L)) rfl ?_
  refine bs_br (t := 127) (e := 122) (lo := [some (.ref 89)]) (st := []) (h := hp kp nh rh tl rl I L) rfl hf (fun hc hf => ?_) (fun hc hf => ?_)
  · cases hf
    exact bs_ret rfl
  · refine bs_st 2 (x' := (124, [some (.ref 89)], [.int (1 : Int32), .ref 89], hp kp nh rh tl rl I L)) rfl ?_
    obtain ⟨q2, hq2, hf⟩ := Option.bind_eq_some_iff.mp hf
    refine bs_call (o := pEN Ls xs (d + 6) 213 [.ref 89, .int (1 : Int32)] (hp kp nh rh tl rl I L)) (w := none) (h' := hp kp nh rh tl rl q2.1 q2.2) (pc := 127) (lo := [some (.ref 89)]) (rest := []) rfl (t_213 Ls xs (d + 5) kp tl rl nh rh (1 : Int32) I L q2 hq2) ?_
    cases hf
    exact bs_ret rfl
def c_231_1 (n : Nat) (I : FI) (L : FL) : Option (FI × FL) :=
  if ¬ I 89 12 = 0 then
    c_231_2 n I L
  else
    (f_214 (9876874 : Int64) I L).bind fun q3 =>
    (f_230 n q3 (8 : Int32) (1 : Int32) I L).bind fun q4 =>
    if q4.1 = 0 then
      c_231_2 n q4.2.1 q4.2.2
    else
      (f_229 n q4.2.1 q4.2.2).bind fun q5 =>
      some (q5.1, q5.2)
set_option maxHeartbeats 1000000 in
set_option maxRecDepth 20000 in
theorem tc_231_1 (Ls : Nat) (xs : Nat → Int32) (d : Nat) (kp : Option Nat) (tl : List (Nat × Nat)) (rl : List (List (Option Nat))) (nh : Option Nat) (rh : Option Nat) (n : Nat) (I : FI) (L : FL) (r : FI × FL) (hf : c_231_1 n I L = some r) : Bs cd_231 (sf 12 rs_12 false 1 none Ls xs (d + 6)) (84, [some (.ref 89)], [], hp kp nh rh tl rl I L) (none, hp kp nh rh tl rl r.1 r.2) := by
  unfold c_231_1 at hf
  refine bs_st 2 (x' := (88, [some (.ref 89)], [.int (I 89 12)], hp kp nh rh tl rl I L)) rfl ?_
  refine bs_br (t := 115) (e := 91) (lo := [some (.ref 89)]) (st := []) (h := hp kp nh rh tl rl I L) rfl hf (fun hc hf => ?_) (fun hc hf => ?_)
  · exact tc_231_2 Ls xs d kp tl rl nh rh n I L r hf
  · refine bs_st 3 (x' := (96, [some (.ref 89)], [.long (9876874 : Int64), .ref 89, .ref 89], hp kp nh rh tl rl I L)) rfl ?_
    obtain ⟨q3, hq3, hf⟩ := Option.bind_eq_some_iff.mp hf
    refine bs_call (o := pEN Ls xs (d + 6) 214 [.ref 89, .long (9876874 : Int64)] (hp kp nh rh tl rl I L)) (w := some (.int q3)) (h' := hp kp nh rh tl rl I L) (pc := 99) (lo := [some (.ref 89)]) (rest := [.ref 89]) rfl (t_214 Ls xs (d + 5) kp tl rl nh rh (9876874 : Int64) I L q3 hq3) ?_
    refine bs_st 2 (x' := (102, [some (.ref 89)], [.int (1 : Int32), .int (8 : Int32), .int q3, .ref 89], hp kp nh rh tl rl I L)) rfl ?_
    obtain ⟨q4, hq4, hf⟩ := Option.bind_eq_some_iff.mp hf
    refine bs_call (o := pEN Ls xs (d + 6) 230 [.ref 89, .int q3, .int (8 : Int32), .int (1 : Int32)] (hp kp nh rh tl rl I L)) (w := some (.int q4.1)) (h' := hp kp nh rh tl rl q4.2.1 q4.2.2) (pc := 105) (lo := [some (.ref 89)]) (rest := []) rfl (t_230 Ls xs (d + 3) kp tl rl nh rh n q3 (8 : Int32) (1 : Int32) I L q4 hq4) ?_
    refine bs_br (t := 115) (e := 108) (lo := [some (.ref 89)]) (st := []) (h := hp kp nh rh tl rl q4.2.1 q4.2.2) rfl hf (fun hc hf => ?_) (fun hc hf => ?_)
    · exact tc_231_2 Ls xs d kp tl rl nh rh n q4.2.1 q4.2.2 r hf
    · refine bs_st 1 (x' := (109, [some (.ref 89)], [.ref 89], hp kp nh rh tl rl q4.2.1 q4.2.2)) rfl ?_
      obtain ⟨q5, hq5, hf⟩ := Option.bind_eq_some_iff.mp hf
      refine bs_call (o := pEN Ls xs (d + 6) 229 [.ref 89] (hp kp nh rh tl rl q4.2.1 q4.2.2)) (w := none) (h' := hp kp nh rh tl rl q5.1 q5.2) (pc := 112) (lo := [some (.ref 89)]) (rest := []) rfl (t_229 Ls xs (d + 1) kp tl rl nh rh n q4.2.1 q4.2.2 q5 hq5) ?_
      refine bs_st 1 (x' := (127, [some (.ref 89)], [], hp kp nh rh tl rl q5.1 q5.2)) rfl ?_
      cases hf
      exact bs_ret rfl
def c_231_0 (n : Nat) (I : FI) (L : FL) : Option (FI × FL) :=
  if ¬ I 89 12 = 0 then
    c_231_1 n I L
  else
    (f_214 (8662680450 : Int64) I L).bind fun q6 =>
    (f_230 n q6 (5 : Int32) (5 : Int32) I L).bind fun q7 =>
    if q7.1 = 0 then
      c_231_1 n q7.2.1 q7.2.2
    else
      (f_228 n q7.2.1 q7.2.2).bind fun q8 =>
      some (q8.1, q8.2)
set_option maxHeartbeats 1000000 in
set_option maxRecDepth 20000 in
theorem tc_231_0 (Ls : Nat) (xs : Nat → Int32) (d : Nat) (kp : Option Nat) (tl : List (Nat × Nat)) (rl : List (List (Option Nat))) (nh : Option Nat) (rh : Option Nat) (n : Nat) (I : FI) (L : FL) (r : FI × FL) (hf : c_231_0 n I L = some r) : Bs cd_231 (sf 12 rs_12 false 1 none Ls xs (d + 6)) (54, [some (.ref 89)], [], hp kp nh rh tl rl I L) (none, hp kp nh rh tl rl r.1 r.2) := by
  unfold c_231_0 at hf
  refine bs_st 2 (x' := (58, [some (.ref 89)], [.int (I 89 12)], hp kp nh rh tl rl I L)) rfl ?_
  refine bs_br (t := 84) (e := 61) (lo := [some (.ref 89)]) (st := []) (h := hp kp nh rh tl rl I L) rfl hf (fun hc hf => ?_) (fun hc hf => ?_)
  · exact tc_231_1 Ls xs d kp tl rl nh rh n I L r hf
  · refine bs_st 3 (x' := (66, [some (.ref 89)], [.long (8662680450 : Int64), .ref 89, .ref 89], hp kp nh rh tl rl I L)) rfl ?_
    obtain ⟨q6, hq6, hf⟩ := Option.bind_eq_some_iff.mp hf
    refine bs_call (o := pEN Ls xs (d + 6) 214 [.ref 89, .long (8662680450 : Int64)] (hp kp nh rh tl rl I L)) (w := some (.int q6)) (h' := hp kp nh rh tl rl I L) (pc := 69) (lo := [some (.ref 89)]) (rest := [.ref 89]) rfl (t_214 Ls xs (d + 5) kp tl rl nh rh (8662680450 : Int64) I L q6 hq6) ?_
    refine bs_st 2 (x' := (71, [some (.ref 89)], [.int (5 : Int32), .int (5 : Int32), .int q6, .ref 89], hp kp nh rh tl rl I L)) rfl ?_
    obtain ⟨q7, hq7, hf⟩ := Option.bind_eq_some_iff.mp hf
    refine bs_call (o := pEN Ls xs (d + 6) 230 [.ref 89, .int q6, .int (5 : Int32), .int (5 : Int32)] (hp kp nh rh tl rl I L)) (w := some (.int q7.1)) (h' := hp kp nh rh tl rl q7.2.1 q7.2.2) (pc := 74) (lo := [some (.ref 89)]) (rest := []) rfl (t_230 Ls xs (d + 3) kp tl rl nh rh n q6 (5 : Int32) (5 : Int32) I L q7 hq7) ?_
    refine bs_br (t := 84) (e := 77) (lo := [some (.ref 89)]) (st := []) (h := hp kp nh rh tl rl q7.2.1 q7.2.2) rfl hf (fun hc hf => ?_) (fun hc hf => ?_)
    · exact tc_231_1 Ls xs d kp tl rl nh rh n q7.2.1 q7.2.2 r hf
    · refine bs_st 1 (x' := (78, [some (.ref 89)], [.ref 89], hp kp nh rh tl rl q7.2.1 q7.2.2)) rfl ?_
      obtain ⟨q8, hq8, hf⟩ := Option.bind_eq_some_iff.mp hf
      refine bs_call (o := pEN Ls xs (d + 6) 228 [.ref 89] (hp kp nh rh tl rl q7.2.1 q7.2.2)) (w := none) (h' := hp kp nh rh tl rl q8.1 q8.2) (pc := 81) (lo := [some (.ref 89)]) (rest := []) rfl (t_228 Ls xs (d + 0) kp tl rl nh rh n q7.2.1 q7.2.2 q8 hq8) ?_
      refine bs_st 1 (x' := (127, [some (.ref 89)], [], hp kp nh rh tl rl q8.1 q8.2)) rfl ?_
      cases hf
      exact bs_ret rfl
def f_231 (n : Nat) (I : FI) (L : FL) : Option (FI × FL) :=
  (f_214 (365647 : Int64) I L).bind fun q0 =>
  (f_230 n q0 (3 : Int32) (4 : Int32) I L).bind fun q1 =>
  if q1.1 = 0 then
    if ¬ q1.2.1 89 12 = 0 then
      c_231_0 n q1.2.1 q1.2.2
    else
      (f_214 (16819 : Int64) q1.2.1 q1.2.2).bind fun q9 =>
      (f_230 n q9 (4 : Int32) (6 : Int32) q1.2.1 q1.2.2).bind fun q10 =>
      if q10.1 = 0 then
        c_231_0 n q10.2.1 q10.2.2
      else
        (f_227 n q10.2.1 q10.2.2).bind fun q11 =>
        some (q11.1, q11.2)
  else
    (f_226 n q1.2.1 q1.2.2).bind fun q12 =>
    some (q12.1, q12.2)
set_option maxHeartbeats 1000000 in
set_option maxRecDepth 20000 in
theorem t_231 (Ls : Nat) (xs : Nat → Int32) (d : Nat) (kp : Option Nat) (tl : List (Nat × Nat)) (rl : List (List (Option Nat))) (nh : Option Nat) (rh : Option Nat) (n : Nat) (I : FI) (L : FL) (r : FI × FL) (hf : f_231 n I L = some r) : pEN Ls xs (d + 7) 231 [.ref 89] (hp kp nh rh tl rl I L) = some (none, hp kp nh rh tl rl r.1 r.2) := by
  refine en_run (d := d + 6) (cd := cd_231) (f := (sf 12 rs_12 false 1 none Ls xs (d + 6))) rfl rfl (x := (0, [some (.ref 89)], [], hp kp nh rh tl rl I L)) rfl rfl (Nat.le_of_ble_eq_true rfl) ?_
  unfold f_231 at hf
  refine bs_st 3 (x' := (5, [some (.ref 89)], [.long (365647 : Int64), .ref 89, .ref 89], hp kp nh rh tl rl I L)) rfl ?_
  obtain ⟨q0, hq0, hf⟩ := Option.bind_eq_some_iff.mp hf
  refine bs_call (o := pEN Ls xs (d + 6) 214 [.ref 89, .long (365647 : Int64)] (hp kp nh rh tl rl I L)) (w := some (.int q0)) (h' := hp kp nh rh tl rl I L) (pc := 8) (lo := [some (.ref 89)]) (rest := [.ref 89]) rfl (t_214 Ls xs (d + 5) kp tl rl nh rh (365647 : Int64) I L q0 hq0) ?_
  refine bs_st 2 (x' := (10, [some (.ref 89)], [.int (4 : Int32), .int (3 : Int32), .int q0, .ref 89], hp kp nh rh tl rl I L)) rfl ?_
  obtain ⟨q1, hq1, hf⟩ := Option.bind_eq_some_iff.mp hf
  refine bs_call (o := pEN Ls xs (d + 6) 230 [.ref 89, .int q0, .int (3 : Int32), .int (4 : Int32)] (hp kp nh rh tl rl I L)) (w := some (.int q1.1)) (h' := hp kp nh rh tl rl q1.2.1 q1.2.2) (pc := 13) (lo := [some (.ref 89)]) (rest := []) rfl (t_230 Ls xs (d + 3) kp tl rl nh rh n q0 (3 : Int32) (4 : Int32) I L q1 hq1) ?_
  refine bs_br (t := 23) (e := 16) (lo := [some (.ref 89)]) (st := []) (h := hp kp nh rh tl rl q1.2.1 q1.2.2) rfl hf (fun hc hf => ?_) (fun hc hf => ?_)
  · refine bs_st 2 (x' := (27, [some (.ref 89)], [.int (q1.2.1 89 12)], hp kp nh rh tl rl q1.2.1 q1.2.2)) rfl ?_
    refine bs_br (t := 54) (e := 30) (lo := [some (.ref 89)]) (st := []) (h := hp kp nh rh tl rl q1.2.1 q1.2.2) rfl hf (fun hc hf => ?_) (fun hc hf => ?_)
    · exact tc_231_0 Ls xs d kp tl rl nh rh n q1.2.1 q1.2.2 r hf
    · refine bs_st 3 (x' := (35, [some (.ref 89)], [.long (16819 : Int64), .ref 89, .ref 89], hp kp nh rh tl rl q1.2.1 q1.2.2)) rfl ?_
      obtain ⟨q9, hq9, hf⟩ := Option.bind_eq_some_iff.mp hf
      refine bs_call (o := pEN Ls xs (d + 6) 214 [.ref 89, .long (16819 : Int64)] (hp kp nh rh tl rl q1.2.1 q1.2.2)) (w := some (.int q9)) (h' := hp kp nh rh tl rl q1.2.1 q1.2.2) (pc := 38) (lo := [some (.ref 89)]) (rest := [.ref 89]) rfl (t_214 Ls xs (d + 5) kp tl rl nh rh (16819 : Int64) q1.2.1 q1.2.2 q9 hq9) ?_
      refine bs_st 2 (x' := (41, [some (.ref 89)], [.int (6 : Int32), .int (4 : Int32), .int q9, .ref 89], hp kp nh rh tl rl q1.2.1 q1.2.2)) rfl ?_
      obtain ⟨q10, hq10, hf⟩ := Option.bind_eq_some_iff.mp hf
      refine bs_call (o := pEN Ls xs (d + 6) 230 [.ref 89, .int q9, .int (4 : Int32), .int (6 : Int32)] (hp kp nh rh tl rl q1.2.1 q1.2.2)) (w := some (.int q10.1)) (h' := hp kp nh rh tl rl q10.2.1 q10.2.2) (pc := 44) (lo := [some (.ref 89)]) (rest := []) rfl (t_230 Ls xs (d + 3) kp tl rl nh rh n q9 (4 : Int32) (6 : Int32) q1.2.1 q1.2.2 q10 hq10) ?_
      refine bs_br (t := 54) (e := 47) (lo := [some (.ref 89)]) (st := []) (h := hp kp nh rh tl rl q10.2.1 q10.2.2) rfl hf (fun hc hf => ?_) (fun hc hf => ?_)
      · exact tc_231_0 Ls xs d kp tl rl nh rh n q10.2.1 q10.2.2 r hf
      · refine bs_st 1 (x' := (48, [some (.ref 89)], [.ref 89], hp kp nh rh tl rl q10.2.1 q10.2.2)) rfl ?_
        obtain ⟨q11, hq11, hf⟩ := Option.bind_eq_some_iff.mp hf
        refine bs_call (o := pEN Ls xs (d + 6) 227 [.ref 89] (hp kp nh rh tl rl q10.2.1 q10.2.2)) (w := none) (h' := hp kp nh rh tl rl q11.1 q11.2) (pc := 51) (lo := [some (.ref 89)]) (rest := []) rfl (t_227 Ls xs (d + 1) kp tl rl nh rh n q10.2.1 q10.2.2 q11 hq11) ?_
        refine bs_st 1 (x' := (127, [some (.ref 89)], [], hp kp nh rh tl rl q11.1 q11.2)) rfl ?_
        cases hf
        exact bs_ret rfl
  · refine bs_st 1 (x' := (17, [some (.ref 89)], [.ref 89], hp kp nh rh tl rl q1.2.1 q1.2.2)) rfl ?_
    obtain ⟨q12, hq12, hf⟩ := Option.bind_eq_some_iff.mp hf
    refine bs_call (o := pEN Ls xs (d + 6) 226 [.ref 89] (hp kp nh rh tl rl q1.2.1 q1.2.2)) (w := none) (h' := hp kp nh rh tl rl q12.1 q12.2) (pc := 20) (lo := [some (.ref 89)]) (rest := []) rfl (t_226 Ls xs (d + 0) kp tl rl nh rh n q1.2.1 q1.2.2 q12 hq12) ?_
    refine bs_st 1 (x' := (127, [some (.ref 89)], [], hp kp nh rh tl rl q12.1 q12.2)) rfl ?_
    cases hf
    exact bs_ret rfl
/-- LampRoundsModel.clears() on (89,) -/
def b_232_0 (n : Nat) (K0 : Int32 → FI → FL → Option (FI × FL)) (x1 : Int32) (I : FI) (L : FL) : Option (FI × FL) :=
  if (9 : Int32) ≤ x1 then
    some (I, L)
  else
    (f_224 x1 (0 : Int32) I L).bind fun q0 =>
    K0 (x1 + (1 : Int32)) q0.1 q0.2
def c_232_0 (n : Nat) : Nat → Int32 → FI → FL → Option (FI × FL)
  | 0, _, _, _ => none
  | m + 1, x1, I, L => b_232_0 n (c_232_0 n m) x1 I L
set_option maxHeartbeats 1000000 in
set_option maxRecDepth 20000 in
theorem tc_232_0 (Ls : Nat) (xs : Nat → Int32) (d : Nat) (kp : Option Nat) (tl : List (Nat × Nat)) (rl : List (List (Option Nat))) (nh : Option Nat) (rh : Option Nat) (n : Nat) : ∀ (m : Nat) (x1 : Int32) (I : FI) (L : FL) (r : FI × FL), c_232_0 n m x1 I L = some r → Bs cd_232 (sf 12 rs_12 false 2 none Ls xs (d + 1)) (9, [some (.ref 89), some (.int x1)], [], hp kp nh rh tl rl I L) (none, hp kp nh rh tl rl r.1 r.2)
  | 0, x1, I, L, r, hf => by cases hf
  | m + 1, x1, I, L, r, hf => by
    unfold c_232_0 b_232_0 at hf
    have hK0 := tc_232_0 Ls xs d kp tl rl nh rh n m
    refine bs_st 2 (x' := (12, [some (.ref 89), some (.int x1)], [.int (9 : Int32), .int x1], hp kp nh rh tl rl I L)) rfl ?_
    refine bs_br (t := 27) (e := 15) (lo := [some (.ref 89), some (.int x1)]) (st := []) (h := hp kp nh rh tl rl I L) rfl hf (fun hc hf => ?_) (fun hc hf => ?_)
    · cases hf
      exact bs_ret rfl
    · refine bs_st 3 (x' := (18, [some (.ref 89), some (.int x1)], [.int (0 : Int32), .int x1, .ref 89], hp kp nh rh tl rl I L)) rfl ?_
      obtain ⟨q0, hq0, hf⟩ := Option.bind_eq_some_iff.mp hf
      refine bs_call (o := pEN Ls xs (d + 1) 224 [.ref 89, .int x1, .int (0 : Int32)] (hp kp nh rh tl rl I L)) (w := none) (h' := hp kp nh rh tl rl q0.1 q0.2) (pc := 21) (lo := [some (.ref 89), some (.int x1)]) (rest := []) rfl (t_224 Ls xs (d + 0) kp tl rl nh rh x1 (0 : Int32) I L q0 hq0) ?_
      refine bs_st 2 (x' := (9, [some (.ref 89), some (.int (x1 + (1 : Int32)))], [], hp kp nh rh tl rl q0.1 q0.2)) rfl ?_
      exact hK0 (x1 + (1 : Int32)) q0.1 q0.2 r hf
def f_232 (n : Nat) (I : FI) (L : FL) : Option (FI × FL) :=
  c_232_0 n n (0 : Int32) (u2 I 95 4 (0 : Int32)) L
set_option maxHeartbeats 1000000 in
set_option maxRecDepth 20000 in
theorem t_232 (Ls : Nat) (xs : Nat → Int32) (d : Nat) (kp : Option Nat) (tl : List (Nat × Nat)) (rl : List (List (Option Nat))) (nh : Option Nat) (rh : Option Nat) (n : Nat) (I : FI) (L : FL) (r : FI × FL) (hf : f_232 n I L = some r) : pEN Ls xs (d + 2) 232 [.ref 89] (hp kp nh rh tl rl I L) = some (none, hp kp nh rh tl rl r.1 r.2) := by
  refine en_run (d := d + 1) (cd := cd_232) (f := (sf 12 rs_12 false 2 none Ls xs (d + 1))) rfl rfl (x := (0, [some (.ref 89), none], [], hp kp nh rh tl rl I L)) rfl rfl (Nat.le_of_ble_eq_true rfl) ?_
  unfold f_232 at hf
  refine bs_st 7 (x' := (9, [some (.ref 89), some (.int (0 : Int32))], [], hp kp nh rh tl rl (u2 I 95 4 (0 : Int32)) L)) rfl ?_
  exact tc_232_0 Ls xs d kp tl rl nh rh n n (0 : Int32) (u2 I 95 4 (0 : Int32)) L r hf
/-- LampRoundsModel.copyRow([IIII) on (95,) -/
def b_234_0 (n : Nat) (K0 : Int32 → Int32 → Int32 → Int32 → FI → FL → Option (FI × FL)) (x1 : Int32) (x2 : Int32) (x3 : Int32) (x4 : Int32) (I : FI) (L : FL) : Option (FI × FL) :=
  if x1 ≤ x4 then
    some (I, L)
  else
    if pin ((x1 * x2) + x4) 5 = true then (if pin ((x1 * x3) + x4) 5 = true then K0 x1 x2 x3 (x4 + (1 : Int32)) (u2 I 95 (((x1 * x3) + x4).toNatClampNeg) (I 95 (((x1 * x2) + x4).toNatClampNeg))) L else none) else none
def c_234_0 (n : Nat) : Nat → Int32 → Int32 → Int32 → Int32 → FI → FL → Option (FI × FL)
  | 0, _, _, _, _, _, _ => none
  | m + 1, x1, x2, x3, x4, I, L => b_234_0 n (c_234_0 n m) x1 x2 x3 x4 I L
set_option maxHeartbeats 1000000 in
set_option maxRecDepth 20000 in
theorem tc_234_0 (Ls : Nat) (xs : Nat → Int32) (d : Nat) (kp : Option Nat) (tl : List (Nat × Nat)) (rl : List (List (Option Nat))) (nh : Option Nat) (rh : Option Nat) (n : Nat) : ∀ (m : Nat) (x1 : Int32) (x2 : Int32) (x3 : Int32) (x4 : Int32) (I : FI) (L : FL) (r : FI × FL), c_234_0 n m x1 x2 x3 x4 I L = some r → Bs cd_234 (sf 12 rs_12 false 5 none Ls xs (d + 0)) (3, [some (.ref 95), some (.int x1), some (.int x2), some (.int x3), some (.int x4)], [], hp kp nh rh tl rl I L) (none, hp kp nh rh tl rl r.1 r.2)
  | 0, x1, x2, x3, x4, I, L, r, hf => by cases hf
  | m + 1, x1, x2, x3, x4, I, L, r, hf => by
    unfold c_234_0 b_234_0 at hf
    have hK0 := tc_234_0 Ls xs d kp tl rl nh rh n m
    refine bs_st 2 (x' := (6, [some (.ref 95), some (.int x1), some (.int x2), some (.int x3), some (.int x4)], [.int x1, .int x4], hp kp nh rh tl rl I L)) rfl ?_
    refine bs_br (t := 31) (e := 9) (lo := [some (.ref 95), some (.int x1), some (.int x2), some (.int x3), some (.int x4)]) (st := []) (h := hp kp nh rh tl rl I L) rfl hf (fun hc hf => ?_) (fun hc hf => ?_)
    · cases hf
      exact bs_ret rfl
    · refine bs_st 12 (x' := (23, [some (.ref 95), some (.int x1), some (.int x2), some (.int x3), some (.int x4)], [.int ((x1 * x2) + x4), .ref 95, .int ((x1 * x3) + x4), .ref 95], hp kp nh rh tl rl I L)) rfl ?_
      refine bs_gd (x' := (24, [some (.ref 95), some (.int x1), some (.int x2), some (.int x3), some (.int x4)], [.int (I 95 (((x1 * x2) + x4).toNatClampNeg)), .int ((x1 * x3) + x4), .ref 95], hp kp nh rh tl rl I L)) rfl hf (fun hc hf => ?_)
      refine bs_gd (x' := (25, [some (.ref 95), some (.int x1), some (.int x2), some (.int x3), some (.int x4)], [], hp kp nh rh tl rl (u2 I 95 (((x1 * x3) + x4).toNatClampNeg) (I 95 (((x1 * x2) + x4).toNatClampNeg))) L)) rfl hf (fun hc hf => ?_)
      refine bs_st 2 (x' := (3, [some (.ref 95), some (.int x1), some (.int x2), some (.int x3), some (.int (x4 + (1 : Int32)))], [], hp kp nh rh tl rl (u2 I 95 (((x1 * x3) + x4).toNatClampNeg) (I 95 (((x1 * x2) + x4).toNatClampNeg))) L)) rfl ?_
      exact hK0 x1 x2 x3 (x4 + (1 : Int32)) (u2 I 95 (((x1 * x3) + x4).toNatClampNeg) (I 95 (((x1 * x2) + x4).toNatClampNeg))) L r hf
def f_234 (n : Nat) (x1 : Int32) (x2 : Int32) (x3 : Int32) (I : FI) (L : FL) : Option (FI × FL) :=
  c_234_0 n n x1 x2 x3 (0 : Int32) I L
set_option maxHeartbeats 1000000 in
set_option maxRecDepth 20000 in
theorem t_234 (Ls : Nat) (xs : Nat → Int32) (d : Nat) (kp : Option Nat) (tl : List (Nat × Nat)) (rl : List (List (Option Nat))) (nh : Option Nat) (rh : Option Nat) (n : Nat) (x1 : Int32) (x2 : Int32) (x3 : Int32) (I : FI) (L : FL) (r : FI × FL) (hf : f_234 n x1 x2 x3 I L = some r) : pEN Ls xs (d + 1) 234 [.ref 95, .int x1, .int x2, .int x3] (hp kp nh rh tl rl I L) = some (none, hp kp nh rh tl rl r.1 r.2) := by
  refine en_run (d := d + 0) (cd := cd_234) (f := (sf 12 rs_12 false 5 none Ls xs (d + 0))) rfl rfl (x := (0, [some (.ref 95), some (.int x1), some (.int x2), some (.int x3), none], [], hp kp nh rh tl rl I L)) rfl rfl (Nat.le_of_ble_eq_true rfl) ?_
  unfold f_234 at hf
  refine bs_st 2 (x' := (3, [some (.ref 95), some (.int x1), some (.int x2), some (.int x3), some (.int (0 : Int32))], [], hp kp nh rh tl rl I L)) rfl ?_
  exact tc_234_0 Ls xs d kp tl rl nh rh n n x1 x2 x3 (0 : Int32) I L r hf
