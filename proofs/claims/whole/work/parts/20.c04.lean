/-- Ageing.lengthen(II) on (115,) -/
def f_5 (x1 : Int32) (x2 : Int32) (I : FI) (L : FL) : Option (FI × FL) :=
  (f_359 (((I 115 1) >>> (((4 : Int32) * x1) &&& 31)) &&& (15 : Int32)) x2 I L).bind fun q0 =>
  some ((u2 I 115 1 ((I 115 1) - (q0 <<< (((4 : Int32) * x1) &&& 31)))), L)
set_option maxHeartbeats 1000000 in
set_option maxRecDepth 20000 in
theorem t_5 (Ls : Nat) (xs : Nat → Int32) (d : Nat) (nh : Option Nat) (rh : Option Nat) (x1 : Int32) (x2 : Int32) (I : FI) (L : FL) (r : FI × FL) (hf : f_5 x1 x2 I L = some r) : pEN Ls xs (d + 2) 5 [.ref 115, .int x1, .int x2] (hp (some 114) nh rh TK (RK (some 3)) I L) = some (none, hp (some 114) nh rh TK (RK (some 3)) r.1 r.2) := by
  refine en_run (d := d + 1) (cd := cd_5) (f := (sf 1 rs_1 false 4 none Ls xs (d + 1))) rfl rfl (x := (0, [some (.ref 115), some (.int x1), some (.int x2), none], [], hp (some 114) nh rh TK (RK (some 3)) I L)) rfl rfl (Nat.le_of_ble_eq_true rfl) ?_
  unfold f_5 at hf
  refine bs_st 14 (x' := (19, [some (.ref 115), some (.int x1), some (.int x2), some (.int (((I 115 1) >>> (((4 : Int32) * x1) &&& 31)) &&& (15 : Int32)))], [.int x2, .int (((I 115 1) >>> (((4 : Int32) * x1) &&& 31)) &&& (15 : Int32)), .int (I 115 1), .ref 115], hp (some 114) nh rh TK (RK (some 3)) I L)) rfl ?_
  obtain ⟨q0, hq0, hf⟩ := Option.bind_eq_some_iff.mp hf
  refine bs_call (o := pEN Ls xs (d + 1) 359 [.int (((I 115 1) >>> (((4 : Int32) * x1) &&& 31)) &&& (15 : Int32)), .int x2] (hp (some 114) nh rh TK (RK (some 3)) I L)) (w := some (.int q0)) (h' := hp (some 114) nh rh TK (RK (some 3)) I L) (pc := 22) (lo := [some (.ref 115), some (.int x1), some (.int x2), some (.int (((I 115 1) >>> (((4 : Int32) * x1) &&& 31)) &&& (15 : Int32)))]) (rest := [.int (I 115 1), .ref 115]) rfl (t_359 Ls xs (d + 0) (some 114) TK (RK (some 3)) nh rh (((I 115 1) >>> (((4 : Int32) * x1) &&& 31)) &&& (15 : Int32)) x2 I L q0 hq0) ?_
  refine bs_st 6 (x' := (30, [some (.ref 115), some (.int x1), some (.int x2), some (.int (((I 115 1) >>> (((4 : Int32) * x1) &&& 31)) &&& (15 : Int32)))], [], hp (some 114) nh rh TK (RK (some 3)) (u2 I 115 1 ((I 115 1) - (q0 <<< (((4 : Int32) * x1) &&& 31)))) L)) rfl ?_
  cases hf
  exact bs_ret rfl
/-- Keeper.isKeptWith(II) on (114,) -/
def f_37 (n : Nat) (x1 : Int32) (x2 : Int32) (I : FI) (L : FL) : Option (Int32 × FI × FL) :=
  (f_24 I L).bind fun q0 =>
  (f_4 n q0 I L).bind fun q1 =>
  (f_5 x1 x2 q1.1 q1.2).bind fun q2 =>
  (f_39 n q2.1 q2.2).bind fun q3 =>
  (f_23 (u2 q3.1 114 7 (-1 : Int32)) q3.2).bind fun q4 =>
  (f_40 q4 (u2 q3.1 114 7 (-1 : Int32)) q3.2).bind fun q5 =>
  (f_42 n q5 (u2 q3.1 114 7 (-1 : Int32)) q3.2).bind fun q6 =>
  if narrow .boolean (.int q6.1) = .int q6.1 then some (q6.1, q6.2.1, q6.2.2) else none
set_option maxHeartbeats 1000000 in
set_option maxRecDepth 20000 in
theorem t_37 (Ls : Nat) (xs : Nat → Int32) (d : Nat) (nh : Option Nat) (rh : Option Nat) (n : Nat) (x1 : Int32) (x2 : Int32) (I : FI) (L : FL) (r : Int32 × FI × FL) (hf : f_37 n x1 x2 I L = some r) : pEN Ls xs (d + 5) 37 [.ref 114, .int x1, .int x2] (hp (some 114) nh rh TK (RK (some 3)) I L) = some (some (.int r.1), hp (some 114) nh rh TK (RK (some 3)) r.2.1 r.2.2) := by
  refine en_run (d := d + 4) (cd := cd_37) (f := (sf 5 rs_5 false 3 (some (.boolean)) Ls xs (d + 4))) rfl rfl (x := (0, [some (.ref 114), some (.int x1), some (.int x2)], [], hp (some 114) nh rh TK (RK (some 3)) I L)) rfl rfl (Nat.le_of_ble_eq_true rfl) ?_
  unfold f_37 at hf
  refine bs_st 6 (x' := (12, [some (.ref 114), some (.int x1), some (.int x2)], [.ref 3, .ref 3, .ref 115], hp (some 114) nh rh TK (RK (some 3)) I L)) rfl ?_
  obtain ⟨q0, hq0, hf⟩ := Option.bind_eq_some_iff.mp hf
  refine bs_call (o := pEN Ls xs (d + 4) 24 [.ref 3] (hp (some 114) nh rh TK (RK (some 3)) I L)) (w := some (.int q0)) (h' := hp (some 114) nh rh TK (RK (some 3)) I L) (pc := 15) (lo := [some (.ref 114), some (.int x1), some (.int x2)]) (rest := [.ref 3, .ref 115]) rfl (t_24 Ls xs (d + 3) (some 114) TK (RK (some 3)) nh rh I L q0 hq0) ?_
  obtain ⟨q1, hq1, hf⟩ := Option.bind_eq_some_iff.mp hf
  refine bs_call (o := pEN Ls xs (d + 4) 4 [.ref 115, .ref 3, .int q0] (hp (some 114) nh rh TK (RK (some 3)) I L)) (w := none) (h' := hp (some 114) nh rh TK (RK (some 3)) q1.1 q1.2) (pc := 18) (lo := [some (.ref 114), some (.int x1), some (.int x2)]) (rest := []) rfl (t_4 Ls xs (d + 2) nh rh n q0 I L q1 hq1) ?_
  refine bs_st 4 (x' := (24, [some (.ref 114), some (.int x1), some (.int x2)], [.int x2, .int x1, .ref 115], hp (some 114) nh rh TK (RK (some 3)) q1.1 q1.2)) rfl ?_
  obtain ⟨q2, hq2, hf⟩ := Option.bind_eq_some_iff.mp hf
  refine bs_call (o := pEN Ls xs (d + 4) 5 [.ref 115, .int x1, .int x2] (hp (some 114) nh rh TK (RK (some 3)) q1.1 q1.2)) (w := none) (h' := hp (some 114) nh rh TK (RK (some 3)) q2.1 q2.2) (pc := 27) (lo := [some (.ref 114), some (.int x1), some (.int x2)]) (rest := []) rfl (t_5 Ls xs (d + 2) nh rh x1 x2 q1.1 q1.2 q2 hq2) ?_
  refine bs_st 1 (x' := (28, [some (.ref 114), some (.int x1), some (.int x2)], [.ref 114], hp (some 114) nh rh TK (RK (some 3)) q2.1 q2.2)) rfl ?_
  obtain ⟨q3, hq3, hf⟩ := Option.bind_eq_some_iff.mp hf
  refine bs_call (o := pEN Ls xs (d + 4) 39 [.ref 114] (hp (some 114) nh rh TK (RK (some 3)) q2.1 q2.2)) (w := none) (h' := hp (some 114) nh rh TK (RK (some 3)) q3.1 q3.2) (pc := 31) (lo := [some (.ref 114), some (.int x1), some (.int x2)]) (rest := []) rfl (t_39 Ls xs (d + 3) nh rh n q2.1 q2.2 q3 hq3) ?_
  refine bs_st 7 (x' := (42, [some (.ref 114), some (.int x1), some (.int x2)], [.ref 3, .ref 114, .ref 114], hp (some 114) nh rh TK (RK (some 3)) (u2 q3.1 114 7 (-1 : Int32)) q3.2)) rfl ?_
  obtain ⟨q4, hq4, hf⟩ := Option.bind_eq_some_iff.mp hf
  refine bs_call (o := pEN Ls xs (d + 4) 23 [.ref 3] (hp (some 114) nh rh TK (RK (some 3)) (u2 q3.1 114 7 (-1 : Int32)) q3.2)) (w := some (.int q4)) (h' := hp (some 114) nh rh TK (RK (some 3)) (u2 q3.1 114 7 (-1 : Int32)) q3.2) (pc := 45) (lo := [some (.ref 114), some (.int x1), some (.int x2)]) (rest := [.ref 114, .ref 114]) rfl (t_23 Ls xs (d + 3) (some 114) TK (RK (some 3)) nh rh (u2 q3.1 114 7 (-1 : Int32)) q3.2 q4 hq4) ?_
  obtain ⟨q5, hq5, hf⟩ := Option.bind_eq_some_iff.mp hf
  refine bs_call (o := pEN Ls xs (d + 4) 40 [.ref 114, .int q4] (hp (some 114) nh rh TK (RK (some 3)) (u2 q3.1 114 7 (-1 : Int32)) q3.2)) (w := some (.int q5)) (h' := hp (some 114) nh rh TK (RK (some 3)) (u2 q3.1 114 7 (-1 : Int32)) q3.2) (pc := 48) (lo := [some (.ref 114), some (.int x1), some (.int x2)]) (rest := [.ref 114]) rfl (t_40 Ls xs (d + 2) nh rh q4 (u2 q3.1 114 7 (-1 : Int32)) q3.2 q5 hq5) ?_
  obtain ⟨q6, hq6, hf⟩ := Option.bind_eq_some_iff.mp hf
  refine bs_call (o := pEN Ls xs (d + 4) 42 [.ref 114, .int q5] (hp (some 114) nh rh TK (RK (some 3)) (u2 q3.1 114 7 (-1 : Int32)) q3.2)) (w := some (.int q6.1)) (h' := hp (some 114) nh rh TK (RK (some 3)) q6.2.1 q6.2.2) (pc := 51) (lo := [some (.ref 114), some (.int x1), some (.int x2)]) (rest := []) rfl (t_42 Ls xs (d + 0) nh rh n q5 (u2 q3.1 114 7 (-1 : Int32)) q3.2 q6 hq6) ?_
  split at hf
  · rename_i hg; cases hf; exact bs_rg rfl hg
  · cases hf
/-- Keeper.moreWait(I) on (114,) -/
def c_36_0 (n : Nat) (x1 : Int32) (I : FI) (L : FL) : Option (Int32 × FI × FL) :=
  if pin x1 4 = true then some (I 121 x1.toNatClampNeg, I, L) else none
set_option maxHeartbeats 1000000 in
set_option maxRecDepth 20000 in
theorem tc_36_0 (Ls : Nat) (xs : Nat → Int32) (d : Nat) (nh : Option Nat) (rh : Option Nat) (n : Nat) (w2 : Option Value) (w3 : Option Value) (x1 : Int32) (I : FI) (L : FL) (r : Int32 × FI × FL) (hf : c_36_0 n x1 I L = some r) : Bs cd_36 (sf 5 rs_5 false 4 (some (.int)) Ls xs (d + 5)) (70, [some (.ref 114), some (.int x1), w2, w3], [], hp (some 114) nh rh TK (RK (some 3)) I L) (some (.int r.1), hp (some 114) nh rh TK (RK (some 3)) r.2.1 r.2.2) := by
  unfold c_36_0 at hf
  refine bs_st 3 (x' := (75, [some (.ref 114), some (.int x1), w2, w3], [.int x1, .ref 121], hp (some 114) nh rh TK (RK (some 3)) I L)) rfl ?_
  refine bs_gd (x' := (76, [some (.ref 114), some (.int x1), w2, w3], [.int (I 121 x1.toNatClampNeg)], hp (some 114) nh rh TK (RK (some 3)) I L)) rfl hf (fun hc hf => ?_)
  cases hf
  exact bs_ret rfl
def c_36_2 (n : Nat) (K1 : Int32 → Int32 → Int32 → FI → FL → Option (Int32 × FI × FL)) (x1 : Int32) (x2 : Int32) (x3 : Int32) (I : FI) (L : FL) : Option (Int32 × FI × FL) :=
  K1 x1 x2 (x3 + (1 : Int32)) I L
set_option maxHeartbeats 1000000 in
set_option maxRecDepth 20000 in
theorem tc_36_2 (Ls : Nat) (xs : Nat → Int32) (d : Nat) (nh : Option Nat) (rh : Option Nat) (n : Nat) (K1 : Int32 → Int32 → Int32 → FI → FL → Option (Int32 × FI × FL)) (hK1 : ∀ (x1 : Int32) (x2 : Int32) (x3 : Int32) (I : FI) (L : FL) (r : Int32 × FI × FL), K1 x1 x2 x3 I L = some r → Bs cd_36 (sf 5 rs_5 false 4 (some (.int)) Ls xs (d + 5)) (33, [some (.ref 114), some (.int x1), some (.int x2), some (.int x3)], [], hp (some 114) nh rh TK (RK (some 3)) I L) (some (.int r.1), hp (some 114) nh rh TK (RK (some 3)) r.2.1 r.2.2)) (x1 : Int32) (x2 : Int32) (x3 : Int32) (I : FI) (L : FL) (r : Int32 × FI × FL) (hf : c_36_2 n K1 x1 x2 x3 I L = some r) : Bs cd_36 (sf 5 rs_5 false 4 (some (.int)) Ls xs (d + 5)) (64, [some (.ref 114), some (.int x1), some (.int x2), some (.int x3)], [], hp (some 114) nh rh TK (RK (some 3)) I L) (some (.int r.1), hp (some 114) nh rh TK (RK (some 3)) r.2.1 r.2.2) := by
  unfold c_36_2 at hf
  refine bs_st 2 (x' := (33, [some (.ref 114), some (.int x1), some (.int x2), some (.int (x3 + (1 : Int32)))], [], hp (some 114) nh rh TK (RK (some 3)) I L)) rfl ?_
  exact hK1 x1 x2 (x3 + (1 : Int32)) I L r hf
def b_36_1 (n : Nat) (K1 : Int32 → Int32 → Int32 → FI → FL → Option (Int32 × FI × FL)) (x1 : Int32) (x2 : Int32) (x3 : Int32) (I : FI) (L : FL) : Option (Int32 × FI × FL) :=
  if x2 < x3 then
    c_36_0 n x1 I L
  else
    if pin x1 4 = true then (if ¬ I 121 x1.toNatClampNeg = (-1 : Int32) then
        c_36_0 n x1 I L
      else
        (f_37 n x1 x3 I L).bind fun q0 =>
        if q0.1 = 0 then
          c_36_2 n K1 x1 x2 x3 q0.2.1 q0.2.2
        else
          if pin x1 4 = true then c_36_2 n K1 x1 x2 x3 (u2 q0.2.1 121 x1.toNatClampNeg x3) q0.2.2 else none) else none
def c_36_1 (n : Nat) : Nat → Int32 → Int32 → Int32 → FI → FL → Option (Int32 × FI × FL)
  | 0, _, _, _, _, _ => none
  | m + 1, x1, x2, x3, I, L => b_36_1 n (c_36_1 n m) x1 x2 x3 I L
set_option maxHeartbeats 1000000 in
set_option maxRecDepth 20000 in
theorem tc_36_1 (Ls : Nat) (xs : Nat → Int32) (d : Nat) (nh : Option Nat) (rh : Option Nat) (n : Nat) : ∀ (m : Nat) (x1 : Int32) (x2 : Int32) (x3 : Int32) (I : FI) (L : FL) (r : Int32 × FI × FL), c_36_1 n m x1 x2 x3 I L = some r → Bs cd_36 (sf 5 rs_5 false 4 (some (.int)) Ls xs (d + 5)) (33, [some (.ref 114), some (.int x1), some (.int x2), some (.int x3)], [], hp (some 114) nh rh TK (RK (some 3)) I L) (some (.int r.1), hp (some 114) nh rh TK (RK (some 3)) r.2.1 r.2.2)
  | 0, x1, x2, x3, I, L, r, hf => by cases hf
  | m + 1, x1, x2, x3, I, L, r, hf => by
    unfold c_36_1 b_36_1 at hf
    have hK1 := tc_36_1 Ls xs d nh rh n m
    refine bs_st 2 (x' := (35, [some (.ref 114), some (.int x1), some (.int x2), some (.int x3)], [.int x2, .int x3], hp (some 114) nh rh TK (RK (some 3)) I L)) rfl ?_
    refine bs_br (t := 70) (e := 38) (lo := [some (.ref 114), some (.int x1), some (.int x2), some (.int x3)]) (st := []) (h := hp (some 114) nh rh TK (RK (some 3)) I L) rfl hf (fun hc hf => ?_) (fun hc hf => ?_)
    · exact tc_36_0 Ls xs d nh rh n (some (.int x2)) (some (.int x3)) x1 I L r hf
    · refine bs_st 3 (x' := (43, [some (.ref 114), some (.int x1), some (.int x2), some (.int x3)], [.int x1, .ref 121], hp (some 114) nh rh TK (RK (some 3)) I L)) rfl ?_
      refine bs_gd (x' := (44, [some (.ref 114), some (.int x1), some (.int x2), some (.int x3)], [.int (I 121 x1.toNatClampNeg)], hp (some 114) nh rh TK (RK (some 3)) I L)) rfl hf (fun hc hf => ?_)
      refine bs_st 1 (x' := (45, [some (.ref 114), some (.int x1), some (.int x2), some (.int x3)], [.int (-1 : Int32), .int (I 121 x1.toNatClampNeg)], hp (some 114) nh rh TK (RK (some 3)) I L)) rfl ?_
      refine bs_br (t := 70) (e := 48) (lo := [some (.ref 114), some (.int x1), some (.int x2), some (.int x3)]) (st := []) (h := hp (some 114) nh rh TK (RK (some 3)) I L) rfl hf (fun hc hf => ?_) (fun hc hf => ?_)
      · exact tc_36_0 Ls xs d nh rh n (some (.int x2)) (some (.int x3)) x1 I L r hf
      · refine bs_st 3 (x' := (51, [some (.ref 114), some (.int x1), some (.int x2), some (.int x3)], [.int x3, .int x1, .ref 114], hp (some 114) nh rh TK (RK (some 3)) I L)) rfl ?_
        obtain ⟨q0, hq0, hf⟩ := Option.bind_eq_some_iff.mp hf
        refine bs_call (o := pEN Ls xs (d + 5) 37 [.ref 114, .int x1, .int x3] (hp (some 114) nh rh TK (RK (some 3)) I L)) (w := some (.int q0.1)) (h' := hp (some 114) nh rh TK (RK (some 3)) q0.2.1 q0.2.2) (pc := 54) (lo := [some (.ref 114), some (.int x1), some (.int x2), some (.int x3)]) (rest := []) rfl (t_37 Ls xs (d + 0) nh rh n x1 x3 I L q0 hq0) ?_
        refine bs_br (t := 64) (e := 57) (lo := [some (.ref 114), some (.int x1), some (.int x2), some (.int x3)]) (st := []) (h := hp (some 114) nh rh TK (RK (some 3)) q0.2.1 q0.2.2) rfl hf (fun hc hf => ?_) (fun hc hf => ?_)
        · exact tc_36_2 Ls xs d nh rh n _ hK1 x1 x2 x3 q0.2.1 q0.2.2 r hf
        · refine bs_st 4 (x' := (63, [some (.ref 114), some (.int x1), some (.int x2), some (.int x3)], [.int x3, .int x1, .ref 121], hp (some 114) nh rh TK (RK (some 3)) q0.2.1 q0.2.2)) rfl ?_
          refine bs_gd (x' := (64, [some (.ref 114), some (.int x1), some (.int x2), some (.int x3)], [], hp (some 114) nh rh TK (RK (some 3)) (u2 q0.2.1 121 x1.toNatClampNeg x3) q0.2.2)) rfl hf (fun hc hf => ?_)
          exact tc_36_2 Ls xs d nh rh n _ hK1 x1 x2 x3 (u2 q0.2.1 121 x1.toNatClampNeg x3) q0.2.2 r hf
def f_36 (n : Nat) (x1 : Int32) (I : FI) (L : FL) : Option (Int32 × FI × FL) :=
  if pin x1 4 = true then (if ¬ I 121 x1.toNatClampNeg = (-3 : Int32) then
      c_36_0 n x1 I L
    else
      if pin x1 4 = true then (if pin x1 4 = true then c_36_1 n n x1 ((7 : Int32) - (I 4 x1.toNatClampNeg)) (0 : Int32) (u2 I 121 x1.toNatClampNeg (-1 : Int32)) L else none) else none) else none
set_option maxHeartbeats 1000000 in
set_option maxRecDepth 20000 in
theorem t_36 (Ls : Nat) (xs : Nat → Int32) (d : Nat) (nh : Option Nat) (rh : Option Nat) (n : Nat) (x1 : Int32) (I : FI) (L : FL) (r : Int32 × FI × FL) (hf : f_36 n x1 I L = some r) : pEN Ls xs (d + 6) 36 [.ref 114, .int x1] (hp (some 114) nh rh TK (RK (some 3)) I L) = some (some (.int r.1), hp (some 114) nh rh TK (RK (some 3)) r.2.1 r.2.2) := by
  refine en_run (d := d + 5) (cd := cd_36) (f := (sf 5 rs_5 false 4 (some (.int)) Ls xs (d + 5))) rfl rfl (x := (0, [some (.ref 114), some (.int x1), none, none], [], hp (some 114) nh rh TK (RK (some 3)) I L)) rfl rfl (Nat.le_of_ble_eq_true rfl) ?_
  unfold f_36 at hf
  refine bs_st 3 (x' := (5, [some (.ref 114), some (.int x1), none, none], [.int x1, .ref 121], hp (some 114) nh rh TK (RK (some 3)) I L)) rfl ?_
  refine bs_gd (x' := (6, [some (.ref 114), some (.int x1), none, none], [.int (I 121 x1.toNatClampNeg)], hp (some 114) nh rh TK (RK (some 3)) I L)) rfl hf (fun hc hf => ?_)
  refine bs_st 1 (x' := (8, [some (.ref 114), some (.int x1), none, none], [.int (-3 : Int32), .int (I 121 x1.toNatClampNeg)], hp (some 114) nh rh TK (RK (some 3)) I L)) rfl ?_
  refine bs_br (t := 70) (e := 11) (lo := [some (.ref 114), some (.int x1), none, none]) (st := []) (h := hp (some 114) nh rh TK (RK (some 3)) I L) rfl hf (fun hc hf => ?_) (fun hc hf => ?_)
  · exact tc_36_0 Ls xs d nh rh n none none x1 I L r hf
  · refine bs_st 4 (x' := (17, [some (.ref 114), some (.int x1), none, none], [.int (-1 : Int32), .int x1, .ref 121], hp (some 114) nh rh TK (RK (some 3)) I L)) rfl ?_
    refine bs_gd (x' := (18, [some (.ref 114), some (.int x1), none, none], [], hp (some 114) nh rh TK (RK (some 3)) (u2 I 121 x1.toNatClampNeg (-1 : Int32)) L)) rfl hf (fun hc hf => ?_)
    refine bs_st 5 (x' := (28, [some (.ref 114), some (.int x1), none, none], [.int x1, .ref 4, .int (7 : Int32)], hp (some 114) nh rh TK (RK (some 3)) (u2 I 121 x1.toNatClampNeg (-1 : Int32)) L)) rfl ?_
    refine bs_gd (x' := (29, [some (.ref 114), some (.int x1), none, none], [.int (I 4 x1.toNatClampNeg), .int (7 : Int32)], hp (some 114) nh rh TK (RK (some 3)) (u2 I 121 x1.toNatClampNeg (-1 : Int32)) L)) rfl hf (fun hc hf => ?_)
    refine bs_st 4 (x' := (33, [some (.ref 114), some (.int x1), some (.int ((7 : Int32) - (I 4 x1.toNatClampNeg))), some (.int (0 : Int32))], [], hp (some 114) nh rh TK (RK (some 3)) (u2 I 121 x1.toNatClampNeg (-1 : Int32)) L)) rfl ?_
    exact tc_36_1 Ls xs d nh rh n n x1 ((7 : Int32) - (I 4 x1.toNatClampNeg)) (0 : Int32) (u2 I 121 x1.toNatClampNeg (-1 : Int32)) L r hf
/-- LampRounds.longer(I) on (0,) -/
def f_147_1 (n : Nat) (x1 : Int32) (I : FI) (L : FL) : Option (Int32 × FI × FL) :=
  (f_178 x1 I L).bind fun q0 =>
  if q0 = 0 then
    some ((-2 : Int32), I, L)
  else
    (f_187 I L).bind fun q1 =>
    (f_36 n x1 q1.1 q1.2).bind fun q2 =>
    some (q2.1, q2.2.1, q2.2.2)
set_option maxHeartbeats 1000000 in
set_option maxRecDepth 20000 in
theorem t_147_1 (Ls : Nat) (xs : Nat → Int32) (d : Nat) (nh : Option Nat) (rh : Option Nat) (n : Nat) (x1 : Int32) (I : FI) (L : FL) (r : Int32 × FI × FL) (hf : f_147_1 n x1 I L = some r) : pEN Ls xs (d + 7) 147 [.ref 0, .int x1] (hp (some 114) nh rh TK (RK (some 3)) I L) = some (some (.int r.1), hp (some 114) nh rh TK (RK (some 3)) r.2.1 r.2.2) := by
  refine en_run (d := d + 6) (cd := cd_147) (f := (sf 11 rs_11 false 2 (some (.int)) Ls xs (d + 6))) rfl rfl (x := (0, [some (.ref 0), some (.int x1)], [], hp (some 114) nh rh TK (RK (some 3)) I L)) rfl rfl (Nat.le_of_ble_eq_true rfl) ?_
  unfold f_147_1 at hf
  refine bs_st 2 (x' := (2, [some (.ref 0), some (.int x1)], [.int x1, .ref 0], hp (some 114) nh rh TK (RK (some 3)) I L)) rfl ?_
  obtain ⟨q0, hq0, hf⟩ := Option.bind_eq_some_iff.mp hf
  refine bs_call (o := pEN Ls xs (d + 6) 178 [.ref 0, .int x1] (hp (some 114) nh rh TK (RK (some 3)) I L)) (w := some (.int q0)) (h' := hp (some 114) nh rh TK (RK (some 3)) I L) (pc := 5) (lo := [some (.ref 0), some (.int x1)]) (rest := []) rfl (t_178 Ls xs (d + 5) (some 114) TK (RK (some 3)) nh rh x1 I L q0 hq0) ?_
  refine bs_br (t := 19) (e := 8) (lo := [some (.ref 0), some (.int x1)]) (st := []) (h := hp (some 114) nh rh TK (RK (some 3)) I L) rfl hf (fun hc hf => ?_) (fun hc hf => ?_)
  · refine bs_st 1 (x' := (21, [some (.ref 0), some (.int x1)], [.int (-2 : Int32)], hp (some 114) nh rh TK (RK (some 3)) I L)) rfl ?_
    cases hf
    exact bs_ret rfl
  · refine bs_st 1 (x' := (9, [some (.ref 0), some (.int x1)], [.ref 0], hp (some 114) nh rh TK (RK (some 3)) I L)) rfl ?_
    obtain ⟨q1, hq1, hf⟩ := Option.bind_eq_some_iff.mp hf
    refine bs_call (o := pEN Ls xs (d + 6) 187 [.ref 0] (hp (some 114) nh rh TK (RK (some 3)) I L)) (w := some (.ref 114)) (h' := hp (some 114) nh rh TK (RK (some 3)) q1.1 q1.2) (pc := 12) (lo := [some (.ref 0), some (.int x1)]) (rest := []) rfl (t_187 Ls xs (d + 5) nh rh I L q1 hq1) ?_
    refine bs_st 1 (x' := (13, [some (.ref 0), some (.int x1)], [.int x1, .ref 114], hp (some 114) nh rh TK (RK (some 3)) q1.1 q1.2)) rfl ?_
    obtain ⟨q2, hq2, hf⟩ := Option.bind_eq_some_iff.mp hf
    refine bs_call (o := pEN Ls xs (d + 6) 36 [.ref 114, .int x1] (hp (some 114) nh rh TK (RK (some 3)) q1.1 q1.2)) (w := some (.int q2.1)) (h' := hp (some 114) nh rh TK (RK (some 3)) q2.2.1 q2.2.2) (pc := 16) (lo := [some (.ref 0), some (.int x1)]) (rest := []) rfl (t_36 Ls xs (d + 0) nh rh n x1 q1.1 q1.2 q2 hq2) ?_
    refine bs_st 1 (x' := (21, [some (.ref 0), some (.int x1)], [.int q2.1], hp (some 114) nh rh TK (RK (some 3)) q2.2.1 q2.2.2)) rfl ?_
    cases hf
    exact bs_ret rfl
/-- LampRounds.fraction(III) on () -/
def c_197_1 (n : Nat) (I : FI) (L : FL) (x0 : Int32) (x1 : Int32) (x2 : Int32) (x3 : Int32) : Option (Int32) :=
  if (1 : Int32) ≤ x3 then
    if ¬ x2 = 0 then
      if x3 = 0 then none else some ((x1 / x3))
    else
      if x3 = 0 then none else some ((x0 / x3))
  else
    some ((-1 : Int32))
set_option maxHeartbeats 1000000 in
set_option maxRecDepth 20000 in
theorem tc_197_1 (Ls : Nat) (xs : Nat → Int32) (d : Nat) (kp : Option Nat) (tl : List (Nat × Nat)) (rl : List (List (Option Nat))) (nh : Option Nat) (rh : Option Nat) (n : Nat) (I : FI) (L : FL) (w4 : Option Value) (w5 : Option Value) (w6 : Option Value) (x0 : Int32) (x1 : Int32) (x2 : Int32) (x3 : Int32) (r : Int32) (hf : c_197_1 n I L x0 x1 x2 x3 = some r) : Bs cd_197 (sf 11 rs_11 false 7 (some (.int)) Ls xs (d + 0)) (39, [some (.int x0), some (.int x1), some (.int x2), some (.int x3), w4, w5, w6], [], hp kp nh rh tl rl I L) (some (.int r), hp kp nh rh tl rl I L) := by
  unfold c_197_1 at hf
  refine bs_st 2 (x' := (41, [some (.int x0), some (.int x1), some (.int x2), some (.int x3), w4, w5, w6], [.int (1 : Int32), .int x3], hp kp nh rh tl rl I L)) rfl ?_
  refine bs_br (t := 46) (e := 44) (lo := [some (.int x0), some (.int x1), some (.int x2), some (.int x3), w4, w5, w6]) (st := []) (h := hp kp nh rh tl rl I L) rfl hf (fun hc hf => ?_) (fun hc hf => ?_)
  · refine bs_st 1 (x' := (47, [some (.int x0), some (.int x1), some (.int x2), some (.int x3), w4, w5, w6], [.int x2], hp kp nh rh tl rl I L)) rfl ?_
    refine bs_br (t := 56) (e := 50) (lo := [some (.int x0), some (.int x1), some (.int x2), some (.int x3), w4, w5, w6]) (st := []) (h := hp kp nh rh tl rl I L) rfl hf (fun hc hf => ?_) (fun hc hf => ?_)
    · refine bs_st 2 (x' := (58, [some (.int x0), some (.int x1), some (.int x2), some (.int x3), w4, w5, w6], [.int x3, .int x1], hp kp nh rh tl rl I L)) rfl ?_
      refine bs_dv (x' := (59, [some (.int x0), some (.int x1), some (.int x2), some (.int x3), w4, w5, w6], [.int (x1 / x3)], hp kp nh rh tl rl I L)) rfl hf (fun hc hf => ?_)
      cases hf
      exact bs_ret rfl
    · refine bs_st 2 (x' := (52, [some (.int x0), some (.int x1), some (.int x2), some (.int x3), w4, w5, w6], [.int x3, .int x0], hp kp nh rh tl rl I L)) rfl ?_
      refine bs_dv (x' := (53, [some (.int x0), some (.int x1), some (.int x2), some (.int x3), w4, w5, w6], [.int (x0 / x3)], hp kp nh rh tl rl I L)) rfl hf (fun hc hf => ?_)
      refine bs_st 1 (x' := (59, [some (.int x0), some (.int x1), some (.int x2), some (.int x3), w4, w5, w6], [.int (x0 / x3)], hp kp nh rh tl rl I L)) rfl ?_
      cases hf
      exact bs_ret rfl
  · refine bs_st 1 (x' := (45, [some (.int x0), some (.int x1), some (.int x2), some (.int x3), w4, w5, w6], [.int (-1 : Int32)], hp kp nh rh tl rl I L)) rfl ?_
    cases hf
    exact bs_ret rfl
def b_197_0 (n : Nat) (I : FI) (L : FL) (K0 : Int32 → Int32 → Int32 → Int32 → Int32 → Int32 → Option (Int32)) (x0 : Int32) (x1 : Int32) (x2 : Int32) (x3 : Int32) (x4 : Int32) (x5 : Int32) : Option (Int32) :=
  if (64 : Int32) ≤ x5 then
    c_197_1 n I L x0 x1 x2 x3
  else
    if x4 = 0 then
      c_197_1 n I L x0 x1 x2 x3
    else
      if x4 = 0 then none else K0 x0 x1 x2 x4 (x3 - x3 / x4 * x4) (x5 + (1 : Int32))
def c_197_0 (n : Nat) (I : FI) (L : FL) : Nat → Int32 → Int32 → Int32 → Int32 → Int32 → Int32 → Option (Int32)
  | 0, _, _, _, _, _, _ => none
  | m + 1, x0, x1, x2, x3, x4, x5 => b_197_0 n I L (c_197_0 n I L m) x0 x1 x2 x3 x4 x5
set_option maxHeartbeats 1000000 in
set_option maxRecDepth 20000 in
theorem tc_197_0 (Ls : Nat) (xs : Nat → Int32) (d : Nat) (kp : Option Nat) (tl : List (Nat × Nat)) (rl : List (List (Option Nat))) (nh : Option Nat) (rh : Option Nat) (n : Nat) (I : FI) (L : FL) : ∀ (m : Nat) (w6 : Option Value) (x0 : Int32) (x1 : Int32) (x2 : Int32) (x3 : Int32) (x4 : Int32) (x5 : Int32) (r : Int32), c_197_0 n I L m x0 x1 x2 x3 x4 x5 = some r → Bs cd_197 (sf 11 rs_11 false 7 (some (.int)) Ls xs (d + 0)) (8, [some (.int x0), some (.int x1), some (.int x2), some (.int x3), some (.int x4), some (.int x5), w6], [], hp kp nh rh tl rl I L) (some (.int r), hp kp nh rh tl rl I L)
  | 0, w6, x0, x1, x2, x3, x4, x5, r, hf => by cases hf
  | m + 1, w6, x0, x1, x2, x3, x4, x5, r, hf => by
    unfold c_197_0 b_197_0 at hf
    have hK0 := tc_197_0 Ls xs d kp tl rl nh rh n I L m
    refine bs_st 2 (x' := (12, [some (.int x0), some (.int x1), some (.int x2), some (.int x3), some (.int x4), some (.int x5), w6], [.int (64 : Int32), .int x5], hp kp nh rh tl rl I L)) rfl ?_
    refine bs_br (t := 39) (e := 15) (lo := [some (.int x0), some (.int x1), some (.int x2), some (.int x3), some (.int x4), some (.int x5), w6]) (st := []) (h := hp kp nh rh tl rl I L) rfl hf (fun hc hf => ?_) (fun hc hf => ?_)
    · exact tc_197_1 Ls xs d kp tl rl nh rh n I L (some (.int x4)) (some (.int x5)) w6 x0 x1 x2 x3 r hf
    · refine bs_st 1 (x' := (17, [some (.int x0), some (.int x1), some (.int x2), some (.int x3), some (.int x4), some (.int x5), w6], [.int x4], hp kp nh rh tl rl I L)) rfl ?_
      refine bs_br (t := 39) (e := 20) (lo := [some (.int x0), some (.int x1), some (.int x2), some (.int x3), some (.int x4), some (.int x5), w6]) (st := []) (h := hp kp nh rh tl rl I L) rfl hf (fun hc hf => ?_) (fun hc hf => ?_)
      · exact tc_197_1 Ls xs d kp tl rl nh rh n I L (some (.int x4)) (some (.int x5)) w6 x0 x1 x2 x3 r hf
      · refine bs_st 2 (x' := (23, [some (.int x0), some (.int x1), some (.int x2), some (.int x3), some (.int x4), some (.int x5), w6], [.int x4, .int x3], hp kp nh rh tl rl I L)) rfl ?_
        refine bs_dv (x' := (24, [some (.int x0), some (.int x1), some (.int x2), some (.int x3), some (.int x4), some (.int x5), w6], [.int (x3 - x3 / x4 * x4)], hp kp nh rh tl rl I L)) rfl hf (fun hc hf => ?_)
        refine bs_st 7 (x' := (8, [some (.int x0), some (.int x1), some (.int x2), some (.int x4), some (.int (x3 - x3 / x4 * x4)), some (.int (x5 + (1 : Int32))), some (.int (x3 - x3 / x4 * x4))], [], hp kp nh rh tl rl I L)) rfl ?_
        exact hK0 (some (.int (x3 - x3 / x4 * x4))) x0 x1 x2 x4 (x3 - x3 / x4 * x4) (x5 + (1 : Int32)) r hf
def f_197 (n : Nat) (x0 : Int32) (x1 : Int32) (x2 : Int32) (I : FI) (L : FL) : Option (Int32) :=
  c_197_0 n I L n x0 x1 x2 x1 x0 (0 : Int32)
set_option maxHeartbeats 1000000 in
set_option maxRecDepth 20000 in
theorem t_197 (Ls : Nat) (xs : Nat → Int32) (d : Nat) (kp : Option Nat) (tl : List (Nat × Nat)) (rl : List (List (Option Nat))) (nh : Option Nat) (rh : Option Nat) (n : Nat) (x0 : Int32) (x1 : Int32) (x2 : Int32) (I : FI) (L : FL) (r : Int32) (hf : f_197 n x0 x1 x2 I L = some r) : pEN Ls xs (d + 1) 197 [.int x0, .int x1, .int x2] (hp kp nh rh tl rl I L) = some (some (.int r), hp kp nh rh tl rl I L) := by
  refine en_run (d := d + 0) (cd := cd_197) (f := (sf 11 rs_11 false 7 (some (.int)) Ls xs (d + 0))) rfl rfl (x := (0, [some (.int x0), some (.int x1), some (.int x2), none, none, none, none], [], hp kp nh rh tl rl I L)) rfl rfl (Nat.le_of_ble_eq_true rfl) ?_
  unfold f_197 at hf
  refine bs_st 6 (x' := (8, [some (.int x0), some (.int x1), some (.int x2), some (.int x1), some (.int x0), some (.int (0 : Int32)), none], [], hp kp nh rh tl rl I L)) rfl ?_
  exact tc_197_0 Ls xs d kp tl rl nh rh n I L n none x0 x1 x2 x1 x0 (0 : Int32) r hf
/-- LampRounds.density(I) on (0,) -/
def b_148_0 (n : Nat) (I : FI) (L : FL) (K0 : Int32 → Int32 → Int32 → Option (Int32)) (x1 : Int32) (x2 : Int32) (x3 : Int32) : Option (Int32) :=
  if I 3 4 ≤ x3 then
    (f_197 n x2 (840 : Int32) x1 I L).bind fun q2 =>
    some (q2)
  else
    if pin x3 4 = true then (if ((I 4 x3.toNatClampNeg) + (1 : Int32)) = 0 then none else K0 x1 (x2 + ((840 : Int32) / ((I 4 x3.toNatClampNeg) + (1 : Int32)))) (x3 + (1 : Int32))) else none
def c_148_0 (n : Nat) (I : FI) (L : FL) : Nat → Int32 → Int32 → Int32 → Option (Int32)
  | 0, _, _, _ => none
  | m + 1, x1, x2, x3 => b_148_0 n I L (c_148_0 n I L m) x1 x2 x3
set_option maxHeartbeats 1000000 in
set_option maxRecDepth 20000 in
theorem tc_148_0 (Ls : Nat) (xs : Nat → Int32) (d : Nat) (kp : Option Nat) (tl : List (Nat × Nat)) (rl : List (List (Option Nat))) (nh : Option Nat) (rh : Option Nat) (n : Nat) (I : FI) (L : FL) : ∀ (m : Nat) (x1 : Int32) (x2 : Int32) (x3 : Int32) (r : Int32), c_148_0 n I L m x1 x2 x3 = some r → Bs cd_148 (sf 11 rs_11 false 4 (some (.int)) Ls xs (d + 1)) (21, [some (.ref 0), some (.int x1), some (.int x2), some (.int x3)], [], hp kp nh rh tl rl I L) (some (.int r), hp kp nh rh tl rl I L)
  | 0, x1, x2, x3, r, hf => by cases hf
  | m + 1, x1, x2, x3, r, hf => by
    unfold c_148_0 b_148_0 at hf
    have hK0 := tc_148_0 Ls xs d kp tl rl nh rh n I L m
    refine bs_st 4 (x' := (29, [some (.ref 0), some (.int x1), some (.int x2), some (.int x3)], [.int (I 3 4), .int x3], hp kp nh rh tl rl I L)) rfl ?_
    refine bs_br (t := 56) (e := 32) (lo := [some (.ref 0), some (.int x1), some (.int x2), some (.int x3)]) (st := []) (h := hp kp nh rh tl rl I L) rfl hf (fun hc hf => ?_) (fun hc hf => ?_)
    · refine bs_st 3 (x' := (61, [some (.ref 0), some (.int x1), some (.int x2), some (.int x3)], [.int x1, .int (840 : Int32), .int x2], hp kp nh rh tl rl I L)) rfl ?_
      obtain ⟨q2, hq2, hf⟩ := Option.bind_eq_some_iff.mp hf
      refine bs_call (o := pEN Ls xs (d + 1) 197 [.int x2, .int (840 : Int32), .int x1] (hp kp nh rh tl rl I L)) (w := some (.int q2)) (h' := hp kp nh rh tl rl I L) (pc := 64) (lo := [some (.ref 0), some (.int x1), some (.int x2), some (.int x3)]) (rest := []) rfl (t_197 Ls xs (d + 0) kp tl rl nh rh n x2 (840 : Int32) x1 I L q2 hq2) ?_
      cases hf
      exact bs_ret rfl
    · refine bs_st 6 (x' := (44, [some (.ref 0), some (.int x1), some (.int x2), some (.int x3)], [.int x3, .ref 4, .int (840 : Int32), .int x2], hp kp nh rh tl rl I L)) rfl ?_
      refine bs_gd (x' := (45, [some (.ref 0), some (.int x1), some (.int x2), some (.int x3)], [.int (I 4 x3.toNatClampNeg), .int (840 : Int32), .int x2], hp kp nh rh tl rl I L)) rfl hf (fun hc hf => ?_)
      refine bs_st 2 (x' := (47, [some (.ref 0), some (.int x1), some (.int x2), some (.int x3)], [.int ((I 4 x3.toNatClampNeg) + (1 : Int32)), .int (840 : Int32), .int x2], hp kp nh rh tl rl I L)) rfl ?_
      refine bs_dv (x' := (48, [some (.ref 0), some (.int x1), some (.int x2), some (.int x3)], [.int ((840 : Int32) / ((I 4 x3.toNatClampNeg) + (1 : Int32))), .int x2], hp kp nh rh tl rl I L)) rfl hf (fun hc hf => ?_)
      refine bs_st 4 (x' := (21, [some (.ref 0), some (.int x1), some (.int (x2 + ((840 : Int32) / ((I 4 x3.toNatClampNeg) + (1 : Int32))))), some (.int (x3 + (1 : Int32)))], [], hp kp nh rh tl rl I L)) rfl ?_
      exact hK0 x1 (x2 + ((840 : Int32) / ((I 4 x3.toNatClampNeg) + (1 : Int32)))) (x3 + (1 : Int32)) r hf
def f_148 (n : Nat) (x1 : Int32) (I : FI) (L : FL) : Option (Int32) :=
  (f_177 I L).bind fun q0 =>
  if q0 = 0 then
    some ((-2 : Int32))
  else
    (f_182 x1 I L).bind fun q1 =>
    if ¬ q1 = 0 then
      c_148_0 n I L n x1 (0 : Int32) (0 : Int32)
    else
      some ((-2 : Int32))
set_option maxHeartbeats 1000000 in
set_option maxRecDepth 20000 in
theorem t_148 (Ls : Nat) (xs : Nat → Int32) (d : Nat) (kp : Option Nat) (tl : List (Nat × Nat)) (rl : List (List (Option Nat))) (nh : Option Nat) (rh : Option Nat) (n : Nat) (x1 : Int32) (I : FI) (L : FL) (r : Int32) (hf : f_148 n x1 I L = some r) : pEN Ls xs (d + 2) 148 [.ref 0, .int x1] (hp kp nh rh tl rl I L) = some (some (.int r), hp kp nh rh tl rl I L) := by
  refine en_run (d := d + 1) (cd := cd_148) (f := (sf 11 rs_11 false 4 (some (.int)) Ls xs (d + 1))) rfl rfl (x := (0, [some (.ref 0), some (.int x1), none, none], [], hp kp nh rh tl rl I L)) rfl rfl (Nat.le_of_ble_eq_true rfl) ?_
  unfold f_148 at hf
  refine bs_st 1 (x' := (1, [some (.ref 0), some (.int x1), none, none], [.ref 0], hp kp nh rh tl rl I L)) rfl ?_
  obtain ⟨q0, hq0, hf⟩ := Option.bind_eq_some_iff.mp hf
  refine bs_call (o := pEN Ls xs (d + 1) 177 [.ref 0] (hp kp nh rh tl rl I L)) (w := some (.int q0)) (h' := hp kp nh rh tl rl I L) (pc := 4) (lo := [some (.ref 0), some (.int x1), none, none]) (rest := []) rfl (t_177 Ls xs (d + 0) kp tl rl nh rh I L q0 hq0) ?_
  refine bs_br (t := 14) (e := 7) (lo := [some (.ref 0), some (.int x1), none, none]) (st := []) (h := hp kp nh rh tl rl I L) rfl hf (fun hc hf => ?_) (fun hc hf => ?_)
  · refine bs_st 1 (x' := (16, [some (.ref 0), some (.int x1), none, none], [.int (-2 : Int32)], hp kp nh rh tl rl I L)) rfl ?_
    cases hf
    exact bs_ret rfl
  · refine bs_st 1 (x' := (8, [some (.ref 0), some (.int x1), none, none], [.int x1], hp kp nh rh tl rl I L)) rfl ?_
    obtain ⟨q1, hq1, hf⟩ := Option.bind_eq_some_iff.mp hf
    refine bs_call (o := pEN Ls xs (d + 1) 182 [.int x1] (hp kp nh rh tl rl I L)) (w := some (.int q1)) (h' := hp kp nh rh tl rl I L) (pc := 11) (lo := [some (.ref 0), some (.int x1), none, none]) (rest := []) rfl (t_182 Ls xs (d + 0) kp tl rl nh rh x1 I L q1 hq1) ?_
    refine bs_br (t := 17) (e := 14) (lo := [some (.ref 0), some (.int x1), none, none]) (st := []) (h := hp kp nh rh tl rl I L) rfl hf (fun hc hf => ?_) (fun hc hf => ?_)
    · refine bs_st 4 (x' := (21, [some (.ref 0), some (.int x1), some (.int (0 : Int32)), some (.int (0 : Int32))], [], hp kp nh rh tl rl I L)) rfl ?_
      exact tc_148_0 Ls xs d kp tl rl nh rh n I L n x1 (0 : Int32) (0 : Int32) r hf
    · refine bs_st 1 (x' := (16, [some (.ref 0), some (.int x1), none, none], [.int (-2 : Int32)], hp kp nh rh tl rl I L)) rfl ?_
      cases hf
      exact bs_ret rfl
/-- LampRounds.even() on (0,) -/
def b_149_1 (n : Nat) (I : FI) (L : FL) (K0 : Int32 → Option (Int32)) (K1 : Int32 → Int32 → Option (Int32)) (x1 : Int32) (x2 : Int32) : Option (Int32) :=
  if x1 ≤ x2 then
    K0 (x1 + (1 : Int32))
  else
    if pin x1 4 = true then (if pin x2 4 = true then ((f_358_1 ((I 4 x1.toNatClampNeg) + (1 : Int32)) ((I 4 x2.toNatClampNeg) + (1 : Int32)) I L).bind fun q1 =>
        (f_359 ((I 4 x1.toNatClampNeg) + (1 : Int32)) ((I 4 x2.toNatClampNeg) + (1 : Int32)) I L).bind fun q2 =>
        if q2 = 0 then none else (if (q1 - q1 / q2 * q2) = 0 then
            K1 x1 (x2 + (1 : Int32))
          else
            some ((0 : Int32)))) else none) else none
def c_149_1 (n : Nat) (I : FI) (L : FL) (K0 : Int32 → Option (Int32)) : Nat → Int32 → Int32 → Option (Int32)
  | 0, _, _ => none
  | m + 1, x1, x2 => b_149_1 n I L K0 (c_149_1 n I L K0 m) x1 x2
set_option maxHeartbeats 1000000 in
set_option maxRecDepth 20000 in
theorem tc_149_1 (Ls : Nat) (xs : Nat → Int32) (d : Nat) (kp : Option Nat) (tl : List (Nat × Nat)) (rl : List (List (Option Nat))) (nh : Option Nat) (rh : Option Nat) (n : Nat) (I : FI) (L : FL) (K0 : Int32 → Option (Int32)) (hK0 : ∀ (w2 : Option Value) (w3 : Option Value) (w4 : Option Value) (x1 : Int32) (r : Int32), K0 x1 = some r → Bs cd_149 (sf 11 rs_11 false 5 (some (.int)) Ls xs (d + 1)) (12, [some (.ref 0), some (.int x1), w2, w3, w4], [], hp kp nh rh tl rl I L) (some (.int r), hp kp nh rh tl rl I L)) : ∀ (m : Nat) (w3 : Option Value) (w4 : Option Value) (x1 : Int32) (x2 : Int32) (r : Int32), c_149_1 n I L K0 m x1 x2 = some r → Bs cd_149 (sf 11 rs_11 false 5 (some (.int)) Ls xs (d + 1)) (25, [some (.ref 0), some (.int x1), some (.int x2), w3, w4], [], hp kp nh rh tl rl I L) (some (.int r), hp kp nh rh tl rl I L)
  | 0, w3, w4, x1, x2, r, hf => by cases hf
  | m + 1, w3, w4, x1, x2, r, hf => by
    unfold c_149_1 b_149_1 at hf
    have hK1 := tc_149_1 Ls xs d kp tl rl nh rh n I L K0 hK0 m
    refine bs_st 2 (x' := (27, [some (.ref 0), some (.int x1), some (.int x2), w3, w4], [.int x1, .int x2], hp kp nh rh tl rl I L)) rfl ?_
    refine bs_br (t := 79) (e := 30) (lo := [some (.ref 0), some (.int x1), some (.int x2), w3, w4]) (st := []) (h := hp kp nh rh tl rl I L) rfl hf (fun hc hf => ?_) (fun hc hf => ?_)
    · refine bs_st 2 (x' := (12, [some (.ref 0), some (.int (x1 + (1 : Int32))), some (.int x2), w3, w4], [], hp kp nh rh tl rl I L)) rfl ?_
      exact hK0 (some (.int x2)) w3 w4 (x1 + (1 : Int32)) r hf
    · refine bs_st 4 (x' := (38, [some (.ref 0), some (.int x1), some (.int x2), w3, w4], [.int x1, .ref 4], hp kp nh rh tl rl I L)) rfl ?_
      refine bs_gd (x' := (39, [some (.ref 0), some (.int x1), some (.int x2), w3, w4], [.int (I 4 x1.toNatClampNeg)], hp kp nh rh tl rl I L)) rfl hf (fun hc hf => ?_)
      refine bs_st 7 (x' := (50, [some (.ref 0), some (.int x1), some (.int x2), some (.int ((I 4 x1.toNatClampNeg) + (1 : Int32))), w4], [.int x2, .ref 4], hp kp nh rh tl rl I L)) rfl ?_
      refine bs_gd (x' := (51, [some (.ref 0), some (.int x1), some (.int x2), some (.int ((I 4 x1.toNatClampNeg) + (1 : Int32))), w4], [.int (I 4 x2.toNatClampNeg)], hp kp nh rh tl rl I L)) rfl hf (fun hc hf => ?_)
      refine bs_st 5 (x' := (58, [some (.ref 0), some (.int x1), some (.int x2), some (.int ((I 4 x1.toNatClampNeg) + (1 : Int32))), some (.int ((I 4 x2.toNatClampNeg) + (1 : Int32)))], [.int ((I 4 x2.toNatClampNeg) + (1 : Int32)), .int ((I 4 x1.toNatClampNeg) + (1 : Int32))], hp kp nh rh tl rl I L)) rfl ?_
      obtain ⟨q1, hq1, hf⟩ := Option.bind_eq_some_iff.mp hf
      refine bs_call (o := pEN Ls xs (d + 1) 358 [.int ((I 4 x1.toNatClampNeg) + (1 : Int32)), .int ((I 4 x2.toNatClampNeg) + (1 : Int32))] (hp kp nh rh tl rl I L)) (w := some (.int q1)) (h' := hp kp nh rh tl rl I L) (pc := 61) (lo := [some (.ref 0), some (.int x1), some (.int x2), some (.int ((I 4 x1.toNatClampNeg) + (1 : Int32))), some (.int ((I 4 x2.toNatClampNeg) + (1 : Int32)))]) (rest := []) rfl (t_358_1 Ls xs (d + 0) kp tl rl nh rh ((I 4 x1.toNatClampNeg) + (1 : Int32)) ((I 4 x2.toNatClampNeg) + (1 : Int32)) I L q1 hq1) ?_
      refine bs_st 2 (x' := (64, [some (.ref 0), some (.int x1), some (.int x2), some (.int ((I 4 x1.toNatClampNeg) + (1 : Int32))), some (.int ((I 4 x2.toNatClampNeg) + (1 : Int32)))], [.int ((I 4 x2.toNatClampNeg) + (1 : Int32)), .int ((I 4 x1.toNatClampNeg) + (1 : Int32)), .int q1], hp kp nh rh tl rl I L)) rfl ?_
      obtain ⟨q2, hq2, hf⟩ := Option.bind_eq_some_iff.mp hf
      refine bs_call (o := pEN Ls xs (d + 1) 359 [.int ((I 4 x1.toNatClampNeg) + (1 : Int32)), .int ((I 4 x2.toNatClampNeg) + (1 : Int32))] (hp kp nh rh tl rl I L)) (w := some (.int q2)) (h' := hp kp nh rh tl rl I L) (pc := 67) (lo := [some (.ref 0), some (.int x1), some (.int x2), some (.int ((I 4 x1.toNatClampNeg) + (1 : Int32))), some (.int ((I 4 x2.toNatClampNeg) + (1 : Int32)))]) (rest := [.int q1]) rfl (t_359 Ls xs (d + 0) kp tl rl nh rh ((I 4 x1.toNatClampNeg) + (1 : Int32)) ((I 4 x2.toNatClampNeg) + (1 : Int32)) I L q2 hq2) ?_
      refine bs_dv (x' := (68, [some (.ref 0), some (.int x1), some (.int x2), some (.int ((I 4 x1.toNatClampNeg) + (1 : Int32))), some (.int ((I 4 x2.toNatClampNeg) + (1 : Int32)))], [.int (q1 - q1 / q2 * q2)], hp kp nh rh tl rl I L)) rfl hf (fun hc hf => ?_)
      refine bs_br (t := 73) (e := 71) (lo := [some (.ref 0), some (.int x1), some (.int x2), some (.int ((I 4 x1.toNatClampNeg) + (1 : Int32))), some (.int ((I 4 x2.toNatClampNeg) + (1 : Int32)))]) (st := []) (h := hp kp nh rh tl rl I L) rfl hf (fun hc hf => ?_) (fun hc hf => ?_)
      · refine bs_st 2 (x' := (25, [some (.ref 0), some (.int x1), some (.int (x2 + (1 : Int32))), some (.int ((I 4 x1.toNatClampNeg) + (1 : Int32))), some (.int ((I 4 x2.toNatClampNeg) + (1 : Int32)))], [], hp kp nh rh tl rl I L)) rfl ?_
        exact hK1 (some (.int ((I 4 x1.toNatClampNeg) + (1 : Int32)))) (some (.int ((I 4 x2.toNatClampNeg) + (1 : Int32)))) x1 (x2 + (1 : Int32)) r hf
      · refine bs_st 1 (x' := (72, [some (.ref 0), some (.int x1), some (.int x2), some (.int ((I 4 x1.toNatClampNeg) + (1 : Int32))), some (.int ((I 4 x2.toNatClampNeg) + (1 : Int32)))], [.int (0 : Int32)], hp kp nh rh tl rl I L)) rfl ?_
        cases hf
        exact bs_ret rfl
def b_149_0 (n : Nat) (I : FI) (L : FL) (K0 : Int32 → Option (Int32)) (x1 : Int32) : Option (Int32) :=
  if I 3 4 ≤ x1 then
    some ((1 : Int32))
  else
    c_149_1 n I L K0 n x1 (0 : Int32)
def c_149_0 (n : Nat) (I : FI) (L : FL) : Nat → Int32 → Option (Int32)
  | 0, _ => none
  | m + 1, x1 => b_149_0 n I L (c_149_0 n I L m) x1
set_option maxHeartbeats 1000000 in
set_option maxRecDepth 20000 in
theorem tc_149_0 (Ls : Nat) (xs : Nat → Int32) (d : Nat) (kp : Option Nat) (tl : List (Nat × Nat)) (rl : List (List (Option Nat))) (nh : Option Nat) (rh : Option Nat) (n : Nat) (I : FI) (L : FL) : ∀ (m : Nat) (w2 : Option Value) (w3 : Option Value) (w4 : Option Value) (x1 : Int32) (r : Int32), c_149_0 n I L m x1 = some r → Bs cd_149 (sf 11 rs_11 false 5 (some (.int)) Ls xs (d + 1)) (12, [some (.ref 0), some (.int x1), w2, w3, w4], [], hp kp nh rh tl rl I L) (some (.int r), hp kp nh rh tl rl I L)
  | 0, w2, w3, w4, x1, r, hf => by cases hf
  | m + 1, w2, w3, w4, x1, r, hf => by
    unfold c_149_0 b_149_0 at hf
    have hK0 := tc_149_0 Ls xs d kp tl rl nh rh n I L m
    refine bs_st 4 (x' := (20, [some (.ref 0), some (.int x1), w2, w3, w4], [.int (I 3 4), .int x1], hp kp nh rh tl rl I L)) rfl ?_
    refine bs_br (t := 85) (e := 23) (lo := [some (.ref 0), some (.int x1), w2, w3, w4]) (st := []) (h := hp kp nh rh tl rl I L) rfl hf (fun hc hf => ?_) (fun hc hf => ?_)
    · refine bs_st 1 (x' := (86, [some (.ref 0), some (.int x1), w2, w3, w4], [.int (1 : Int32)], hp kp nh rh tl rl I L)) rfl ?_
      cases hf
      exact bs_ret rfl
    · refine bs_st 2 (x' := (25, [some (.ref 0), some (.int x1), some (.int (0 : Int32)), w3, w4], [], hp kp nh rh tl rl I L)) rfl ?_
      exact tc_149_1 Ls xs d kp tl rl nh rh n I L _ hK0 n w3 w4 x1 (0 : Int32) r hf
def f_149 (n : Nat) (I : FI) (L : FL) : Option (Int32) :=
  (f_177 I L).bind fun q0 =>
  if ¬ q0 = 0 then
    c_149_0 n I L n (0 : Int32)
  else
    some ((-2 : Int32))
set_option maxHeartbeats 1000000 in
set_option maxRecDepth 20000 in
theorem t_149 (Ls : Nat) (xs : Nat → Int32) (d : Nat) (kp : Option Nat) (tl : List (Nat × Nat)) (rl : List (List (Option Nat))) (nh : Option Nat) (rh : Option Nat) (n : Nat) (I : FI) (L : FL) (r : Int32) (hf : f_149 n I L = some r) : pEN Ls xs (d + 2) 149 [.ref 0] (hp kp nh rh tl rl I L) = some (some (.int r), hp kp nh rh tl rl I L) := by
  refine en_run (d := d + 1) (cd := cd_149) (f := (sf 11 rs_11 false 5 (some (.int)) Ls xs (d + 1))) rfl rfl (x := (0, [some (.ref 0), none, none, none, none], [], hp kp nh rh tl rl I L)) rfl rfl (Nat.le_of_ble_eq_true rfl) ?_
  unfold f_149 at hf
  refine bs_st 1 (x' := (1, [some (.ref 0), none, none, none, none], [.ref 0], hp kp nh rh tl rl I L)) rfl ?_
  obtain ⟨q0, hq0, hf⟩ := Option.bind_eq_some_iff.mp hf
  refine bs_call (o := pEN Ls xs (d + 1) 177 [.ref 0] (hp kp nh rh tl rl I L)) (w := some (.int q0)) (h' := hp kp nh rh tl rl I L) (pc := 4) (lo := [some (.ref 0), none, none, none, none]) (rest := []) rfl (t_177 Ls xs (d + 0) kp tl rl nh rh I L q0 hq0) ?_
  refine bs_br (t := 10) (e := 7) (lo := [some (.ref 0), none, none, none, none]) (st := []) (h := hp kp nh rh tl rl I L) rfl hf (fun hc hf => ?_) (fun hc hf => ?_)
  · refine bs_st 2 (x' := (12, [some (.ref 0), some (.int (0 : Int32)), none, none, none], [], hp kp nh rh tl rl I L)) rfl ?_
    exact tc_149_0 Ls xs d kp tl rl nh rh n I L n none none none (0 : Int32) r hf
  · refine bs_st 1 (x' := (9, [some (.ref 0), none, none, none, none], [.int (-2 : Int32)], hp kp nh rh tl rl I L)) rfl ?_
    cases hf
    exact bs_ret rfl
/-- LampRounds.leastShare(I) on (0,) -/
def c_190_1_1 (n : Nat) (K0 : Int32 → Int32 → Int32 → FI → FL → Option (Int32 × FI × FL)) (x1 : Int32) (x2 : Int32) (x3 : Int32) (I : FI) (L : FL) : Option (Int32 × FI × FL) :=
  K0 x1 x2 (x3 + (1 : Int32)) I L
set_option maxHeartbeats 1000000 in
set_option maxRecDepth 20000 in
theorem tc_190_1_1 (Ls : Nat) (xs : Nat → Int32) (d : Nat) (nh : Option Nat) (rh : Option Nat) (n : Nat) (K0 : Int32 → Int32 → Int32 → FI → FL → Option (Int32 × FI × FL)) (hK0 : ∀ (w4 : Option Value) (x1 : Int32) (x2 : Int32) (x3 : Int32) (I : FI) (L : FL) (r : Int32 × FI × FL), K0 x1 x2 x3 I L = some r → Bs cd_190 (sf 11 rs_11 false 5 (some (.int)) Ls xs (d + 5)) (10, [some (.ref 0), some (.int x1), some (.int x2), some (.int x3), w4], [], hp (some 114) nh rh TK (RK (some 3)) I L) (some (.int r.1), hp (some 114) nh rh TK (RK (some 3)) r.2.1 r.2.2)) (w4 : Option Value) (x1 : Int32) (x2 : Int32) (x3 : Int32) (I : FI) (L : FL) (r : Int32 × FI × FL) (hf : c_190_1_1 n K0 x1 x2 x3 I L = some r) : Bs cd_190 (sf 11 rs_11 false 5 (some (.int)) Ls xs (d + 5)) (61, [some (.ref 0), some (.int x1), some (.int x2), some (.int x3), w4], [], hp (some 114) nh rh TK (RK (some 3)) I L) (some (.int r.1), hp (some 114) nh rh TK (RK (some 3)) r.2.1 r.2.2) := by
  unfold c_190_1_1 at hf
  refine bs_st 2 (x' := (10, [some (.ref 0), some (.int x1), some (.int x2), some (.int (x3 + (1 : Int32))), w4], [], hp (some 114) nh rh TK (RK (some 3)) I L)) rfl ?_
  exact hK0 w4 x1 x2 (x3 + (1 : Int32)) I L r hf
def b_190_1_0 (n : Nat) (K0 : Int32 → Int32 → Int32 → FI → FL → Option (Int32 × FI × FL)) (x1 : Int32) (x2 : Int32) (x3 : Int32) (I : FI) (L : FL) : Option (Int32 × FI × FL) :=
  if x2 < x3 then
    some ((-1 : Int32), I, L)
  else
    (f_23 I L).bind fun q1 =>
    (f_187 I L).bind fun q2 =>
    (f_32 n x3 q2.1 q2.2).bind fun q3 =>
    (f_188 q1 q3.1 q3.2.1 q3.2.2).bind fun q4 =>
    if q4 = 0 then
      c_190_1_1 n K0 x1 x2 x3 q3.2.1 q3.2.2
    else
      (f_187 q3.2.1 q3.2.2).bind fun q5 =>
      (f_32 n (x2 &&& (x3 ^^^ (-1 : Int32))) q5.1 q5.2).bind fun q6 =>
      (f_188 x1 q6.1 q6.2.1 q6.2.2).bind fun q7 =>
      if q7 = 0 then
        c_190_1_1 n K0 x1 x2 x3 q6.2.1 q6.2.2
      else
        some (x3, q6.2.1, q6.2.2)
def c_190_1_0 (n : Nat) : Nat → Int32 → Int32 → Int32 → FI → FL → Option (Int32 × FI × FL)
  | 0, _, _, _, _, _ => none
  | m + 1, x1, x2, x3, I, L => b_190_1_0 n (c_190_1_0 n m) x1 x2 x3 I L
set_option maxHeartbeats 1000000 in
set_option maxRecDepth 20000 in
theorem tc_190_1_0 (Ls : Nat) (xs : Nat → Int32) (d : Nat) (nh : Option Nat) (rh : Option Nat) (n : Nat) : ∀ (m : Nat) (w4 : Option Value) (x1 : Int32) (x2 : Int32) (x3 : Int32) (I : FI) (L : FL) (r : Int32 × FI × FL), c_190_1_0 n m x1 x2 x3 I L = some r → Bs cd_190 (sf 11 rs_11 false 5 (some (.int)) Ls xs (d + 5)) (10, [some (.ref 0), some (.int x1), some (.int x2), some (.int x3), w4], [], hp (some 114) nh rh TK (RK (some 3)) I L) (some (.int r.1), hp (some 114) nh rh TK (RK (some 3)) r.2.1 r.2.2)
  | 0, w4, x1, x2, x3, I, L, r, hf => by cases hf
  | m + 1, w4, x1, x2, x3, I, L, r, hf => by
    unfold c_190_1_0 b_190_1_0 at hf
    have hK0 := tc_190_1_0 Ls xs d nh rh n m
    refine bs_st 2 (x' := (12, [some (.ref 0), some (.int x1), some (.int x2), some (.int x3), w4], [.int x2, .int x3], hp (some 114) nh rh TK (RK (some 3)) I L)) rfl ?_
    refine bs_br (t := 67) (e := 15) (lo := [some (.ref 0), some (.int x1), some (.int x2), some (.int x3), w4]) (st := []) (h := hp (some 114) nh rh TK (RK (some 3)) I L) rfl hf (fun hc hf => ?_) (fun hc hf => ?_)
    · refine bs_st 1 (x' := (68, [some (.ref 0), some (.int x1), some (.int x2), some (.int x3), w4], [.int (-1 : Int32)], hp (some 114) nh rh TK (RK (some 3)) I L)) rfl ?_
      cases hf
      exact bs_ret rfl
    · refine bs_st 2 (x' := (19, [some (.ref 0), some (.int x1), some (.int x2), some (.int x3), w4], [.ref 3], hp (some 114) nh rh TK (RK (some 3)) I L)) rfl ?_
      obtain ⟨q1, hq1, hf⟩ := Option.bind_eq_some_iff.mp hf
      refine bs_call (o := pEN Ls xs (d + 5) 23 [.ref 3] (hp (some 114) nh rh TK (RK (some 3)) I L)) (w := some (.int q1)) (h' := hp (some 114) nh rh TK (RK (some 3)) I L) (pc := 22) (lo := [some (.ref 0), some (.int x1), some (.int x2), some (.int x3), w4]) (rest := []) rfl (t_23 Ls xs (d + 4) (some 114) TK (RK (some 3)) nh rh I L q1 hq1) ?_
      refine bs_st 1 (x' := (23, [some (.ref 0), some (.int x1), some (.int x2), some (.int x3), w4], [.ref 0, .int q1], hp (some 114) nh rh TK (RK (some 3)) I L)) rfl ?_
      obtain ⟨q2, hq2, hf⟩ := Option.bind_eq_some_iff.mp hf
      refine bs_call (o := pEN Ls xs (d + 5) 187 [.ref 0] (hp (some 114) nh rh TK (RK (some 3)) I L)) (w := some (.ref 114)) (h' := hp (some 114) nh rh TK (RK (some 3)) q2.1 q2.2) (pc := 26) (lo := [some (.ref 0), some (.int x1), some (.int x2), some (.int x3), w4]) (rest := [.int q1]) rfl (t_187 Ls xs (d + 4) nh rh I L q2 hq2) ?_
      refine bs_st 1 (x' := (27, [some (.ref 0), some (.int x1), some (.int x2), some (.int x3), w4], [.int x3, .ref 114, .int q1], hp (some 114) nh rh TK (RK (some 3)) q2.1 q2.2)) rfl ?_
      obtain ⟨q3, hq3, hf⟩ := Option.bind_eq_some_iff.mp hf
      refine bs_call (o := pEN Ls xs (d + 5) 32 [.ref 114, .int x3] (hp (some 114) nh rh TK (RK (some 3)) q2.1 q2.2)) (w := some (.int q3.1)) (h' := hp (some 114) nh rh TK (RK (some 3)) q3.2.1 q3.2.2) (pc := 30) (lo := [some (.ref 0), some (.int x1), some (.int x2), some (.int x3), w4]) (rest := [.int q1]) rfl (t_32 Ls xs (d + 0) nh rh n x3 q2.1 q2.2 q3 hq3) ?_
      obtain ⟨q4, hq4, hf⟩ := Option.bind_eq_some_iff.mp hf
      refine bs_call (o := pEN Ls xs (d + 5) 188 [.int q1, .int q3.1] (hp (some 114) nh rh TK (RK (some 3)) q3.2.1 q3.2.2)) (w := some (.int q4)) (h' := hp (some 114) nh rh TK (RK (some 3)) q3.2.1 q3.2.2) (pc := 33) (lo := [some (.ref 0), some (.int x1), some (.int x2), some (.int x3), w4]) (rest := []) rfl (t_188 Ls xs (d + 4) (some 114) TK (RK (some 3)) nh rh q1 q3.1 q3.2.1 q3.2.2 q4 hq4) ?_
      refine bs_st 2 (x' := (37, [some (.ref 0), some (.int x1), some (.int x2), some (.int x3), some (.int q4)], [.int q4], hp (some 114) nh rh TK (RK (some 3)) q3.2.1 q3.2.2)) rfl ?_
      refine bs_br (t := 61) (e := 40) (lo := [some (.ref 0), some (.int x1), some (.int x2), some (.int x3), some (.int q4)]) (st := []) (h := hp (some 114) nh rh TK (RK (some 3)) q3.2.1 q3.2.2) rfl hf (fun hc hf => ?_) (fun hc hf => ?_)
      · exact tc_190_1_1 Ls xs d nh rh n _ hK0 (some (.int q4)) x1 x2 x3 q3.2.1 q3.2.2 r hf
      · refine bs_st 2 (x' := (42, [some (.ref 0), some (.int x1), some (.int x2), some (.int x3), some (.int q4)], [.ref 0, .int x1], hp (some 114) nh rh TK (RK (some 3)) q3.2.1 q3.2.2)) rfl ?_
        obtain ⟨q5, hq5, hf⟩ := Option.bind_eq_some_iff.mp hf
        refine bs_call (o := pEN Ls xs (d + 5) 187 [.ref 0] (hp (some 114) nh rh TK (RK (some 3)) q3.2.1 q3.2.2)) (w := some (.ref 114)) (h' := hp (some 114) nh rh TK (RK (some 3)) q5.1 q5.2) (pc := 45) (lo := [some (.ref 0), some (.int x1), some (.int x2), some (.int x3), some (.int q4)]) (rest := [.int x1]) rfl (t_187 Ls xs (d + 4) nh rh q3.2.1 q3.2.2 q5 hq5) ?_
        refine bs_st 5 (x' := (50, [some (.ref 0), some (.int x1), some (.int x2), some (.int x3), some (.int q4)], [.int (x2 &&& (x3 ^^^ (-1 : Int32))), .ref 114, .int x1], hp (some 114) nh rh TK (RK (some 3)) q5.1 q5.2)) rfl ?_
        obtain ⟨q6, hq6, hf⟩ := Option.bind_eq_some_iff.mp hf
        refine bs_call (o := pEN Ls xs (d + 5) 32 [.ref 114, .int (x2 &&& (x3 ^^^ (-1 : Int32)))] (hp (some 114) nh rh TK (RK (some 3)) q5.1 q5.2)) (w := some (.int q6.1)) (h' := hp (some 114) nh rh TK (RK (some 3)) q6.2.1 q6.2.2) (pc := 53) (lo := [some (.ref 0), some (.int x1), some (.int x2), some (.int x3), some (.int q4)]) (rest := [.int x1]) rfl (t_32 Ls xs (d + 0) nh rh n (x2 &&& (x3 ^^^ (-1 : Int32))) q5.1 q5.2 q6 hq6) ?_
        obtain ⟨q7, hq7, hf⟩ := Option.bind_eq_some_iff.mp hf
        refine bs_call (o := pEN Ls xs (d + 5) 188 [.int x1, .int q6.1] (hp (some 114) nh rh TK (RK (some 3)) q6.2.1 q6.2.2)) (w := some (.int q7)) (h' := hp (some 114) nh rh TK (RK (some 3)) q6.2.1 q6.2.2) (pc := 56) (lo := [some (.ref 0), some (.int x1), some (.int x2), some (.int x3), some (.int q4)]) (rest := []) rfl (t_188 Ls xs (d + 4) (some 114) TK (RK (some 3)) nh rh x1 q6.1 q6.2.1 q6.2.2 q7 hq7) ?_
        refine bs_br (t := 61) (e := 59) (lo := [some (.ref 0), some (.int x1), some (.int x2), some (.int x3), some (.int q4)]) (st := []) (h := hp (some 114) nh rh TK (RK (some 3)) q6.2.1 q6.2.2) rfl hf (fun hc hf => ?_) (fun hc hf => ?_)
        · exact tc_190_1_1 Ls xs d nh rh n _ hK0 (some (.int q4)) x1 x2 x3 q6.2.1 q6.2.2 r hf
        · refine bs_st 1 (x' := (60, [some (.ref 0), some (.int x1), some (.int x2), some (.int x3), some (.int q4)], [.int x3], hp (some 114) nh rh TK (RK (some 3)) q6.2.1 q6.2.2)) rfl ?_
          cases hf
          exact bs_ret rfl
def f_190_1 (n : Nat) (x1 : Int32) (I : FI) (L : FL) : Option (Int32 × FI × FL) :=
  (f_24 I L).bind fun q0 =>
  c_190_1_0 n n x1 q0 (0 : Int32) I L
set_option maxHeartbeats 1000000 in
set_option maxRecDepth 20000 in
theorem t_190_1 (Ls : Nat) (xs : Nat → Int32) (d : Nat) (nh : Option Nat) (rh : Option Nat) (n : Nat) (x1 : Int32) (I : FI) (L : FL) (r : Int32 × FI × FL) (hf : f_190_1 n x1 I L = some r) : pEN Ls xs (d + 6) 190 [.ref 0, .int x1] (hp (some 114) nh rh TK (RK (some 3)) I L) = some (some (.int r.1), hp (some 114) nh rh TK (RK (some 3)) r.2.1 r.2.2) := by
  refine en_run (d := d + 5) (cd := cd_190) (f := (sf 11 rs_11 false 5 (some (.int)) Ls xs (d + 5))) rfl rfl (x := (0, [some (.ref 0), some (.int x1), none, none, none], [], hp (some 114) nh rh TK (RK (some 3)) I L)) rfl rfl (Nat.le_of_ble_eq_true rfl) ?_
  unfold f_190_1 at hf
  refine bs_st 2 (x' := (4, [some (.ref 0), some (.int x1), none, none, none], [.ref 3], hp (some 114) nh rh TK (RK (some 3)) I L)) rfl ?_
  obtain ⟨q0, hq0, hf⟩ := Option.bind_eq_some_iff.mp hf
  refine bs_call (o := pEN Ls xs (d + 5) 24 [.ref 3] (hp (some 114) nh rh TK (RK (some 3)) I L)) (w := some (.int q0)) (h' := hp (some 114) nh rh TK (RK (some 3)) I L) (pc := 7) (lo := [some (.ref 0), some (.int x1), none, none, none]) (rest := []) rfl (t_24 Ls xs (d + 4) (some 114) TK (RK (some 3)) nh rh I L q0 hq0) ?_
  refine bs_st 3 (x' := (10, [some (.ref 0), some (.int x1), some (.int q0), some (.int (0 : Int32)), none], [], hp (some 114) nh rh TK (RK (some 3)) I L)) rfl ?_
  exact tc_190_1_0 Ls xs d nh rh n n none x1 q0 (0 : Int32) I L r hf
/-- LampRounds.shares(I) on (0,) -/
def f_150_1 (n : Nat) (x1 : Int32) (I : FI) (L : FL) : Option (Int32 × FI × FL) :=
  (f_178 x1 I L).bind fun q0 =>
  if q0 = 0 then
    some ((-2 : Int32), I, L)
  else
    (f_190_1 n x1 I L).bind fun q1 =>
    some (q1.1, q1.2.1, q1.2.2)
set_option maxHeartbeats 1000000 in
set_option maxRecDepth 20000 in
theorem t_150_1 (Ls : Nat) (xs : Nat → Int32) (d : Nat) (nh : Option Nat) (rh : Option Nat) (n : Nat) (x1 : Int32) (I : FI) (L : FL) (r : Int32 × FI × FL) (hf : f_150_1 n x1 I L = some r) : pEN Ls xs (d + 7) 150 [.ref 0, .int x1] (hp (some 114) nh rh TK (RK (some 3)) I L) = some (some (.int r.1), hp (some 114) nh rh TK (RK (some 3)) r.2.1 r.2.2) := by
  refine en_run (d := d + 6) (cd := cd_150) (f := (sf 11 rs_11 false 2 (some (.int)) Ls xs (d + 6))) rfl rfl (x := (0, [some (.ref 0), some (.int x1)], [], hp (some 114) nh rh TK (RK (some 3)) I L)) rfl rfl (Nat.le_of_ble_eq_true rfl) ?_
  unfold f_150_1 at hf
  refine bs_st 2 (x' := (2, [some (.ref 0), some (.int x1)], [.int x1, .ref 0], hp (some 114) nh rh TK (RK (some 3)) I L)) rfl ?_
  obtain ⟨q0, hq0, hf⟩ := Option.bind_eq_some_iff.mp hf
  refine bs_call (o := pEN Ls xs (d + 6) 178 [.ref 0, .int x1] (hp (some 114) nh rh TK (RK (some 3)) I L)) (w := some (.int q0)) (h' := hp (some 114) nh rh TK (RK (some 3)) I L) (pc := 5) (lo := [some (.ref 0), some (.int x1)]) (rest := []) rfl (t_178 Ls xs (d + 5) (some 114) TK (RK (some 3)) nh rh x1 I L q0 hq0) ?_
  refine bs_br (t := 16) (e := 8) (lo := [some (.ref 0), some (.int x1)]) (st := []) (h := hp (some 114) nh rh TK (RK (some 3)) I L) rfl hf (fun hc hf => ?_) (fun hc hf => ?_)
  · refine bs_st 1 (x' := (18, [some (.ref 0), some (.int x1)], [.int (-2 : Int32)], hp (some 114) nh rh TK (RK (some 3)) I L)) rfl ?_
    cases hf
    exact bs_ret rfl
  · refine bs_st 2 (x' := (10, [some (.ref 0), some (.int x1)], [.int x1, .ref 0], hp (some 114) nh rh TK (RK (some 3)) I L)) rfl ?_
    obtain ⟨q1, hq1, hf⟩ := Option.bind_eq_some_iff.mp hf
    refine bs_call (o := pEN Ls xs (d + 6) 190 [.ref 0, .int x1] (hp (some 114) nh rh TK (RK (some 3)) I L)) (w := some (.int q1.1)) (h' := hp (some 114) nh rh TK (RK (some 3)) q1.2.1 q1.2.2) (pc := 13) (lo := [some (.ref 0), some (.int x1)]) (rest := []) rfl (t_190_1 Ls xs (d + 0) nh rh n x1 I L q1 hq1) ?_
    refine bs_st 1 (x' := (18, [some (.ref 0), some (.int x1)], [.int q1.1], hp (some 114) nh rh TK (RK (some 3)) q1.2.1 q1.2.2)) rfl ?_
    cases hf
    exact bs_ret rfl
/-- LampRounds.second() on (0,) -/
def b_151_1_0 (n : Nat) (K0 : Int32 → FI → FL → Option (Int32 × FI × FL)) (x1 : Int32) (I : FI) (L : FL) : Option (Int32 × FI × FL) :=
  if I 3 4 ≤ x1 then
    some ((-1 : Int32), I, L)
  else
    (f_190_1 n x1 I L).bind fun q1 =>
    if q1.1 = (-1 : Int32) then
      K0 (x1 + (1 : Int32)) q1.2.1 q1.2.2
    else
      some (x1, q1.2.1, q1.2.2)
def c_151_1_0 (n : Nat) : Nat → Int32 → FI → FL → Option (Int32 × FI × FL)
  | 0, _, _, _ => none
  | m + 1, x1, I, L => b_151_1_0 n (c_151_1_0 n m) x1 I L
set_option maxHeartbeats 1000000 in
set_option maxRecDepth 20000 in
theorem tc_151_1_0 (Ls : Nat) (xs : Nat → Int32) (d : Nat) (nh : Option Nat) (rh : Option Nat) (n : Nat) : ∀ (m : Nat) (x1 : Int32) (I : FI) (L : FL) (r : Int32 × FI × FL), c_151_1_0 n m x1 I L = some r → Bs cd_151 (sf 11 rs_11 false 2 (some (.int)) Ls xs (d + 6)) (12, [some (.ref 0), some (.int x1)], [], hp (some 114) nh rh TK (RK (some 3)) I L) (some (.int r.1), hp (some 114) nh rh TK (RK (some 3)) r.2.1 r.2.2)
  | 0, x1, I, L, r, hf => by cases hf
  | m + 1, x1, I, L, r, hf => by
    unfold c_151_1_0 b_151_1_0 at hf
    have hK0 := tc_151_1_0 Ls xs d nh rh n m
    refine bs_st 4 (x' := (20, [some (.ref 0), some (.int x1)], [.int (I 3 4), .int x1], hp (some 114) nh rh TK (RK (some 3)) I L)) rfl ?_
    refine bs_br (t := 40) (e := 23) (lo := [some (.ref 0), some (.int x1)]) (st := []) (h := hp (some 114) nh rh TK (RK (some 3)) I L) rfl hf (fun hc hf => ?_) (fun hc hf => ?_)
    · refine bs_st 1 (x' := (41, [some (.ref 0), some (.int x1)], [.int (-1 : Int32)], hp (some 114) nh rh TK (RK (some 3)) I L)) rfl ?_
      cases hf
      exact bs_ret rfl
    · refine bs_st 2 (x' := (25, [some (.ref 0), some (.int x1)], [.int x1, .ref 0], hp (some 114) nh rh TK (RK (some 3)) I L)) rfl ?_
      obtain ⟨q1, hq1, hf⟩ := Option.bind_eq_some_iff.mp hf
      refine bs_call (o := pEN Ls xs (d + 6) 190 [.ref 0, .int x1] (hp (some 114) nh rh TK (RK (some 3)) I L)) (w := some (.int q1.1)) (h' := hp (some 114) nh rh TK (RK (some 3)) q1.2.1 q1.2.2) (pc := 28) (lo := [some (.ref 0), some (.int x1)]) (rest := []) rfl (t_190_1 Ls xs (d + 0) nh rh n x1 I L q1 hq1) ?_
      refine bs_st 1 (x' := (29, [some (.ref 0), some (.int x1)], [.int (-1 : Int32), .int q1.1], hp (some 114) nh rh TK (RK (some 3)) q1.2.1 q1.2.2)) rfl ?_
      refine bs_br (t := 34) (e := 32) (lo := [some (.ref 0), some (.int x1)]) (st := []) (h := hp (some 114) nh rh TK (RK (some 3)) q1.2.1 q1.2.2) rfl hf (fun hc hf => ?_) (fun hc hf => ?_)
      · refine bs_st 2 (x' := (12, [some (.ref 0), some (.int (x1 + (1 : Int32)))], [], hp (some 114) nh rh TK (RK (some 3)) q1.2.1 q1.2.2)) rfl ?_
        exact hK0 (x1 + (1 : Int32)) q1.2.1 q1.2.2 r hf
      · refine bs_st 1 (x' := (33, [some (.ref 0), some (.int x1)], [.int x1], hp (some 114) nh rh TK (RK (some 3)) q1.2.1 q1.2.2)) rfl ?_
        cases hf
        exact bs_ret rfl
def f_151_1 (n : Nat) (I : FI) (L : FL) : Option (Int32 × FI × FL) :=
  (f_177 I L).bind fun q0 =>
  if ¬ q0 = 0 then
    c_151_1_0 n n (0 : Int32) I L
  else
    some ((-2 : Int32), I, L)
set_option maxHeartbeats 1000000 in
set_option maxRecDepth 20000 in
theorem t_151_1 (Ls : Nat) (xs : Nat → Int32) (d : Nat) (nh : Option Nat) (rh : Option Nat) (n : Nat) (I : FI) (L : FL) (r : Int32 × FI × FL) (hf : f_151_1 n I L = some r) : pEN Ls xs (d + 7) 151 [.ref 0] (hp (some 114) nh rh TK (RK (some 3)) I L) = some (some (.int r.1), hp (some 114) nh rh TK (RK (some 3)) r.2.1 r.2.2) := by
  refine en_run (d := d + 6) (cd := cd_151) (f := (sf 11 rs_11 false 2 (some (.int)) Ls xs (d + 6))) rfl rfl (x := (0, [some (.ref 0), none], [], hp (some 114) nh rh TK (RK (some 3)) I L)) rfl rfl (Nat.le_of_ble_eq_true rfl) ?_
  unfold f_151_1 at hf
  refine bs_st 1 (x' := (1, [some (.ref 0), none], [.ref 0], hp (some 114) nh rh TK (RK (some 3)) I L)) rfl ?_
  obtain ⟨q0, hq0, hf⟩ := Option.bind_eq_some_iff.mp hf
  refine bs_call (o := pEN Ls xs (d + 6) 177 [.ref 0] (hp (some 114) nh rh TK (RK (some 3)) I L)) (w := some (.int q0)) (h' := hp (some 114) nh rh TK (RK (some 3)) I L) (pc := 4) (lo := [some (.ref 0), none]) (rest := []) rfl (t_177 Ls xs (d + 5) (some 114) TK (RK (some 3)) nh rh I L q0 hq0) ?_
  refine bs_br (t := 10) (e := 7) (lo := [some (.ref 0), none]) (st := []) (h := hp (some 114) nh rh TK (RK (some 3)) I L) rfl hf (fun hc hf => ?_) (fun hc hf => ?_)
  · refine bs_st 2 (x' := (12, [some (.ref 0), some (.int (0 : Int32))], [], hp (some 114) nh rh TK (RK (some 3)) I L)) rfl ?_
    exact tc_151_1_0 Ls xs d nh rh n n (0 : Int32) I L r hf
  · refine bs_st 1 (x' := (9, [some (.ref 0), none], [.int (-2 : Int32)], hp (some 114) nh rh TK (RK (some 3)) I L)) rfl ?_
    cases hf
    exact bs_ret rfl
/-- LampRounds.isSlot(I) on () -/
def f_184 (x0 : Int32) (I : FI) (L : FL) : Option (Int32) :=
  if x0 < 0 then
    some ((0 : Int32))
  else
    if (4 : Int32) ≤ x0 then
      some ((0 : Int32))
    else
      some ((1 : Int32))
set_option maxHeartbeats 1000000 in
set_option maxRecDepth 20000 in
theorem t_184 (Ls : Nat) (xs : Nat → Int32) (d : Nat) (kp : Option Nat) (tl : List (Nat × Nat)) (rl : List (List (Option Nat))) (nh : Option Nat) (rh : Option Nat) (x0 : Int32) (I : FI) (L : FL) (r : Int32) (hf : f_184 x0 I L = some r) : pEN Ls xs (d + 1) 184 [.int x0] (hp kp nh rh tl rl I L) = some (some (.int r), hp kp nh rh tl rl I L) := by
  refine en_run (d := d + 0) (cd := cd_184) (f := (sf 11 rs_11 false 1 (some (.boolean)) Ls xs (d + 0))) rfl rfl (x := (0, [some (.int x0)], [], hp kp nh rh tl rl I L)) rfl rfl (Nat.le_of_ble_eq_true rfl) ?_
  unfold f_184 at hf
  refine bs_st 1 (x' := (1, [some (.int x0)], [.int x0], hp kp nh rh tl rl I L)) rfl ?_
  refine bs_br (t := 13) (e := 4) (lo := [some (.int x0)]) (st := []) (h := hp kp nh rh tl rl I L) rfl hf (fun hc hf => ?_) (fun hc hf => ?_)
  · refine bs_st 1 (x' := (14, [some (.int x0)], [.int (0 : Int32)], hp kp nh rh tl rl I L)) rfl ?_
    cases hf
    exact bs_ret rfl
  · refine bs_st 2 (x' := (6, [some (.int x0)], [.int (4 : Int32), .int x0], hp kp nh rh tl rl I L)) rfl ?_
    refine bs_br (t := 13) (e := 9) (lo := [some (.int x0)]) (st := []) (h := hp kp nh rh tl rl I L) rfl hf (fun hc hf => ?_) (fun hc hf => ?_)
    · refine bs_st 1 (x' := (14, [some (.int x0)], [.int (0 : Int32)], hp kp nh rh tl rl I L)) rfl ?_
      cases hf
      exact bs_ret rfl
    · refine bs_st 2 (x' := (14, [some (.int x0)], [.int (1 : Int32)], hp kp nh rh tl rl I L)) rfl ?_
      cases hf
      exact bs_ret rfl
/-- Row.isBelow(II) on (81,) -/
def f_109 (x1 : Int32) (x2 : Int32) (I : FI) (L : FL) : Option (Int32) :=
  if pin x1 60 = true then (if (lg_cmp (L 82 x1.toNatClampNeg) (0 : Int64)) < 0 then
      some ((0 : Int32))
    else
      if pin x1 60 = true then (if 0 ≤ (lg_cmp (L 82 x1.toNatClampNeg) x2.toInt64) then
          some ((0 : Int32))
        else
          some ((1 : Int32))) else none) else none
set_option maxHeartbeats 1000000 in
set_option maxRecDepth 20000 in
theorem t_109 (Ls : Nat) (xs : Nat → Int32) (d : Nat) (kp : Option Nat) (tl : List (Nat × Nat)) (rl : List (List (Option Nat))) (nh : Option Nat) (rh : Option Nat) (x1 : Int32) (x2 : Int32) (I : FI) (L : FL) (r : Int32) (hf : f_109 x1 x2 I L = some r) : pEN Ls xs (d + 1) 109 [.ref 81, .int x1, .int x2] (hp kp nh rh tl rl I L) = some (some (.int r), hp kp nh rh tl rl I L) := by
  refine en_run (d := d + 0) (cd := cd_109) (f := (sf 9 rs_9 false 3 (some (.boolean)) Ls xs (d + 0))) rfl rfl (x := (0, [some (.ref 81), some (.int x1), some (.int x2)], [], hp kp nh rh tl rl I L)) rfl rfl (Nat.le_of_ble_eq_true rfl) ?_
  unfold f_109 at hf
  refine bs_st 3 (x' := (5, [some (.ref 81), some (.int x1), some (.int x2)], [.int x1, .ref 82], hp kp nh rh tl rl I L)) rfl ?_
  refine bs_gd (x' := (6, [some (.ref 81), some (.int x1), some (.int x2)], [.long (L 82 x1.toNatClampNeg)], hp kp nh rh tl rl I L)) rfl hf (fun hc hf => ?_)
  refine bs_st 2 (x' := (8, [some (.ref 81), some (.int x1), some (.int x2)], [.int (lg_cmp (L 82 x1.toNatClampNeg) (0 : Int64))], hp kp nh rh tl rl I L)) rfl ?_
  refine bs_br (t := 27) (e := 11) (lo := [some (.ref 81), some (.int x1), some (.int x2)]) (st := []) (h := hp kp nh rh tl rl I L) rfl hf (fun hc hf => ?_) (fun hc hf => ?_)
  · refine bs_st 1 (x' := (28, [some (.ref 81), some (.int x1), some (.int x2)], [.int (0 : Int32)], hp kp nh rh tl rl I L)) rfl ?_
    cases hf
    exact bs_ret rfl
  · refine bs_st 3 (x' := (16, [some (.ref 81), some (.int x1), some (.int x2)], [.int x1, .ref 82], hp kp nh rh tl rl I L)) rfl ?_
    refine bs_gd (x' := (17, [some (.ref 81), some (.int x1), some (.int x2)], [.long (L 82 x1.toNatClampNeg)], hp kp nh rh tl rl I L)) rfl hf (fun hc hf => ?_)
    refine bs_st 3 (x' := (20, [some (.ref 81), some (.int x1), some (.int x2)], [.int (lg_cmp (L 82 x1.toNatClampNeg) x2.toInt64)], hp kp nh rh tl rl I L)) rfl ?_
    refine bs_br (t := 27) (e := 23) (lo := [some (.ref 81), some (.int x1), some (.int x2)]) (st := []) (h := hp kp nh rh tl rl I L) rfl hf (fun hc hf => ?_) (fun hc hf => ?_)
    · refine bs_st 1 (x' := (28, [some (.ref 81), some (.int x1), some (.int x2)], [.int (0 : Int32)], hp kp nh rh tl rl I L)) rfl ?_
      cases hf
      exact bs_ret rfl
    · refine bs_st 2 (x' := (28, [some (.ref 81), some (.int x1), some (.int x2)], [.int (1 : Int32)], hp kp nh rh tl rl I L)) rfl ?_
      cases hf
      exact bs_ret rfl
/-- Row.isBelow(II) on (83,) -/
def f_109_1 (x1 : Int32) (x2 : Int32) (I : FI) (L : FL) : Option (Int32) :=
  if pin x1 60 = true then (if (lg_cmp (L 84 x1.toNatClampNeg) (0 : Int64)) < 0 then
      some ((0 : Int32))
    else
      if pin x1 60 = true then (if 0 ≤ (lg_cmp (L 84 x1.toNatClampNeg) x2.toInt64) then
          some ((0 : Int32))
        else
          some ((1 : Int32))) else none) else none
set_option maxHeartbeats 1000000 in
set_option maxRecDepth 20000 in
theorem t_109_1 (Ls : Nat) (xs : Nat → Int32) (d : Nat) (kp : Option Nat) (tl : List (Nat × Nat)) (rl : List (List (Option Nat))) (nh : Option Nat) (rh : Option Nat) (x1 : Int32) (x2 : Int32) (I : FI) (L : FL) (r : Int32) (hf : f_109_1 x1 x2 I L = some r) : pEN Ls xs (d + 1) 109 [.ref 83, .int x1, .int x2] (hp kp nh rh tl rl I L) = some (some (.int r), hp kp nh rh tl rl I L) := by
  refine en_run (d := d + 0) (cd := cd_109) (f := (sf 9 rs_9 false 3 (some (.boolean)) Ls xs (d + 0))) rfl rfl (x := (0, [some (.ref 83), some (.int x1), some (.int x2)], [], hp kp nh rh tl rl I L)) rfl rfl (Nat.le_of_ble_eq_true rfl) ?_
  unfold f_109_1 at hf
  refine bs_st 3 (x' := (5, [some (.ref 83), some (.int x1), some (.int x2)], [.int x1, .ref 84], hp kp nh rh tl rl I L)) rfl ?_
  refine bs_gd (x' := (6, [some (.ref 83), some (.int x1), some (.int x2)], [.long (L 84 x1.toNatClampNeg)], hp kp nh rh tl rl I L)) rfl hf (fun hc hf => ?_)
  refine bs_st 2 (x' := (8, [some (.ref 83), some (.int x1), some (.int x2)], [.int (lg_cmp (L 84 x1.toNatClampNeg) (0 : Int64))], hp kp nh rh tl rl I L)) rfl ?_
  refine bs_br (t := 27) (e := 11) (lo := [some (.ref 83), some (.int x1), some (.int x2)]) (st := []) (h := hp kp nh rh tl rl I L) rfl hf (fun hc hf => ?_) (fun hc hf => ?_)
  · refine bs_st 1 (x' := (28, [some (.ref 83), some (.int x1), some (.int x2)], [.int (0 : Int32)], hp kp nh rh tl rl I L)) rfl ?_
    cases hf
    exact bs_ret rfl
  · refine bs_st 3 (x' := (16, [some (.ref 83), some (.int x1), some (.int x2)], [.int x1, .ref 84], hp kp nh rh tl rl I L)) rfl ?_
    refine bs_gd (x' := (17, [some (.ref 83), some (.int x1), some (.int x2)], [.long (L 84 x1.toNatClampNeg)], hp kp nh rh tl rl I L)) rfl hf (fun hc hf => ?_)
    refine bs_st 3 (x' := (20, [some (.ref 83), some (.int x1), some (.int x2)], [.int (lg_cmp (L 84 x1.toNatClampNeg) x2.toInt64)], hp kp nh rh tl rl I L)) rfl ?_
    refine bs_br (t := 27) (e := 23) (lo := [some (.ref 83), some (.int x1), some (.int x2)]) (st := []) (h := hp kp nh rh tl rl I L) rfl hf (fun hc hf => ?_) (fun hc hf => ?_)
    · refine bs_st 1 (x' := (28, [some (.ref 83), some (.int x1), some (.int x2)], [.int (0 : Int32)], hp kp nh rh tl rl I L)) rfl ?_
      cases hf
      exact bs_ret rfl
    · refine bs_st 2 (x' := (28, [some (.ref 83), some (.int x1), some (.int x2)], [.int (1 : Int32)], hp kp nh rh tl rl I L)) rfl ?_
      cases hf
      exact bs_ret rfl
/-- Row.isBelow(II) on (85,) -/
def f_109_2 (x1 : Int32) (x2 : Int32) (I : FI) (L : FL) : Option (Int32) :=
  if pin x1 60 = true then (if (lg_cmp (L 86 x1.toNatClampNeg) (0 : Int64)) < 0 then
      some ((0 : Int32))
    else
      if pin x1 60 = true then (if 0 ≤ (lg_cmp (L 86 x1.toNatClampNeg) x2.toInt64) then
          some ((0 : Int32))
        else
          some ((1 : Int32))) else none) else none
set_option maxHeartbeats 1000000 in
set_option maxRecDepth 20000 in
theorem t_109_2 (Ls : Nat) (xs : Nat → Int32) (d : Nat) (kp : Option Nat) (tl : List (Nat × Nat)) (rl : List (List (Option Nat))) (nh : Option Nat) (rh : Option Nat) (x1 : Int32) (x2 : Int32) (I : FI) (L : FL) (r : Int32) (hf : f_109_2 x1 x2 I L = some r) : pEN Ls xs (d + 1) 109 [.ref 85, .int x1, .int x2] (hp kp nh rh tl rl I L) = some (some (.int r), hp kp nh rh tl rl I L) := by
  refine en_run (d := d + 0) (cd := cd_109) (f := (sf 9 rs_9 false 3 (some (.boolean)) Ls xs (d + 0))) rfl rfl (x := (0, [some (.ref 85), some (.int x1), some (.int x2)], [], hp kp nh rh tl rl I L)) rfl rfl (Nat.le_of_ble_eq_true rfl) ?_
  unfold f_109_2 at hf
  refine bs_st 3 (x' := (5, [some (.ref 85), some (.int x1), some (.int x2)], [.int x1, .ref 86], hp kp nh rh tl rl I L)) rfl ?_
  refine bs_gd (x' := (6, [some (.ref 85), some (.int x1), some (.int x2)], [.long (L 86 x1.toNatClampNeg)], hp kp nh rh tl rl I L)) rfl hf (fun hc hf => ?_)
  refine bs_st 2 (x' := (8, [some (.ref 85), some (.int x1), some (.int x2)], [.int (lg_cmp (L 86 x1.toNatClampNeg) (0 : Int64))], hp kp nh rh tl rl I L)) rfl ?_
  refine bs_br (t := 27) (e := 11) (lo := [some (.ref 85), some (.int x1), some (.int x2)]) (st := []) (h := hp kp nh rh tl rl I L) rfl hf (fun hc hf => ?_) (fun hc hf => ?_)
  · refine bs_st 1 (x' := (28, [some (.ref 85), some (.int x1), some (.int x2)], [.int (0 : Int32)], hp kp nh rh tl rl I L)) rfl ?_
    cases hf
    exact bs_ret rfl
  · refine bs_st 3 (x' := (16, [some (.ref 85), some (.int x1), some (.int x2)], [.int x1, .ref 86], hp kp nh rh tl rl I L)) rfl ?_
    refine bs_gd (x' := (17, [some (.ref 85), some (.int x1), some (.int x2)], [.long (L 86 x1.toNatClampNeg)], hp kp nh rh tl rl I L)) rfl hf (fun hc hf => ?_)
    refine bs_st 3 (x' := (20, [some (.ref 85), some (.int x1), some (.int x2)], [.int (lg_cmp (L 86 x1.toNatClampNeg) x2.toInt64)], hp kp nh rh tl rl I L)) rfl ?_
    refine bs_br (t := 27) (e := 23) (lo := [some (.ref 85), some (.int x1), some (.int x2)]) (st := []) (h := hp kp nh rh tl rl I L) rfl hf (fun hc hf => ?_) (fun hc hf => ?_)
    · refine bs_st 1 (x' := (28, [some (.ref 85), some (.int x1), some (.int x2)], [.int (0 : Int32)], hp kp nh rh tl rl I L)) rfl ?_
      cases hf
      exact bs_ret rfl
    · refine bs_st 2 (x' := (28, [some (.ref 85), some (.int x1), some (.int x2)], [.int (1 : Int32)], hp kp nh rh tl rl I L)) rfl ?_
      cases hf
      exact bs_ret rfl
/-- Row.isBelow(II) on (87,) -/
def f_109_3 (x1 : Int32) (x2 : Int32) (I : FI) (L : FL) : Option (Int32) :=
  if pin x1 60 = true then (if (lg_cmp (L 88 x1.toNatClampNeg) (0 : Int64)) < 0 then
      some ((0 : Int32))
    else
      if pin x1 60 = true then (if 0 ≤ (lg_cmp (L 88 x1.toNatClampNeg) x2.toInt64) then
          some ((0 : Int32))
        else
          some ((1 : Int32))) else none) else none
set_option maxHeartbeats 1000000 in
set_option maxRecDepth 20000 in
theorem t_109_3 (Ls : Nat) (xs : Nat → Int32) (d : Nat) (kp : Option Nat) (tl : List (Nat × Nat)) (rl : List (List (Option Nat))) (nh : Option Nat) (rh : Option Nat) (x1 : Int32) (x2 : Int32) (I : FI) (L : FL) (r : Int32) (hf : f_109_3 x1 x2 I L = some r) : pEN Ls xs (d + 1) 109 [.ref 87, .int x1, .int x2] (hp kp nh rh tl rl I L) = some (some (.int r), hp kp nh rh tl rl I L) := by
  refine en_run (d := d + 0) (cd := cd_109) (f := (sf 9 rs_9 false 3 (some (.boolean)) Ls xs (d + 0))) rfl rfl (x := (0, [some (.ref 87), some (.int x1), some (.int x2)], [], hp kp nh rh tl rl I L)) rfl rfl (Nat.le_of_ble_eq_true rfl) ?_
  unfold f_109_3 at hf
  refine bs_st 3 (x' := (5, [some (.ref 87), some (.int x1), some (.int x2)], [.int x1, .ref 88], hp kp nh rh tl rl I L)) rfl ?_
  refine bs_gd (x' := (6, [some (.ref 87), some (.int x1), some (.int x2)], [.long (L 88 x1.toNatClampNeg)], hp kp nh rh tl rl I L)) rfl hf (fun hc hf => ?_)
  refine bs_st 2 (x' := (8, [some (.ref 87), some (.int x1), some (.int x2)], [.int (lg_cmp (L 88 x1.toNatClampNeg) (0 : Int64))], hp kp nh rh tl rl I L)) rfl ?_
  refine bs_br (t := 27) (e := 11) (lo := [some (.ref 87), some (.int x1), some (.int x2)]) (st := []) (h := hp kp nh rh tl rl I L) rfl hf (fun hc hf => ?_) (fun hc hf => ?_)
  · refine bs_st 1 (x' := (28, [some (.ref 87), some (.int x1), some (.int x2)], [.int (0 : Int32)], hp kp nh rh tl rl I L)) rfl ?_
    cases hf
    exact bs_ret rfl
  · refine bs_st 3 (x' := (16, [some (.ref 87), some (.int x1), some (.int x2)], [.int x1, .ref 88], hp kp nh rh tl rl I L)) rfl ?_
    refine bs_gd (x' := (17, [some (.ref 87), some (.int x1), some (.int x2)], [.long (L 88 x1.toNatClampNeg)], hp kp nh rh tl rl I L)) rfl hf (fun hc hf => ?_)
    refine bs_st 3 (x' := (20, [some (.ref 87), some (.int x1), some (.int x2)], [.int (lg_cmp (L 88 x1.toNatClampNeg) x2.toInt64)], hp kp nh rh tl rl I L)) rfl ?_
    refine bs_br (t := 27) (e := 23) (lo := [some (.ref 87), some (.int x1), some (.int x2)]) (st := []) (h := hp kp nh rh tl rl I L) rfl hf (fun hc hf => ?_) (fun hc hf => ?_)
    · refine bs_st 1 (x' := (28, [some (.ref 87), some (.int x1), some (.int x2)], [.int (0 : Int32)], hp kp nh rh tl rl I L)) rfl ?_
      cases hf
      exact bs_ret rfl
    · refine bs_st 2 (x' := (28, [some (.ref 87), some (.int x1), some (.int x2)], [.int (1 : Int32)], hp kp nh rh tl rl I L)) rfl ?_
      cases hf
      exact bs_ret rfl
/-- LampRounds.refusalOf(I) on (0,) -/
def b_198_0 (n : Nat) (I : FI) (L : FL) (K0 : Int32 → Option (Int32)) (x3 : Int32) : Option (Int32) :=
  if I 81 2 ≤ (x3 + (2 : Int32)) then
    some ((0 : Int32))
  else
    (f_109 x3 (I 3 4) I L).bind fun q2 =>
    if q2 = 0 then
      some ((-2 : Int32))
    else
      (f_109 (x3 + (1 : Int32)) (I 3 3) I L).bind fun q3 =>
      if q3 = 0 then
        some ((-2 : Int32))
      else
        (f_109 (x3 + (2 : Int32)) (100 : Int32) I L).bind fun q4 =>
        if ¬ q4 = 0 then
          K0 (x3 + (3 : Int32))
        else
          some ((-2 : Int32))
def c_198_0 (n : Nat) (I : FI) (L : FL) : Nat → Int32 → Option (Int32)
  | 0, _ => none
  | m + 1, x3 => b_198_0 n I L (c_198_0 n I L m) x3
set_option maxHeartbeats 1000000 in
set_option maxRecDepth 20000 in
theorem tc_198_0 (Ls : Nat) (xs : Nat → Int32) (d : Nat) (kp : Option Nat) (tl : List (Nat × Nat)) (rl : List (List (Option Nat))) (nh : Option Nat) (rh : Option Nat) (n : Nat) (I : FI) (L : FL) : ∀ (m : Nat) (w1 : Option Value) (x3 : Int32) (r : Int32), c_198_0 n I L m x3 = some r → Bs cd_198 (sf 11 rs_11 false 4 (some (.int)) Ls xs (d + 1)) (48, [some (.ref 0), w1, some (.ref 81), some (.int x3)], [], hp kp nh rh tl rl I L) (some (.int r), hp kp nh rh tl rl I L)
  | 0, w1, x3, r, hf => by cases hf
  | m + 1, w1, x3, r, hf => by
    unfold c_198_0 b_198_0 at hf
    have hK0 := tc_198_0 Ls xs d kp tl rl nh rh n I L m
    refine bs_st 5 (x' := (55, [some (.ref 0), w1, some (.ref 81), some (.int x3)], [.int (I 81 2), .int (x3 + (2 : Int32))], hp kp nh rh tl rl I L)) rfl ?_
    refine bs_br (t := 111) (e := 58) (lo := [some (.ref 0), w1, some (.ref 81), some (.int x3)]) (st := []) (h := hp kp nh rh tl rl I L) rfl hf (fun hc hf => ?_) (fun hc hf => ?_)
    · refine bs_st 1 (x' := (112, [some (.ref 0), w1, some (.ref 81), some (.int x3)], [.int (0 : Int32)], hp kp nh rh tl rl I L)) rfl ?_
      cases hf
      exact bs_ret rfl
    · refine bs_st 5 (x' := (67, [some (.ref 0), w1, some (.ref 81), some (.int x3)], [.int (I 3 4), .int x3, .ref 81], hp kp nh rh tl rl I L)) rfl ?_
      obtain ⟨q2, hq2, hf⟩ := Option.bind_eq_some_iff.mp hf
      refine bs_call (o := pEN Ls xs (d + 1) 109 [.ref 81, .int x3, .int (I 3 4)] (hp kp nh rh tl rl I L)) (w := some (.int q2)) (h' := hp kp nh rh tl rl I L) (pc := 70) (lo := [some (.ref 0), w1, some (.ref 81), some (.int x3)]) (rest := []) rfl (t_109 Ls xs (d + 0) kp tl rl nh rh x3 (I 3 4) I L q2 hq2) ?_
      refine bs_br (t := 102) (e := 73) (lo := [some (.ref 0), w1, some (.ref 81), some (.int x3)]) (st := []) (h := hp kp nh rh tl rl I L) rfl hf (fun hc hf => ?_) (fun hc hf => ?_)
      · refine bs_st 1 (x' := (104, [some (.ref 0), w1, some (.ref 81), some (.int x3)], [.int (-2 : Int32)], hp kp nh rh tl rl I L)) rfl ?_
        cases hf
        exact bs_ret rfl
      · refine bs_st 7 (x' := (84, [some (.ref 0), w1, some (.ref 81), some (.int x3)], [.int (I 3 3), .int (x3 + (1 : Int32)), .ref 81], hp kp nh rh tl rl I L)) rfl ?_
        obtain ⟨q3, hq3, hf⟩ := Option.bind_eq_some_iff.mp hf
        refine bs_call (o := pEN Ls xs (d + 1) 109 [.ref 81, .int (x3 + (1 : Int32)), .int (I 3 3)] (hp kp nh rh tl rl I L)) (w := some (.int q3)) (h' := hp kp nh rh tl rl I L) (pc := 87) (lo := [some (.ref 0), w1, some (.ref 81), some (.int x3)]) (rest := []) rfl (t_109 Ls xs (d + 0) kp tl rl nh rh (x3 + (1 : Int32)) (I 3 3) I L q3 hq3) ?_
        refine bs_br (t := 102) (e := 90) (lo := [some (.ref 0), w1, some (.ref 81), some (.int x3)]) (st := []) (h := hp kp nh rh tl rl I L) rfl hf (fun hc hf => ?_) (fun hc hf => ?_)
        · refine bs_st 1 (x' := (104, [some (.ref 0), w1, some (.ref 81), some (.int x3)], [.int (-2 : Int32)], hp kp nh rh tl rl I L)) rfl ?_
          cases hf
          exact bs_ret rfl
        · refine bs_st 5 (x' := (96, [some (.ref 0), w1, some (.ref 81), some (.int x3)], [.int (100 : Int32), .int (x3 + (2 : Int32)), .ref 81], hp kp nh rh tl rl I L)) rfl ?_
          obtain ⟨q4, hq4, hf⟩ := Option.bind_eq_some_iff.mp hf
          refine bs_call (o := pEN Ls xs (d + 1) 109 [.ref 81, .int (x3 + (2 : Int32)), .int (100 : Int32)] (hp kp nh rh tl rl I L)) (w := some (.int q4)) (h' := hp kp nh rh tl rl I L) (pc := 99) (lo := [some (.ref 0), w1, some (.ref 81), some (.int x3)]) (rest := []) rfl (t_109 Ls xs (d + 0) kp tl rl nh rh (x3 + (2 : Int32)) (100 : Int32) I L q4 hq4) ?_
          refine bs_br (t := 105) (e := 102) (lo := [some (.ref 0), w1, some (.ref 81), some (.int x3)]) (st := []) (h := hp kp nh rh tl rl I L) rfl hf (fun hc hf => ?_) (fun hc hf => ?_)
          · refine bs_st 2 (x' := (48, [some (.ref 0), w1, some (.ref 81), some (.int (x3 + (3 : Int32)))], [], hp kp nh rh tl rl I L)) rfl ?_
            exact hK0 w1 (x3 + (3 : Int32)) r hf
          · refine bs_st 1 (x' := (104, [some (.ref 0), w1, some (.ref 81), some (.int x3)], [.int (-2 : Int32)], hp kp nh rh tl rl I L)) rfl ?_
            cases hf
            exact bs_ret rfl
def b_198_1 (n : Nat) (I : FI) (L : FL) (K1 : Int32 → Option (Int32)) (x3 : Int32) : Option (Int32) :=
  if I 83 2 ≤ (x3 + (2 : Int32)) then
    some ((0 : Int32))
  else
    (f_109_1 x3 (I 3 4) I L).bind fun q5 =>
    if q5 = 0 then
      some ((-2 : Int32))
    else
      (f_109_1 (x3 + (1 : Int32)) (I 3 3) I L).bind fun q6 =>
      if q6 = 0 then
        some ((-2 : Int32))
      else
        (f_109_1 (x3 + (2 : Int32)) (100 : Int32) I L).bind fun q7 =>
        if ¬ q7 = 0 then
          K1 (x3 + (3 : Int32))
        else
          some ((-2 : Int32))
def c_198_1 (n : Nat) (I : FI) (L : FL) : Nat → Int32 → Option (Int32)
  | 0, _ => none
  | m + 1, x3 => b_198_1 n I L (c_198_1 n I L m) x3
set_option maxHeartbeats 1000000 in
set_option maxRecDepth 20000 in
theorem tc_198_1 (Ls : Nat) (xs : Nat → Int32) (d : Nat) (kp : Option Nat) (tl : List (Nat × Nat)) (rl : List (List (Option Nat))) (nh : Option Nat) (rh : Option Nat) (n : Nat) (I : FI) (L : FL) : ∀ (m : Nat) (w1 : Option Value) (x3 : Int32) (r : Int32), c_198_1 n I L m x3 = some r → Bs cd_198 (sf 11 rs_11 false 4 (some (.int)) Ls xs (d + 1)) (48, [some (.ref 0), w1, some (.ref 83), some (.int x3)], [], hp kp nh rh tl rl I L) (some (.int r), hp kp nh rh tl rl I L)
  | 0, w1, x3, r, hf => by cases hf
  | m + 1, w1, x3, r, hf => by
    unfold c_198_1 b_198_1 at hf
    have hK1 := tc_198_1 Ls xs d kp tl rl nh rh n I L m
    refine bs_st 5 (x' := (55, [some (.ref 0), w1, some (.ref 83), some (.int x3)], [.int (I 83 2), .int (x3 + (2 : Int32))], hp kp nh rh tl rl I L)) rfl ?_
    refine bs_br (t := 111) (e := 58) (lo := [some (.ref 0), w1, some (.ref 83), some (.int x3)]) (st := []) (h := hp kp nh rh tl rl I L) rfl hf (fun hc hf => ?_) (fun hc hf => ?_)
    · refine bs_st 1 (x' := (112, [some (.ref 0), w1, some (.ref 83), some (.int x3)], [.int (0 : Int32)], hp kp nh rh tl rl I L)) rfl ?_
      cases hf
      exact bs_ret rfl
    · refine bs_st 5 (x' := (67, [some (.ref 0), w1, some (.ref 83), some (.int x3)], [.int (I 3 4), .int x3, .ref 83], hp kp nh rh tl rl I L)) rfl ?_
      obtain ⟨q5, hq5, hf⟩ := Option.bind_eq_some_iff.mp hf
      refine bs_call (o := pEN Ls xs (d + 1) 109 [.ref 83, .int x3, .int (I 3 4)] (hp kp nh rh tl rl I L)) (w := some (.int q5)) (h' := hp kp nh rh tl rl I L) (pc := 70) (lo := [some (.ref 0), w1, some (.ref 83), some (.int x3)]) (rest := []) rfl (t_109_1 Ls xs (d + 0) kp tl rl nh rh x3 (I 3 4) I L q5 hq5) ?_
      refine bs_br (t := 102) (e := 73) (lo := [some (.ref 0), w1, some (.ref 83), some (.int x3)]) (st := []) (h := hp kp nh rh tl rl I L) rfl hf (fun hc hf => ?_) (fun hc hf => ?_)
      · refine bs_st 1 (x' := (104, [some (.ref 0), w1, some (.ref 83), some (.int x3)], [.int (-2 : Int32)], hp kp nh rh tl rl I L)) rfl ?_
        cases hf
        exact bs_ret rfl
      · refine bs_st 7 (x' := (84, [some (.ref 0), w1, some (.ref 83), some (.int x3)], [.int (I 3 3), .int (x3 + (1 : Int32)), .ref 83], hp kp nh rh tl rl I L)) rfl ?_
        obtain ⟨q6, hq6, hf⟩ := Option.bind_eq_some_iff.mp hf
        refine bs_call (o := pEN Ls xs (d + 1) 109 [.ref 83, .int (x3 + (1 : Int32)), .int (I 3 3)] (hp kp nh rh tl rl I L)) (w := some (.int q6)) (h' := hp kp nh rh tl rl I L) (pc := 87) (lo := [some (.ref 0), w1, some (.ref 83), some (.int x3)]) (rest := []) rfl (t_109_1 Ls xs (d + 0) kp tl rl nh rh (x3 + (1 : Int32)) (I 3 3) I L q6 hq6) ?_
        refine bs_br (t := 102) (e := 90) (lo := [some (.ref 0), w1, some (.ref 83), some (.int x3)]) (st := []) (h := hp kp nh rh tl rl I L) rfl hf (fun hc hf => ?_) (fun hc hf => ?_)
        · refine bs_st 1 (x' := (104, [some (.ref 0), w1, some (.ref 83), some (.int x3)], [.int (-2 : Int32)], hp kp nh rh tl rl I L)) rfl ?_
          cases hf
          exact bs_ret rfl
        · refine bs_st 5 (x' := (96, [some (.ref 0), w1, some (.ref 83), some (.int x3)], [.int (100 : Int32), .int (x3 + (2 : Int32)), .ref 83], hp kp nh rh tl rl I L)) rfl ?_
          obtain ⟨q7, hq7, hf⟩ := Option.bind_eq_some_iff.mp hf
          refine bs_call (o := pEN Ls xs (d + 1) 109 [.ref 83, .int (x3 + (2 : Int32)), .int (100 : Int32)] (hp kp nh rh tl rl I L)) (w := some (.int q7)) (h' := hp kp nh rh tl rl I L) (pc := 99) (lo := [some (.ref 0), w1, some (.ref 83), some (.int x3)]) (rest := []) rfl (t_109_1 Ls xs (d + 0) kp tl rl nh rh (x3 + (2 : Int32)) (100 : Int32) I L q7 hq7) ?_
          refine bs_br (t := 105) (e := 102) (lo := [some (.ref 0), w1, some (.ref 83), some (.int x3)]) (st := []) (h := hp kp nh rh tl rl I L) rfl hf (fun hc hf => ?_) (fun hc hf => ?_)
          · refine bs_st 2 (x' := (48, [some (.ref 0), w1, some (.ref 83), some (.int (x3 + (3 : Int32)))], [], hp kp nh rh tl rl I L)) rfl ?_
            exact hK1 w1 (x3 + (3 : Int32)) r hf
          · refine bs_st 1 (x' := (104, [some (.ref 0), w1, some (.ref 83), some (.int x3)], [.int (-2 : Int32)], hp kp nh rh tl rl I L)) rfl ?_
            cases hf
            exact bs_ret rfl
def b_198_2 (n : Nat) (I : FI) (L : FL) (K2 : Int32 → Option (Int32)) (x3 : Int32) : Option (Int32) :=
  if I 85 2 ≤ (x3 + (2 : Int32)) then
    some ((0 : Int32))
  else
    (f_109_2 x3 (I 3 4) I L).bind fun q8 =>
    if q8 = 0 then
      some ((-2 : Int32))
    else
      (f_109_2 (x3 + (1 : Int32)) (I 3 3) I L).bind fun q9 =>
      if q9 = 0 then
        some ((-2 : Int32))
      else
        (f_109_2 (x3 + (2 : Int32)) (100 : Int32) I L).bind fun q10 =>
        if ¬ q10 = 0 then
          K2 (x3 + (3 : Int32))
        else
          some ((-2 : Int32))
def c_198_2 (n : Nat) (I : FI) (L : FL) : Nat → Int32 → Option (Int32)
  | 0, _ => none
  | m + 1, x3 => b_198_2 n I L (c_198_2 n I L m) x3
set_option maxHeartbeats 1000000 in
set_option maxRecDepth 20000 in
theorem tc_198_2 (Ls : Nat) (xs : Nat → Int32) (d : Nat) (kp : Option Nat) (tl : List (Nat × Nat)) (rl : List (List (Option Nat))) (nh : Option Nat) (rh : Option Nat) (n : Nat) (I : FI) (L : FL) : ∀ (m : Nat) (w1 : Option Value) (x3 : Int32) (r : Int32), c_198_2 n I L m x3 = some r → Bs cd_198 (sf 11 rs_11 false 4 (some (.int)) Ls xs (d + 1)) (48, [some (.ref 0), w1, some (.ref 85), some (.int x3)], [], hp kp nh rh tl rl I L) (some (.int r), hp kp nh rh tl rl I L)
  | 0, w1, x3, r, hf => by cases hf
  | m + 1, w1, x3, r, hf => by
    unfold c_198_2 b_198_2 at hf
    have hK2 := tc_198_2 Ls xs d kp tl rl nh rh n I L m
    refine bs_st 5 (x' := (55, [some (.ref 0), w1, some (.ref 85), some (.int x3)], [.int (I 85 2), .int (x3 + (2 : Int32))], hp kp nh rh tl rl I L)) rfl ?_
    refine bs_br (t := 111) (e := 58) (lo := [some (.ref 0), w1, some (.ref 85), some (.int x3)]) (st := []) (h := hp kp nh rh tl rl I L) rfl hf (fun hc hf => ?_) (fun hc hf => ?_)
    · refine bs_st 1 (x' := (112, [some (.ref 0), w1, some (.ref 85), some (.int x3)], [.int (0 : Int32)], hp kp nh rh tl rl I L)) rfl ?_
      cases hf
      exact bs_ret rfl
    · refine bs_st 5 (x' := (67, [some (.ref 0), w1, some (.ref 85), some (.int x3)], [.int (I 3 4), .int x3, .ref 85], hp kp nh rh tl rl I L)) rfl ?_
      obtain ⟨q8, hq8, hf⟩ := Option.bind_eq_some_iff.mp hf
      refine bs_call (o := pEN Ls xs (d + 1) 109 [.ref 85, .int x3, .int (I 3 4)] (hp kp nh rh tl rl I L)) (w := some (.int q8)) (h' := hp kp nh rh tl rl I L) (pc := 70) (lo := [some (.ref 0), w1, some (.ref 85), some (.int x3)]) (rest := []) rfl (t_109_2 Ls xs (d + 0) kp tl rl nh rh x3 (I 3 4) I L q8 hq8) ?_
      refine bs_br (t := 102) (e := 73) (lo := [some (.ref 0), w1, some (.ref 85), some (.int x3)]) (st := []) (h := hp kp nh rh tl rl I L) rfl hf (fun hc hf => ?_) (fun hc hf => ?_)
      · refine bs_st 1 (x' := (104, [some (.ref 0), w1, some (.ref 85), some (.int x3)], [.int (-2 : Int32)], hp kp nh rh tl rl I L)) rfl ?_
        cases hf
        exact bs_ret rfl
      · refine bs_st 7 (x' := (84, [some (.ref 0), w1, some (.ref 85), some (.int x3)], [.int (I 3 3), .int (x3 + (1 : Int32)), .ref 85], hp kp nh rh tl rl I L)) rfl ?_
        obtain ⟨q9, hq9, hf⟩ := Option.bind_eq_some_iff.mp hf
        refine bs_call (o := pEN Ls xs (d + 1) 109 [.ref 85, .int (x3 + (1 : Int32)), .int (I 3 3)] (hp kp nh rh tl rl I L)) (w := some (.int q9)) (h' := hp kp nh rh tl rl I L) (pc := 87) (lo := [some (.ref 0), w1, some (.ref 85), some (.int x3)]) (rest := []) rfl (t_109_2 Ls xs (d + 0) kp tl rl nh rh (x3 + (1 : Int32)) (I 3 3) I L q9 hq9) ?_
        refine bs_br (t := 102) (e := 90) (lo := [some (.ref 0), w1, some (.ref 85), some (.int x3)]) (st := []) (h := hp kp nh rh tl rl I L) rfl hf (fun hc hf => ?_) (fun hc hf => ?_)
        · refine bs_st 1 (x' := (104, [some (.ref 0), w1, some (.ref 85), some (.int x3)], [.int (-2 : Int32)], hp kp nh rh tl rl I L)) rfl ?_
          cases hf
          exact bs_ret rfl
        · refine bs_st 5 (x' := (96, [some (.ref 0), w1, some (.ref 85), some (.int x3)], [.int (100 : Int32), .int (x3 + (2 : Int32)), .ref 85], hp kp nh rh tl rl I L)) rfl ?_
          obtain ⟨q10, hq10, hf⟩ := Option.bind_eq_some_iff.mp hf
          refine bs_call (o := pEN Ls xs (d + 1) 109 [.ref 85, .int (x3 + (2 : Int32)), .int (100 : Int32)] (hp kp nh rh tl rl I L)) (w := some (.int q10)) (h' := hp kp nh rh tl rl I L) (pc := 99) (lo := [some (.ref 0), w1, some (.ref 85), some (.int x3)]) (rest := []) rfl (t_109_2 Ls xs (d + 0) kp tl rl nh rh (x3 + (2 : Int32)) (100 : Int32) I L q10 hq10) ?_
          refine bs_br (t := 105) (e := 102) (lo := [some (.ref 0), w1, some (.ref 85), some (.int x3)]) (st := []) (h := hp kp nh rh tl rl I L) rfl hf (fun hc hf => ?_) (fun hc hf => ?_)
          · refine bs_st 2 (x' := (48, [some (.ref 0), w1, some (.ref 85), some (.int (x3 + (3 : Int32)))], [], hp kp nh rh tl rl I L)) rfl ?_
            exact hK2 w1 (x3 + (3 : Int32)) r hf
          · refine bs_st 1 (x' := (104, [some (.ref 0), w1, some (.ref 85), some (.int x3)], [.int (-2 : Int32)], hp kp nh rh tl rl I L)) rfl ?_
            cases hf
            exact bs_ret rfl
def b_198_3 (n : Nat) (I : FI) (L : FL) (K3 : Int32 → Option (Int32)) (x3 : Int32) : Option (Int32) :=
  if I 87 2 ≤ (x3 + (2 : Int32)) then
    some ((0 : Int32))
  else
    (f_109_3 x3 (I 3 4) I L).bind fun q11 =>
    if q11 = 0 then
      some ((-2 : Int32))
    else
      (f_109_3 (x3 + (1 : Int32)) (I 3 3) I L).bind fun q12 =>
      if q12 = 0 then
        some ((-2 : Int32))
      else
        (f_109_3 (x3 + (2 : Int32)) (100 : Int32) I L).bind fun q13 =>
        if ¬ q13 = 0 then
          K3 (x3 + (3 : Int32))
        else
          some ((-2 : Int32))
def c_198_3 (n : Nat) (I : FI) (L : FL) : Nat → Int32 → Option (Int32)
  | 0, _ => none
  | m + 1, x3 => b_198_3 n I L (c_198_3 n I L m) x3
set_option maxHeartbeats 1000000 in
set_option maxRecDepth 20000 in
theorem tc_198_3 (Ls : Nat) (xs : Nat → Int32) (d : Nat) (kp : Option Nat) (tl : List (Nat × Nat)) (rl : List (List (Option Nat))) (nh : Option Nat) (rh : Option Nat) (n : Nat) (I : FI) (L : FL) : ∀ (m : Nat) (w1 : Option Value) (x3 : Int32) (r : Int32), c_198_3 n I L m x3 = some r → Bs cd_198 (sf 11 rs_11 false 4 (some (.int)) Ls xs (d + 1)) (48, [some (.ref 0), w1, some (.ref 87), some (.int x3)], [], hp kp nh rh tl rl I L) (some (.int r), hp kp nh rh tl rl I L)
  | 0, w1, x3, r, hf => by cases hf
  | m + 1, w1, x3, r, hf => by
    unfold c_198_3 b_198_3 at hf
    have hK3 := tc_198_3 Ls xs d kp tl rl nh rh n I L m
    refine bs_st 5 (x' := (55, [some (.ref 0), w1, some (.ref 87), some (.int x3)], [.int (I 87 2), .int (x3 + (2 : Int32))], hp kp nh rh tl rl I L)) rfl ?_
    refine bs_br (t := 111) (e := 58) (lo := [some (.ref 0), w1, some (.ref 87), some (.int x3)]) (st := []) (h := hp kp nh rh tl rl I L) rfl hf (fun hc hf => ?_) (fun hc hf => ?_)
    · refine bs_st 1 (x' := (112, [some (.ref 0), w1, some (.ref 87), some (.int x3)], [.int (0 : Int32)], hp kp nh rh tl rl I L)) rfl ?_
      cases hf
      exact bs_ret rfl
    · refine bs_st 5 (x' := (67, [some (.ref 0), w1, some (.ref 87), some (.int x3)], [.int (I 3 4), .int x3, .ref 87], hp kp nh rh tl rl I L)) rfl ?_
      obtain ⟨q11, hq11, hf⟩ := Option.bind_eq_some_iff.mp hf
      refine bs_call (o := pEN Ls xs (d + 1) 109 [.ref 87, .int x3, .int (I 3 4)] (hp kp nh rh tl rl I L)) (w := some (.int q11)) (h' := hp kp nh rh tl rl I L) (pc := 70) (lo := [some (.ref 0), w1, some (.ref 87), some (.int x3)]) (rest := []) rfl (t_109_3 Ls xs (d + 0) kp tl rl nh rh x3 (I 3 4) I L q11 hq11) ?_
      refine bs_br (t := 102) (e := 73) (lo := [some (.ref 0), w1, some (.ref 87), some (.int x3)]) (st := []) (h := hp kp nh rh tl rl I L) rfl hf (fun hc hf => ?_) (fun hc hf => ?_)
      · refine bs_st 1 (x' := (104, [some (.ref 0), w1, some (.ref 87), some (.int x3)], [.int (-2 : Int32)], hp kp nh rh tl rl I L)) rfl ?_
        cases hf
        exact bs_ret rfl
      · refine bs_st 7 (x' := (84, [some (.ref 0), w1, some (.ref 87), some (.int x3)], [.int (I 3 3), .int (x3 + (1 : Int32)), .ref 87], hp kp nh rh tl rl I L)) rfl ?_
        obtain ⟨q12, hq12, hf⟩ := Option.bind_eq_some_iff.mp hf
        refine bs_call (o := pEN Ls xs (d + 1) 109 [.ref 87, .int (x3 + (1 : Int32)), .int (I 3 3)] (hp kp nh rh tl rl I L)) (w := some (.int q12)) (h' := hp kp nh rh tl rl I L) (pc := 87) (lo := [some (.ref 0), w1, some (.ref 87), some (.int x3)]) (rest := []) rfl (t_109_3 Ls xs (d + 0) kp tl rl nh rh (x3 + (1 : Int32)) (I 3 3) I L q12 hq12) ?_
        refine bs_br (t := 102) (e := 90) (lo := [some (.ref 0), w1, some (.ref 87), some (.int x3)]) (st := []) (h := hp kp nh rh tl rl I L) rfl hf (fun hc hf => ?_) (fun hc hf => ?_)
        · refine bs_st 1 (x' := (104, [some (.ref 0), w1, some (.ref 87), some (.int x3)], [.int (-2 : Int32)], hp kp nh rh tl rl I L)) rfl ?_
          cases hf
          exact bs_ret rfl
        · refine bs_st 5 (x' := (96, [some (.ref 0), w1, some (.ref 87), some (.int x3)], [.int (100 : Int32), .int (x3 + (2 : Int32)), .ref 87], hp kp nh rh tl rl I L)) rfl ?_
          obtain ⟨q13, hq13, hf⟩ := Option.bind_eq_some_iff.mp hf
          refine bs_call (o := pEN Ls xs (d + 1) 109 [.ref 87, .int (x3 + (2 : Int32)), .int (100 : Int32)] (hp kp nh rh tl rl I L)) (w := some (.int q13)) (h' := hp kp nh rh tl rl I L) (pc := 99) (lo := [some (.ref 0), w1, some (.ref 87), some (.int x3)]) (rest := []) rfl (t_109_3 Ls xs (d + 0) kp tl rl nh rh (x3 + (2 : Int32)) (100 : Int32) I L q13 hq13) ?_
          refine bs_br (t := 105) (e := 102) (lo := [some (.ref 0), w1, some (.ref 87), some (.int x3)]) (st := []) (h := hp kp nh rh tl rl I L) rfl hf (fun hc hf => ?_) (fun hc hf => ?_)
          · refine bs_st 2 (x' := (48, [some (.ref 0), w1, some (.ref 87), some (.int (x3 + (3 : Int32)))], [], hp kp nh rh tl rl I L)) rfl ?_
            exact hK3 w1 (x3 + (3 : Int32)) r hf
          · refine bs_st 1 (x' := (104, [some (.ref 0), w1, some (.ref 87), some (.int x3)], [.int (-2 : Int32)], hp kp nh rh tl rl I L)) rfl ?_
            cases hf
            exact bs_ret rfl
def f_198 (n : Nat) (x1 : Int32) (I : FI) (L : FL) : Option (Int32) :=
  (f_184 x1 I L).bind fun q0 =>
  if q0 = 0 then
    some ((-2 : Int32))
  else
    (f_177 I L).bind fun q1 =>
    if ¬ q1 = 0 then
      if x1 = 0 then (if ¬ I 81 3 = 0 then
          if ((I 81 2) - (I 81 2) / (3 : Int32) * (3 : Int32)) = 0 then
            c_198_0 n I L n (0 : Int32)
          else
            some ((-2 : Int32))
        else
          some ((-6 : Int32))) else if x1 = 1 then (if ¬ I 83 3 = 0 then
          if ((I 83 2) - (I 83 2) / (3 : Int32) * (3 : Int32)) = 0 then
            c_198_1 n I L n (0 : Int32)
          else
            some ((-2 : Int32))
        else
          some ((-6 : Int32))) else if x1 = 2 then (if ¬ I 85 3 = 0 then
          if ((I 85 2) - (I 85 2) / (3 : Int32) * (3 : Int32)) = 0 then
            c_198_2 n I L n (0 : Int32)
          else
            some ((-2 : Int32))
        else
          some ((-6 : Int32))) else if x1 = 3 then (if ¬ I 87 3 = 0 then
          if ((I 87 2) - (I 87 2) / (3 : Int32) * (3 : Int32)) = 0 then
            c_198_3 n I L n (0 : Int32)
          else
            some ((-2 : Int32))
        else
          some ((-6 : Int32))) else none
    else
      some ((-2 : Int32))
set_option maxHeartbeats 1000000 in
set_option maxRecDepth 20000 in
theorem t_198 (Ls : Nat) (xs : Nat → Int32) (d : Nat) (kp : Option Nat) (tl : List (Nat × Nat)) (rl : List (List (Option Nat))) (nh : Option Nat) (rh : Option Nat) (n : Nat) (x1 : Int32) (I : FI) (L : FL) (r : Int32) (hf : f_198 n x1 I L = some r) : pEN Ls xs (d + 2) 198 [.ref 0, .int x1] (hp kp nh rh tl rl I L) = some (some (.int r), hp kp nh rh tl rl I L) := by
  refine en_run (d := d + 1) (cd := cd_198) (f := (sf 11 rs_11 false 4 (some (.int)) Ls xs (d + 1))) rfl rfl (x := (0, [some (.ref 0), some (.int x1), none, none], [], hp kp nh rh tl rl I L)) rfl rfl (Nat.le_of_ble_eq_true rfl) ?_
  unfold f_198 at hf
  refine bs_st 1 (x' := (1, [some (.ref 0), some (.int x1), none, none], [.int x1], hp kp nh rh tl rl I L)) rfl ?_
  obtain ⟨q0, hq0, hf⟩ := Option.bind_eq_some_iff.mp hf
  refine bs_call (o := pEN Ls xs (d + 1) 184 [.int x1] (hp kp nh rh tl rl I L)) (w := some (.int q0)) (h' := hp kp nh rh tl rl I L) (pc := 4) (lo := [some (.ref 0), some (.int x1), none, none]) (rest := []) rfl (t_184 Ls xs (d + 0) kp tl rl nh rh x1 I L q0 hq0) ?_
  refine bs_br (t := 14) (e := 7) (lo := [some (.ref 0), some (.int x1), none, none]) (st := []) (h := hp kp nh rh tl rl I L) rfl hf (fun hc hf => ?_) (fun hc hf => ?_)
  · refine bs_st 1 (x' := (16, [some (.ref 0), some (.int x1), none, none], [.int (-2 : Int32)], hp kp nh rh tl rl I L)) rfl ?_
    cases hf
    exact bs_ret rfl
  · refine bs_st 1 (x' := (8, [some (.ref 0), some (.int x1), none, none], [.ref 0], hp kp nh rh tl rl I L)) rfl ?_
    obtain ⟨q1, hq1, hf⟩ := Option.bind_eq_some_iff.mp hf
    refine bs_call (o := pEN Ls xs (d + 1) 177 [.ref 0] (hp kp nh rh tl rl I L)) (w := some (.int q1)) (h' := hp kp nh rh tl rl I L) (pc := 11) (lo := [some (.ref 0), some (.int x1), none, none]) (rest := []) rfl (t_177 Ls xs (d + 0) kp tl rl nh rh I L q1 hq1) ?_
    refine bs_br (t := 17) (e := 14) (lo := [some (.ref 0), some (.int x1), none, none]) (st := []) (h := hp kp nh rh tl rl I L) rfl hf (fun hc hf => ?_) (fun hc hf => ?_)
    · refine bs_st 3 (x' := (22, [some (.ref 0), some (.int x1), none, none], [.int x1, .ref 44], hp kp nh rh tl rl I L)) rfl ?_
      refine bs_cs hf (fun hc hf1_0 => ?_) (fun hc hf1_0 => ?_)
      · subst hc
        refine bs_st 4 (x' := (28, [some (.ref 0), some (.int (0 : Int32)), some (.ref 81), none], [.int (I 81 3)], hp kp nh rh tl rl I L)) rfl ?_
        refine bs_br (t := 34) (e := 31) (lo := [some (.ref 0), some (.int (0 : Int32)), some (.ref 81), none]) (st := []) (h := hp kp nh rh tl rl I L) rfl hf1_0 (fun hc hf1_0 => ?_) (fun hc hf1_0 => ?_)
        · refine bs_st 4 (x' := (40, [some (.ref 0), some (.int (0 : Int32)), some (.ref 81), none], [.int ((I 81 2) - (I 81 2) / (3 : Int32) * (3 : Int32))], hp kp nh rh tl rl I L)) rfl ?_
          refine bs_br (t := 46) (e := 43) (lo := [some (.ref 0), some (.int (0 : Int32)), some (.ref 81), none]) (st := []) (h := hp kp nh rh tl rl I L) rfl hf1_0 (fun hc hf1_0 => ?_) (fun hc hf1_0 => ?_)
          · refine bs_st 2 (x' := (48, [some (.ref 0), some (.int (0 : Int32)), some (.ref 81), some (.int (0 : Int32))], [], hp kp nh rh tl rl I L)) rfl ?_
            exact tc_198_0 Ls xs d kp tl rl nh rh n I L n (some (.int (0 : Int32))) (0 : Int32) r hf1_0
          · refine bs_st 1 (x' := (45, [some (.ref 0), some (.int (0 : Int32)), some (.ref 81), none], [.int (-2 : Int32)], hp kp nh rh tl rl I L)) rfl ?_
            cases hf1_0
            exact bs_ret rfl
        · refine bs_st 1 (x' := (33, [some (.ref 0), some (.int (0 : Int32)), some (.ref 81), none], [.int (-6 : Int32)], hp kp nh rh tl rl I L)) rfl ?_
          cases hf1_0
          exact bs_ret rfl
      refine bs_cs hf1_0 (fun hc hf1_1 => ?_) (fun hc hf1_1 => ?_)
      · subst hc
        refine bs_st 4 (x' := (28, [some (.ref 0), some (.int (1 : Int32)), some (.ref 83), none], [.int (I 83 3)], hp kp nh rh tl rl I L)) rfl ?_
        refine bs_br (t := 34) (e := 31) (lo := [some (.ref 0), some (.int (1 : Int32)), some (.ref 83), none]) (st := []) (h := hp kp nh rh tl rl I L) rfl hf1_1 (fun hc hf1_1 => ?_) (fun hc hf1_1 => ?_)
        · refine bs_st 4 (x' := (40, [some (.ref 0), some (.int (1 : Int32)), some (.ref 83), none], [.int ((I 83 2) - (I 83 2) / (3 : Int32) * (3 : Int32))], hp kp nh rh tl rl I L)) rfl ?_
          refine bs_br (t := 46) (e := 43) (lo := [some (.ref 0), some (.int (1 : Int32)), some (.ref 83), none]) (st := []) (h := hp kp nh rh tl rl I L) rfl hf1_1 (fun hc hf1_1 => ?_) (fun hc hf1_1 => ?_)
          · refine bs_st 2 (x' := (48, [some (.ref 0), some (.int (1 : Int32)), some (.ref 83), some (.int (0 : Int32))], [], hp kp nh rh tl rl I L)) rfl ?_
            exact tc_198_1 Ls xs d kp tl rl nh rh n I L n (some (.int (1 : Int32))) (0 : Int32) r hf1_1
          · refine bs_st 1 (x' := (45, [some (.ref 0), some (.int (1 : Int32)), some (.ref 83), none], [.int (-2 : Int32)], hp kp nh rh tl rl I L)) rfl ?_
            cases hf1_1
            exact bs_ret rfl
        · refine bs_st 1 (x' := (33, [some (.ref 0), some (.int (1 : Int32)), some (.ref 83), none], [.int (-6 : Int32)], hp kp nh rh tl rl I L)) rfl ?_
          cases hf1_1
          exact bs_ret rfl
      refine bs_cs hf1_1 (fun hc hf1_2 => ?_) (fun hc hf1_2 => ?_)
      · subst hc
        refine bs_st 4 (x' := (28, [some (.ref 0), some (.int (2 : Int32)), some (.ref 85), none], [.int (I 85 3)], hp kp nh rh tl rl I L)) rfl ?_
        refine bs_br (t := 34) (e := 31) (lo := [some (.ref 0), some (.int (2 : Int32)), some (.ref 85), none]) (st := []) (h := hp kp nh rh tl rl I L) rfl hf1_2 (fun hc hf1_2 => ?_) (fun hc hf1_2 => ?_)
        · refine bs_st 4 (x' := (40, [some (.ref 0), some (.int (2 : Int32)), some (.ref 85), none], [.int ((I 85 2) - (I 85 2) / (3 : Int32) * (3 : Int32))], hp kp nh rh tl rl I L)) rfl ?_
          refine bs_br (t := 46) (e := 43) (lo := [some (.ref 0), some (.int (2 : Int32)), some (.ref 85), none]) (st := []) (h := hp kp nh rh tl rl I L) rfl hf1_2 (fun hc hf1_2 => ?_) (fun hc hf1_2 => ?_)
          · refine bs_st 2 (x' := (48, [some (.ref 0), some (.int (2 : Int32)), some (.ref 85), some (.int (0 : Int32))], [], hp kp nh rh tl rl I L)) rfl ?_
            exact tc_198_2 Ls xs d kp tl rl nh rh n I L n (some (.int (2 : Int32))) (0 : Int32) r hf1_2
          · refine bs_st 1 (x' := (45, [some (.ref 0), some (.int (2 : Int32)), some (.ref 85), none], [.int (-2 : Int32)], hp kp nh rh tl rl I L)) rfl ?_
            cases hf1_2
            exact bs_ret rfl
        · refine bs_st 1 (x' := (33, [some (.ref 0), some (.int (2 : Int32)), some (.ref 85), none], [.int (-6 : Int32)], hp kp nh rh tl rl I L)) rfl ?_
          cases hf1_2
          exact bs_ret rfl
      refine bs_cs hf1_2 (fun hc hf1_3 => ?_) (fun hc hf1_3 => ?_)
      · subst hc
        refine bs_st 4 (x' := (28, [some (.ref 0), some (.int (3 : Int32)), some (.ref 87), none], [.int (I 87 3)], hp kp nh rh tl rl I L)) rfl ?_
        refine bs_br (t := 34) (e := 31) (lo := [some (.ref 0), some (.int (3 : Int32)), some (.ref 87), none]) (st := []) (h := hp kp nh rh tl rl I L) rfl hf1_3 (fun hc hf1_3 => ?_) (fun hc hf1_3 => ?_)
        · refine bs_st 4 (x' := (40, [some (.ref 0), some (.int (3 : Int32)), some (.ref 87), none], [.int ((I 87 2) - (I 87 2) / (3 : Int32) * (3 : Int32))], hp kp nh rh tl rl I L)) rfl ?_
          refine bs_br (t := 46) (e := 43) (lo := [some (.ref 0), some (.int (3 : Int32)), some (.ref 87), none]) (st := []) (h := hp kp nh rh tl rl I L) rfl hf1_3 (fun hc hf1_3 => ?_) (fun hc hf1_3 => ?_)
          · refine bs_st 2 (x' := (48, [some (.ref 0), some (.int (3 : Int32)), some (.ref 87), some (.int (0 : Int32))], [], hp kp nh rh tl rl I L)) rfl ?_
            exact tc_198_3 Ls xs d kp tl rl nh rh n I L n (some (.int (3 : Int32))) (0 : Int32) r hf1_3
          · refine bs_st 1 (x' := (45, [some (.ref 0), some (.int (3 : Int32)), some (.ref 87), none], [.int (-2 : Int32)], hp kp nh rh tl rl I L)) rfl ?_
            cases hf1_3
            exact bs_ret rfl
        · refine bs_st 1 (x' := (33, [some (.ref 0), some (.int (3 : Int32)), some (.ref 87), none], [.int (-6 : Int32)], hp kp nh rh tl rl I L)) rfl ?_
          cases hf1_3
          exact bs_ret rfl
      cases hf1_3
    · refine bs_st 1 (x' := (16, [some (.ref 0), some (.int x1), none, none], [.int (-2 : Int32)], hp kp nh rh tl rl I L)) rfl ?_
      cases hf
      exact bs_ret rfl
/-- Clues.begin(LLampRounds$House;) on (33, 3) -/
def f_9 (I : FI) (L : FL) : Option (FI × FL) :=
  some ((u2 (u2 (u2 I 33 4 (I 3 4)) 33 5 (I 3 3)) 33 1 (0 : Int32)), L)
set_option maxHeartbeats 1000000 in
set_option maxRecDepth 20000 in
theorem t_9 (Ls : Nat) (xs : Nat → Int32) (d : Nat) (kp : Option Nat) (tl : List (Nat × Nat)) (rl : List (List (Option Nat))) (nh : Option Nat) (rh : Option Nat) (I : FI) (L : FL) (r : FI × FL) (hf : f_9 I L = some r) : pEN Ls xs (d + 1) 9 [.ref 33, .ref 3] (hp kp nh rh tl rl I L) = some (none, hp kp nh rh tl rl r.1 r.2) := by
  refine en_run (d := d + 0) (cd := cd_9) (f := (sf 2 rs_2 false 2 none Ls xs (d + 0))) rfl rfl (x := (0, [some (.ref 33), some (.ref 3)], [], hp kp nh rh tl rl I L)) rfl rfl (Nat.le_of_ble_eq_true rfl) ?_
  unfold f_9 at hf
  refine bs_st 11 (x' := (21, [some (.ref 33), some (.ref 3)], [], hp kp nh rh tl rl (u2 (u2 (u2 I 33 4 (I 3 4)) 33 5 (I 3 3)) 33 1 (0 : Int32)) L)) rfl ?_
  cases hf
  exact bs_ret rfl
/-- Clues.alike(II) on (33,) -/
def c_14_1 (n : Nat) (I : FI) (L : FL) (K0 : Int32 → Int32 → Int32 → Int32 → Option (Int32)) (x1 : Int32) (x2 : Int32) (x3 : Int32) (x4 : Int32) : Option (Int32) :=
  K0 x1 x2 x3 (x4 + (1 : Int32))
set_option maxHeartbeats 1000000 in
set_option maxRecDepth 20000 in
theorem tc_14_1 (Ls : Nat) (xs : Nat → Int32) (d : Nat) (kp : Option Nat) (tl : List (Nat × Nat)) (rl : List (List (Option Nat))) (nh : Option Nat) (rh : Option Nat) (n : Nat) (I : FI) (L : FL) (K0 : Int32 → Int32 → Int32 → Int32 → Option (Int32)) (hK0 : ∀ (x1 : Int32) (x2 : Int32) (x3 : Int32) (x4 : Int32) (r : Int32), K0 x1 x2 x3 x4 = some r → Bs cd_14 (sf 2 rs_2 false 5 (some (.int)) Ls xs (d + 0)) (5, [some (.ref 33), some (.int x1), some (.int x2), some (.int x3), some (.int x4)], [], hp kp nh rh tl rl I L) (some (.int r), hp kp nh rh tl rl I L)) (x1 : Int32) (x2 : Int32) (x3 : Int32) (x4 : Int32) (r : Int32) (hf : c_14_1 n I L K0 x1 x2 x3 x4 = some r) : Bs cd_14 (sf 2 rs_2 false 5 (some (.int)) Ls xs (d + 0)) (43, [some (.ref 33), some (.int x1), some (.int x2), some (.int x3), some (.int x4)], [], hp kp nh rh tl rl I L) (some (.int r), hp kp nh rh tl rl I L) := by
  unfold c_14_1 at hf
  refine bs_st 2 (x' := (5, [some (.ref 33), some (.int x1), some (.int x2), some (.int x3), some (.int (x4 + (1 : Int32)))], [], hp kp nh rh tl rl I L)) rfl ?_
  exact hK0 x1 x2 x3 (x4 + (1 : Int32)) r hf
def b_14_0 (n : Nat) (I : FI) (L : FL) (K0 : Int32 → Int32 → Int32 → Int32 → Option (Int32)) (x1 : Int32) (x2 : Int32) (x3 : Int32) (x4 : Int32) : Option (Int32) :=
  if (12 : Int32) ≤ x4 then
    some (x3)
  else
    if (((I 33 1) >>> (x4 &&& 31)) &&& (1 : Int32)) = 0 then
      c_14_1 n I L K0 x1 x2 x3 x4
    else
      if pin ((x4 * (120 : Int32)) + x1) 1440 = true then (if ¬ I 34 (((x4 * (120 : Int32)) + x1).toNatClampNeg) = x2 then
          c_14_1 n I L K0 x1 x2 x3 x4
        else
          c_14_1 n I L K0 x1 x2 (x3 + (1 : Int32)) x4) else none
def c_14_0 (n : Nat) (I : FI) (L : FL) : Nat → Int32 → Int32 → Int32 → Int32 → Option (Int32)
  | 0, _, _, _, _ => none
  | m + 1, x1, x2, x3, x4 => b_14_0 n I L (c_14_0 n I L m) x1 x2 x3 x4
set_option maxHeartbeats 1000000 in
set_option maxRecDepth 20000 in
theorem tc_14_0 (Ls : Nat) (xs : Nat → Int32) (d : Nat) (kp : Option Nat) (tl : List (Nat × Nat)) (rl : List (List (Option Nat))) (nh : Option Nat) (rh : Option Nat) (n : Nat) (I : FI) (L : FL) : ∀ (m : Nat) (x1 : Int32) (x2 : Int32) (x3 : Int32) (x4 : Int32) (r : Int32), c_14_0 n I L m x1 x2 x3 x4 = some r → Bs cd_14 (sf 2 rs_2 false 5 (some (.int)) Ls xs (d + 0)) (5, [some (.ref 33), some (.int x1), some (.int x2), some (.int x3), some (.int x4)], [], hp kp nh rh tl rl I L) (some (.int r), hp kp nh rh tl rl I L)
  | 0, x1, x2, x3, x4, r, hf => by cases hf
  | m + 1, x1, x2, x3, x4, r, hf => by
    unfold c_14_0 b_14_0 at hf
    have hK0 := tc_14_0 Ls xs d kp tl rl nh rh n I L m
    refine bs_st 2 (x' := (9, [some (.ref 33), some (.int x1), some (.int x2), some (.int x3), some (.int x4)], [.int (12 : Int32), .int x4], hp kp nh rh tl rl I L)) rfl ?_
    refine bs_br (t := 49) (e := 12) (lo := [some (.ref 33), some (.int x1), some (.int x2), some (.int x3), some (.int x4)]) (st := []) (h := hp kp nh rh tl rl I L) rfl hf (fun hc hf => ?_) (fun hc hf => ?_)
    · refine bs_st 1 (x' := (50, [some (.ref 33), some (.int x1), some (.int x2), some (.int x3), some (.int x4)], [.int x3], hp kp nh rh tl rl I L)) rfl ?_
      cases hf
      exact bs_ret rfl
    · refine bs_st 6 (x' := (21, [some (.ref 33), some (.int x1), some (.int x2), some (.int x3), some (.int x4)], [.int (((I 33 1) >>> (x4 &&& 31)) &&& (1 : Int32))], hp kp nh rh tl rl I L)) rfl ?_
      refine bs_br (t := 43) (e := 24) (lo := [some (.ref 33), some (.int x1), some (.int x2), some (.int x3), some (.int x4)]) (st := []) (h := hp kp nh rh tl rl I L) rfl hf (fun hc hf => ?_) (fun hc hf => ?_)
      · exact tc_14_1 Ls xs d kp tl rl nh rh n I L _ hK0 x1 x2 x3 x4 r hf
      · refine bs_st 7 (x' := (35, [some (.ref 33), some (.int x1), some (.int x2), some (.int x3), some (.int x4)], [.int ((x4 * (120 : Int32)) + x1), .ref 34], hp kp nh rh tl rl I L)) rfl ?_
        refine bs_gd (x' := (36, [some (.ref 33), some (.int x1), some (.int x2), some (.int x3), some (.int x4)], [.int (I 34 (((x4 * (120 : Int32)) + x1).toNatClampNeg))], hp kp nh rh tl rl I L)) rfl hf (fun hc hf => ?_)
        refine bs_st 1 (x' := (37, [some (.ref 33), some (.int x1), some (.int x2), some (.int x3), some (.int x4)], [.int x2, .int (I 34 (((x4 * (120 : Int32)) + x1).toNatClampNeg))], hp kp nh rh tl rl I L)) rfl ?_
        refine bs_br (t := 43) (e := 40) (lo := [some (.ref 33), some (.int x1), some (.int x2), some (.int x3), some (.int x4)]) (st := []) (h := hp kp nh rh tl rl I L) rfl hf (fun hc hf => ?_) (fun hc hf => ?_)
        · exact tc_14_1 Ls xs d kp tl rl nh rh n I L _ hK0 x1 x2 x3 x4 r hf
        · refine bs_st 1 (x' := (43, [some (.ref 33), some (.int x1), some (.int x2), some (.int (x3 + (1 : Int32))), some (.int x4)], [], hp kp nh rh tl rl I L)) rfl ?_
          exact tc_14_1 Ls xs d kp tl rl nh rh n I L _ hK0 x1 x2 (x3 + (1 : Int32)) x4 r hf
def f_14 (n : Nat) (x1 : Int32) (x2 : Int32) (I : FI) (L : FL) : Option (Int32) :=
  c_14_0 n I L n x1 x2 (0 : Int32) (0 : Int32)
set_option maxHeartbeats 1000000 in
set_option maxRecDepth 20000 in
theorem t_14 (Ls : Nat) (xs : Nat → Int32) (d : Nat) (kp : Option Nat) (tl : List (Nat × Nat)) (rl : List (List (Option Nat))) (nh : Option Nat) (rh : Option Nat) (n : Nat) (x1 : Int32) (x2 : Int32) (I : FI) (L : FL) (r : Int32) (hf : f_14 n x1 x2 I L = some r) : pEN Ls xs (d + 1) 14 [.ref 33, .int x1, .int x2] (hp kp nh rh tl rl I L) = some (some (.int r), hp kp nh rh tl rl I L) := by
  refine en_run (d := d + 0) (cd := cd_14) (f := (sf 2 rs_2 false 5 (some (.int)) Ls xs (d + 0))) rfl rfl (x := (0, [some (.ref 33), some (.int x1), some (.int x2), none, none], [], hp kp nh rh tl rl I L)) rfl rfl (Nat.le_of_ble_eq_true rfl) ?_
  unfold f_14 at hf
  refine bs_st 4 (x' := (5, [some (.ref 33), some (.int x1), some (.int x2), some (.int (0 : Int32)), some (.int (0 : Int32))], [], hp kp nh rh tl rl I L)) rfl ?_
  exact tc_14_0 Ls xs d kp tl rl nh rh n I L n x1 x2 (0 : Int32) (0 : Int32) r hf
/-- Clues.largestClass(I) on (33,) -/
def c_13_1 (n : Nat) (I : FI) (L : FL) (K0 : Int32 → Int32 → Int32 → Option (Int32)) (x1 : Int32) (x2 : Int32) (x3 : Int32) : Option (Int32) :=
  K0 x1 x2 (x3 + (1 : Int32))
set_option maxHeartbeats 1000000 in
set_option maxRecDepth 20000 in
theorem tc_13_1 (Ls : Nat) (xs : Nat → Int32) (d : Nat) (kp : Option Nat) (tl : List (Nat × Nat)) (rl : List (List (Option Nat))) (nh : Option Nat) (rh : Option Nat) (n : Nat) (I : FI) (L : FL) (K0 : Int32 → Int32 → Int32 → Option (Int32)) (hK0 : ∀ (x1 : Int32) (x2 : Int32) (x3 : Int32) (r : Int32), K0 x1 x2 x3 = some r → Bs cd_13 (sf 2 rs_2 false 4 (some (.int)) Ls xs (d + 1)) (4, [some (.ref 33), some (.int x1), some (.int x2), some (.int x3)], [], hp kp nh rh tl rl I L) (some (.int r), hp kp nh rh tl rl I L)) (x1 : Int32) (x2 : Int32) (x3 : Int32) (r : Int32) (hf : c_13_1 n I L K0 x1 x2 x3 = some r) : Bs cd_13 (sf 2 rs_2 false 4 (some (.int)) Ls xs (d + 1)) (42, [some (.ref 33), some (.int x1), some (.int x2), some (.int x3)], [], hp kp nh rh tl rl I L) (some (.int r), hp kp nh rh tl rl I L) := by
  unfold c_13_1 at hf
  refine bs_st 2 (x' := (4, [some (.ref 33), some (.int x1), some (.int x2), some (.int (x3 + (1 : Int32)))], [], hp kp nh rh tl rl I L)) rfl ?_
  exact hK0 x1 x2 (x3 + (1 : Int32)) r hf
def b_13_0 (n : Nat) (I : FI) (L : FL) (K0 : Int32 → Int32 → Int32 → Option (Int32)) (x1 : Int32) (x2 : Int32) (x3 : Int32) : Option (Int32) :=
  if (12 : Int32) ≤ x3 then
    some (x2)
  else
    if (((I 33 1) >>> (x3 &&& 31)) &&& (1 : Int32)) = 0 then
      c_13_1 n I L K0 x1 x2 x3
    else
      if pin ((x3 * (120 : Int32)) + x1) 1440 = true then ((f_14 n x1 (I 34 (((x3 * (120 : Int32)) + x1).toNatClampNeg)) I L).bind fun q0 =>
        (f_358_1 x2 q0 I L).bind fun q1 =>
        c_13_1 n I L K0 x1 q1 x3) else none
def c_13_0 (n : Nat) (I : FI) (L : FL) : Nat → Int32 → Int32 → Int32 → Option (Int32)
  | 0, _, _, _ => none
  | m + 1, x1, x2, x3 => b_13_0 n I L (c_13_0 n I L m) x1 x2 x3
set_option maxHeartbeats 1000000 in
set_option maxRecDepth 20000 in
theorem tc_13_0 (Ls : Nat) (xs : Nat → Int32) (d : Nat) (kp : Option Nat) (tl : List (Nat × Nat)) (rl : List (List (Option Nat))) (nh : Option Nat) (rh : Option Nat) (n : Nat) (I : FI) (L : FL) : ∀ (m : Nat) (x1 : Int32) (x2 : Int32) (x3 : Int32) (r : Int32), c_13_0 n I L m x1 x2 x3 = some r → Bs cd_13 (sf 2 rs_2 false 4 (some (.int)) Ls xs (d + 1)) (4, [some (.ref 33), some (.int x1), some (.int x2), some (.int x3)], [], hp kp nh rh tl rl I L) (some (.int r), hp kp nh rh tl rl I L)
  | 0, x1, x2, x3, r, hf => by cases hf
  | m + 1, x1, x2, x3, r, hf => by
    unfold c_13_0 b_13_0 at hf
    have hK0 := tc_13_0 Ls xs d kp tl rl nh rh n I L m
    refine bs_st 2 (x' := (7, [some (.ref 33), some (.int x1), some (.int x2), some (.int x3)], [.int (12 : Int32), .int x3], hp kp nh rh tl rl I L)) rfl ?_
    refine bs_br (t := 48) (e := 10) (lo := [some (.ref 33), some (.int x1), some (.int x2), some (.int x3)]) (st := []) (h := hp kp nh rh tl rl I L) rfl hf (fun hc hf => ?_) (fun hc hf => ?_)
    · refine bs_st 1 (x' := (49, [some (.ref 33), some (.int x1), some (.int x2), some (.int x3)], [.int x2], hp kp nh rh tl rl I L)) rfl ?_
      cases hf
      exact bs_ret rfl
    · refine bs_st 6 (x' := (18, [some (.ref 33), some (.int x1), some (.int x2), some (.int x3)], [.int (((I 33 1) >>> (x3 &&& 31)) &&& (1 : Int32))], hp kp nh rh tl rl I L)) rfl ?_
      refine bs_br (t := 42) (e := 21) (lo := [some (.ref 33), some (.int x1), some (.int x2), some (.int x3)]) (st := []) (h := hp kp nh rh tl rl I L) rfl hf (fun hc hf => ?_) (fun hc hf => ?_)
      · exact tc_13_1 Ls xs d kp tl rl nh rh n I L _ hK0 x1 x2 x3 r hf
      · refine bs_st 10 (x' := (34, [some (.ref 33), some (.int x1), some (.int x2), some (.int x3)], [.int ((x3 * (120 : Int32)) + x1), .ref 34, .int x1, .ref 33, .int x2], hp kp nh rh tl rl I L)) rfl ?_
        refine bs_gd (x' := (35, [some (.ref 33), some (.int x1), some (.int x2), some (.int x3)], [.int (I 34 (((x3 * (120 : Int32)) + x1).toNatClampNeg)), .int x1, .ref 33, .int x2], hp kp nh rh tl rl I L)) rfl hf (fun hc hf => ?_)
        obtain ⟨q0, hq0, hf⟩ := Option.bind_eq_some_iff.mp hf
        refine bs_call (o := pEN Ls xs (d + 1) 14 [.ref 33, .int x1, .int (I 34 (((x3 * (120 : Int32)) + x1).toNatClampNeg))] (hp kp nh rh tl rl I L)) (w := some (.int q0)) (h' := hp kp nh rh tl rl I L) (pc := 38) (lo := [some (.ref 33), some (.int x1), some (.int x2), some (.int x3)]) (rest := [.int x2]) rfl (t_14 Ls xs (d + 0) kp tl rl nh rh n x1 (I 34 (((x3 * (120 : Int32)) + x1).toNatClampNeg)) I L q0 hq0) ?_
        obtain ⟨q1, hq1, hf⟩ := Option.bind_eq_some_iff.mp hf
        refine bs_call (o := pEN Ls xs (d + 1) 358 [.int x2, .int q0] (hp kp nh rh tl rl I L)) (w := some (.int q1)) (h' := hp kp nh rh tl rl I L) (pc := 41) (lo := [some (.ref 33), some (.int x1), some (.int x2), some (.int x3)]) (rest := []) rfl (t_358_1 Ls xs (d + 0) kp tl rl nh rh x2 q0 I L q1 hq1) ?_
        refine bs_st 1 (x' := (42, [some (.ref 33), some (.int x1), some (.int q1), some (.int x3)], [], hp kp nh rh tl rl I L)) rfl ?_
        exact tc_13_1 Ls xs d kp tl rl nh rh n I L _ hK0 x1 q1 x3 r hf
def f_13 (n : Nat) (x1 : Int32) (I : FI) (L : FL) : Option (Int32) :=
  c_13_0 n I L n x1 (0 : Int32) (0 : Int32)
set_option maxHeartbeats 1000000 in
set_option maxRecDepth 20000 in
theorem t_13 (Ls : Nat) (xs : Nat → Int32) (d : Nat) (kp : Option Nat) (tl : List (Nat × Nat)) (rl : List (List (Option Nat))) (nh : Option Nat) (rh : Option Nat) (n : Nat) (x1 : Int32) (I : FI) (L : FL) (r : Int32) (hf : f_13 n x1 I L = some r) : pEN Ls xs (d + 2) 13 [.ref 33, .int x1] (hp kp nh rh tl rl I L) = some (some (.int r), hp kp nh rh tl rl I L) := by
  refine en_run (d := d + 1) (cd := cd_13) (f := (sf 2 rs_2 false 4 (some (.int)) Ls xs (d + 1))) rfl rfl (x := (0, [some (.ref 33), some (.int x1), none, none], [], hp kp nh rh tl rl I L)) rfl rfl (Nat.le_of_ble_eq_true rfl) ?_
  unfold f_13 at hf
  refine bs_st 4 (x' := (4, [some (.ref 33), some (.int x1), some (.int (0 : Int32)), some (.int (0 : Int32))], [], hp kp nh rh tl rl I L)) rfl ?_
  exact tc_13_0 Ls xs d kp tl rl nh rh n I L n x1 (0 : Int32) (0 : Int32) r hf
/-- Clues.choose() on (33,) -/
def c_12_2 (n : Nat) (K0 : Int32 → FI → FL → Option (FI × FL)) (K1 : Int32 → Int32 → FI → FL → Option (FI × FL)) (x1 : Int32) (x2 : Int32) (I : FI) (L : FL) : Option (FI × FL) :=
  K1 x1 (x2 + (1 : Int32)) I L
set_option maxHeartbeats 1000000 in
set_option maxRecDepth 20000 in
theorem tc_12_2 (Ls : Nat) (xs : Nat → Int32) (d : Nat) (kp : Option Nat) (tl : List (Nat × Nat)) (rl : List (List (Option Nat))) (nh : Option Nat) (rh : Option Nat) (n : Nat) (K0 : Int32 → FI → FL → Option (FI × FL)) (K1 : Int32 → Int32 → FI → FL → Option (FI × FL)) (hK0 : ∀ (w2 : Option Value) (w3 : Option Value) (x1 : Int32) (I : FI) (L : FL) (r : FI × FL), K0 x1 I L = some r → Bs cd_12 (sf 2 rs_2 false 4 none Ls xs (d + 2)) (18, [some (.ref 33), some (.int x1), w2, w3], [], hp kp nh rh tl rl I L) (none, hp kp nh rh tl rl r.1 r.2)) (hK1 : ∀ (w3 : Option Value) (x1 : Int32) (x2 : Int32) (I : FI) (L : FL) (r : FI × FL), K1 x1 x2 I L = some r → Bs cd_12 (sf 2 rs_2 false 4 none Ls xs (d + 2)) (28, [some (.ref 33), some (.int x1), some (.int x2), w3], [], hp kp nh rh tl rl I L) (none, hp kp nh rh tl rl r.1 r.2)) (w3 : Option Value) (x1 : Int32) (x2 : Int32) (I : FI) (L : FL) (r : FI × FL) (hf : c_12_2 n K0 K1 x1 x2 I L = some r) : Bs cd_12 (sf 2 rs_2 false 4 none Ls xs (d + 2)) (69, [some (.ref 33), some (.int x1), some (.int x2), w3], [], hp kp nh rh tl rl I L) (none, hp kp nh rh tl rl r.1 r.2) := by
  unfold c_12_2 at hf
  refine bs_st 2 (x' := (28, [some (.ref 33), some (.int x1), some (.int (x2 + (1 : Int32))), w3], [], hp kp nh rh tl rl I L)) rfl ?_
  exact hK1 w3 x1 (x2 + (1 : Int32)) I L r hf
def b_12_1 (n : Nat) (K0 : Int32 → FI → FL → Option (FI × FL)) (K1 : Int32 → Int32 → FI → FL → Option (FI × FL)) (x1 : Int32) (x2 : Int32) (I : FI) (L : FL) : Option (FI × FL) :=
  if I 33 5 ≤ x2 then
    K0 (x1 + (1 : Int32)) I L
  else
    (f_13 n ((x2 * (4 : Int32)) + x1) I L).bind fun q1 =>
    if I 33 3 ≤ q1 then
      c_12_2 n K0 K1 x1 x2 I L
    else
      c_12_2 n K0 K1 x1 x2 (u2 (u2 I 33 3 q1) 33 2 (((100 : Int32) * x1) + x2)) L
def c_12_1 (n : Nat) (K0 : Int32 → FI → FL → Option (FI × FL)) : Nat → Int32 → Int32 → FI → FL → Option (FI × FL)
  | 0, _, _, _, _ => none
  | m + 1, x1, x2, I, L => b_12_1 n K0 (c_12_1 n K0 m) x1 x2 I L
set_option maxHeartbeats 1000000 in
set_option maxRecDepth 20000 in
theorem tc_12_1 (Ls : Nat) (xs : Nat → Int32) (d : Nat) (kp : Option Nat) (tl : List (Nat × Nat)) (rl : List (List (Option Nat))) (nh : Option Nat) (rh : Option Nat) (n : Nat) (K0 : Int32 → FI → FL → Option (FI × FL)) (hK0 : ∀ (w2 : Option Value) (w3 : Option Value) (x1 : Int32) (I : FI) (L : FL) (r : FI × FL), K0 x1 I L = some r → Bs cd_12 (sf 2 rs_2 false 4 none Ls xs (d + 2)) (18, [some (.ref 33), some (.int x1), w2, w3], [], hp kp nh rh tl rl I L) (none, hp kp nh rh tl rl r.1 r.2)) : ∀ (m : Nat) (w3 : Option Value) (x1 : Int32) (x2 : Int32) (I : FI) (L : FL) (r : FI × FL), c_12_1 n K0 m x1 x2 I L = some r → Bs cd_12 (sf 2 rs_2 false 4 none Ls xs (d + 2)) (28, [some (.ref 33), some (.int x1), some (.int x2), w3], [], hp kp nh rh tl rl I L) (none, hp kp nh rh tl rl r.1 r.2)
  | 0, w3, x1, x2, I, L, r, hf => by cases hf
  | m + 1, w3, x1, x2, I, L, r, hf => by
    unfold c_12_1 b_12_1 at hf
    have hK1 := tc_12_1 Ls xs d kp tl rl nh rh n K0 hK0 m
    refine bs_st 3 (x' := (33, [some (.ref 33), some (.int x1), some (.int x2), w3], [.int (I 33 5), .int x2], hp kp nh rh tl rl I L)) rfl ?_
    refine bs_br (t := 75) (e := 36) (lo := [some (.ref 33), some (.int x1), some (.int x2), w3]) (st := []) (h := hp kp nh rh tl rl I L) rfl hf (fun hc hf => ?_) (fun hc hf => ?_)
    · refine bs_st 2 (x' := (18, [some (.ref 33), some (.int (x1 + (1 : Int32))), some (.int x2), w3], [], hp kp nh rh tl rl I L)) rfl ?_
      exact hK0 (some (.int x2)) w3 (x1 + (1 : Int32)) I L r hf
    · refine bs_st 6 (x' := (42, [some (.ref 33), some (.int x1), some (.int x2), w3], [.int ((x2 * (4 : Int32)) + x1), .ref 33], hp kp nh rh tl rl I L)) rfl ?_
      obtain ⟨q1, hq1, hf⟩ := Option.bind_eq_some_iff.mp hf
      refine bs_call (o := pEN Ls xs (d + 2) 13 [.ref 33, .int ((x2 * (4 : Int32)) + x1)] (hp kp nh rh tl rl I L)) (w := some (.int q1)) (h' := hp kp nh rh tl rl I L) (pc := 45) (lo := [some (.ref 33), some (.int x1), some (.int x2), w3]) (rest := []) rfl (t_13 Ls xs (d + 0) kp tl rl nh rh n ((x2 * (4 : Int32)) + x1) I L q1 hq1) ?_
      refine bs_st 4 (x' := (51, [some (.ref 33), some (.int x1), some (.int x2), some (.int q1)], [.int (I 33 3), .int q1], hp kp nh rh tl rl I L)) rfl ?_
      refine bs_br (t := 69) (e := 54) (lo := [some (.ref 33), some (.int x1), some (.int x2), some (.int q1)]) (st := []) (h := hp kp nh rh tl rl I L) rfl hf (fun hc hf => ?_) (fun hc hf => ?_)
      · exact tc_12_2 Ls xs d kp tl rl nh rh n _ _ hK0 hK1 (some (.int q1)) x1 x2 I L r hf
      · refine bs_st 10 (x' := (69, [some (.ref 33), some (.int x1), some (.int x2), some (.int q1)], [], hp kp nh rh tl rl (u2 (u2 I 33 3 q1) 33 2 (((100 : Int32) * x1) + x2)) L)) rfl ?_
        exact tc_12_2 Ls xs d kp tl rl nh rh n _ _ hK0 hK1 (some (.int q1)) x1 x2 (u2 (u2 I 33 3 q1) 33 2 (((100 : Int32) * x1) + x2)) L r hf
def b_12_0 (n : Nat) (K0 : Int32 → FI → FL → Option (FI × FL)) (x1 : Int32) (I : FI) (L : FL) : Option (FI × FL) :=
  if I 33 4 ≤ x1 then
    some (I, L)
  else
    c_12_1 n K0 n x1 (0 : Int32) I L
def c_12_0 (n : Nat) : Nat → Int32 → FI → FL → Option (FI × FL)
  | 0, _, _, _ => none
  | m + 1, x1, I, L => b_12_0 n (c_12_0 n m) x1 I L
set_option maxHeartbeats 1000000 in
set_option maxRecDepth 20000 in
theorem tc_12_0 (Ls : Nat) (xs : Nat → Int32) (d : Nat) (kp : Option Nat) (tl : List (Nat × Nat)) (rl : List (List (Option Nat))) (nh : Option Nat) (rh : Option Nat) (n : Nat) : ∀ (m : Nat) (w2 : Option Value) (w3 : Option Value) (x1 : Int32) (I : FI) (L : FL) (r : FI × FL), c_12_0 n m x1 I L = some r → Bs cd_12 (sf 2 rs_2 false 4 none Ls xs (d + 2)) (18, [some (.ref 33), some (.int x1), w2, w3], [], hp kp nh rh tl rl I L) (none, hp kp nh rh tl rl r.1 r.2)
  | 0, w2, w3, x1, I, L, r, hf => by cases hf
  | m + 1, w2, w3, x1, I, L, r, hf => by
    unfold c_12_0 b_12_0 at hf
    have hK0 := tc_12_0 Ls xs d kp tl rl nh rh n m
    refine bs_st 3 (x' := (23, [some (.ref 33), some (.int x1), w2, w3], [.int (I 33 4), .int x1], hp kp nh rh tl rl I L)) rfl ?_
    refine bs_br (t := 81) (e := 26) (lo := [some (.ref 33), some (.int x1), w2, w3]) (st := []) (h := hp kp nh rh tl rl I L) rfl hf (fun hc hf => ?_) (fun hc hf => ?_)
    · cases hf
      exact bs_ret rfl
    · refine bs_st 2 (x' := (28, [some (.ref 33), some (.int x1), some (.int (0 : Int32)), w3], [], hp kp nh rh tl rl I L)) rfl ?_
      exact tc_12_1 Ls xs d kp tl rl nh rh n _ hK0 n w3 x1 (0 : Int32) I L r hf
def f_12 (n : Nat) (I : FI) (L : FL) : Option (FI × FL) :=
  (f_360 (I 33 1) I L).bind fun q0 =>
  c_12_0 n n (0 : Int32) (u2 (u2 I 33 3 q0) 33 2 (-1 : Int32)) L
set_option maxHeartbeats 1000000 in
set_option maxRecDepth 20000 in
theorem t_12 (Ls : Nat) (xs : Nat → Int32) (d : Nat) (kp : Option Nat) (tl : List (Nat × Nat)) (rl : List (List (Option Nat))) (nh : Option Nat) (rh : Option Nat) (n : Nat) (I : FI) (L : FL) (r : FI × FL) (hf : f_12 n I L = some r) : pEN Ls xs (d + 3) 12 [.ref 33] (hp kp nh rh tl rl I L) = some (none, hp kp nh rh tl rl r.1 r.2) := by
  refine en_run (d := d + 2) (cd := cd_12) (f := (sf 2 rs_2 false 4 none Ls xs (d + 2))) rfl rfl (x := (0, [some (.ref 33), none, none, none], [], hp kp nh rh tl rl I L)) rfl rfl (Nat.le_of_ble_eq_true rfl) ?_
  unfold f_12 at hf
  refine bs_st 3 (x' := (5, [some (.ref 33), none, none, none], [.int (I 33 1), .ref 33], hp kp nh rh tl rl I L)) rfl ?_
  obtain ⟨q0, hq0, hf⟩ := Option.bind_eq_some_iff.mp hf
  refine bs_call (o := pEN Ls xs (d + 2) 360 [.int (I 33 1)] (hp kp nh rh tl rl I L)) (w := some (.int q0)) (h' := hp kp nh rh tl rl I L) (pc := 8) (lo := [some (.ref 33), none, none, none]) (rest := [.ref 33]) rfl (t_360 Ls xs (d + 1) kp tl rl nh rh (I 33 1) I L q0 hq0) ?_
  refine bs_st 6 (x' := (18, [some (.ref 33), some (.int (0 : Int32)), none, none], [], hp kp nh rh tl rl (u2 (u2 I 33 3 q0) 33 2 (-1 : Int32)) L)) rfl ?_
  exact tc_12_0 Ls xs d kp tl rl nh rh n n none none (0 : Int32) (u2 (u2 I 33 3 q0) 33 2 (-1 : Int32)) L r hf
/-- Night.agrees(LLampRounds$Row;) on (26, 81) -/
def b_72_0 (n : Nat) (I : FI) (L : FL) (K0 : Int32 → Option (Int32)) (x2 : Int32) : Option (Int32) :=
  if I 81 2 ≤ (x2 + (2 : Int32)) then
    some ((1 : Int32))
  else
    if pin x2 60 = true then (if pin (x2 + (1 : Int32)) 60 = true then ((f_60 ((L 82 x2.toNatClampNeg).toInt32) ((L 82 ((x2 + (1 : Int32)).toNatClampNeg)).toInt32) I L).bind fun q0 =>
        if pin (x2 + (2 : Int32)) 60 = true then (if (lg_cmp q0.toInt64 (L 82 ((x2 + (2 : Int32)).toNatClampNeg))) = 0 then
            K0 (x2 + (3 : Int32))
          else
            some ((0 : Int32))) else none) else none) else none
def c_72_0 (n : Nat) (I : FI) (L : FL) : Nat → Int32 → Option (Int32)
  | 0, _ => none
  | m + 1, x2 => b_72_0 n I L (c_72_0 n I L m) x2
set_option maxHeartbeats 1000000 in
set_option maxRecDepth 20000 in
theorem tc_72_0 (Ls : Nat) (xs : Nat → Int32) (d : Nat) (kp : Option Nat) (tl : List (Nat × Nat)) (rl : List (List (Option Nat))) (rh : Option Nat) (n : Nat) (I : FI) (L : FL) : ∀ (m : Nat) (x2 : Int32) (r : Int32), c_72_0 n I L m x2 = some r → Bs cd_72 (sf 6 rs_6 false 3 (some (.boolean)) Ls xs (d + 1)) (2, [some (.ref 26), some (.ref 81), some (.int x2)], [], hp kp (some 3) rh tl rl I L) (some (.int r), hp kp (some 3) rh tl rl I L)
  | 0, x2, r, hf => by cases hf
  | m + 1, x2, r, hf => by
    unfold c_72_0 b_72_0 at hf
    have hK0 := tc_72_0 Ls xs d kp tl rl rh n I L m
    refine bs_st 5 (x' := (9, [some (.ref 26), some (.ref 81), some (.int x2)], [.int (I 81 2), .int (x2 + (2 : Int32))], hp kp (some 3) rh tl rl I L)) rfl ?_
    refine bs_br (t := 53) (e := 12) (lo := [some (.ref 26), some (.ref 81), some (.int x2)]) (st := []) (h := hp kp (some 3) rh tl rl I L) rfl hf (fun hc hf => ?_) (fun hc hf => ?_)
    · refine bs_st 1 (x' := (54, [some (.ref 26), some (.ref 81), some (.int x2)], [.int (1 : Int32)], hp kp (some 3) rh tl rl I L)) rfl ?_
      cases hf
      exact bs_ret rfl
    · refine bs_st 4 (x' := (18, [some (.ref 26), some (.ref 81), some (.int x2)], [.int x2, .ref 82, .ref 26], hp kp (some 3) rh tl rl I L)) rfl ?_
      refine bs_gd (x' := (19, [some (.ref 26), some (.ref 81), some (.int x2)], [.long (L 82 x2.toNatClampNeg), .ref 26], hp kp (some 3) rh tl rl I L)) rfl hf (fun hc hf => ?_)
      refine bs_st 6 (x' := (27, [some (.ref 26), some (.ref 81), some (.int x2)], [.int (x2 + (1 : Int32)), .ref 82, .int ((L 82 x2.toNatClampNeg).toInt32), .ref 26], hp kp (some 3) rh tl rl I L)) rfl ?_
      refine bs_gd (x' := (28, [some (.ref 26), some (.ref 81), some (.int x2)], [.long (L 82 ((x2 + (1 : Int32)).toNatClampNeg)), .int ((L 82 x2.toNatClampNeg).toInt32), .ref 26], hp kp (some 3) rh tl rl I L)) rfl hf (fun hc hf => ?_)
      refine bs_st 1 (x' := (29, [some (.ref 26), some (.ref 81), some (.int x2)], [.int ((L 82 ((x2 + (1 : Int32)).toNatClampNeg)).toInt32), .int ((L 82 x2.toNatClampNeg).toInt32), .ref 26], hp kp (some 3) rh tl rl I L)) rfl ?_
      obtain ⟨q0, hq0, hf⟩ := Option.bind_eq_some_iff.mp hf
      refine bs_call (o := pEN Ls xs (d + 1) 60 [.ref 26, .int ((L 82 x2.toNatClampNeg).toInt32), .int ((L 82 ((x2 + (1 : Int32)).toNatClampNeg)).toInt32)] (hp kp (some 3) rh tl rl I L)) (w := some (.int q0)) (h' := hp kp (some 3) rh tl rl I L) (pc := 32) (lo := [some (.ref 26), some (.ref 81), some (.int x2)]) (rest := []) rfl (t_60 Ls xs (d + 0) kp tl rl rh ((L 82 x2.toNatClampNeg).toInt32) ((L 82 ((x2 + (1 : Int32)).toNatClampNeg)).toInt32) I L q0 hq0) ?_
      refine bs_st 6 (x' := (40, [some (.ref 26), some (.ref 81), some (.int x2)], [.int (x2 + (2 : Int32)), .ref 82, .long q0.toInt64], hp kp (some 3) rh tl rl I L)) rfl ?_
      refine bs_gd (x' := (41, [some (.ref 26), some (.ref 81), some (.int x2)], [.long (L 82 ((x2 + (2 : Int32)).toNatClampNeg)), .long q0.toInt64], hp kp (some 3) rh tl rl I L)) rfl hf (fun hc hf => ?_)
      refine bs_st 1 (x' := (42, [some (.ref 26), some (.ref 81), some (.int x2)], [.int (lg_cmp q0.toInt64 (L 82 ((x2 + (2 : Int32)).toNatClampNeg)))], hp kp (some 3) rh tl rl I L)) rfl ?_
      refine bs_br (t := 47) (e := 45) (lo := [some (.ref 26), some (.ref 81), some (.int x2)]) (st := []) (h := hp kp (some 3) rh tl rl I L) rfl hf (fun hc hf => ?_) (fun hc hf => ?_)
      · refine bs_st 2 (x' := (2, [some (.ref 26), some (.ref 81), some (.int (x2 + (3 : Int32)))], [], hp kp (some 3) rh tl rl I L)) rfl ?_
        exact hK0 (x2 + (3 : Int32)) r hf
      · refine bs_st 1 (x' := (46, [some (.ref 26), some (.ref 81), some (.int x2)], [.int (0 : Int32)], hp kp (some 3) rh tl rl I L)) rfl ?_
        cases hf
        exact bs_ret rfl
def f_72 (n : Nat) (I : FI) (L : FL) : Option (Int32) :=
  c_72_0 n I L n (0 : Int32)
set_option maxHeartbeats 1000000 in
set_option maxRecDepth 20000 in
theorem t_72 (Ls : Nat) (xs : Nat → Int32) (d : Nat) (kp : Option Nat) (tl : List (Nat × Nat)) (rl : List (List (Option Nat))) (rh : Option Nat) (n : Nat) (I : FI) (L : FL) (r : Int32) (hf : f_72 n I L = some r) : pEN Ls xs (d + 2) 72 [.ref 26, .ref 81] (hp kp (some 3) rh tl rl I L) = some (some (.int r), hp kp (some 3) rh tl rl I L) := by
  refine en_run (d := d + 1) (cd := cd_72) (f := (sf 6 rs_6 false 3 (some (.boolean)) Ls xs (d + 1))) rfl rfl (x := (0, [some (.ref 26), some (.ref 81), none], [], hp kp (some 3) rh tl rl I L)) rfl rfl (Nat.le_of_ble_eq_true rfl) ?_
  unfold f_72 at hf
  refine bs_st 2 (x' := (2, [some (.ref 26), some (.ref 81), some (.int (0 : Int32))], [], hp kp (some 3) rh tl rl I L)) rfl ?_
  exact tc_72_0 Ls xs d kp tl rl rh n I L n (0 : Int32) r hf
/-- java/lang/Integer.bitCount(I) on () -/
def f_360_1 (x0 : Int32) (I : FI) (L : FL) : Option (Int32) :=
  some (((((((((x0 - (((x0.toUInt32 >>> ((1 : Int32).toUInt32 &&& Int32.toUInt32 31)).toInt32) &&& (1431655765 : Int32))) &&& (858993459 : Int32)) + ((((x0 - (((x0.toUInt32 >>> ((1 : Int32).toUInt32 &&& Int32.toUInt32 31)).toInt32) &&& (1431655765 : Int32))).toUInt32 >>> ((2 : Int32).toUInt32 &&& Int32.toUInt32 31)).toInt32) &&& (858993459 : Int32))) + (((((x0 - (((x0.toUInt32 >>> ((1 : Int32).toUInt32 &&& Int32.toUInt32 31)).toInt32) &&& (1431655765 : Int32))) &&& (858993459 : Int32)) + ((((x0 - (((x0.toUInt32 >>> ((1 : Int32).toUInt32 &&& Int32.toUInt32 31)).toInt32) &&& (1431655765 : Int32))).toUInt32 >>> ((2 : Int32).toUInt32 &&& Int32.toUInt32 31)).toInt32) &&& (858993459 : Int32))).toUInt32 >>> ((4 : Int32).toUInt32 &&& Int32.toUInt32 31)).toInt32)) &&& (252645135 : Int32)) + (((((((x0 - (((x0.toUInt32 >>> ((1 : Int32).toUInt32 &&& Int32.toUInt32 31)).toInt32) &&& (1431655765 : Int32))) &&& (858993459 : Int32)) + ((((x0 - (((x0.toUInt32 >>> ((1 : Int32).toUInt32 &&& Int32.toUInt32 31)).toInt32) &&& (1431655765 : Int32))).toUInt32 >>> ((2 : Int32).toUInt32 &&& Int32.toUInt32 31)).toInt32) &&& (858993459 : Int32))) + (((((x0 - (((x0.toUInt32 >>> ((1 : Int32).toUInt32 &&& Int32.toUInt32 31)).toInt32) &&& (1431655765 : Int32))) &&& (858993459 : Int32)) + ((((x0 - (((x0.toUInt32 >>> ((1 : Int32).toUInt32 &&& Int32.toUInt32 31)).toInt32) &&& (1431655765 : Int32))).toUInt32 >>> ((2 : Int32).toUInt32 &&& Int32.toUInt32 31)).toInt32) &&& (858993459 : Int32))).toUInt32 >>> ((4 : Int32).toUInt32 &&& Int32.toUInt32 31)).toInt32)) &&& (252645135 : Int32)).toUInt32 >>> ((8 : Int32).toUInt32 &&& Int32.toUInt32 31)).toInt32)) + ((((((((x0 - (((x0.toUInt32 >>> ((1 : Int32).toUInt32 &&& Int32.toUInt32 31)).toInt32) &&& (1431655765 : Int32))) &&& (858993459 : Int32)) + ((((x0 - (((x0.toUInt32 >>> ((1 : Int32).toUInt32 &&& Int32.toUInt32 31)).toInt32) &&& (1431655765 : Int32))).toUInt32 >>> ((2 : Int32).toUInt32 &&& Int32.toUInt32 31)).toInt32) &&& (858993459 : Int32))) + (((((x0 - (((x0.toUInt32 >>> ((1 : Int32).toUInt32 &&& Int32.toUInt32 31)).toInt32) &&& (1431655765 : Int32))) &&& (858993459 : Int32)) + ((((x0 - (((x0.toUInt32 >>> ((1 : Int32).toUInt32 &&& Int32.toUInt32 31)).toInt32) &&& (1431655765 : Int32))).toUInt32 >>> ((2 : Int32).toUInt32 &&& Int32.toUInt32 31)).toInt32) &&& (858993459 : Int32))).toUInt32 >>> ((4 : Int32).toUInt32 &&& Int32.toUInt32 31)).toInt32)) &&& (252645135 : Int32)) + (((((((x0 - (((x0.toUInt32 >>> ((1 : Int32).toUInt32 &&& Int32.toUInt32 31)).toInt32) &&& (1431655765 : Int32))) &&& (858993459 : Int32)) + ((((x0 - (((x0.toUInt32 >>> ((1 : Int32).toUInt32 &&& Int32.toUInt32 31)).toInt32) &&& (1431655765 : Int32))).toUInt32 >>> ((2 : Int32).toUInt32 &&& Int32.toUInt32 31)).toInt32) &&& (858993459 : Int32))) + (((((x0 - (((x0.toUInt32 >>> ((1 : Int32).toUInt32 &&& Int32.toUInt32 31)).toInt32) &&& (1431655765 : Int32))) &&& (858993459 : Int32)) + ((((x0 - (((x0.toUInt32 >>> ((1 : Int32).toUInt32 &&& Int32.toUInt32 31)).toInt32) &&& (1431655765 : Int32))).toUInt32 >>> ((2 : Int32).toUInt32 &&& Int32.toUInt32 31)).toInt32) &&& (858993459 : Int32))).toUInt32 >>> ((4 : Int32).toUInt32 &&& Int32.toUInt32 31)).toInt32)) &&& (252645135 : Int32)).toUInt32 >>> ((8 : Int32).toUInt32 &&& Int32.toUInt32 31)).toInt32)).toUInt32 >>> ((16 : Int32).toUInt32 &&& Int32.toUInt32 31)).toInt32)) &&& (63 : Int32)))
set_option maxHeartbeats 1000000 in
set_option maxRecDepth 20000 in
theorem t_360_1 (Ls : Nat) (xs : Nat → Int32) (d : Nat) (kp : Option Nat) (tl : List (Nat × Nat)) (rl : List (List (Option Nat))) (rh : Option Nat) (x0 : Int32) (I : FI) (L : FL) (r : Int32) (hf : f_360_1 x0 I L = some r) : pEN Ls xs (d + 1) 360 [.int x0] (hp kp (some 3) rh tl rl I L) = some (some (.int r), hp kp (some 3) rh tl rl I L) := by
  refine en_run (d := d + 0) (cd := cd_360) (f := (sf 15 rs_15 false 1 (some (.int)) Ls xs (d + 0))) rfl rfl (x := (0, [some (.int x0)], [], hp kp (some 3) rh tl rl I L)) rfl rfl (Nat.le_of_ble_eq_true rfl) ?_
  unfold f_360_1 at hf
  refine bs_st 24 (x' := (32, [some (.int (((x0 - (((x0.toUInt32 >>> ((1 : Int32).toUInt32 &&& Int32.toUInt32 31)).toInt32) &&& (1431655765 : Int32))) &&& (858993459 : Int32)) + ((((x0 - (((x0.toUInt32 >>> ((1 : Int32).toUInt32 &&& Int32.toUInt32 31)).toInt32) &&& (1431655765 : Int32))).toUInt32 >>> ((2 : Int32).toUInt32 &&& Int32.toUInt32 31)).toInt32) &&& (858993459 : Int32))))], [.int (252645135 : Int32), .int ((((x0 - (((x0.toUInt32 >>> ((1 : Int32).toUInt32 &&& Int32.toUInt32 31)).toInt32) &&& (1431655765 : Int32))) &&& (858993459 : Int32)) + ((((x0 - (((x0.toUInt32 >>> ((1 : Int32).toUInt32 &&& Int32.toUInt32 31)).toInt32) &&& (1431655765 : Int32))).toUInt32 >>> ((2 : Int32).toUInt32 &&& Int32.toUInt32 31)).toInt32) &&& (858993459 : Int32))) + (((((x0 - (((x0.toUInt32 >>> ((1 : Int32).toUInt32 &&& Int32.toUInt32 31)).toInt32) &&& (1431655765 : Int32))) &&& (858993459 : Int32)) + ((((x0 - (((x0.toUInt32 >>> ((1 : Int32).toUInt32 &&& Int32.toUInt32 31)).toInt32) &&& (1431655765 : Int32))).toUInt32 >>> ((2 : Int32).toUInt32 &&& Int32.toUInt32 31)).toInt32) &&& (858993459 : Int32))).toUInt32 >>> ((4 : Int32).toUInt32 &&& Int32.toUInt32 31)).toInt32))], hp kp (some 3) rh tl rl I L)) rfl ?_
  refine bs_st 17 (x' := (52, [some (.int (((((((x0 - (((x0.toUInt32 >>> ((1 : Int32).toUInt32 &&& Int32.toUInt32 31)).toInt32) &&& (1431655765 : Int32))) &&& (858993459 : Int32)) + ((((x0 - (((x0.toUInt32 >>> ((1 : Int32).toUInt32 &&& Int32.toUInt32 31)).toInt32) &&& (1431655765 : Int32))).toUInt32 >>> ((2 : Int32).toUInt32 &&& Int32.toUInt32 31)).toInt32) &&& (858993459 : Int32))) + (((((x0 - (((x0.toUInt32 >>> ((1 : Int32).toUInt32 &&& Int32.toUInt32 31)).toInt32) &&& (1431655765 : Int32))) &&& (858993459 : Int32)) + ((((x0 - (((x0.toUInt32 >>> ((1 : Int32).toUInt32 &&& Int32.toUInt32 31)).toInt32) &&& (1431655765 : Int32))).toUInt32 >>> ((2 : Int32).toUInt32 &&& Int32.toUInt32 31)).toInt32) &&& (858993459 : Int32))).toUInt32 >>> ((4 : Int32).toUInt32 &&& Int32.toUInt32 31)).toInt32)) &&& (252645135 : Int32)) + (((((((x0 - (((x0.toUInt32 >>> ((1 : Int32).toUInt32 &&& Int32.toUInt32 31)).toInt32) &&& (1431655765 : Int32))) &&& (858993459 : Int32)) + ((((x0 - (((x0.toUInt32 >>> ((1 : Int32).toUInt32 &&& Int32.toUInt32 31)).toInt32) &&& (1431655765 : Int32))).toUInt32 >>> ((2 : Int32).toUInt32 &&& Int32.toUInt32 31)).toInt32) &&& (858993459 : Int32))) + (((((x0 - (((x0.toUInt32 >>> ((1 : Int32).toUInt32 &&& Int32.toUInt32 31)).toInt32) &&& (1431655765 : Int32))) &&& (858993459 : Int32)) + ((((x0 - (((x0.toUInt32 >>> ((1 : Int32).toUInt32 &&& Int32.toUInt32 31)).toInt32) &&& (1431655765 : Int32))).toUInt32 >>> ((2 : Int32).toUInt32 &&& Int32.toUInt32 31)).toInt32) &&& (858993459 : Int32))).toUInt32 >>> ((4 : Int32).toUInt32 &&& Int32.toUInt32 31)).toInt32)) &&& (252645135 : Int32)).toUInt32 >>> ((8 : Int32).toUInt32 &&& Int32.toUInt32 31)).toInt32)) + ((((((((x0 - (((x0.toUInt32 >>> ((1 : Int32).toUInt32 &&& Int32.toUInt32 31)).toInt32) &&& (1431655765 : Int32))) &&& (858993459 : Int32)) + ((((x0 - (((x0.toUInt32 >>> ((1 : Int32).toUInt32 &&& Int32.toUInt32 31)).toInt32) &&& (1431655765 : Int32))).toUInt32 >>> ((2 : Int32).toUInt32 &&& Int32.toUInt32 31)).toInt32) &&& (858993459 : Int32))) + (((((x0 - (((x0.toUInt32 >>> ((1 : Int32).toUInt32 &&& Int32.toUInt32 31)).toInt32) &&& (1431655765 : Int32))) &&& (858993459 : Int32)) + ((((x0 - (((x0.toUInt32 >>> ((1 : Int32).toUInt32 &&& Int32.toUInt32 31)).toInt32) &&& (1431655765 : Int32))).toUInt32 >>> ((2 : Int32).toUInt32 &&& Int32.toUInt32 31)).toInt32) &&& (858993459 : Int32))).toUInt32 >>> ((4 : Int32).toUInt32 &&& Int32.toUInt32 31)).toInt32)) &&& (252645135 : Int32)) + (((((((x0 - (((x0.toUInt32 >>> ((1 : Int32).toUInt32 &&& Int32.toUInt32 31)).toInt32) &&& (1431655765 : Int32))) &&& (858993459 : Int32)) + ((((x0 - (((x0.toUInt32 >>> ((1 : Int32).toUInt32 &&& Int32.toUInt32 31)).toInt32) &&& (1431655765 : Int32))).toUInt32 >>> ((2 : Int32).toUInt32 &&& Int32.toUInt32 31)).toInt32) &&& (858993459 : Int32))) + (((((x0 - (((x0.toUInt32 >>> ((1 : Int32).toUInt32 &&& Int32.toUInt32 31)).toInt32) &&& (1431655765 : Int32))) &&& (858993459 : Int32)) + ((((x0 - (((x0.toUInt32 >>> ((1 : Int32).toUInt32 &&& Int32.toUInt32 31)).toInt32) &&& (1431655765 : Int32))).toUInt32 >>> ((2 : Int32).toUInt32 &&& Int32.toUInt32 31)).toInt32) &&& (858993459 : Int32))).toUInt32 >>> ((4 : Int32).toUInt32 &&& Int32.toUInt32 31)).toInt32)) &&& (252645135 : Int32)).toUInt32 >>> ((8 : Int32).toUInt32 &&& Int32.toUInt32 31)).toInt32)).toUInt32 >>> ((16 : Int32).toUInt32 &&& Int32.toUInt32 31)).toInt32)))], [.int ((((((((x0 - (((x0.toUInt32 >>> ((1 : Int32).toUInt32 &&& Int32.toUInt32 31)).toInt32) &&& (1431655765 : Int32))) &&& (858993459 : Int32)) + ((((x0 - (((x0.toUInt32 >>> ((1 : Int32).toUInt32 &&& Int32.toUInt32 31)).toInt32) &&& (1431655765 : Int32))).toUInt32 >>> ((2 : Int32).toUInt32 &&& Int32.toUInt32 31)).toInt32) &&& (858993459 : Int32))) + (((((x0 - (((x0.toUInt32 >>> ((1 : Int32).toUInt32 &&& Int32.toUInt32 31)).toInt32) &&& (1431655765 : Int32))) &&& (858993459 : Int32)) + ((((x0 - (((x0.toUInt32 >>> ((1 : Int32).toUInt32 &&& Int32.toUInt32 31)).toInt32) &&& (1431655765 : Int32))).toUInt32 >>> ((2 : Int32).toUInt32 &&& Int32.toUInt32 31)).toInt32) &&& (858993459 : Int32))).toUInt32 >>> ((4 : Int32).toUInt32 &&& Int32.toUInt32 31)).toInt32)) &&& (252645135 : Int32)) + (((((((x0 - (((x0.toUInt32 >>> ((1 : Int32).toUInt32 &&& Int32.toUInt32 31)).toInt32) &&& (1431655765 : Int32))) &&& (858993459 : Int32)) + ((((x0 - (((x0.toUInt32 >>> ((1 : Int32).toUInt32 &&& Int32.toUInt32 31)).toInt32) &&& (1431655765 : Int32))).toUInt32 >>> ((2 : Int32).toUInt32 &&& Int32.toUInt32 31)).toInt32) &&& (858993459 : Int32))) + (((((x0 - (((x0.toUInt32 >>> ((1 : Int32).toUInt32 &&& Int32.toUInt32 31)).toInt32) &&& (1431655765 : Int32))) &&& (858993459 : Int32)) + ((((x0 - (((x0.toUInt32 >>> ((1 : Int32).toUInt32 &&& Int32.toUInt32 31)).toInt32) &&& (1431655765 : Int32))).toUInt32 >>> ((2 : Int32).toUInt32 &&& Int32.toUInt32 31)).toInt32) &&& (858993459 : Int32))).toUInt32 >>> ((4 : Int32).toUInt32 &&& Int32.toUInt32 31)).toInt32)) &&& (252645135 : Int32)).toUInt32 >>> ((8 : Int32).toUInt32 &&& Int32.toUInt32 31)).toInt32)) + ((((((((x0 - (((x0.toUInt32 >>> ((1 : Int32).toUInt32 &&& Int32.toUInt32 31)).toInt32) &&& (1431655765 : Int32))) &&& (858993459 : Int32)) + ((((x0 - (((x0.toUInt32 >>> ((1 : Int32).toUInt32 &&& Int32.toUInt32 31)).toInt32) &&& (1431655765 : Int32))).toUInt32 >>> ((2 : Int32).toUInt32 &&& Int32.toUInt32 31)).toInt32) &&& (858993459 : Int32))) + (((((x0 - (((x0.toUInt32 >>> ((1 : Int32).toUInt32 &&& Int32.toUInt32 31)).toInt32) &&& (1431655765 : Int32))) &&& (858993459 : Int32)) + ((((x0 - (((x0.toUInt32 >>> ((1 : Int32).toUInt32 &&& Int32.toUInt32 31)).toInt32) &&& (1431655765 : Int32))).toUInt32 >>> ((2 : Int32).toUInt32 &&& Int32.toUInt32 31)).toInt32) &&& (858993459 : Int32))).toUInt32 >>> ((4 : Int32).toUInt32 &&& Int32.toUInt32 31)).toInt32)) &&& (252645135 : Int32)) + (((((((x0 - (((x0.toUInt32 >>> ((1 : Int32).toUInt32 &&& Int32.toUInt32 31)).toInt32) &&& (1431655765 : Int32))) &&& (858993459 : Int32)) + ((((x0 - (((x0.toUInt32 >>> ((1 : Int32).toUInt32 &&& Int32.toUInt32 31)).toInt32) &&& (1431655765 : Int32))).toUInt32 >>> ((2 : Int32).toUInt32 &&& Int32.toUInt32 31)).toInt32) &&& (858993459 : Int32))) + (((((x0 - (((x0.toUInt32 >>> ((1 : Int32).toUInt32 &&& Int32.toUInt32 31)).toInt32) &&& (1431655765 : Int32))) &&& (858993459 : Int32)) + ((((x0 - (((x0.toUInt32 >>> ((1 : Int32).toUInt32 &&& Int32.toUInt32 31)).toInt32) &&& (1431655765 : Int32))).toUInt32 >>> ((2 : Int32).toUInt32 &&& Int32.toUInt32 31)).toInt32) &&& (858993459 : Int32))).toUInt32 >>> ((4 : Int32).toUInt32 &&& Int32.toUInt32 31)).toInt32)) &&& (252645135 : Int32)).toUInt32 >>> ((8 : Int32).toUInt32 &&& Int32.toUInt32 31)).toInt32)).toUInt32 >>> ((16 : Int32).toUInt32 &&& Int32.toUInt32 31)).toInt32)) &&& (63 : Int32))], hp kp (some 3) rh tl rl I L)) rfl ?_
  cases hf
  exact bs_ret rfl
/-- Clues.alike(II) on (33,) -/
def c_14_1_1 (n : Nat) (I : FI) (L : FL) (K0 : Int32 → Int32 → Int32 → Int32 → Option (Int32)) (x1 : Int32) (x2 : Int32) (x3 : Int32) (x4 : Int32) : Option (Int32) :=
  K0 x1 x2 x3 (x4 + (1 : Int32))
set_option maxHeartbeats 1000000 in
set_option maxRecDepth 20000 in
theorem tc_14_1_1 (Ls : Nat) (xs : Nat → Int32) (d : Nat) (kp : Option Nat) (tl : List (Nat × Nat)) (rl : List (List (Option Nat))) (rh : Option Nat) (n : Nat) (I : FI) (L : FL) (K0 : Int32 → Int32 → Int32 → Int32 → Option (Int32)) (hK0 : ∀ (x1 : Int32) (x2 : Int32) (x3 : Int32) (x4 : Int32) (r : Int32), K0 x1 x2 x3 x4 = some r → Bs cd_14 (sf 2 rs_2 false 5 (some (.int)) Ls xs (d + 0)) (5, [some (.ref 33), some (.int x1), some (.int x2), some (.int x3), some (.int x4)], [], hp kp (some 3) rh tl rl I L) (some (.int r), hp kp (some 3) rh tl rl I L)) (x1 : Int32) (x2 : Int32) (x3 : Int32) (x4 : Int32) (r : Int32) (hf : c_14_1_1 n I L K0 x1 x2 x3 x4 = some r) : Bs cd_14 (sf 2 rs_2 false 5 (some (.int)) Ls xs (d + 0)) (43, [some (.ref 33), some (.int x1), some (.int x2), some (.int x3), some (.int x4)], [], hp kp (some 3) rh tl rl I L) (some (.int r), hp kp (some 3) rh tl rl I L) := by
  unfold c_14_1_1 at hf
  refine bs_st 2 (x' := (5, [some (.ref 33), some (.int x1), some (.int x2), some (.int x3), some (.int (x4 + (1 : Int32)))], [], hp kp (some 3) rh tl rl I L)) rfl ?_
  exact hK0 x1 x2 x3 (x4 + (1 : Int32)) r hf
def b_14_1_0 (n : Nat) (I : FI) (L : FL) (K0 : Int32 → Int32 → Int32 → Int32 → Option (Int32)) (x1 : Int32) (x2 : Int32) (x3 : Int32) (x4 : Int32) : Option (Int32) :=
  if (12 : Int32) ≤ x4 then
    some (x3)
  else
    if (((I 33 1) >>> (x4 &&& 31)) &&& (1 : Int32)) = 0 then
      c_14_1_1 n I L K0 x1 x2 x3 x4
    else
      if pin ((x4 * (120 : Int32)) + x1) 1440 = true then (if ¬ I 34 (((x4 * (120 : Int32)) + x1).toNatClampNeg) = x2 then
          c_14_1_1 n I L K0 x1 x2 x3 x4
        else
          c_14_1_1 n I L K0 x1 x2 (x3 + (1 : Int32)) x4) else none
def c_14_1_0 (n : Nat) (I : FI) (L : FL) : Nat → Int32 → Int32 → Int32 → Int32 → Option (Int32)
  | 0, _, _, _, _ => none
  | m + 1, x1, x2, x3, x4 => b_14_1_0 n I L (c_14_1_0 n I L m) x1 x2 x3 x4
set_option maxHeartbeats 1000000 in
set_option maxRecDepth 20000 in
theorem tc_14_1_0 (Ls : Nat) (xs : Nat → Int32) (d : Nat) (kp : Option Nat) (tl : List (Nat × Nat)) (rl : List (List (Option Nat))) (rh : Option Nat) (n : Nat) (I : FI) (L : FL) : ∀ (m : Nat) (x1 : Int32) (x2 : Int32) (x3 : Int32) (x4 : Int32) (r : Int32), c_14_1_0 n I L m x1 x2 x3 x4 = some r → Bs cd_14 (sf 2 rs_2 false 5 (some (.int)) Ls xs (d + 0)) (5, [some (.ref 33), some (.int x1), some (.int x2), some (.int x3), some (.int x4)], [], hp kp (some 3) rh tl rl I L) (some (.int r), hp kp (some 3) rh tl rl I L)
  | 0, x1, x2, x3, x4, r, hf => by cases hf
  | m + 1, x1, x2, x3, x4, r, hf => by
    unfold c_14_1_0 b_14_1_0 at hf
    have hK0 := tc_14_1_0 Ls xs d kp tl rl rh n I L m
    refine bs_st 2 (x' := (9, [some (.ref 33), some (.int x1), some (.int x2), some (.int x3), some (.int x4)], [.int (12 : Int32), .int x4], hp kp (some 3) rh tl rl I L)) rfl ?_
    refine bs_br (t := 49) (e := 12) (lo := [some (.ref 33), some (.int x1), some (.int x2), some (.int x3), some (.int x4)]) (st := []) (h := hp kp (some 3) rh tl rl I L) rfl hf (fun hc hf => ?_) (fun hc hf => ?_)
    · refine bs_st 1 (x' := (50, [some (.ref 33), some (.int x1), some (.int x2), some (.int x3), some (.int x4)], [.int x3], hp kp (some 3) rh tl rl I L)) rfl ?_
      cases hf
      exact bs_ret rfl
    · refine bs_st 6 (x' := (21, [some (.ref 33), some (.int x1), some (.int x2), some (.int x3), some (.int x4)], [.int (((I 33 1) >>> (x4 &&& 31)) &&& (1 : Int32))], hp kp (some 3) rh tl rl I L)) rfl ?_
      refine bs_br (t := 43) (e := 24) (lo := [some (.ref 33), some (.int x1), some (.int x2), some (.int x3), some (.int x4)]) (st := []) (h := hp kp (some 3) rh tl rl I L) rfl hf (fun hc hf => ?_) (fun hc hf => ?_)
      · exact tc_14_1_1 Ls xs d kp tl rl rh n I L _ hK0 x1 x2 x3 x4 r hf
      · refine bs_st 7 (x' := (35, [some (.ref 33), some (.int x1), some (.int x2), some (.int x3), some (.int x4)], [.int ((x4 * (120 : Int32)) + x1), .ref 34], hp kp (some 3) rh tl rl I L)) rfl ?_
        refine bs_gd (x' := (36, [some (.ref 33), some (.int x1), some (.int x2), some (.int x3), some (.int x4)], [.int (I 34 (((x4 * (120 : Int32)) + x1).toNatClampNeg))], hp kp (some 3) rh tl rl I L)) rfl hf (fun hc hf => ?_)
        refine bs_st 1 (x' := (37, [some (.ref 33), some (.int x1), some (.int x2), some (.int x3), some (.int x4)], [.int x2, .int (I 34 (((x4 * (120 : Int32)) + x1).toNatClampNeg))], hp kp (some 3) rh tl rl I L)) rfl ?_
        refine bs_br (t := 43) (e := 40) (lo := [some (.ref 33), some (.int x1), some (.int x2), some (.int x3), some (.int x4)]) (st := []) (h := hp kp (some 3) rh tl rl I L) rfl hf (fun hc hf => ?_) (fun hc hf => ?_)
        · exact tc_14_1_1 Ls xs d kp tl rl rh n I L _ hK0 x1 x2 x3 x4 r hf
        · refine bs_st 1 (x' := (43, [some (.ref 33), some (.int x1), some (.int x2), some (.int (x3 + (1 : Int32))), some (.int x4)], [], hp kp (some 3) rh tl rl I L)) rfl ?_
          exact tc_14_1_1 Ls xs d kp tl rl rh n I L _ hK0 x1 x2 (x3 + (1 : Int32)) x4 r hf
def f_14_1 (n : Nat) (x1 : Int32) (x2 : Int32) (I : FI) (L : FL) : Option (Int32) :=
  c_14_1_0 n I L n x1 x2 (0 : Int32) (0 : Int32)
set_option maxHeartbeats 1000000 in
set_option maxRecDepth 20000 in
theorem t_14_1 (Ls : Nat) (xs : Nat → Int32) (d : Nat) (kp : Option Nat) (tl : List (Nat × Nat)) (rl : List (List (Option Nat))) (rh : Option Nat) (n : Nat) (x1 : Int32) (x2 : Int32) (I : FI) (L : FL) (r : Int32) (hf : f_14_1 n x1 x2 I L = some r) : pEN Ls xs (d + 1) 14 [.ref 33, .int x1, .int x2] (hp kp (some 3) rh tl rl I L) = some (some (.int r), hp kp (some 3) rh tl rl I L) := by
  refine en_run (d := d + 0) (cd := cd_14) (f := (sf 2 rs_2 false 5 (some (.int)) Ls xs (d + 0))) rfl rfl (x := (0, [some (.ref 33), some (.int x1), some (.int x2), none, none], [], hp kp (some 3) rh tl rl I L)) rfl rfl (Nat.le_of_ble_eq_true rfl) ?_
  unfold f_14_1 at hf
  refine bs_st 4 (x' := (5, [some (.ref 33), some (.int x1), some (.int x2), some (.int (0 : Int32)), some (.int (0 : Int32))], [], hp kp (some 3) rh tl rl I L)) rfl ?_
  exact tc_14_1_0 Ls xs d kp tl rl rh n I L n x1 x2 (0 : Int32) (0 : Int32) r hf
/-- Clues.largestClass(I) on (33,) -/
def c_13_1_1 (n : Nat) (I : FI) (L : FL) (K0 : Int32 → Int32 → Int32 → Option (Int32)) (x1 : Int32) (x2 : Int32) (x3 : Int32) : Option (Int32) :=
  K0 x1 x2 (x3 + (1 : Int32))
set_option maxHeartbeats 1000000 in
set_option maxRecDepth 20000 in
theorem tc_13_1_1 (Ls : Nat) (xs : Nat → Int32) (d : Nat) (kp : Option Nat) (tl : List (Nat × Nat)) (rl : List (List (Option Nat))) (rh : Option Nat) (n : Nat) (I : FI) (L : FL) (K0 : Int32 → Int32 → Int32 → Option (Int32)) (hK0 : ∀ (x1 : Int32) (x2 : Int32) (x3 : Int32) (r : Int32), K0 x1 x2 x3 = some r → Bs cd_13 (sf 2 rs_2 false 4 (some (.int)) Ls xs (d + 1)) (4, [some (.ref 33), some (.int x1), some (.int x2), some (.int x3)], [], hp kp (some 3) rh tl rl I L) (some (.int r), hp kp (some 3) rh tl rl I L)) (x1 : Int32) (x2 : Int32) (x3 : Int32) (r : Int32) (hf : c_13_1_1 n I L K0 x1 x2 x3 = some r) : Bs cd_13 (sf 2 rs_2 false 4 (some (.int)) Ls xs (d + 1)) (42, [some (.ref 33), some (.int x1), some (.int x2), some (.int x3)], [], hp kp (some 3) rh tl rl I L) (some (.int r), hp kp (some 3) rh tl rl I L) := by
  unfold c_13_1_1 at hf
  refine bs_st 2 (x' := (4, [some (.ref 33), some (.int x1), some (.int x2), some (.int (x3 + (1 : Int32)))], [], hp kp (some 3) rh tl rl I L)) rfl ?_
  exact hK0 x1 x2 (x3 + (1 : Int32)) r hf
def b_13_1_0 (n : Nat) (I : FI) (L : FL) (K0 : Int32 → Int32 → Int32 → Option (Int32)) (x1 : Int32) (x2 : Int32) (x3 : Int32) : Option (Int32) :=
  if (12 : Int32) ≤ x3 then
    some (x2)
  else
    if (((I 33 1) >>> (x3 &&& 31)) &&& (1 : Int32)) = 0 then
      c_13_1_1 n I L K0 x1 x2 x3
    else
      if pin ((x3 * (120 : Int32)) + x1) 1440 = true then ((f_14_1 n x1 (I 34 (((x3 * (120 : Int32)) + x1).toNatClampNeg)) I L).bind fun q0 =>
        (f_358 x2 q0 I L).bind fun q1 =>
        c_13_1_1 n I L K0 x1 q1 x3) else none
def c_13_1_0 (n : Nat) (I : FI) (L : FL) : Nat → Int32 → Int32 → Int32 → Option (Int32)
  | 0, _, _, _ => none
  | m + 1, x1, x2, x3 => b_13_1_0 n I L (c_13_1_0 n I L m) x1 x2 x3
set_option maxHeartbeats 1000000 in
set_option maxRecDepth 20000 in
theorem tc_13_1_0 (Ls : Nat) (xs : Nat → Int32) (d : Nat) (kp : Option Nat) (tl : List (Nat × Nat)) (rl : List (List (Option Nat))) (rh : Option Nat) (n : Nat) (I : FI) (L : FL) : ∀ (m : Nat) (x1 : Int32) (x2 : Int32) (x3 : Int32) (r : Int32), c_13_1_0 n I L m x1 x2 x3 = some r → Bs cd_13 (sf 2 rs_2 false 4 (some (.int)) Ls xs (d + 1)) (4, [some (.ref 33), some (.int x1), some (.int x2), some (.int x3)], [], hp kp (some 3) rh tl rl I L) (some (.int r), hp kp (some 3) rh tl rl I L)
  | 0, x1, x2, x3, r, hf => by cases hf
  | m + 1, x1, x2, x3, r, hf => by
    unfold c_13_1_0 b_13_1_0 at hf
    have hK0 := tc_13_1_0 Ls xs d kp tl rl rh n I L m
    refine bs_st 2 (x' := (7, [some (.ref 33), some (.int x1), some (.int x2), some (.int x3)], [.int (12 : Int32), .int x3], hp kp (some 3) rh tl rl I L)) rfl ?_
    refine bs_br (t := 48) (e := 10) (lo := [some (.ref 33), some (.int x1), some (.int x2), some (.int x3)]) (st := []) (h := hp kp (some 3) rh tl rl I L) rfl hf (fun hc hf => ?_) (fun hc hf => ?_)
    · refine bs_st 1 (x' := (49, [some (.ref 33), some (.int x1), some (.int x2), some (.int x3)], [.int x2], hp kp (some 3) rh tl rl I L)) rfl ?_
      cases hf
      exact bs_ret rfl
    · refine bs_st 6 (x' := (18, [some (.ref 33), some (.int x1), some (.int x2), some (.int x3)], [.int (((I 33 1) >>> (x3 &&& 31)) &&& (1 : Int32))], hp kp (some 3) rh tl rl I L)) rfl ?_
      refine bs_br (t := 42) (e := 21) (lo := [some (.ref 33), some (.int x1), some (.int x2), some (.int x3)]) (st := []) (h := hp kp (some 3) rh tl rl I L) rfl hf (fun hc hf => ?_) (fun hc hf => ?_)
      · exact tc_13_1_1 Ls xs d kp tl rl rh n I L _ hK0 x1 x2 x3 r hf
      · refine bs_st 10 (x' := (34, [some (.ref 33), some (.int x1), some (.int x2), some (.int x3)], [.int ((x3 * (120 : Int32)) + x1), .ref 34, .int x1, .ref 33, .int x2], hp kp (some 3) rh tl rl I L)) rfl ?_
        refine bs_gd (x' := (35, [some (.ref 33), some (.int x1), some (.int x2), some (.int x3)], [.int (I 34 (((x3 * (120 : Int32)) + x1).toNatClampNeg)), .int x1, .ref 33, .int x2], hp kp (some 3) rh tl rl I L)) rfl hf (fun hc hf => ?_)
        obtain ⟨q0, hq0, hf⟩ := Option.bind_eq_some_iff.mp hf
        refine bs_call (o := pEN Ls xs (d + 1) 14 [.ref 33, .int x1, .int (I 34 (((x3 * (120 : Int32)) + x1).toNatClampNeg))] (hp kp (some 3) rh tl rl I L)) (w := some (.int q0)) (h' := hp kp (some 3) rh tl rl I L) (pc := 38) (lo := [some (.ref 33), some (.int x1), some (.int x2), some (.int x3)]) (rest := [.int x2]) rfl (t_14_1 Ls xs (d + 0) kp tl rl rh n x1 (I 34 (((x3 * (120 : Int32)) + x1).toNatClampNeg)) I L q0 hq0) ?_
        obtain ⟨q1, hq1, hf⟩ := Option.bind_eq_some_iff.mp hf
        refine bs_call (o := pEN Ls xs (d + 1) 358 [.int x2, .int q0] (hp kp (some 3) rh tl rl I L)) (w := some (.int q1)) (h' := hp kp (some 3) rh tl rl I L) (pc := 41) (lo := [some (.ref 33), some (.int x1), some (.int x2), some (.int x3)]) (rest := []) rfl (t_358 Ls xs (d + 0) kp tl rl rh x2 q0 I L q1 hq1) ?_
        refine bs_st 1 (x' := (42, [some (.ref 33), some (.int x1), some (.int q1), some (.int x3)], [], hp kp (some 3) rh tl rl I L)) rfl ?_
        exact tc_13_1_1 Ls xs d kp tl rl rh n I L _ hK0 x1 q1 x3 r hf
def f_13_1 (n : Nat) (x1 : Int32) (I : FI) (L : FL) : Option (Int32) :=
  c_13_1_0 n I L n x1 (0 : Int32) (0 : Int32)
set_option maxHeartbeats 1000000 in
set_option maxRecDepth 20000 in
theorem t_13_1 (Ls : Nat) (xs : Nat → Int32) (d : Nat) (kp : Option Nat) (tl : List (Nat × Nat)) (rl : List (List (Option Nat))) (rh : Option Nat) (n : Nat) (x1 : Int32) (I : FI) (L : FL) (r : Int32) (hf : f_13_1 n x1 I L = some r) : pEN Ls xs (d + 2) 13 [.ref 33, .int x1] (hp kp (some 3) rh tl rl I L) = some (some (.int r), hp kp (some 3) rh tl rl I L) := by
  refine en_run (d := d + 1) (cd := cd_13) (f := (sf 2 rs_2 false 4 (some (.int)) Ls xs (d + 1))) rfl rfl (x := (0, [some (.ref 33), some (.int x1), none, none], [], hp kp (some 3) rh tl rl I L)) rfl rfl (Nat.le_of_ble_eq_true rfl) ?_
  unfold f_13_1 at hf
  refine bs_st 4 (x' := (4, [some (.ref 33), some (.int x1), some (.int (0 : Int32)), some (.int (0 : Int32))], [], hp kp (some 3) rh tl rl I L)) rfl ?_
  exact tc_13_1_0 Ls xs d kp tl rl rh n I L n x1 (0 : Int32) (0 : Int32) r hf
/-- Clues.choose() on (33,) -/
def c_12_1_2 (n : Nat) (K0 : Int32 → FI → FL → Option (FI × FL)) (K1 : Int32 → Int32 → FI → FL → Option (FI × FL)) (x1 : Int32) (x2 : Int32) (I : FI) (L : FL) : Option (FI × FL) :=
  K1 x1 (x2 + (1 : Int32)) I L
set_option maxHeartbeats 1000000 in
set_option maxRecDepth 20000 in
theorem tc_12_1_2 (Ls : Nat) (xs : Nat → Int32) (d : Nat) (kp : Option Nat) (tl : List (Nat × Nat)) (rl : List (List (Option Nat))) (rh : Option Nat) (n : Nat) (K0 : Int32 → FI → FL → Option (FI × FL)) (K1 : Int32 → Int32 → FI → FL → Option (FI × FL)) (hK0 : ∀ (w2 : Option Value) (w3 : Option Value) (x1 : Int32) (I : FI) (L : FL) (r : FI × FL), K0 x1 I L = some r → Bs cd_12 (sf 2 rs_2 false 4 none Ls xs (d + 2)) (18, [some (.ref 33), some (.int x1), w2, w3], [], hp kp (some 3) rh tl rl I L) (none, hp kp (some 3) rh tl rl r.1 r.2)) (hK1 : ∀ (w3 : Option Value) (x1 : Int32) (x2 : Int32) (I : FI) (L : FL) (r : FI × FL), K1 x1 x2 I L = some r → Bs cd_12 (sf 2 rs_2 false 4 none Ls xs (d + 2)) (28, [some (.ref 33), some (.int x1), some (.int x2), w3], [], hp kp (some 3) rh tl rl I L) (none, hp kp (some 3) rh tl rl r.1 r.2)) (w3 : Option Value) (x1 : Int32) (x2 : Int32) (I : FI) (L : FL) (r : FI × FL) (hf : c_12_1_2 n K0 K1 x1 x2 I L = some r) : Bs cd_12 (sf 2 rs_2 false 4 none Ls xs (d + 2)) (69, [some (.ref 33), some (.int x1), some (.int x2), w3], [], hp kp (some 3) rh tl rl I L) (none, hp kp (some 3) rh tl rl r.1 r.2) := by
  unfold c_12_1_2 at hf
  refine bs_st 2 (x' := (28, [some (.ref 33), some (.int x1), some (.int (x2 + (1 : Int32))), w3], [], hp kp (some 3) rh tl rl I L)) rfl ?_
  exact hK1 w3 x1 (x2 + (1 : Int32)) I L r hf
def b_12_1_1 (n : Nat) (K0 : Int32 → FI → FL → Option (FI × FL)) (K1 : Int32 → Int32 → FI → FL → Option (FI × FL)) (x1 : Int32) (x2 : Int32) (I : FI) (L : FL) : Option (FI × FL) :=
  if I 33 5 ≤ x2 then
    K0 (x1 + (1 : Int32)) I L
  else
    (f_13_1 n ((x2 * (4 : Int32)) + x1) I L).bind fun q1 =>
    if I 33 3 ≤ q1 then
      c_12_1_2 n K0 K1 x1 x2 I L
    else
      c_12_1_2 n K0 K1 x1 x2 (u2 (u2 I 33 3 q1) 33 2 (((100 : Int32) * x1) + x2)) L
def c_12_1_1 (n : Nat) (K0 : Int32 → FI → FL → Option (FI × FL)) : Nat → Int32 → Int32 → FI → FL → Option (FI × FL)
  | 0, _, _, _, _ => none
  | m + 1, x1, x2, I, L => b_12_1_1 n K0 (c_12_1_1 n K0 m) x1 x2 I L
set_option maxHeartbeats 1000000 in
set_option maxRecDepth 20000 in
theorem tc_12_1_1 (Ls : Nat) (xs : Nat → Int32) (d : Nat) (kp : Option Nat) (tl : List (Nat × Nat)) (rl : List (List (Option Nat))) (rh : Option Nat) (n : Nat) (K0 : Int32 → FI → FL → Option (FI × FL)) (hK0 : ∀ (w2 : Option Value) (w3 : Option Value) (x1 : Int32) (I : FI) (L : FL) (r : FI × FL), K0 x1 I L = some r → Bs cd_12 (sf 2 rs_2 false 4 none Ls xs (d + 2)) (18, [some (.ref 33), some (.int x1), w2, w3], [], hp kp (some 3) rh tl rl I L) (none, hp kp (some 3) rh tl rl r.1 r.2)) : ∀ (m : Nat) (w3 : Option Value) (x1 : Int32) (x2 : Int32) (I : FI) (L : FL) (r : FI × FL), c_12_1_1 n K0 m x1 x2 I L = some r → Bs cd_12 (sf 2 rs_2 false 4 none Ls xs (d + 2)) (28, [some (.ref 33), some (.int x1), some (.int x2), w3], [], hp kp (some 3) rh tl rl I L) (none, hp kp (some 3) rh tl rl r.1 r.2)
  | 0, w3, x1, x2, I, L, r, hf => by cases hf
  | m + 1, w3, x1, x2, I, L, r, hf => by
    unfold c_12_1_1 b_12_1_1 at hf
    have hK1 := tc_12_1_1 Ls xs d kp tl rl rh n K0 hK0 m
    refine bs_st 3 (x' := (33, [some (.ref 33), some (.int x1), some (.int x2), w3], [.int (I 33 5), .int x2], hp kp (some 3) rh tl rl I L)) rfl ?_
    refine bs_br (t := 75) (e := 36) (lo := [some (.ref 33), some (.int x1), some (.int x2), w3]) (st := []) (h := hp kp (some 3) rh tl rl I L) rfl hf (fun hc hf => ?_) (fun hc hf => ?_)
    · refine bs_st 2 (x' := (18, [some (.ref 33), some (.int (x1 + (1 : Int32))), some (.int x2), w3], [], hp kp (some 3) rh tl rl I L)) rfl ?_
      exact hK0 (some (.int x2)) w3 (x1 + (1 : Int32)) I L r hf
    · refine bs_st 6 (x' := (42, [some (.ref 33), some (.int x1), some (.int x2), w3], [.int ((x2 * (4 : Int32)) + x1), .ref 33], hp kp (some 3) rh tl rl I L)) rfl ?_
      obtain ⟨q1, hq1, hf⟩ := Option.bind_eq_some_iff.mp hf
      refine bs_call (o := pEN Ls xs (d + 2) 13 [.ref 33, .int ((x2 * (4 : Int32)) + x1)] (hp kp (some 3) rh tl rl I L)) (w := some (.int q1)) (h' := hp kp (some 3) rh tl rl I L) (pc := 45) (lo := [some (.ref 33), some (.int x1), some (.int x2), w3]) (rest := []) rfl (t_13_1 Ls xs (d + 0) kp tl rl rh n ((x2 * (4 : Int32)) + x1) I L q1 hq1) ?_
      refine bs_st 4 (x' := (51, [some (.ref 33), some (.int x1), some (.int x2), some (.int q1)], [.int (I 33 3), .int q1], hp kp (some 3) rh tl rl I L)) rfl ?_
      refine bs_br (t := 69) (e := 54) (lo := [some (.ref 33), some (.int x1), some (.int x2), some (.int q1)]) (st := []) (h := hp kp (some 3) rh tl rl I L) rfl hf (fun hc hf => ?_) (fun hc hf => ?_)
      · exact tc_12_1_2 Ls xs d kp tl rl rh n _ _ hK0 hK1 (some (.int q1)) x1 x2 I L r hf
      · refine bs_st 10 (x' := (69, [some (.ref 33), some (.int x1), some (.int x2), some (.int q1)], [], hp kp (some 3) rh tl rl (u2 (u2 I 33 3 q1) 33 2 (((100 : Int32) * x1) + x2)) L)) rfl ?_
        exact tc_12_1_2 Ls xs d kp tl rl rh n _ _ hK0 hK1 (some (.int q1)) x1 x2 (u2 (u2 I 33 3 q1) 33 2 (((100 : Int32) * x1) + x2)) L r hf
def b_12_1_0 (n : Nat) (K0 : Int32 → FI → FL → Option (FI × FL)) (x1 : Int32) (I : FI) (L : FL) : Option (FI × FL) :=
  if I 33 4 ≤ x1 then
    some (I, L)
  else
    c_12_1_1 n K0 n x1 (0 : Int32) I L
def c_12_1_0 (n : Nat) : Nat → Int32 → FI → FL → Option (FI × FL)
  | 0, _, _, _ => none
  | m + 1, x1, I, L => b_12_1_0 n (c_12_1_0 n m) x1 I L
set_option maxHeartbeats 1000000 in
set_option maxRecDepth 20000 in
theorem tc_12_1_0 (Ls : Nat) (xs : Nat → Int32) (d : Nat) (kp : Option Nat) (tl : List (Nat × Nat)) (rl : List (List (Option Nat))) (rh : Option Nat) (n : Nat) : ∀ (m : Nat) (w2 : Option Value) (w3 : Option Value) (x1 : Int32) (I : FI) (L : FL) (r : FI × FL), c_12_1_0 n m x1 I L = some r → Bs cd_12 (sf 2 rs_2 false 4 none Ls xs (d + 2)) (18, [some (.ref 33), some (.int x1), w2, w3], [], hp kp (some 3) rh tl rl I L) (none, hp kp (some 3) rh tl rl r.1 r.2)
  | 0, w2, w3, x1, I, L, r, hf => by cases hf
  | m + 1, w2, w3, x1, I, L, r, hf => by
    unfold c_12_1_0 b_12_1_0 at hf
    have hK0 := tc_12_1_0 Ls xs d kp tl rl rh n m
    refine bs_st 3 (x' := (23, [some (.ref 33), some (.int x1), w2, w3], [.int (I 33 4), .int x1], hp kp (some 3) rh tl rl I L)) rfl ?_
    refine bs_br (t := 81) (e := 26) (lo := [some (.ref 33), some (.int x1), w2, w3]) (st := []) (h := hp kp (some 3) rh tl rl I L) rfl hf (fun hc hf => ?_) (fun hc hf => ?_)
    · cases hf
      exact bs_ret rfl
    · refine bs_st 2 (x' := (28, [some (.ref 33), some (.int x1), some (.int (0 : Int32)), w3], [], hp kp (some 3) rh tl rl I L)) rfl ?_
      exact tc_12_1_1 Ls xs d kp tl rl rh n _ hK0 n w3 x1 (0 : Int32) I L r hf
def f_12_1 (n : Nat) (I : FI) (L : FL) : Option (FI × FL) :=
  (f_360_1 (I 33 1) I L).bind fun q0 =>
  c_12_1_0 n n (0 : Int32) (u2 (u2 I 33 3 q0) 33 2 (-1 : Int32)) L
set_option maxHeartbeats 1000000 in
set_option maxRecDepth 20000 in
theorem t_12_1 (Ls : Nat) (xs : Nat → Int32) (d : Nat) (kp : Option Nat) (tl : List (Nat × Nat)) (rl : List (List (Option Nat))) (rh : Option Nat) (n : Nat) (I : FI) (L : FL) (r : FI × FL) (hf : f_12_1 n I L = some r) : pEN Ls xs (d + 3) 12 [.ref 33] (hp kp (some 3) rh tl rl I L) = some (none, hp kp (some 3) rh tl rl r.1 r.2) := by
  refine en_run (d := d + 2) (cd := cd_12) (f := (sf 2 rs_2 false 4 none Ls xs (d + 2))) rfl rfl (x := (0, [some (.ref 33), none, none, none], [], hp kp (some 3) rh tl rl I L)) rfl rfl (Nat.le_of_ble_eq_true rfl) ?_
  unfold f_12_1 at hf
  refine bs_st 3 (x' := (5, [some (.ref 33), none, none, none], [.int (I 33 1), .ref 33], hp kp (some 3) rh tl rl I L)) rfl ?_
  obtain ⟨q0, hq0, hf⟩ := Option.bind_eq_some_iff.mp hf
  refine bs_call (o := pEN Ls xs (d + 2) 360 [.int (I 33 1)] (hp kp (some 3) rh tl rl I L)) (w := some (.int q0)) (h' := hp kp (some 3) rh tl rl I L) (pc := 8) (lo := [some (.ref 33), none, none, none]) (rest := [.ref 33]) rfl (t_360_1 Ls xs (d + 1) kp tl rl rh (I 33 1) I L q0 hq0) ?_
  refine bs_st 6 (x' := (18, [some (.ref 33), some (.int (0 : Int32)), none, none], [], hp kp (some 3) rh tl rl (u2 (u2 I 33 3 q0) 33 2 (-1 : Int32)) L)) rfl ?_
  exact tc_12_1_0 Ls xs d kp tl rl rh n n none none (0 : Int32) (u2 (u2 I 33 3 q0) 33 2 (-1 : Int32)) L r hf
/-- Night.prepare(LLampRounds$House;LLampRounds$Acts;I) on (26, 3, 11) -/
def c_53_1_3 (n : Nat) (K2 : Int32 → FI → FL → Option (FI × FL)) (x4 : Int32) (I : FI) (L : FL) : Option (FI × FL) :=
  K2 (x4 + (1 : Int32)) I L
set_option maxHeartbeats 1000000 in
set_option maxRecDepth 20000 in
theorem tc_53_1_3 (Ls : Nat) (xs : Nat → Int32) (d : Nat) (kp : Option Nat) (tl : List (Nat × Nat)) (rl : List (List (Option Nat))) (rh : Option Nat) (n : Nat) (K2 : Int32 → FI → FL → Option (FI × FL)) (hK2 : ∀ (w1 : Option Value) (w3 : Option Value) (x4 : Int32) (I : FI) (L : FL) (r : FI × FL), K2 x4 I L = some r → Bs cd_53 (sf 6 rs_6 false 5 none Ls xs (d + 0)) (136, [some (.ref 26), w1, some (.ref 11), w3, some (.int x4)], [], hp kp (some 3) rh tl rl I L) (none, hp kp (some 3) rh tl rl r.1 r.2)) (w1 : Option Value) (w3 : Option Value) (x4 : Int32) (I : FI) (L : FL) (r : FI × FL) (hf : c_53_1_3 n K2 x4 I L = some r) : Bs cd_53 (sf 6 rs_6 false 5 none Ls xs (d + 0)) (201, [some (.ref 26), w1, some (.ref 11), w3, some (.int x4)], [], hp kp (some 3) rh tl rl I L) (none, hp kp (some 3) rh tl rl r.1 r.2) := by
  unfold c_53_1_3 at hf
  refine bs_st 2 (x' := (136, [some (.ref 26), w1, some (.ref 11), (pcl w3), some (.int (x4 + (1 : Int32)))], [], hp kp (some 3) rh tl rl I L)) rfl ?_
  exact hK2 w1 (pcl w3) (x4 + (1 : Int32)) I L r hf
def b_53_1_2 (n : Nat) (K2 : Int32 → FI → FL → Option (FI × FL)) (x4 : Int32) (I : FI) (L : FL) : Option (FI × FL) :=
  if I 11 2 ≤ x4 then
    some (I, L)
  else
    if pin x4 30 = true then (if ¬ I 12 x4.toNatClampNeg = (-1 : Int32) then
        if pin x4 30 = true then (if pin (I 13 x4.toNatClampNeg) 30 = true then (if pin x4 30 = true then (if pin (I 13 x4.toNatClampNeg) 30 = true then c_53_1_3 n K2 x4 (u2 I 28 ((I 13 x4.toNatClampNeg).toNatClampNeg) ((I 28 ((I 13 x4.toNatClampNeg).toNatClampNeg)) ||| ((1 : Int32) <<< ((I 12 x4.toNatClampNeg) &&& 31)))) L else none) else none) else none) else none
      else
        if pin x4 30 = true then c_53_1_3 n K2 x4 (u2 I 26 9 ((I 26 9) ||| ((1 : Int32) <<< ((I 13 x4.toNatClampNeg) &&& 31)))) L else none) else none
def c_53_1_2 (n : Nat) : Nat → Int32 → FI → FL → Option (FI × FL)
  | 0, _, _, _ => none
  | m + 1, x4, I, L => b_53_1_2 n (c_53_1_2 n m) x4 I L
set_option maxHeartbeats 1000000 in
set_option maxRecDepth 20000 in
theorem tc_53_1_2 (Ls : Nat) (xs : Nat → Int32) (d : Nat) (kp : Option Nat) (tl : List (Nat × Nat)) (rl : List (List (Option Nat))) (rh : Option Nat) (n : Nat) : ∀ (m : Nat) (w1 : Option Value) (w3 : Option Value) (x4 : Int32) (I : FI) (L : FL) (r : FI × FL), c_53_1_2 n m x4 I L = some r → Bs cd_53 (sf 6 rs_6 false 5 none Ls xs (d + 0)) (136, [some (.ref 26), w1, some (.ref 11), w3, some (.int x4)], [], hp kp (some 3) rh tl rl I L) (none, hp kp (some 3) rh tl rl r.1 r.2)
  | 0, w1, w3, x4, I, L, r, hf => by cases hf
  | m + 1, w1, w3, x4, I, L, r, hf => by
    unfold c_53_1_2 b_53_1_2 at hf
    have hK2 := tc_53_1_2 Ls xs d kp tl rl rh n m
    refine bs_st 3 (x' := (142, [some (.ref 26), w1, some (.ref 11), w3, some (.int x4)], [.int (I 11 2), .int x4], hp kp (some 3) rh tl rl I L)) rfl ?_
    refine bs_br (t := 207) (e := 145) (lo := [some (.ref 26), w1, some (.ref 11), w3, some (.int x4)]) (st := []) (h := hp kp (some 3) rh tl rl I L) rfl hf (fun hc hf => ?_) (fun hc hf => ?_)
    · cases hf
      exact bs_ret rfl
    · refine bs_st 3 (x' := (151, [some (.ref 26), w1, some (.ref 11), w3, some (.int x4)], [.int x4, .ref 12], hp kp (some 3) rh tl rl I L)) rfl ?_
      refine bs_gd (x' := (152, [some (.ref 26), w1, some (.ref 11), w3, some (.int x4)], [.int (I 12 x4.toNatClampNeg)], hp kp (some 3) rh tl rl I L)) rfl hf (fun hc hf => ?_)
      refine bs_st 1 (x' := (153, [some (.ref 26), w1, some (.ref 11), w3, some (.int x4)], [.int (-1 : Int32), .int (I 12 x4.toNatClampNeg)], hp kp (some 3) rh tl rl I L)) rfl ?_
      refine bs_br (t := 177) (e := 156) (lo := [some (.ref 26), w1, some (.ref 11), w3, some (.int x4)]) (st := []) (h := hp kp (some 3) rh tl rl I L) rfl hf (fun hc hf => ?_) (fun hc hf => ?_)
      · refine bs_st 5 (x' := (187, [some (.ref 26), w1, some (.ref 11), w3, some (.int x4)], [.int x4, .ref 13, .ref 28], hp kp (some 3) rh tl rl I L)) rfl ?_
        refine bs_gd (x' := (188, [some (.ref 26), w1, some (.ref 11), w3, some (.int x4)], [.int (I 13 x4.toNatClampNeg), .ref 28], hp kp (some 3) rh tl rl I L)) rfl hf (fun hc hf => ?_)
        refine bs_st 1 (x' := (189, [some (.ref 26), w1, some (.ref 11), w3, some (.int x4)], [.int (I 13 x4.toNatClampNeg), .ref 28, .int (I 13 x4.toNatClampNeg), .ref 28], hp kp (some 3) rh tl rl I L)) rfl ?_
        refine bs_gd (x' := (190, [some (.ref 26), w1, some (.ref 11), w3, some (.int x4)], [.int (I 28 ((I 13 x4.toNatClampNeg).toNatClampNeg)), .int (I 13 x4.toNatClampNeg), .ref 28], hp kp (some 3) rh tl rl I L)) rfl hf (fun hc hf => ?_)
        refine bs_st 4 (x' := (197, [some (.ref 26), w1, some (.ref 11), w3, some (.int x4)], [.int x4, .ref 12, .int (1 : Int32), .int (I 28 ((I 13 x4.toNatClampNeg).toNatClampNeg)), .int (I 13 x4.toNatClampNeg), .ref 28], hp kp (some 3) rh tl rl I L)) rfl ?_
        refine bs_gd (x' := (198, [some (.ref 26), w1, some (.ref 11), w3, some (.int x4)], [.int (I 12 x4.toNatClampNeg), .int (1 : Int32), .int (I 28 ((I 13 x4.toNatClampNeg).toNatClampNeg)), .int (I 13 x4.toNatClampNeg), .ref 28], hp kp (some 3) rh tl rl I L)) rfl hf (fun hc hf => ?_)
        refine bs_st 2 (x' := (200, [some (.ref 26), w1, some (.ref 11), w3, some (.int x4)], [.int ((I 28 ((I 13 x4.toNatClampNeg).toNatClampNeg)) ||| ((1 : Int32) <<< ((I 12 x4.toNatClampNeg) &&& 31))), .int (I 13 x4.toNatClampNeg), .ref 28], hp kp (some 3) rh tl rl I L)) rfl ?_
        refine bs_gd (x' := (201, [some (.ref 26), w1, some (.ref 11), w3, some (.int x4)], [], hp kp (some 3) rh tl rl (u2 I 28 ((I 13 x4.toNatClampNeg).toNatClampNeg) ((I 28 ((I 13 x4.toNatClampNeg).toNatClampNeg)) ||| ((1 : Int32) <<< ((I 12 x4.toNatClampNeg) &&& 31)))) L)) rfl hf (fun hc hf => ?_)
        exact tc_53_1_3 Ls xs d kp tl rl rh n _ hK2 w1 w3 x4 (u2 I 28 ((I 13 x4.toNatClampNeg).toNatClampNeg) ((I 28 ((I 13 x4.toNatClampNeg).toNatClampNeg)) ||| ((1 : Int32) <<< ((I 12 x4.toNatClampNeg) &&& 31)))) L r hf
      · refine bs_st 7 (x' := (168, [some (.ref 26), w1, some (.ref 11), w3, some (.int x4)], [.int x4, .ref 13, .int (1 : Int32), .int (I 26 9), .ref 26], hp kp (some 3) rh tl rl I L)) rfl ?_
        refine bs_gd (x' := (169, [some (.ref 26), w1, some (.ref 11), w3, some (.int x4)], [.int (I 13 x4.toNatClampNeg), .int (1 : Int32), .int (I 26 9), .ref 26], hp kp (some 3) rh tl rl I L)) rfl hf (fun hc hf => ?_)
        refine bs_st 4 (x' := (201, [some (.ref 26), w1, some (.ref 11), w3, some (.int x4)], [], hp kp (some 3) rh tl rl (u2 I 26 9 ((I 26 9) ||| ((1 : Int32) <<< ((I 13 x4.toNatClampNeg) &&& 31)))) L)) rfl ?_
        exact tc_53_1_3 Ls xs d kp tl rl rh n _ hK2 w1 w3 x4 (u2 I 26 9 ((I 26 9) ||| ((1 : Int32) <<< ((I 13 x4.toNatClampNeg) &&& 31)))) L r hf
def c_53_1_4 (n : Nat) (K1 : Int32 → Int32 → FI → FL → Option (FI × FL)) (x3 : Int32) (x4 : Int32) (I : FI) (L : FL) : Option (FI × FL) :=
  K1 x3 (x4 + (1 : Int32)) I L
set_option maxHeartbeats 1000000 in
set_option maxRecDepth 20000 in
theorem tc_53_1_4 (Ls : Nat) (xs : Nat → Int32) (d : Nat) (kp : Option Nat) (tl : List (Nat × Nat)) (rl : List (List (Option Nat))) (rh : Option Nat) (n : Nat) (K1 : Int32 → Int32 → FI → FL → Option (FI × FL)) (hK1 : ∀ (x3 : Int32) (x4 : Int32) (I : FI) (L : FL) (r : FI × FL), K1 x3 x4 I L = some r → Bs cd_53 (sf 6 rs_6 false 5 none Ls xs (d + 0)) (85, [some (.ref 26), some (.ref 3), some (.ref 11), some (.int x3), some (.int x4)], [], hp kp (some 3) rh tl rl I L) (none, hp kp (some 3) rh tl rl r.1 r.2)) (x3 : Int32) (x4 : Int32) (I : FI) (L : FL) (r : FI × FL) (hf : c_53_1_4 n K1 x3 x4 I L = some r) : Bs cd_53 (sf 6 rs_6 false 5 none Ls xs (d + 0)) (127, [some (.ref 26), some (.ref 3), some (.ref 11), some (.int x3), some (.int x4)], [], hp kp (some 3) rh tl rl I L) (none, hp kp (some 3) rh tl rl r.1 r.2) := by
  unfold c_53_1_4 at hf
  refine bs_st 2 (x' := (85, [some (.ref 26), some (.ref 3), some (.ref 11), some (.int x3), some (.int (x4 + (1 : Int32)))], [], hp kp (some 3) rh tl rl I L)) rfl ?_
  exact hK1 x3 (x4 + (1 : Int32)) I L r hf
def b_53_1_1 (n : Nat) (K1 : Int32 → Int32 → FI → FL → Option (FI × FL)) (x3 : Int32) (x4 : Int32) (I : FI) (L : FL) : Option (FI × FL) :=
  if I 3 6 ≤ x4 then
    c_53_1_2 n n (0 : Int32) I L
  else
    if ((x3 >>> (x4 &&& 31)) &&& (1 : Int32)) = 0 then
      c_53_1_4 n K1 x3 x4 I L
    else
      if pin x4 5 = true then (if pin (I 9 x4.toNatClampNeg) 30 = true then (if pin x4 5 = true then (if pin (I 9 x4.toNatClampNeg) 30 = true then c_53_1_4 n K1 x3 x4 (u2 I 28 ((I 9 x4.toNatClampNeg).toNatClampNeg) ((I 28 ((I 9 x4.toNatClampNeg).toNatClampNeg)) ||| ((1 : Int32) <<< ((I 8 x4.toNatClampNeg) &&& 31)))) L else none) else none) else none) else none
def c_53_1_1 (n : Nat) : Nat → Int32 → Int32 → FI → FL → Option (FI × FL)
  | 0, _, _, _, _ => none
  | m + 1, x3, x4, I, L => b_53_1_1 n (c_53_1_1 n m) x3 x4 I L
set_option maxHeartbeats 1000000 in
set_option maxRecDepth 20000 in
theorem tc_53_1_1 (Ls : Nat) (xs : Nat → Int32) (d : Nat) (kp : Option Nat) (tl : List (Nat × Nat)) (rl : List (List (Option Nat))) (rh : Option Nat) (n : Nat) : ∀ (m : Nat) (x3 : Int32) (x4 : Int32) (I : FI) (L : FL) (r : FI × FL), c_53_1_1 n m x3 x4 I L = some r → Bs cd_53 (sf 6 rs_6 false 5 none Ls xs (d + 0)) (85, [some (.ref 26), some (.ref 3), some (.ref 11), some (.int x3), some (.int x4)], [], hp kp (some 3) rh tl rl I L) (none, hp kp (some 3) rh tl rl r.1 r.2)
  | 0, x3, x4, I, L, r, hf => by cases hf
  | m + 1, x3, x4, I, L, r, hf => by
    unfold c_53_1_1 b_53_1_1 at hf
    have hK1 := tc_53_1_1 Ls xs d kp tl rl rh n m
    refine bs_st 3 (x' := (91, [some (.ref 26), some (.ref 3), some (.ref 11), some (.int x3), some (.int x4)], [.int (I 3 6), .int x4], hp kp (some 3) rh tl rl I L)) rfl ?_
    refine bs_br (t := 133) (e := 94) (lo := [some (.ref 26), some (.ref 3), some (.ref 11), some (.int x3), some (.int x4)]) (st := []) (h := hp kp (some 3) rh tl rl I L) rfl hf (fun hc hf => ?_) (fun hc hf => ?_)
    · refine bs_st 2 (x' := (136, [some (.ref 26), some (.ref 3), some (.ref 11), some (.int x3), some (.int (0 : Int32))], [], hp kp (some 3) rh tl rl I L)) rfl ?_
      exact tc_53_1_2 Ls xs d kp tl rl rh n n (some (.ref 3)) (some (.int x3)) (0 : Int32) I L r hf
    · refine bs_st 5 (x' := (100, [some (.ref 26), some (.ref 3), some (.ref 11), some (.int x3), some (.int x4)], [.int ((x3 >>> (x4 &&& 31)) &&& (1 : Int32))], hp kp (some 3) rh tl rl I L)) rfl ?_
      refine bs_br (t := 127) (e := 103) (lo := [some (.ref 26), some (.ref 3), some (.ref 11), some (.int x3), some (.int x4)]) (st := []) (h := hp kp (some 3) rh tl rl I L) rfl hf (fun hc hf => ?_) (fun hc hf => ?_)
      · exact tc_53_1_4 Ls xs d kp tl rl rh n _ hK1 x3 x4 I L r hf
      · refine bs_st 5 (x' := (113, [some (.ref 26), some (.ref 3), some (.ref 11), some (.int x3), some (.int x4)], [.int x4, .ref 9, .ref 28], hp kp (some 3) rh tl rl I L)) rfl ?_
        refine bs_gd (x' := (114, [some (.ref 26), some (.ref 3), some (.ref 11), some (.int x3), some (.int x4)], [.int (I 9 x4.toNatClampNeg), .ref 28], hp kp (some 3) rh tl rl I L)) rfl hf (fun hc hf => ?_)
        refine bs_st 1 (x' := (115, [some (.ref 26), some (.ref 3), some (.ref 11), some (.int x3), some (.int x4)], [.int (I 9 x4.toNatClampNeg), .ref 28, .int (I 9 x4.toNatClampNeg), .ref 28], hp kp (some 3) rh tl rl I L)) rfl ?_
        refine bs_gd (x' := (116, [some (.ref 26), some (.ref 3), some (.ref 11), some (.int x3), some (.int x4)], [.int (I 28 ((I 9 x4.toNatClampNeg).toNatClampNeg)), .int (I 9 x4.toNatClampNeg), .ref 28], hp kp (some 3) rh tl rl I L)) rfl hf (fun hc hf => ?_)
        refine bs_st 4 (x' := (123, [some (.ref 26), some (.ref 3), some (.ref 11), some (.int x3), some (.int x4)], [.int x4, .ref 8, .int (1 : Int32), .int (I 28 ((I 9 x4.toNatClampNeg).toNatClampNeg)), .int (I 9 x4.toNatClampNeg), .ref 28], hp kp (some 3) rh tl rl I L)) rfl ?_
        refine bs_gd (x' := (124, [some (.ref 26), some (.ref 3), some (.ref 11), some (.int x3), some (.int x4)], [.int (I 8 x4.toNatClampNeg), .int (1 : Int32), .int (I 28 ((I 9 x4.toNatClampNeg).toNatClampNeg)), .int (I 9 x4.toNatClampNeg), .ref 28], hp kp (some 3) rh tl rl I L)) rfl hf (fun hc hf => ?_)
        refine bs_st 2 (x' := (126, [some (.ref 26), some (.ref 3), some (.ref 11), some (.int x3), some (.int x4)], [.int ((I 28 ((I 9 x4.toNatClampNeg).toNatClampNeg)) ||| ((1 : Int32) <<< ((I 8 x4.toNatClampNeg) &&& 31))), .int (I 9 x4.toNatClampNeg), .ref 28], hp kp (some 3) rh tl rl I L)) rfl ?_
        refine bs_gd (x' := (127, [some (.ref 26), some (.ref 3), some (.ref 11), some (.int x3), some (.int x4)], [], hp kp (some 3) rh tl rl (u2 I 28 ((I 9 x4.toNatClampNeg).toNatClampNeg) ((I 28 ((I 9 x4.toNatClampNeg).toNatClampNeg)) ||| ((1 : Int32) <<< ((I 8 x4.toNatClampNeg) &&& 31)))) L)) rfl hf (fun hc hf => ?_)
        exact tc_53_1_4 Ls xs d kp tl rl rh n _ hK1 x3 x4 (u2 I 28 ((I 9 x4.toNatClampNeg).toNatClampNeg) ((I 28 ((I 9 x4.toNatClampNeg).toNatClampNeg)) ||| ((1 : Int32) <<< ((I 8 x4.toNatClampNeg) &&& 31)))) L r hf
def b_53_1_0 (n : Nat) (K0 : Int32 → Int32 → FI → FL → Option (FI × FL)) (x3 : Int32) (x4 : Int32) (I : FI) (L : FL) : Option (FI × FL) :=
  if (30 : Int32) ≤ x4 then
    c_53_1_1 n n x3 (0 : Int32) I L
  else
    if pin x4 30 = true then K0 x3 (x4 + (1 : Int32)) (u2 I 28 x4.toNatClampNeg (0 : Int32)) L else none
def c_53_1_0 (n : Nat) : Nat → Int32 → Int32 → FI → FL → Option (FI × FL)
  | 0, _, _, _, _ => none
  | m + 1, x3, x4, I, L => b_53_1_0 n (c_53_1_0 n m) x3 x4 I L
set_option maxHeartbeats 1000000 in
set_option maxRecDepth 20000 in
theorem tc_53_1_0 (Ls : Nat) (xs : Nat → Int32) (d : Nat) (kp : Option Nat) (tl : List (Nat × Nat)) (rl : List (List (Option Nat))) (rh : Option Nat) (n : Nat) : ∀ (m : Nat) (x3 : Int32) (x4 : Int32) (I : FI) (L : FL) (r : FI × FL), c_53_1_0 n m x3 x4 I L = some r → Bs cd_53 (sf 6 rs_6 false 5 none Ls xs (d + 0)) (61, [some (.ref 26), some (.ref 3), some (.ref 11), some (.int x3), some (.int x4)], [], hp kp (some 3) rh tl rl I L) (none, hp kp (some 3) rh tl rl r.1 r.2)
  | 0, x3, x4, I, L, r, hf => by cases hf
  | m + 1, x3, x4, I, L, r, hf => by
    unfold c_53_1_0 b_53_1_0 at hf
    have hK0 := tc_53_1_0 Ls xs d kp tl rl rh n m
    refine bs_st 2 (x' := (65, [some (.ref 26), some (.ref 3), some (.ref 11), some (.int x3), some (.int x4)], [.int (30 : Int32), .int x4], hp kp (some 3) rh tl rl I L)) rfl ?_
    refine bs_br (t := 82) (e := 68) (lo := [some (.ref 26), some (.ref 3), some (.ref 11), some (.int x3), some (.int x4)]) (st := []) (h := hp kp (some 3) rh tl rl I L) rfl hf (fun hc hf => ?_) (fun hc hf => ?_)
    · refine bs_st 2 (x' := (85, [some (.ref 26), some (.ref 3), some (.ref 11), some (.int x3), some (.int (0 : Int32))], [], hp kp (some 3) rh tl rl I L)) rfl ?_
      exact tc_53_1_1 Ls xs d kp tl rl rh n n x3 (0 : Int32) I L r hf
    · refine bs_st 4 (x' := (75, [some (.ref 26), some (.ref 3), some (.ref 11), some (.int x3), some (.int x4)], [.int (0 : Int32), .int x4, .ref 28], hp kp (some 3) rh tl rl I L)) rfl ?_
      refine bs_gd (x' := (76, [some (.ref 26), some (.ref 3), some (.ref 11), some (.int x3), some (.int x4)], [], hp kp (some 3) rh tl rl (u2 I 28 x4.toNatClampNeg (0 : Int32)) L)) rfl hf (fun hc hf => ?_)
      refine bs_st 2 (x' := (61, [some (.ref 26), some (.ref 3), some (.ref 11), some (.int x3), some (.int (x4 + (1 : Int32)))], [], hp kp (some 3) rh tl rl (u2 I 28 x4.toNatClampNeg (0 : Int32)) L)) rfl ?_
      exact hK0 x3 (x4 + (1 : Int32)) (u2 I 28 x4.toNatClampNeg (0 : Int32)) L r hf
def f_53_1 (n : Nat) (x3 : Int32) (I : FI) (L : FL) : Option (FI × FL) :=
  c_53_1_0 n n x3 (0 : Int32) (c2 (u2 (u2 (u2 (u2 (u2 (u2 I 26 10 (I 3 4)) 26 11 (I 3 3)) 26 6 (I 3 1)) 26 7 (0 : Int32)) 26 8 (0 : Int32)) 26 9 (0 : Int32)) 4 27 0 0 4) L
set_option maxHeartbeats 1000000 in
set_option maxRecDepth 20000 in
theorem t_53_1 (Ls : Nat) (xs : Nat → Int32) (d : Nat) (kp : Option Nat) (tl : List (Nat × Nat)) (rl : List (List (Option Nat))) (rh : Option Nat) (n : Nat) (x3 : Int32) (I : FI) (L : FL) (r : FI × FL) (hf : f_53_1 n x3 I L = some r) : pEN Ls xs (d + 1) 53 [.ref 26, .ref 3, .ref 11, .int x3] (hp kp (some 3) rh tl rl I L) = some (none, hp kp (some 3) rh tl rl r.1 r.2) := by
  refine en_run (d := d + 0) (cd := cd_53) (f := (sf 6 rs_6 false 5 none Ls xs (d + 0))) rfl rfl (x := (0, [some (.ref 26), some (.ref 3), some (.ref 11), some (.int x3), none], [], hp kp (some 3) rh tl rl I L)) rfl rfl (Nat.le_of_ble_eq_true rfl) ?_
  unfold f_53_1 at hf
  refine bs_st 2 (x' := (2, [some (.ref 26), some (.ref 3), some (.ref 11), some (.int x3), none], [.ref 3, .ref 26], hp kp (some 3) rh tl rl I L)) rfl ?_
  refine bs_pr_nh rfl ?_
  refine bs_st 24 (x' := (49, [some (.ref 26), some (.ref 3), some (.ref 11), some (.int x3), none], [.int (0 : Int32), .ref 4], hp kp (some 3) rh tl rl (u2 (u2 (u2 (u2 (u2 (u2 I 26 10 (I 3 4)) 26 11 (I 3 3)) 26 6 (I 3 1)) 26 7 (0 : Int32)) 26 8 (0 : Int32)) 26 9 (0 : Int32)) L)) rfl ?_
  refine bs_st 7 (x' := (61, [some (.ref 26), some (.ref 3), some (.ref 11), some (.int x3), some (.int (0 : Int32))], [], hp kp (some 3) rh tl rl (c2 (u2 (u2 (u2 (u2 (u2 (u2 I 26 10 (I 3 4)) 26 11 (I 3 3)) 26 6 (I 3 1)) 26 7 (0 : Int32)) 26 8 (0 : Int32)) 26 9 (0 : Int32)) 4 27 0 0 4) L)) rfl ?_
  exact tc_53_1_0 Ls xs d kp tl rl rh n n x3 (0 : Int32) (c2 (u2 (u2 (u2 (u2 (u2 (u2 I 26 10 (I 3 4)) 26 11 (I 3 3)) 26 6 (I 3 1)) 26 7 (0 : Int32)) 26 8 (0 : Int32)) 26 9 (0 : Int32)) 4 27 0 0 4) L r hf
