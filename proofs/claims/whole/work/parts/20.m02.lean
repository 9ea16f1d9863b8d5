/-- LampRoundsModel.runs(I) on (89,) -/
def b_260_6 (n : Nat) (K1 : Int32 → Int32 → Int32 → Int32 → FI → FL → Option (FI × FL)) (K6 : Int32 → Int32 → Int32 → Int32 → Int32 → FI → FL → Option (FI × FL)) (x1 : Int32) (x2 : Int32) (x3 : Int32) (x4 : Int32) (x7 : Int32) (I : FI) (L : FL) : Option (FI × FL) :=
  (f_237 I L).bind fun q6 =>
  if q6 ≤ x7 then
    K1 x1 x2 x3 (x4 + (1 : Int32)) I L
  else
    if pin x7 4 = true then (if pin (((4 : Int32) * x4) + x7) 120 = true then K6 x1 x2 x3 x4 (x7 + (1 : Int32)) (u2 I 106 ((((4 : Int32) * x4) + x7).toNatClampNeg) (I 105 x7.toNatClampNeg)) L else none) else none
def c_260_6 (n : Nat) (K1 : Int32 → Int32 → Int32 → Int32 → FI → FL → Option (FI × FL)) : Nat → Int32 → Int32 → Int32 → Int32 → Int32 → FI → FL → Option (FI × FL)
  | 0, _, _, _, _, _, _, _ => none
  | m + 1, x1, x2, x3, x4, x7, I, L => b_260_6 n K1 (c_260_6 n K1 m) x1 x2 x3 x4 x7 I L
set_option maxHeartbeats 1000000 in
set_option maxRecDepth 20000 in
theorem tc_260_6 (Ls : Nat) (xs : Nat → Int32) (d : Nat) (kp : Option Nat) (tl : List (Nat × Nat)) (rl : List (List (Option Nat))) (nh : Option Nat) (rh : Option Nat) (n : Nat) (K1 : Int32 → Int32 → Int32 → Int32 → FI → FL → Option (FI × FL)) (hK1 : ∀ (w5 : Option Value) (w6 : Option Value) (w7 : Option Value) (x1 : Int32) (x2 : Int32) (x3 : Int32) (x4 : Int32) (I : FI) (L : FL) (r : FI × FL), K1 x1 x2 x3 x4 I L = some r → Bs cd_260 (sf 12 rs_12 false 8 none Ls xs (d + 4)) (33, [some (.ref 89), some (.int x1), some (.int x2), some (.int x3), some (.int x4), w5, w6, w7], [], hp kp nh rh tl rl I L) (none, hp kp nh rh tl rl r.1 r.2)) : ∀ (m : Nat) (w5 : Option Value) (w6 : Option Value) (x1 : Int32) (x2 : Int32) (x3 : Int32) (x4 : Int32) (x7 : Int32) (I : FI) (L : FL) (r : FI × FL), c_260_6 n K1 m x1 x2 x3 x4 x7 I L = some r → Bs cd_260 (sf 12 rs_12 false 8 none Ls xs (d + 4)) (137, [some (.ref 89), some (.int x1), some (.int x2), some (.int x3), some (.int x4), w5, w6, some (.int x7)], [], hp kp nh rh tl rl I L) (none, hp kp nh rh tl rl r.1 r.2)
  | 0, w5, w6, x1, x2, x3, x4, x7, I, L, r, hf => by cases hf
  | m + 1, w5, w6, x1, x2, x3, x4, x7, I, L, r, hf => by
    unfold c_260_6 b_260_6 at hf
    have hK6 := tc_260_6 Ls xs d kp tl rl nh rh n K1 hK1 m
    refine bs_st 2 (x' := (140, [some (.ref 89), some (.int x1), some (.int x2), some (.int x3), some (.int x4), w5, w6, some (.int x7)], [.ref 89, .int x7], hp kp nh rh tl rl I L)) rfl ?_
    obtain ⟨q6, hq6, hf⟩ := Option.bind_eq_some_iff.mp hf
    refine bs_call (o := pEN Ls xs (d + 4) 237 [.ref 89] (hp kp nh rh tl rl I L)) (w := some (.int q6)) (h' := hp kp nh rh tl rl I L) (pc := 143) (lo := [some (.ref 89), some (.int x1), some (.int x2), some (.int x3), some (.int x4), w5, w6, some (.int x7)]) (rest := [.int x7]) rfl (t_237 Ls xs (d + 3) kp tl rl nh rh I L q6 hq6) ?_
    refine bs_br (t := 171) (e := 146) (lo := [some (.ref 89), some (.int x1), some (.int x2), some (.int x3), some (.int x4), w5, w6, some (.int x7)]) (st := []) (h := hp kp nh rh tl rl I L) rfl hf (fun hc hf => ?_) (fun hc hf => ?_)
    · refine bs_st 2 (x' := (33, [some (.ref 89), some (.int x1), some (.int x2), some (.int x3), some (.int (x4 + (1 : Int32))), w5, w6, some (.int x7)], [], hp kp nh rh tl rl I L)) rfl ?_
      exact hK1 w5 w6 (some (.int x7)) x1 x2 x3 (x4 + (1 : Int32)) I L r hf
    · refine bs_st 10 (x' := (163, [some (.ref 89), some (.int x1), some (.int x2), some (.int x3), some (.int x4), w5, w6, some (.int x7)], [.int x7, .ref 105, .int (((4 : Int32) * x4) + x7), .ref 106], hp kp nh rh tl rl I L)) rfl ?_
      refine bs_gd (x' := (164, [some (.ref 89), some (.int x1), some (.int x2), some (.int x3), some (.int x4), w5, w6, some (.int x7)], [.int (I 105 x7.toNatClampNeg), .int (((4 : Int32) * x4) + x7), .ref 106], hp kp nh rh tl rl I L)) rfl hf (fun hc hf => ?_)
      refine bs_gd (x' := (165, [some (.ref 89), some (.int x1), some (.int x2), some (.int x3), some (.int x4), w5, w6, some (.int x7)], [], hp kp nh rh tl rl (u2 I 106 ((((4 : Int32) * x4) + x7).toNatClampNeg) (I 105 x7.toNatClampNeg)) L)) rfl hf (fun hc hf => ?_)
      refine bs_st 2 (x' := (137, [some (.ref 89), some (.int x1), some (.int x2), some (.int x3), some (.int x4), w5, (pcl w6), some (.int (x7 + (1 : Int32)))], [], hp kp nh rh tl rl (u2 I 106 ((((4 : Int32) * x4) + x7).toNatClampNeg) (I 105 x7.toNatClampNeg)) L)) rfl ?_
      exact hK6 w5 (pcl w6) x1 x2 x3 x4 (x7 + (1 : Int32)) (u2 I 106 ((((4 : Int32) * x4) + x7).toNatClampNeg) (I 105 x7.toNatClampNeg)) L r hf
def c_260_5 (n : Nat) (K1 : Int32 → Int32 → Int32 → Int32 → FI → FL → Option (FI × FL)) (x1 : Int32) (x2 : Int32) (x3 : Int32) (x4 : Int32) (s0 : Int32) (s1 : Int32) (s2 : Int32) (I : FI) (L : FL) : Option (FI × FL) :=
  if pin s2 30 = true then c_260_6 n K1 n x1 x2 x3 x4 (0 : Int32) (u2 I 108 s2.toNatClampNeg (s1 ||| s0)) L else none
set_option maxHeartbeats 1000000 in
set_option maxRecDepth 20000 in
theorem tc_260_5 (Ls : Nat) (xs : Nat → Int32) (d : Nat) (kp : Option Nat) (tl : List (Nat × Nat)) (rl : List (List (Option Nat))) (nh : Option Nat) (rh : Option Nat) (n : Nat) (K1 : Int32 → Int32 → Int32 → Int32 → FI → FL → Option (FI × FL)) (hK1 : ∀ (w5 : Option Value) (w6 : Option Value) (w7 : Option Value) (x1 : Int32) (x2 : Int32) (x3 : Int32) (x4 : Int32) (I : FI) (L : FL) (r : FI × FL), K1 x1 x2 x3 x4 I L = some r → Bs cd_260 (sf 12 rs_12 false 8 none Ls xs (d + 4)) (33, [some (.ref 89), some (.int x1), some (.int x2), some (.int x3), some (.int x4), w5, w6, w7], [], hp kp nh rh tl rl I L) (none, hp kp nh rh tl rl r.1 r.2)) (w5 : Option Value) (w6 : Option Value) (w7 : Option Value) (x1 : Int32) (x2 : Int32) (x3 : Int32) (x4 : Int32) (s0 : Int32) (s1 : Int32) (s2 : Int32) (I : FI) (L : FL) (r : FI × FL) (hf : c_260_5 n K1 x1 x2 x3 x4 s0 s1 s2 I L = some r) : Bs cd_260 (sf 12 rs_12 false 8 none Ls xs (d + 4)) (132, [some (.ref 89), some (.int x1), some (.int x2), some (.int x3), some (.int x4), w5, w6, w7], [.int s0, .int s1, .int s2, .ref 108], hp kp nh rh tl rl I L) (none, hp kp nh rh tl rl r.1 r.2) := by
  unfold c_260_5 at hf
  refine bs_st 1 (x' := (133, [some (.ref 89), some (.int x1), some (.int x2), some (.int x3), some (.int x4), w5, w6, w7], [.int (s1 ||| s0), .int s2, .ref 108], hp kp nh rh tl rl I L)) rfl ?_
  refine bs_gd (x' := (134, [some (.ref 89), some (.int x1), some (.int x2), some (.int x3), some (.int x4), w5, w6, w7], [], hp kp nh rh tl rl (u2 I 108 s2.toNatClampNeg (s1 ||| s0)) L)) rfl hf (fun hc hf => ?_)
  refine bs_st 2 (x' := (137, [some (.ref 89), some (.int x1), some (.int x2), some (.int x3), some (.int x4), w5, (pcl w6), some (.int (0 : Int32))], [], hp kp nh rh tl rl (u2 I 108 s2.toNatClampNeg (s1 ||| s0)) L)) rfl ?_
  exact tc_260_6 Ls xs d kp tl rl nh rh n _ hK1 n w5 (pcl w6) x1 x2 x3 x4 (0 : Int32) (u2 I 108 s2.toNatClampNeg (s1 ||| s0)) L r hf
def c_260_4 (n : Nat) (K1 : Int32 → Int32 → Int32 → Int32 → FI → FL → Option (FI × FL)) (x1 : Int32) (x2 : Int32) (x4 : Int32) (x5 : Int32) (x6 : Int32) (s0 : Int32) (s1 : Int32) (I : FI) (L : FL) : Option (FI × FL) :=
  (f_253 n s1 s0 x6 I L).bind fun q5 =>
  if pin x4 30 = true then (if ¬ x5 = (-1 : Int32) then
      c_260_5 n K1 x1 x2 x5 x4 ((1 : Int32) <<< (x5 &&& 31)) x6 x4 (u2 q5.1 107 x4.toNatClampNeg x2) q5.2
    else
      c_260_5 n K1 x1 x2 x5 x4 (0 : Int32) x6 x4 (u2 q5.1 107 x4.toNatClampNeg x2) q5.2) else none
set_option maxHeartbeats 1000000 in
set_option maxRecDepth 20000 in
theorem tc_260_4 (Ls : Nat) (xs : Nat → Int32) (d : Nat) (kp : Option Nat) (tl : List (Nat × Nat)) (rl : List (List (Option Nat))) (nh : Option Nat) (rh : Option Nat) (n : Nat) (K1 : Int32 → Int32 → Int32 → Int32 → FI → FL → Option (FI × FL)) (hK1 : ∀ (w5 : Option Value) (w6 : Option Value) (w7 : Option Value) (x1 : Int32) (x2 : Int32) (x3 : Int32) (x4 : Int32) (I : FI) (L : FL) (r : FI × FL), K1 x1 x2 x3 x4 I L = some r → Bs cd_260 (sf 12 rs_12 false 8 none Ls xs (d + 4)) (33, [some (.ref 89), some (.int x1), some (.int x2), some (.int x3), some (.int x4), w5, w6, w7], [], hp kp nh rh tl rl I L) (none, hp kp nh rh tl rl r.1 r.2)) (w3 : Option Value) (w7 : Option Value) (x1 : Int32) (x2 : Int32) (x4 : Int32) (x5 : Int32) (x6 : Int32) (s0 : Int32) (s1 : Int32) (I : FI) (L : FL) (r : FI × FL) (hf : c_260_4 n K1 x1 x2 x4 x5 x6 s0 s1 I L = some r) : Bs cd_260 (sf 12 rs_12 false 8 none Ls xs (d + 4)) (94, [some (.ref 89), some (.int x1), some (.int x2), w3, some (.int x4), some (.int x5), some (.int x6), w7], [.int s0, .int s1, .ref 89], hp kp nh rh tl rl I L) (none, hp kp nh rh tl rl r.1 r.2) := by
  unfold c_260_4 at hf
  refine bs_st 1 (x' := (96, [some (.ref 89), some (.int x1), some (.int x2), w3, some (.int x4), some (.int x5), some (.int x6), w7], [.int x6, .int s0, .int s1, .ref 89], hp kp nh rh tl rl I L)) rfl ?_
  obtain ⟨q5, hq5, hf⟩ := Option.bind_eq_some_iff.mp hf
  refine bs_call (o := pEN Ls xs (d + 4) 253 [.ref 89, .int s1, .int s0, .int x6] (hp kp nh rh tl rl I L)) (w := none) (h' := hp kp nh rh tl rl q5.1 q5.2) (pc := 99) (lo := [some (.ref 89), some (.int x1), some (.int x2), w3, some (.int x4), some (.int x5), some (.int x6), w7]) (rest := []) rfl (t_253 Ls xs (d + 2) kp tl rl nh rh n s1 s0 x6 I L q5 hq5) ?_
  refine bs_st 6 (x' := (109, [some (.ref 89), some (.int x1), some (.int x2), some (.int x5), some (.int x4), some (.int x5), some (.int x6), w7], [.int x2, .int x4, .ref 107], hp kp nh rh tl rl q5.1 q5.2)) rfl ?_
  refine bs_gd (x' := (110, [some (.ref 89), some (.int x1), some (.int x2), some (.int x5), some (.int x4), some (.int x5), some (.int x6), w7], [], hp kp nh rh tl rl (u2 q5.1 107 x4.toNatClampNeg x2) q5.2)) rfl hf (fun hc hf => ?_)
  refine bs_st 6 (x' := (121, [some (.ref 89), some (.int x1), some (.int x2), some (.int x5), some (.int x4), some (.int x5), some (.int x6), w7], [.int (-1 : Int32), .int x5, .int x6, .int x4, .ref 108], hp kp nh rh tl rl (u2 q5.1 107 x4.toNatClampNeg x2) q5.2)) rfl ?_
  refine bs_br (t := 128) (e := 124) (lo := [some (.ref 89), some (.int x1), some (.int x2), some (.int x5), some (.int x4), some (.int x5), some (.int x6), w7]) (st := [.int x6, .int x4, .ref 108]) (h := hp kp nh rh tl rl (u2 q5.1 107 x4.toNatClampNeg x2) q5.2) rfl hf (fun hc hf => ?_) (fun hc hf => ?_)
  · refine bs_st 3 (x' := (132, [some (.ref 89), some (.int x1), some (.int x2), some (.int x5), some (.int x4), some (.int x5), some (.int x6), w7], [.int ((1 : Int32) <<< (x5 &&& 31)), .int x6, .int x4, .ref 108], hp kp nh rh tl rl (u2 q5.1 107 x4.toNatClampNeg x2) q5.2)) rfl ?_
    exact tc_260_5 Ls xs d kp tl rl nh rh n _ hK1 (some (.int x5)) (some (.int x6)) w7 x1 x2 x5 x4 ((1 : Int32) <<< (x5 &&& 31)) x6 x4 (u2 q5.1 107 x4.toNatClampNeg x2) q5.2 r hf
  · refine bs_st 2 (x' := (132, [some (.ref 89), some (.int x1), some (.int x2), some (.int x5), some (.int x4), some (.int x5), some (.int x6), w7], [.int (0 : Int32), .int x6, .int x4, .ref 108], hp kp nh rh tl rl (u2 q5.1 107 x4.toNatClampNeg x2) q5.2)) rfl ?_
    exact tc_260_5 Ls xs d kp tl rl nh rh n _ hK1 (some (.int x5)) (some (.int x6)) w7 x1 x2 x5 x4 (0 : Int32) x6 x4 (u2 q5.1 107 x4.toNatClampNeg x2) q5.2 r hf
def c_260_3 (n : Nat) (K1 : Int32 → Int32 → Int32 → Int32 → FI → FL → Option (FI × FL)) (x1 : Int32) (x2 : Int32) (x3 : Int32) (x4 : Int32) (s0 : Int32) (I : FI) (L : FL) : Option (FI × FL) :=
  (f_259 n x4 I L).bind fun q4 =>
  if ¬ x4 = 0 then
    c_260_4 n K1 x1 x2 x4 s0 q4 x3 s0 I L
  else
    c_260_4 n K1 x1 x2 x4 s0 q4 s0 s0 I L
set_option maxHeartbeats 1000000 in
set_option maxRecDepth 20000 in
theorem tc_260_3 (Ls : Nat) (xs : Nat → Int32) (d : Nat) (kp : Option Nat) (tl : List (Nat × Nat)) (rl : List (List (Option Nat))) (nh : Option Nat) (rh : Option Nat) (n : Nat) (K1 : Int32 → Int32 → Int32 → Int32 → FI → FL → Option (FI × FL)) (hK1 : ∀ (w5 : Option Value) (w6 : Option Value) (w7 : Option Value) (x1 : Int32) (x2 : Int32) (x3 : Int32) (x4 : Int32) (I : FI) (L : FL) (r : FI × FL), K1 x1 x2 x3 x4 I L = some r → Bs cd_260 (sf 12 rs_12 false 8 none Ls xs (d + 4)) (33, [some (.ref 89), some (.int x1), some (.int x2), some (.int x3), some (.int x4), w5, w6, w7], [], hp kp nh rh tl rl I L) (none, hp kp nh rh tl rl r.1 r.2)) (w5 : Option Value) (w6 : Option Value) (w7 : Option Value) (x1 : Int32) (x2 : Int32) (x3 : Int32) (x4 : Int32) (s0 : Int32) (I : FI) (L : FL) (r : FI × FL) (hf : c_260_3 n K1 x1 x2 x3 x4 s0 I L = some r) : Bs cd_260 (sf 12 rs_12 false 8 none Ls xs (d + 4)) (70, [some (.ref 89), some (.int x1), some (.int x2), some (.int x3), some (.int x4), w5, w6, w7], [.int s0], hp kp nh rh tl rl I L) (none, hp kp nh rh tl rl r.1 r.2) := by
  unfold c_260_3 at hf
  refine bs_st 3 (x' := (75, [some (.ref 89), some (.int x1), some (.int x2), some (.int x3), some (.int x4), some (.int s0), w6, w7], [.int x4, .ref 89], hp kp nh rh tl rl I L)) rfl ?_
  obtain ⟨q4, hq4, hf⟩ := Option.bind_eq_some_iff.mp hf
  refine bs_call (o := pEN Ls xs (d + 4) 259 [.ref 89, .int x4] (hp kp nh rh tl rl I L)) (w := some (.int q4)) (h' := hp kp nh rh tl rl I L) (pc := 78) (lo := [some (.ref 89), some (.int x1), some (.int x2), some (.int x3), some (.int x4), some (.int s0), w6, w7]) (rest := []) rfl (t_259 Ls xs (d + 2) kp tl rl nh rh n x4 I L q4 hq4) ?_
  refine bs_st 4 (x' := (85, [some (.ref 89), some (.int x1), some (.int x2), some (.int x3), some (.int x4), some (.int s0), some (.int q4), w7], [.int x4, .int s0, .ref 89], hp kp nh rh tl rl I L)) rfl ?_
  refine bs_br (t := 93) (e := 88) (lo := [some (.ref 89), some (.int x1), some (.int x2), some (.int x3), some (.int x4), some (.int s0), some (.int q4), w7]) (st := [.int s0, .ref 89]) (h := hp kp nh rh tl rl I L) rfl hf (fun hc hf => ?_) (fun hc hf => ?_)
  · refine bs_st 1 (x' := (94, [some (.ref 89), some (.int x1), some (.int x2), some (.int x3), some (.int x4), some (.int s0), some (.int q4), w7], [.int x3, .int s0, .ref 89], hp kp nh rh tl rl I L)) rfl ?_
    exact tc_260_4 Ls xs d kp tl rl nh rh n _ hK1 (some (.int x3)) w7 x1 x2 x4 s0 q4 x3 s0 I L r hf
  · refine bs_st 2 (x' := (94, [some (.ref 89), some (.int x1), some (.int x2), some (.int x3), some (.int x4), some (.int s0), some (.int q4), w7], [.int s0, .int s0, .ref 89], hp kp nh rh tl rl I L)) rfl ?_
    exact tc_260_4 Ls xs d kp tl rl nh rh n _ hK1 (some (.int x3)) w7 x1 x2 x4 s0 q4 s0 s0 I L r hf
def c_260_2 (n : Nat) (K1 : Int32 → Int32 → Int32 → Int32 → FI → FL → Option (FI × FL)) (x1 : Int32) (x2 : Int32) (x3 : Int32) (x4 : Int32) (I : FI) (L : FL) : Option (FI × FL) :=
  (f_258 n x4 I L).bind fun q3 =>
  if q3 = 0 then
    c_260_3 n K1 x1 x2 x3 x4 x2 I L
  else
    c_260_3 n K1 x1 x2 x3 x4 (-1 : Int32) I L
set_option maxHeartbeats 1000000 in
set_option maxRecDepth 20000 in
theorem tc_260_2 (Ls : Nat) (xs : Nat → Int32) (d : Nat) (kp : Option Nat) (tl : List (Nat × Nat)) (rl : List (List (Option Nat))) (nh : Option Nat) (rh : Option Nat) (n : Nat) (K1 : Int32 → Int32 → Int32 → Int32 → FI → FL → Option (FI × FL)) (hK1 : ∀ (w5 : Option Value) (w6 : Option Value) (w7 : Option Value) (x1 : Int32) (x2 : Int32) (x3 : Int32) (x4 : Int32) (I : FI) (L : FL) (r : FI × FL), K1 x1 x2 x3 x4 I L = some r → Bs cd_260 (sf 12 rs_12 false 8 none Ls xs (d + 4)) (33, [some (.ref 89), some (.int x1), some (.int x2), some (.int x3), some (.int x4), w5, w6, w7], [], hp kp nh rh tl rl I L) (none, hp kp nh rh tl rl r.1 r.2)) (w5 : Option Value) (w6 : Option Value) (w7 : Option Value) (x1 : Int32) (x2 : Int32) (x3 : Int32) (x4 : Int32) (I : FI) (L : FL) (r : FI × FL) (hf : c_260_2 n K1 x1 x2 x3 x4 I L = some r) : Bs cd_260 (sf 12 rs_12 false 8 none Ls xs (d + 4)) (56, [some (.ref 89), some (.int x1), some (.int x2), some (.int x3), some (.int x4), w5, w6, w7], [], hp kp nh rh tl rl I L) (none, hp kp nh rh tl rl r.1 r.2) := by
  unfold c_260_2 at hf
  refine bs_st 2 (x' := (59, [some (.ref 89), some (.int x1), some (.int x2), some (.int x3), some (.int x4), w5, w6, w7], [.int x4, .ref 89], hp kp nh rh tl rl I L)) rfl ?_
  obtain ⟨q3, hq3, hf⟩ := Option.bind_eq_some_iff.mp hf
  refine bs_call (o := pEN Ls xs (d + 4) 258 [.ref 89, .int x4] (hp kp nh rh tl rl I L)) (w := some (.int q3)) (h' := hp kp nh rh tl rl I L) (pc := 62) (lo := [some (.ref 89), some (.int x1), some (.int x2), some (.int x3), some (.int x4), w5, w6, w7]) (rest := []) rfl (t_258 Ls xs (d + 3) kp tl rl nh rh n x4 I L q3 hq3) ?_
  refine bs_br (t := 69) (e := 65) (lo := [some (.ref 89), some (.int x1), some (.int x2), some (.int x3), some (.int x4), w5, w6, w7]) (st := []) (h := hp kp nh rh tl rl I L) rfl hf (fun hc hf => ?_) (fun hc hf => ?_)
  · refine bs_st 1 (x' := (70, [some (.ref 89), some (.int x1), some (.int x2), some (.int x3), some (.int x4), w5, w6, w7], [.int x2], hp kp nh rh tl rl I L)) rfl ?_
    exact tc_260_3 Ls xs d kp tl rl nh rh n _ hK1 w5 w6 w7 x1 x2 x3 x4 x2 I L r hf
  · refine bs_st 2 (x' := (70, [some (.ref 89), some (.int x1), some (.int x2), some (.int x3), some (.int x4), w5, w6, w7], [.int (-1 : Int32)], hp kp nh rh tl rl I L)) rfl ?_
    exact tc_260_3 Ls xs d kp tl rl nh rh n _ hK1 w5 w6 w7 x1 x2 x3 x4 (-1 : Int32) I L r hf
def b_260_1 (n : Nat) (K1 : Int32 → Int32 → Int32 → Int32 → FI → FL → Option (FI × FL)) (x1 : Int32) (x2 : Int32) (x3 : Int32) (x4 : Int32) (I : FI) (L : FL) : Option (FI × FL) :=
  (f_238 I L).bind fun q2 =>
  if q2 ≤ x4 then
    some (I, L)
  else
    if x4 ≤ 0 then
      c_260_2 n K1 x1 x2 x3 x4 I L
    else
      (f_257 n x1 x2 x4 I L).bind fun q7 =>
      c_260_2 n K1 x1 q7.1 x3 x4 q7.2.1 q7.2.2
def c_260_1 (n : Nat) : Nat → Int32 → Int32 → Int32 → Int32 → FI → FL → Option (FI × FL)
  | 0, _, _, _, _, _, _ => none
  | m + 1, x1, x2, x3, x4, I, L => b_260_1 n (c_260_1 n m) x1 x2 x3 x4 I L
set_option maxHeartbeats 1000000 in
set_option maxRecDepth 20000 in
theorem tc_260_1 (Ls : Nat) (xs : Nat → Int32) (d : Nat) (kp : Option Nat) (tl : List (Nat × Nat)) (rl : List (List (Option Nat))) (nh : Option Nat) (rh : Option Nat) (n : Nat) : ∀ (m : Nat) (w5 : Option Value) (w6 : Option Value) (w7 : Option Value) (x1 : Int32) (x2 : Int32) (x3 : Int32) (x4 : Int32) (I : FI) (L : FL) (r : FI × FL), c_260_1 n m x1 x2 x3 x4 I L = some r → Bs cd_260 (sf 12 rs_12 false 8 none Ls xs (d + 4)) (33, [some (.ref 89), some (.int x1), some (.int x2), some (.int x3), some (.int x4), w5, w6, w7], [], hp kp nh rh tl rl I L) (none, hp kp nh rh tl rl r.1 r.2)
  | 0, w5, w6, w7, x1, x2, x3, x4, I, L, r, hf => by cases hf
  | m + 1, w5, w6, w7, x1, x2, x3, x4, I, L, r, hf => by
    unfold c_260_1 b_260_1 at hf
    have hK1 := tc_260_1 Ls xs d kp tl rl nh rh n m
    refine bs_st 2 (x' := (36, [some (.ref 89), some (.int x1), some (.int x2), some (.int x3), some (.int x4), w5, w6, w7], [.ref 89, .int x4], hp kp nh rh tl rl I L)) rfl ?_
    obtain ⟨q2, hq2, hf⟩ := Option.bind_eq_some_iff.mp hf
    refine bs_call (o := pEN Ls xs (d + 4) 238 [.ref 89] (hp kp nh rh tl rl I L)) (w := some (.int q2)) (h' := hp kp nh rh tl rl I L) (pc := 39) (lo := [some (.ref 89), some (.int x1), some (.int x2), some (.int x3), some (.int x4), w5, w6, w7]) (rest := [.int x4]) rfl (t_238 Ls xs (d + 3) kp tl rl nh rh I L q2 hq2) ?_
    refine bs_br (t := 177) (e := 42) (lo := [some (.ref 89), some (.int x1), some (.int x2), some (.int x3), some (.int x4), w5, w6, w7]) (st := []) (h := hp kp nh rh tl rl I L) rfl hf (fun hc hf => ?_) (fun hc hf => ?_)
    · cases hf
      exact bs_ret rfl
    · refine bs_st 1 (x' := (44, [some (.ref 89), some (.int x1), some (.int x2), some (.int x3), some (.int x4), w5, w6, w7], [.int x4], hp kp nh rh tl rl I L)) rfl ?_
      refine bs_br (t := 56) (e := 47) (lo := [some (.ref 89), some (.int x1), some (.int x2), some (.int x3), some (.int x4), w5, w6, w7]) (st := []) (h := hp kp nh rh tl rl I L) rfl hf (fun hc hf => ?_) (fun hc hf => ?_)
      · exact tc_260_2 Ls xs d kp tl rl nh rh n _ hK1 w5 w6 w7 x1 x2 x3 x4 I L r hf
      · refine bs_st 4 (x' := (52, [some (.ref 89), some (.int x1), some (.int x2), some (.int x3), some (.int x4), w5, w6, w7], [.int x4, .int x2, .int x1, .ref 89], hp kp nh rh tl rl I L)) rfl ?_
        obtain ⟨q7, hq7, hf⟩ := Option.bind_eq_some_iff.mp hf
        refine bs_call (o := pEN Ls xs (d + 4) 257 [.ref 89, .int x1, .int x2, .int x4] (hp kp nh rh tl rl I L)) (w := some (.int q7.1)) (h' := hp kp nh rh tl rl q7.2.1 q7.2.2) (pc := 55) (lo := [some (.ref 89), some (.int x1), some (.int x2), some (.int x3), some (.int x4), w5, w6, w7]) (rest := []) rfl (t_257 Ls xs (d + 0) kp tl rl nh rh n x1 x2 x4 I L q7 hq7) ?_
        refine bs_st 1 (x' := (56, [some (.ref 89), some (.int x1), some (.int q7.1), some (.int x3), some (.int x4), w5, w6, w7], [], hp kp nh rh tl rl q7.2.1 q7.2.2)) rfl ?_
        exact tc_260_2 Ls xs d kp tl rl nh rh n _ hK1 w5 w6 w7 x1 q7.1 x3 x4 q7.2.1 q7.2.2 r hf
def b_260_0 (n : Nat) (K0 : Int32 → Int32 → FI → FL → Option (FI × FL)) (x1 : Int32) (x2 : Int32) (I : FI) (L : FL) : Option (FI × FL) :=
  (f_237 I L).bind fun q0 =>
  if q0 ≤ x2 then
    (f_256 I L).bind fun q1 =>
    c_260_1 n n x1 q1 (-1 : Int32) (0 : Int32) I L
  else
    if pin x2 4 = true then K0 x1 (x2 + (1 : Int32)) (u2 I 105 x2.toNatClampNeg (0 : Int32)) L else none
def c_260_0 (n : Nat) : Nat → Int32 → Int32 → FI → FL → Option (FI × FL)
  | 0, _, _, _, _ => none
  | m + 1, x1, x2, I, L => b_260_0 n (c_260_0 n m) x1 x2 I L
set_option maxHeartbeats 1000000 in
set_option maxRecDepth 20000 in
theorem tc_260_0 (Ls : Nat) (xs : Nat → Int32) (d : Nat) (kp : Option Nat) (tl : List (Nat × Nat)) (rl : List (List (Option Nat))) (nh : Option Nat) (rh : Option Nat) (n : Nat) : ∀ (m : Nat) (w3 : Option Value) (w4 : Option Value) (w5 : Option Value) (w6 : Option Value) (w7 : Option Value) (x1 : Int32) (x2 : Int32) (I : FI) (L : FL) (r : FI × FL), c_260_0 n m x1 x2 I L = some r → Bs cd_260 (sf 12 rs_12 false 8 none Ls xs (d + 4)) (2, [some (.ref 89), some (.int x1), some (.int x2), w3, w4, w5, w6, w7], [], hp kp nh rh tl rl I L) (none, hp kp nh rh tl rl r.1 r.2)
  | 0, w3, w4, w5, w6, w7, x1, x2, I, L, r, hf => by cases hf
  | m + 1, w3, w4, w5, w6, w7, x1, x2, I, L, r, hf => by
    unfold c_260_0 b_260_0 at hf
    have hK0 := tc_260_0 Ls xs d kp tl rl nh rh n m
    refine bs_st 2 (x' := (4, [some (.ref 89), some (.int x1), some (.int x2), w3, w4, w5, w6, w7], [.ref 89, .int x2], hp kp nh rh tl rl I L)) rfl ?_
    obtain ⟨q0, hq0, hf⟩ := Option.bind_eq_some_iff.mp hf
    refine bs_call (o := pEN Ls xs (d + 4) 237 [.ref 89] (hp kp nh rh tl rl I L)) (w := some (.int q0)) (h' := hp kp nh rh tl rl I L) (pc := 7) (lo := [some (.ref 89), some (.int x1), some (.int x2), w3, w4, w5, w6, w7]) (rest := [.int x2]) rfl (t_237 Ls xs (d + 3) kp tl rl nh rh I L q0 hq0) ?_
    refine bs_br (t := 23) (e := 10) (lo := [some (.ref 89), some (.int x1), some (.int x2), w3, w4, w5, w6, w7]) (st := []) (h := hp kp nh rh tl rl I L) rfl hf (fun hc hf => ?_) (fun hc hf => ?_)
    · refine bs_st 1 (x' := (24, [some (.ref 89), some (.int x1), some (.int x2), w3, w4, w5, w6, w7], [.ref 89], hp kp nh rh tl rl I L)) rfl ?_
      obtain ⟨q1, hq1, hf⟩ := Option.bind_eq_some_iff.mp hf
      refine bs_call (o := pEN Ls xs (d + 4) 256 [.ref 89] (hp kp nh rh tl rl I L)) (w := some (.int q1)) (h' := hp kp nh rh tl rl I L) (pc := 27) (lo := [some (.ref 89), some (.int x1), some (.int x2), w3, w4, w5, w6, w7]) (rest := []) rfl (t_256 Ls xs (d + 2) kp tl rl nh rh I L q1 hq1) ?_
      refine bs_st 5 (x' := (33, [some (.ref 89), some (.int x1), some (.int q1), some (.int (-1 : Int32)), some (.int (0 : Int32)), w5, w6, w7], [], hp kp nh rh tl rl I L)) rfl ?_
      exact tc_260_1 Ls xs d kp tl rl nh rh n n w5 w6 w7 x1 q1 (-1 : Int32) (0 : Int32) I L r hf
    · refine bs_st 4 (x' := (16, [some (.ref 89), some (.int x1), some (.int x2), w3, w4, w5, w6, w7], [.int (0 : Int32), .int x2, .ref 105], hp kp nh rh tl rl I L)) rfl ?_
      refine bs_gd (x' := (17, [some (.ref 89), some (.int x1), some (.int x2), w3, w4, w5, w6, w7], [], hp kp nh rh tl rl (u2 I 105 x2.toNatClampNeg (0 : Int32)) L)) rfl hf (fun hc hf => ?_)
      refine bs_st 2 (x' := (2, [some (.ref 89), some (.int x1), some (.int (x2 + (1 : Int32))), w3, w4, w5, w6, w7], [], hp kp nh rh tl rl (u2 I 105 x2.toNatClampNeg (0 : Int32)) L)) rfl ?_
      exact hK0 w3 w4 w5 w6 w7 x1 (x2 + (1 : Int32)) (u2 I 105 x2.toNatClampNeg (0 : Int32)) L r hf
def f_260 (n : Nat) (x1 : Int32) (I : FI) (L : FL) : Option (FI × FL) :=
  c_260_0 n n x1 (0 : Int32) I L
set_option maxHeartbeats 1000000 in
set_option maxRecDepth 20000 in
theorem t_260 (Ls : Nat) (xs : Nat → Int32) (d : Nat) (kp : Option Nat) (tl : List (Nat × Nat)) (rl : List (List (Option Nat))) (nh : Option Nat) (rh : Option Nat) (n : Nat) (x1 : Int32) (I : FI) (L : FL) (r : FI × FL) (hf : f_260 n x1 I L = some r) : pEN Ls xs (d + 5) 260 [.ref 89, .int x1] (hp kp nh rh tl rl I L) = some (none, hp kp nh rh tl rl r.1 r.2) := by
  refine en_run (d := d + 4) (cd := cd_260) (f := (sf 12 rs_12 false 8 none Ls xs (d + 4))) rfl rfl (x := (0, [some (.ref 89), some (.int x1), none, none, none, none, none, none], [], hp kp nh rh tl rl I L)) rfl rfl (Nat.le_of_ble_eq_true rfl) ?_
  unfold f_260 at hf
  refine bs_st 2 (x' := (2, [some (.ref 89), some (.int x1), some (.int (0 : Int32)), none, none, none, none, none], [], hp kp nh rh tl rl I L)) rfl ?_
  exact tc_260_0 Ls xs d kp tl rl nh rh n n none none none none none x1 (0 : Int32) I L r hf
/-- LampRoundsModel.laysNow(I) on (89,) -/
def f_261 (n : Nat) (x1 : Int32) (I : FI) (L : FL) : Option (FI × FL) :=
  (f_252 n I L).bind fun q0 =>
  (f_260 n x1 q0.1 q0.2).bind fun q1 =>
  some (q1.1, q1.2)
set_option maxHeartbeats 1000000 in
set_option maxRecDepth 20000 in
theorem t_261 (Ls : Nat) (xs : Nat → Int32) (d : Nat) (kp : Option Nat) (tl : List (Nat × Nat)) (rl : List (List (Option Nat))) (nh : Option Nat) (rh : Option Nat) (n : Nat) (x1 : Int32) (I : FI) (L : FL) (r : FI × FL) (hf : f_261 n x1 I L = some r) : pEN Ls xs (d + 6) 261 [.ref 89, .int x1] (hp kp nh rh tl rl I L) = some (none, hp kp nh rh tl rl r.1 r.2) := by
  refine en_run (d := d + 5) (cd := cd_261) (f := (sf 12 rs_12 false 2 none Ls xs (d + 5))) rfl rfl (x := (0, [some (.ref 89), some (.int x1)], [], hp kp nh rh tl rl I L)) rfl rfl (Nat.le_of_ble_eq_true rfl) ?_
  unfold f_261 at hf
  refine bs_st 1 (x' := (1, [some (.ref 89), some (.int x1)], [.ref 89], hp kp nh rh tl rl I L)) rfl ?_
  obtain ⟨q0, hq0, hf⟩ := Option.bind_eq_some_iff.mp hf
  refine bs_call (o := pEN Ls xs (d + 5) 252 [.ref 89] (hp kp nh rh tl rl I L)) (w := none) (h' := hp kp nh rh tl rl q0.1 q0.2) (pc := 4) (lo := [some (.ref 89), some (.int x1)]) (rest := []) rfl (t_252 Ls xs (d + 3) kp tl rl nh rh n I L q0 hq0) ?_
  refine bs_st 2 (x' := (6, [some (.ref 89), some (.int x1)], [.int x1, .ref 89], hp kp nh rh tl rl q0.1 q0.2)) rfl ?_
  obtain ⟨q1, hq1, hf⟩ := Option.bind_eq_some_iff.mp hf
  refine bs_call (o := pEN Ls xs (d + 5) 260 [.ref 89, .int x1] (hp kp nh rh tl rl q0.1 q0.2)) (w := none) (h' := hp kp nh rh tl rl q1.1 q1.2) (pc := 9) (lo := [some (.ref 89), some (.int x1)]) (rest := []) rfl (t_260 Ls xs (d + 0) kp tl rl nh rh n x1 q0.1 q0.2 q1 hq1) ?_
  cases hf
  exact bs_ret rfl
/-- LampRoundsModel.burnsAt(I) on (89,) -/
def c_262_1 (n : Nat) (I : FI) (L : FL) (K0 : Int32 → Int32 → Int32 → Option (Int32)) (x1 : Int32) (x3 : Int32) (s0 : Int32) (s1 : Int32) : Option (Int32) :=
  K0 x1 (s1 ||| s0) (x3 + (1 : Int32))
set_option maxHeartbeats 1000000 in
set_option maxRecDepth 20000 in
theorem tc_262_1 (Ls : Nat) (xs : Nat → Int32) (d : Nat) (kp : Option Nat) (tl : List (Nat × Nat)) (rl : List (List (Option Nat))) (nh : Option Nat) (rh : Option Nat) (n : Nat) (I : FI) (L : FL) (K0 : Int32 → Int32 → Int32 → Option (Int32)) (hK0 : ∀ (x1 : Int32) (x2 : Int32) (x3 : Int32) (r : Int32), K0 x1 x2 x3 = some r → Bs cd_262 (sf 12 rs_12 false 4 (some (.int)) Ls xs (d + 1)) (4, [some (.ref 89), some (.int x1), some (.int x2), some (.int x3)], [], hp kp nh rh tl rl I L) (some (.int r), hp kp nh rh tl rl I L)) (w2 : Option Value) (x1 : Int32) (x3 : Int32) (s0 : Int32) (s1 : Int32) (r : Int32) (hf : c_262_1 n I L K0 x1 x3 s0 s1 = some r) : Bs cd_262 (sf 12 rs_12 false 4 (some (.int)) Ls xs (d + 1)) (35, [some (.ref 89), some (.int x1), w2, some (.int x3)], [.int s0, .int s1], hp kp nh rh tl rl I L) (some (.int r), hp kp nh rh tl rl I L) := by
  unfold c_262_1 at hf
  refine bs_st 4 (x' := (4, [some (.ref 89), some (.int x1), some (.int (s1 ||| s0)), some (.int (x3 + (1 : Int32)))], [], hp kp nh rh tl rl I L)) rfl ?_
  exact hK0 x1 (s1 ||| s0) (x3 + (1 : Int32)) r hf
def b_262_0 (n : Nat) (I : FI) (L : FL) (K0 : Int32 → Int32 → Int32 → Option (Int32)) (x1 : Int32) (x2 : Int32) (x3 : Int32) : Option (Int32) :=
  (f_237 I L).bind fun q0 =>
  if q0 ≤ x3 then
    some (x2)
  else
    if pin (((4 : Int32) * x1) + x3) 120 = true then (if ¬ I 106 ((((4 : Int32) * x1) + x3).toNatClampNeg) = (99 : Int32) then
        c_262_1 n I L K0 x1 x3 ((1 : Int32) <<< (x3 &&& 31)) x2
      else
        c_262_1 n I L K0 x1 x3 (0 : Int32) x2) else none
def c_262_0 (n : Nat) (I : FI) (L : FL) : Nat → Int32 → Int32 → Int32 → Option (Int32)
  | 0, _, _, _ => none
  | m + 1, x1, x2, x3 => b_262_0 n I L (c_262_0 n I L m) x1 x2 x3
set_option maxHeartbeats 1000000 in
set_option maxRecDepth 20000 in
theorem tc_262_0 (Ls : Nat) (xs : Nat → Int32) (d : Nat) (kp : Option Nat) (tl : List (Nat × Nat)) (rl : List (List (Option Nat))) (nh : Option Nat) (rh : Option Nat) (n : Nat) (I : FI) (L : FL) : ∀ (m : Nat) (x1 : Int32) (x2 : Int32) (x3 : Int32) (r : Int32), c_262_0 n I L m x1 x2 x3 = some r → Bs cd_262 (sf 12 rs_12 false 4 (some (.int)) Ls xs (d + 1)) (4, [some (.ref 89), some (.int x1), some (.int x2), some (.int x3)], [], hp kp nh rh tl rl I L) (some (.int r), hp kp nh rh tl rl I L)
  | 0, x1, x2, x3, r, hf => by cases hf
  | m + 1, x1, x2, x3, r, hf => by
    unfold c_262_0 b_262_0 at hf
    have hK0 := tc_262_0 Ls xs d kp tl rl nh rh n I L m
    refine bs_st 2 (x' := (6, [some (.ref 89), some (.int x1), some (.int x2), some (.int x3)], [.ref 89, .int x3], hp kp nh rh tl rl I L)) rfl ?_
    obtain ⟨q0, hq0, hf⟩ := Option.bind_eq_some_iff.mp hf
    refine bs_call (o := pEN Ls xs (d + 1) 237 [.ref 89] (hp kp nh rh tl rl I L)) (w := some (.int q0)) (h' := hp kp nh rh tl rl I L) (pc := 9) (lo := [some (.ref 89), some (.int x1), some (.int x2), some (.int x3)]) (rest := [.int x3]) rfl (t_237 Ls xs (d + 0) kp tl rl nh rh I L q0 hq0) ?_
    refine bs_br (t := 43) (e := 12) (lo := [some (.ref 89), some (.int x1), some (.int x2), some (.int x3)]) (st := []) (h := hp kp nh rh tl rl I L) rfl hf (fun hc hf => ?_) (fun hc hf => ?_)
    · refine bs_st 1 (x' := (44, [some (.ref 89), some (.int x1), some (.int x2), some (.int x3)], [.int x2], hp kp nh rh tl rl I L)) rfl ?_
      cases hf
      exact bs_ret rfl
    · refine bs_st 8 (x' := (22, [some (.ref 89), some (.int x1), some (.int x2), some (.int x3)], [.int (((4 : Int32) * x1) + x3), .ref 106, .int x2], hp kp nh rh tl rl I L)) rfl ?_
      refine bs_gd (x' := (23, [some (.ref 89), some (.int x1), some (.int x2), some (.int x3)], [.int (I 106 ((((4 : Int32) * x1) + x3).toNatClampNeg)), .int x2], hp kp nh rh tl rl I L)) rfl hf (fun hc hf => ?_)
      refine bs_st 1 (x' := (25, [some (.ref 89), some (.int x1), some (.int x2), some (.int x3)], [.int (99 : Int32), .int (I 106 ((((4 : Int32) * x1) + x3).toNatClampNeg)), .int x2], hp kp nh rh tl rl I L)) rfl ?_
      refine bs_br (t := 32) (e := 28) (lo := [some (.ref 89), some (.int x1), some (.int x2), some (.int x3)]) (st := [.int x2]) (h := hp kp nh rh tl rl I L) rfl hf (fun hc hf => ?_) (fun hc hf => ?_)
      · refine bs_st 3 (x' := (35, [some (.ref 89), some (.int x1), some (.int x2), some (.int x3)], [.int ((1 : Int32) <<< (x3 &&& 31)), .int x2], hp kp nh rh tl rl I L)) rfl ?_
        exact tc_262_1 Ls xs d kp tl rl nh rh n I L _ hK0 (some (.int x2)) x1 x3 ((1 : Int32) <<< (x3 &&& 31)) x2 r hf
      · refine bs_st 2 (x' := (35, [some (.ref 89), some (.int x1), some (.int x2), some (.int x3)], [.int (0 : Int32), .int x2], hp kp nh rh tl rl I L)) rfl ?_
        exact tc_262_1 Ls xs d kp tl rl nh rh n I L _ hK0 (some (.int x2)) x1 x3 (0 : Int32) x2 r hf
def f_262 (n : Nat) (x1 : Int32) (I : FI) (L : FL) : Option (Int32) :=
  c_262_0 n I L n x1 (0 : Int32) (0 : Int32)
set_option maxHeartbeats 1000000 in
set_option maxRecDepth 20000 in
theorem t_262 (Ls : Nat) (xs : Nat → Int32) (d : Nat) (kp : Option Nat) (tl : List (Nat × Nat)) (rl : List (List (Option Nat))) (nh : Option Nat) (rh : Option Nat) (n : Nat) (x1 : Int32) (I : FI) (L : FL) (r : Int32) (hf : f_262 n x1 I L = some r) : pEN Ls xs (d + 2) 262 [.ref 89, .int x1] (hp kp nh rh tl rl I L) = some (some (.int r), hp kp nh rh tl rl I L) := by
  refine en_run (d := d + 1) (cd := cd_262) (f := (sf 12 rs_12 false 4 (some (.int)) Ls xs (d + 1))) rfl rfl (x := (0, [some (.ref 89), some (.int x1), none, none], [], hp kp nh rh tl rl I L)) rfl rfl (Nat.le_of_ble_eq_true rfl) ?_
  unfold f_262 at hf
  refine bs_st 4 (x' := (4, [some (.ref 89), some (.int x1), some (.int (0 : Int32)), some (.int (0 : Int32))], [], hp kp nh rh tl rl I L)) rfl ?_
  exact tc_262_0 Ls xs d kp tl rl nh rh n I L n x1 (0 : Int32) (0 : Int32) r hf
/-- LampRoundsModel.outOf(I) on (89,) -/
def b_263_0 (n : Nat) (I : FI) (L : FL) (K0 : Int32 → Int32 → Option (Int32)) (x1 : Int32) (x2 : Int32) : Option (Int32) :=
  (f_238 I L).bind fun q0 =>
  if q0 ≤ x2 then
    (f_238 I L).bind fun q1 =>
    some (q1)
  else
    if pin (((4 : Int32) * x2) + x1) 120 = true then (if ¬ I 106 ((((4 : Int32) * x2) + x1).toNatClampNeg) = (99 : Int32) then
        K0 x1 (x2 + (1 : Int32))
      else
        some (x2)) else none
def c_263_0 (n : Nat) (I : FI) (L : FL) : Nat → Int32 → Int32 → Option (Int32)
  | 0, _, _ => none
  | m + 1, x1, x2 => b_263_0 n I L (c_263_0 n I L m) x1 x2
set_option maxHeartbeats 1000000 in
set_option maxRecDepth 20000 in
theorem tc_263_0 (Ls : Nat) (xs : Nat → Int32) (d : Nat) (kp : Option Nat) (tl : List (Nat × Nat)) (rl : List (List (Option Nat))) (nh : Option Nat) (rh : Option Nat) (n : Nat) (I : FI) (L : FL) : ∀ (m : Nat) (x1 : Int32) (x2 : Int32) (r : Int32), c_263_0 n I L m x1 x2 = some r → Bs cd_263 (sf 12 rs_12 false 3 (some (.int)) Ls xs (d + 1)) (2, [some (.ref 89), some (.int x1), some (.int x2)], [], hp kp nh rh tl rl I L) (some (.int r), hp kp nh rh tl rl I L)
  | 0, x1, x2, r, hf => by cases hf
  | m + 1, x1, x2, r, hf => by
    unfold c_263_0 b_263_0 at hf
    have hK0 := tc_263_0 Ls xs d kp tl rl nh rh n I L m
    refine bs_st 2 (x' := (4, [some (.ref 89), some (.int x1), some (.int x2)], [.ref 89, .int x2], hp kp nh rh tl rl I L)) rfl ?_
    obtain ⟨q0, hq0, hf⟩ := Option.bind_eq_some_iff.mp hf
    refine bs_call (o := pEN Ls xs (d + 1) 238 [.ref 89] (hp kp nh rh tl rl I L)) (w := some (.int q0)) (h' := hp kp nh rh tl rl I L) (pc := 7) (lo := [some (.ref 89), some (.int x1), some (.int x2)]) (rest := [.int x2]) rfl (t_238 Ls xs (d + 0) kp tl rl nh rh I L q0 hq0) ?_
    refine bs_br (t := 33) (e := 10) (lo := [some (.ref 89), some (.int x1), some (.int x2)]) (st := []) (h := hp kp nh rh tl rl I L) rfl hf (fun hc hf => ?_) (fun hc hf => ?_)
    · refine bs_st 1 (x' := (34, [some (.ref 89), some (.int x1), some (.int x2)], [.ref 89], hp kp nh rh tl rl I L)) rfl ?_
      obtain ⟨q1, hq1, hf⟩ := Option.bind_eq_some_iff.mp hf
      refine bs_call (o := pEN Ls xs (d + 1) 238 [.ref 89] (hp kp nh rh tl rl I L)) (w := some (.int q1)) (h' := hp kp nh rh tl rl I L) (pc := 37) (lo := [some (.ref 89), some (.int x1), some (.int x2)]) (rest := []) rfl (t_238 Ls xs (d + 0) kp tl rl nh rh I L q1 hq1) ?_
      cases hf
      exact bs_ret rfl
    · refine bs_st 7 (x' := (19, [some (.ref 89), some (.int x1), some (.int x2)], [.int (((4 : Int32) * x2) + x1), .ref 106], hp kp nh rh tl rl I L)) rfl ?_
      refine bs_gd (x' := (20, [some (.ref 89), some (.int x1), some (.int x2)], [.int (I 106 ((((4 : Int32) * x2) + x1).toNatClampNeg))], hp kp nh rh tl rl I L)) rfl hf (fun hc hf => ?_)
      refine bs_st 1 (x' := (22, [some (.ref 89), some (.int x1), some (.int x2)], [.int (99 : Int32), .int (I 106 ((((4 : Int32) * x2) + x1).toNatClampNeg))], hp kp nh rh tl rl I L)) rfl ?_
      refine bs_br (t := 27) (e := 25) (lo := [some (.ref 89), some (.int x1), some (.int x2)]) (st := []) (h := hp kp nh rh tl rl I L) rfl hf (fun hc hf => ?_) (fun hc hf => ?_)
      · refine bs_st 2 (x' := (2, [some (.ref 89), some (.int x1), some (.int (x2 + (1 : Int32)))], [], hp kp nh rh tl rl I L)) rfl ?_
        exact hK0 x1 (x2 + (1 : Int32)) r hf
      · refine bs_st 1 (x' := (26, [some (.ref 89), some (.int x1), some (.int x2)], [.int x2], hp kp nh rh tl rl I L)) rfl ?_
        cases hf
        exact bs_ret rfl
def f_263 (n : Nat) (x1 : Int32) (I : FI) (L : FL) : Option (Int32) :=
  c_263_0 n I L n x1 (0 : Int32)
set_option maxHeartbeats 1000000 in
set_option maxRecDepth 20000 in
theorem t_263 (Ls : Nat) (xs : Nat → Int32) (d : Nat) (kp : Option Nat) (tl : List (Nat × Nat)) (rl : List (List (Option Nat))) (nh : Option Nat) (rh : Option Nat) (n : Nat) (x1 : Int32) (I : FI) (L : FL) (r : Int32) (hf : f_263 n x1 I L = some r) : pEN Ls xs (d + 2) 263 [.ref 89, .int x1] (hp kp nh rh tl rl I L) = some (some (.int r), hp kp nh rh tl rl I L) := by
  refine en_run (d := d + 1) (cd := cd_263) (f := (sf 12 rs_12 false 3 (some (.int)) Ls xs (d + 1))) rfl rfl (x := (0, [some (.ref 89), some (.int x1), none], [], hp kp nh rh tl rl I L)) rfl rfl (Nat.le_of_ble_eq_true rfl) ?_
  unfold f_263 at hf
  refine bs_st 2 (x' := (2, [some (.ref 89), some (.int x1), some (.int (0 : Int32))], [], hp kp nh rh tl rl I L)) rfl ?_
  exact tc_263_0 Ls xs d kp tl rl nh rh n I L n x1 (0 : Int32) r hf
/-- LampRoundsModel.darkOf() on (89,) -/
def c_264_1 (n : Nat) (I : FI) (L : FL) (K0 : Int32 → Int32 → Option (Int32)) (x2 : Int32) (s0 : Int32) : Option (Int32) :=
  K0 s0 (x2 + (1 : Int32))
set_option maxHeartbeats 1000000 in
set_option maxRecDepth 20000 in
theorem tc_264_1 (Ls : Nat) (xs : Nat → Int32) (d : Nat) (kp : Option Nat) (tl : List (Nat × Nat)) (rl : List (List (Option Nat))) (nh : Option Nat) (rh : Option Nat) (n : Nat) (I : FI) (L : FL) (K0 : Int32 → Int32 → Option (Int32)) (hK0 : ∀ (x1 : Int32) (x2 : Int32) (r : Int32), K0 x1 x2 = some r → Bs cd_264 (sf 12 rs_12 false 3 (some (.int)) Ls xs (d + 2)) (7, [some (.ref 89), some (.int x1), some (.int x2)], [], hp kp nh rh tl rl I L) (some (.int r), hp kp nh rh tl rl I L)) (w1 : Option Value) (x2 : Int32) (s0 : Int32) (r : Int32) (hf : c_264_1 n I L K0 x2 s0 = some r) : Bs cd_264 (sf 12 rs_12 false 3 (some (.int)) Ls xs (d + 2)) (33, [some (.ref 89), w1, some (.int x2)], [.int s0], hp kp nh rh tl rl I L) (some (.int r), hp kp nh rh tl rl I L) := by
  unfold c_264_1 at hf
  refine bs_st 3 (x' := (7, [some (.ref 89), some (.int s0), some (.int (x2 + (1 : Int32)))], [], hp kp nh rh tl rl I L)) rfl ?_
  exact hK0 s0 (x2 + (1 : Int32)) r hf
def b_264_0 (n : Nat) (I : FI) (L : FL) (K0 : Int32 → Int32 → Option (Int32)) (x1 : Int32) (x2 : Int32) : Option (Int32) :=
  (f_237 I L).bind fun q1 =>
  if q1 ≤ x2 then
    some (x1)
  else
    (f_263 n x2 I L).bind fun q2 =>
    if x1 ≤ q2 then
      c_264_1 n I L K0 x2 x1
    else
      (f_263 n x2 I L).bind fun q3 =>
      c_264_1 n I L K0 x2 q3
def c_264_0 (n : Nat) (I : FI) (L : FL) : Nat → Int32 → Int32 → Option (Int32)
  | 0, _, _ => none
  | m + 1, x1, x2 => b_264_0 n I L (c_264_0 n I L m) x1 x2
set_option maxHeartbeats 1000000 in
set_option maxRecDepth 20000 in
theorem tc_264_0 (Ls : Nat) (xs : Nat → Int32) (d : Nat) (kp : Option Nat) (tl : List (Nat × Nat)) (rl : List (List (Option Nat))) (nh : Option Nat) (rh : Option Nat) (n : Nat) (I : FI) (L : FL) : ∀ (m : Nat) (x1 : Int32) (x2 : Int32) (r : Int32), c_264_0 n I L m x1 x2 = some r → Bs cd_264 (sf 12 rs_12 false 3 (some (.int)) Ls xs (d + 2)) (7, [some (.ref 89), some (.int x1), some (.int x2)], [], hp kp nh rh tl rl I L) (some (.int r), hp kp nh rh tl rl I L)
  | 0, x1, x2, r, hf => by cases hf
  | m + 1, x1, x2, r, hf => by
    unfold c_264_0 b_264_0 at hf
    have hK0 := tc_264_0 Ls xs d kp tl rl nh rh n I L m
    refine bs_st 2 (x' := (9, [some (.ref 89), some (.int x1), some (.int x2)], [.ref 89, .int x2], hp kp nh rh tl rl I L)) rfl ?_
    obtain ⟨q1, hq1, hf⟩ := Option.bind_eq_some_iff.mp hf
    refine bs_call (o := pEN Ls xs (d + 2) 237 [.ref 89] (hp kp nh rh tl rl I L)) (w := some (.int q1)) (h' := hp kp nh rh tl rl I L) (pc := 12) (lo := [some (.ref 89), some (.int x1), some (.int x2)]) (rest := [.int x2]) rfl (t_237 Ls xs (d + 1) kp tl rl nh rh I L q1 hq1) ?_
    refine bs_br (t := 40) (e := 15) (lo := [some (.ref 89), some (.int x1), some (.int x2)]) (st := []) (h := hp kp nh rh tl rl I L) rfl hf (fun hc hf => ?_) (fun hc hf => ?_)
    · refine bs_st 1 (x' := (41, [some (.ref 89), some (.int x1), some (.int x2)], [.int x1], hp kp nh rh tl rl I L)) rfl ?_
      cases hf
      exact bs_ret rfl
    · refine bs_st 2 (x' := (17, [some (.ref 89), some (.int x1), some (.int x2)], [.int x2, .ref 89], hp kp nh rh tl rl I L)) rfl ?_
      obtain ⟨q2, hq2, hf⟩ := Option.bind_eq_some_iff.mp hf
      refine bs_call (o := pEN Ls xs (d + 2) 263 [.ref 89, .int x2] (hp kp nh rh tl rl I L)) (w := some (.int q2)) (h' := hp kp nh rh tl rl I L) (pc := 20) (lo := [some (.ref 89), some (.int x1), some (.int x2)]) (rest := []) rfl (t_263 Ls xs (d + 0) kp tl rl nh rh n x2 I L q2 hq2) ?_
      refine bs_st 1 (x' := (21, [some (.ref 89), some (.int x1), some (.int x2)], [.int x1, .int q2], hp kp nh rh tl rl I L)) rfl ?_
      refine bs_br (t := 32) (e := 24) (lo := [some (.ref 89), some (.int x1), some (.int x2)]) (st := []) (h := hp kp nh rh tl rl I L) rfl hf (fun hc hf => ?_) (fun hc hf => ?_)
      · refine bs_st 1 (x' := (33, [some (.ref 89), some (.int x1), some (.int x2)], [.int x1], hp kp nh rh tl rl I L)) rfl ?_
        exact tc_264_1 Ls xs d kp tl rl nh rh n I L _ hK0 (some (.int x1)) x2 x1 r hf
      · refine bs_st 2 (x' := (26, [some (.ref 89), some (.int x1), some (.int x2)], [.int x2, .ref 89], hp kp nh rh tl rl I L)) rfl ?_
        obtain ⟨q3, hq3, hf⟩ := Option.bind_eq_some_iff.mp hf
        refine bs_call (o := pEN Ls xs (d + 2) 263 [.ref 89, .int x2] (hp kp nh rh tl rl I L)) (w := some (.int q3)) (h' := hp kp nh rh tl rl I L) (pc := 29) (lo := [some (.ref 89), some (.int x1), some (.int x2)]) (rest := []) rfl (t_263 Ls xs (d + 0) kp tl rl nh rh n x2 I L q3 hq3) ?_
        refine bs_st 1 (x' := (33, [some (.ref 89), some (.int x1), some (.int x2)], [.int q3], hp kp nh rh tl rl I L)) rfl ?_
        exact tc_264_1 Ls xs d kp tl rl nh rh n I L _ hK0 (some (.int x1)) x2 q3 r hf
def f_264 (n : Nat) (I : FI) (L : FL) : Option (Int32) :=
  (f_238 I L).bind fun q0 =>
  c_264_0 n I L n q0 (0 : Int32)
set_option maxHeartbeats 1000000 in
set_option maxRecDepth 20000 in
theorem t_264 (Ls : Nat) (xs : Nat → Int32) (d : Nat) (kp : Option Nat) (tl : List (Nat × Nat)) (rl : List (List (Option Nat))) (nh : Option Nat) (rh : Option Nat) (n : Nat) (I : FI) (L : FL) (r : Int32) (hf : f_264 n I L = some r) : pEN Ls xs (d + 3) 264 [.ref 89] (hp kp nh rh tl rl I L) = some (some (.int r), hp kp nh rh tl rl I L) := by
  refine en_run (d := d + 2) (cd := cd_264) (f := (sf 12 rs_12 false 3 (some (.int)) Ls xs (d + 2))) rfl rfl (x := (0, [some (.ref 89), none, none], [], hp kp nh rh tl rl I L)) rfl rfl (Nat.le_of_ble_eq_true rfl) ?_
  unfold f_264 at hf
  refine bs_st 1 (x' := (1, [some (.ref 89), none, none], [.ref 89], hp kp nh rh tl rl I L)) rfl ?_
  obtain ⟨q0, hq0, hf⟩ := Option.bind_eq_some_iff.mp hf
  refine bs_call (o := pEN Ls xs (d + 2) 238 [.ref 89] (hp kp nh rh tl rl I L)) (w := some (.int q0)) (h' := hp kp nh rh tl rl I L) (pc := 4) (lo := [some (.ref 89), none, none]) (rest := []) rfl (t_238 Ls xs (d + 1) kp tl rl nh rh I L q0 hq0) ?_
  refine bs_st 3 (x' := (7, [some (.ref 89), some (.int q0), some (.int (0 : Int32))], [], hp kp nh rh tl rl I L)) rfl ?_
  exact tc_264_0 Ls xs d kp tl rl nh rh n I L n q0 (0 : Int32) r hf
/-- LampRoundsModel.orNone(I) on (89,) -/
def f_265 (x1 : Int32) (I : FI) (L : FL) : Option (Int32) :=
  (f_238 I L).bind fun q0 =>
  if ¬ x1 = q0 then
    some (x1)
  else
    some ((-1 : Int32))
set_option maxHeartbeats 1000000 in
set_option maxRecDepth 20000 in
theorem t_265 (Ls : Nat) (xs : Nat → Int32) (d : Nat) (kp : Option Nat) (tl : List (Nat × Nat)) (rl : List (List (Option Nat))) (nh : Option Nat) (rh : Option Nat) (x1 : Int32) (I : FI) (L : FL) (r : Int32) (hf : f_265 x1 I L = some r) : pEN Ls xs (d + 2) 265 [.ref 89, .int x1] (hp kp nh rh tl rl I L) = some (some (.int r), hp kp nh rh tl rl I L) := by
  refine en_run (d := d + 1) (cd := cd_265) (f := (sf 12 rs_12 false 2 (some (.int)) Ls xs (d + 1))) rfl rfl (x := (0, [some (.ref 89), some (.int x1)], [], hp kp nh rh tl rl I L)) rfl rfl (Nat.le_of_ble_eq_true rfl) ?_
  unfold f_265 at hf
  refine bs_st 2 (x' := (2, [some (.ref 89), some (.int x1)], [.ref 89, .int x1], hp kp nh rh tl rl I L)) rfl ?_
  obtain ⟨q0, hq0, hf⟩ := Option.bind_eq_some_iff.mp hf
  refine bs_call (o := pEN Ls xs (d + 1) 238 [.ref 89] (hp kp nh rh tl rl I L)) (w := some (.int q0)) (h' := hp kp nh rh tl rl I L) (pc := 5) (lo := [some (.ref 89), some (.int x1)]) (rest := [.int x1]) rfl (t_238 Ls xs (d + 0) kp tl rl nh rh I L q0 hq0) ?_
  refine bs_br (t := 12) (e := 8) (lo := [some (.ref 89), some (.int x1)]) (st := []) (h := hp kp nh rh tl rl I L) rfl hf (fun hc hf => ?_) (fun hc hf => ?_)
  · refine bs_st 1 (x' := (13, [some (.ref 89), some (.int x1)], [.int x1], hp kp nh rh tl rl I L)) rfl ?_
    cases hf
    exact bs_ret rfl
  · refine bs_st 2 (x' := (13, [some (.ref 89), some (.int x1)], [.int (-1 : Int32)], hp kp nh rh tl rl I L)) rfl ?_
    cases hf
    exact bs_ret rfl
/-- LampRoundsModel.room(II) on (89,) -/
def f_266 (x1 : Int32) (x2 : Int32) (I : FI) (L : FL) : Option (Int32 × FI × FL) :=
  (f_239 x1.toInt64 (u2 I 89 0 (0 : Int32)) L).bind fun q0 =>
  if q0 = 0 then
    some ((-2 : Int32), (u2 I 89 0 (0 : Int32)), L)
  else
    (f_242 x2 (u2 I 89 0 (0 : Int32)) L).bind fun q1 =>
    if q1 = 0 then
      some ((-2 : Int32), (u2 I 89 0 (0 : Int32)), L)
    else
      if pin (((2 : Int32) * x1) + x2) 40 = true then some (I 97 ((((2 : Int32) * x1) + x2).toNatClampNeg), (u2 I 89 0 (0 : Int32)), L) else none
set_option maxHeartbeats 1000000 in
set_option maxRecDepth 20000 in
theorem t_266 (Ls : Nat) (xs : Nat → Int32) (d : Nat) (kp : Option Nat) (tl : List (Nat × Nat)) (rl : List (List (Option Nat))) (nh : Option Nat) (rh : Option Nat) (x1 : Int32) (x2 : Int32) (I : FI) (L : FL) (r : Int32 × FI × FL) (hf : f_266 x1 x2 I L = some r) : pEN Ls xs (d + 3) 266 [.ref 89, .int x1, .int x2] (hp kp nh rh tl rl I L) = some (some (.int r.1), hp kp nh rh tl rl r.2.1 r.2.2) := by
  refine en_run (d := d + 2) (cd := cd_266) (f := (sf 12 rs_12 false 3 (some (.int)) Ls xs (d + 2))) rfl rfl (x := (0, [some (.ref 89), some (.int x1), some (.int x2)], [], hp kp nh rh tl rl I L)) rfl rfl (Nat.le_of_ble_eq_true rfl) ?_
  unfold f_266 at hf
  refine bs_st 6 (x' := (8, [some (.ref 89), some (.int x1), some (.int x2)], [.long x1.toInt64, .ref 89], hp kp nh rh tl rl (u2 I 89 0 (0 : Int32)) L)) rfl ?_
  obtain ⟨q0, hq0, hf⟩ := Option.bind_eq_some_iff.mp hf
  refine bs_call (o := pEN Ls xs (d + 2) 239 [.ref 89, .long x1.toInt64] (hp kp nh rh tl rl (u2 I 89 0 (0 : Int32)) L)) (w := some (.int q0)) (h' := hp kp nh rh tl rl (u2 I 89 0 (0 : Int32)) L) (pc := 11) (lo := [some (.ref 89), some (.int x1), some (.int x2)]) (rest := []) rfl (t_239 Ls xs (d + 0) kp tl rl nh rh x1.toInt64 (u2 I 89 0 (0 : Int32)) L q0 hq0) ?_
  refine bs_br (t := 34) (e := 14) (lo := [some (.ref 89), some (.int x1), some (.int x2)]) (st := []) (h := hp kp nh rh tl rl (u2 I 89 0 (0 : Int32)) L) rfl hf (fun hc hf => ?_) (fun hc hf => ?_)
  · refine bs_st 1 (x' := (36, [some (.ref 89), some (.int x1), some (.int x2)], [.int (-2 : Int32)], hp kp nh rh tl rl (u2 I 89 0 (0 : Int32)) L)) rfl ?_
    cases hf
    exact bs_ret rfl
  · refine bs_st 1 (x' := (15, [some (.ref 89), some (.int x1), some (.int x2)], [.int x2], hp kp nh rh tl rl (u2 I 89 0 (0 : Int32)) L)) rfl ?_
    obtain ⟨q1, hq1, hf⟩ := Option.bind_eq_some_iff.mp hf
    refine bs_call (o := pEN Ls xs (d + 2) 242 [.int x2] (hp kp nh rh tl rl (u2 I 89 0 (0 : Int32)) L)) (w := some (.int q1)) (h' := hp kp nh rh tl rl (u2 I 89 0 (0 : Int32)) L) (pc := 18) (lo := [some (.ref 89), some (.int x1), some (.int x2)]) (rest := []) rfl (t_242 Ls xs (d + 0) kp tl rl nh rh x2 (u2 I 89 0 (0 : Int32)) L q1 hq1) ?_
    refine bs_br (t := 34) (e := 21) (lo := [some (.ref 89), some (.int x1), some (.int x2)]) (st := []) (h := hp kp nh rh tl rl (u2 I 89 0 (0 : Int32)) L) rfl hf (fun hc hf => ?_) (fun hc hf => ?_)
    · refine bs_st 1 (x' := (36, [some (.ref 89), some (.int x1), some (.int x2)], [.int (-2 : Int32)], hp kp nh rh tl rl (u2 I 89 0 (0 : Int32)) L)) rfl ?_
      cases hf
      exact bs_ret rfl
    · refine bs_st 7 (x' := (30, [some (.ref 89), some (.int x1), some (.int x2)], [.int (((2 : Int32) * x1) + x2), .ref 97], hp kp nh rh tl rl (u2 I 89 0 (0 : Int32)) L)) rfl ?_
      refine bs_gd (x' := (31, [some (.ref 89), some (.int x1), some (.int x2)], [.int (I 97 ((((2 : Int32) * x1) + x2).toNatClampNeg))], hp kp nh rh tl rl (u2 I 89 0 (0 : Int32)) L)) rfl hf (fun hc hf => ?_)
      refine bs_st 1 (x' := (36, [some (.ref 89), some (.int x1), some (.int x2)], [.int (I 97 ((((2 : Int32) * x1) + x2).toNatClampNeg))], hp kp nh rh tl rl (u2 I 89 0 (0 : Int32)) L)) rfl ?_
      cases hf
      exact bs_ret rfl
/-- LampRoundsModel.doors(I) on (89,) -/
def c_267_1 (n : Nat) (K0 : Int32 → Int32 → Int32 → FI → FL → Option (Int32 × FI × FL)) (x1 : Int32) (x3 : Int32) (s0 : Int32) (s1 : Int32) (I : FI) (L : FL) : Option (Int32 × FI × FL) :=
  K0 x1 (s1 ||| s0) (x3 + (1 : Int32)) I L
set_option maxHeartbeats 1000000 in
set_option maxRecDepth 20000 in
theorem tc_267_1 (Ls : Nat) (xs : Nat → Int32) (d : Nat) (kp : Option Nat) (tl : List (Nat × Nat)) (rl : List (List (Option Nat))) (nh : Option Nat) (rh : Option Nat) (n : Nat) (K0 : Int32 → Int32 → Int32 → FI → FL → Option (Int32 × FI × FL)) (hK0 : ∀ (x1 : Int32) (x2 : Int32) (x3 : Int32) (I : FI) (L : FL) (r : Int32 × FI × FL), K0 x1 x2 x3 I L = some r → Bs cd_267 (sf 12 rs_12 false 4 (some (.int)) Ls xs (d + 2)) (21, [some (.ref 89), some (.int x1), some (.int x2), some (.int x3)], [], hp kp nh rh tl rl I L) (some (.int r.1), hp kp nh rh tl rl r.2.1 r.2.2)) (w2 : Option Value) (x1 : Int32) (x3 : Int32) (s0 : Int32) (s1 : Int32) (I : FI) (L : FL) (r : Int32 × FI × FL) (hf : c_267_1 n K0 x1 x3 s0 s1 I L = some r) : Bs cd_267 (sf 12 rs_12 false 4 (some (.int)) Ls xs (d + 2)) (46, [some (.ref 89), some (.int x1), w2, some (.int x3)], [.int s0, .int s1], hp kp nh rh tl rl I L) (some (.int r.1), hp kp nh rh tl rl r.2.1 r.2.2) := by
  unfold c_267_1 at hf
  refine bs_st 4 (x' := (21, [some (.ref 89), some (.int x1), some (.int (s1 ||| s0)), some (.int (x3 + (1 : Int32)))], [], hp kp nh rh tl rl I L)) rfl ?_
  exact hK0 x1 (s1 ||| s0) (x3 + (1 : Int32)) I L r hf
def b_267_0 (n : Nat) (K0 : Int32 → Int32 → Int32 → FI → FL → Option (Int32 × FI × FL)) (x1 : Int32) (x2 : Int32) (x3 : Int32) (I : FI) (L : FL) : Option (Int32 × FI × FL) :=
  (f_237 I L).bind fun q1 =>
  if q1 ≤ x3 then
    some (x2, I, L)
  else
    (f_249 n x1 x3 I L).bind fun q2 =>
    if q2 = 0 then
      c_267_1 n K0 x1 x3 (0 : Int32) x2 I L
    else
      c_267_1 n K0 x1 x3 ((1 : Int32) <<< (x3 &&& 31)) x2 I L
def c_267_0 (n : Nat) : Nat → Int32 → Int32 → Int32 → FI → FL → Option (Int32 × FI × FL)
  | 0, _, _, _, _, _ => none
  | m + 1, x1, x2, x3, I, L => b_267_0 n (c_267_0 n m) x1 x2 x3 I L
set_option maxHeartbeats 1000000 in
set_option maxRecDepth 20000 in
theorem tc_267_0 (Ls : Nat) (xs : Nat → Int32) (d : Nat) (kp : Option Nat) (tl : List (Nat × Nat)) (rl : List (List (Option Nat))) (nh : Option Nat) (rh : Option Nat) (n : Nat) : ∀ (m : Nat) (x1 : Int32) (x2 : Int32) (x3 : Int32) (I : FI) (L : FL) (r : Int32 × FI × FL), c_267_0 n m x1 x2 x3 I L = some r → Bs cd_267 (sf 12 rs_12 false 4 (some (.int)) Ls xs (d + 2)) (21, [some (.ref 89), some (.int x1), some (.int x2), some (.int x3)], [], hp kp nh rh tl rl I L) (some (.int r.1), hp kp nh rh tl rl r.2.1 r.2.2)
  | 0, x1, x2, x3, I, L, r, hf => by cases hf
  | m + 1, x1, x2, x3, I, L, r, hf => by
    unfold c_267_0 b_267_0 at hf
    have hK0 := tc_267_0 Ls xs d kp tl rl nh rh n m
    refine bs_st 2 (x' := (23, [some (.ref 89), some (.int x1), some (.int x2), some (.int x3)], [.ref 89, .int x3], hp kp nh rh tl rl I L)) rfl ?_
    obtain ⟨q1, hq1, hf⟩ := Option.bind_eq_some_iff.mp hf
    refine bs_call (o := pEN Ls xs (d + 2) 237 [.ref 89] (hp kp nh rh tl rl I L)) (w := some (.int q1)) (h' := hp kp nh rh tl rl I L) (pc := 26) (lo := [some (.ref 89), some (.int x1), some (.int x2), some (.int x3)]) (rest := [.int x3]) rfl (t_237 Ls xs (d + 1) kp tl rl nh rh I L q1 hq1) ?_
    refine bs_br (t := 54) (e := 29) (lo := [some (.ref 89), some (.int x1), some (.int x2), some (.int x3)]) (st := []) (h := hp kp nh rh tl rl I L) rfl hf (fun hc hf => ?_) (fun hc hf => ?_)
    · refine bs_st 1 (x' := (55, [some (.ref 89), some (.int x1), some (.int x2), some (.int x3)], [.int x2], hp kp nh rh tl rl I L)) rfl ?_
      cases hf
      exact bs_ret rfl
    · refine bs_st 4 (x' := (33, [some (.ref 89), some (.int x1), some (.int x2), some (.int x3)], [.int x3, .int x1, .ref 89, .int x2], hp kp nh rh tl rl I L)) rfl ?_
      obtain ⟨q2, hq2, hf⟩ := Option.bind_eq_some_iff.mp hf
      refine bs_call (o := pEN Ls xs (d + 2) 249 [.ref 89, .int x1, .int x3] (hp kp nh rh tl rl I L)) (w := some (.int q2)) (h' := hp kp nh rh tl rl I L) (pc := 36) (lo := [some (.ref 89), some (.int x1), some (.int x2), some (.int x3)]) (rest := [.int x2]) rfl (t_249 Ls xs (d + 1) kp tl rl nh rh n x1 x3 I L q2 hq2) ?_
      refine bs_br (t := 45) (e := 39) (lo := [some (.ref 89), some (.int x1), some (.int x2), some (.int x3)]) (st := [.int x2]) (h := hp kp nh rh tl rl I L) rfl hf (fun hc hf => ?_) (fun hc hf => ?_)
      · refine bs_st 1 (x' := (46, [some (.ref 89), some (.int x1), some (.int x2), some (.int x3)], [.int (0 : Int32), .int x2], hp kp nh rh tl rl I L)) rfl ?_
        exact tc_267_1 Ls xs d kp tl rl nh rh n _ hK0 (some (.int x2)) x1 x3 (0 : Int32) x2 I L r hf
      · refine bs_st 4 (x' := (46, [some (.ref 89), some (.int x1), some (.int x2), some (.int x3)], [.int ((1 : Int32) <<< (x3 &&& 31)), .int x2], hp kp nh rh tl rl I L)) rfl ?_
        exact tc_267_1 Ls xs d kp tl rl nh rh n _ hK0 (some (.int x2)) x1 x3 ((1 : Int32) <<< (x3 &&& 31)) x2 I L r hf
def f_267 (n : Nat) (x1 : Int32) (I : FI) (L : FL) : Option (Int32 × FI × FL) :=
  (f_239 x1.toInt64 (u2 I 89 0 (0 : Int32)) L).bind fun q0 =>
  if ¬ q0 = 0 then
    c_267_0 n n x1 (0 : Int32) (0 : Int32) (u2 I 89 0 (0 : Int32)) L
  else
    some ((-2 : Int32), (u2 I 89 0 (0 : Int32)), L)
set_option maxHeartbeats 1000000 in
set_option maxRecDepth 20000 in
theorem t_267 (Ls : Nat) (xs : Nat → Int32) (d : Nat) (kp : Option Nat) (tl : List (Nat × Nat)) (rl : List (List (Option Nat))) (nh : Option Nat) (rh : Option Nat) (n : Nat) (x1 : Int32) (I : FI) (L : FL) (r : Int32 × FI × FL) (hf : f_267 n x1 I L = some r) : pEN Ls xs (d + 3) 267 [.ref 89, .int x1] (hp kp nh rh tl rl I L) = some (some (.int r.1), hp kp nh rh tl rl r.2.1 r.2.2) := by
  refine en_run (d := d + 2) (cd := cd_267) (f := (sf 12 rs_12 false 4 (some (.int)) Ls xs (d + 2))) rfl rfl (x := (0, [some (.ref 89), some (.int x1), none, none], [], hp kp nh rh tl rl I L)) rfl rfl (Nat.le_of_ble_eq_true rfl) ?_
  unfold f_267 at hf
  refine bs_st 6 (x' := (8, [some (.ref 89), some (.int x1), none, none], [.long x1.toInt64, .ref 89], hp kp nh rh tl rl (u2 I 89 0 (0 : Int32)) L)) rfl ?_
  obtain ⟨q0, hq0, hf⟩ := Option.bind_eq_some_iff.mp hf
  refine bs_call (o := pEN Ls xs (d + 2) 239 [.ref 89, .long x1.toInt64] (hp kp nh rh tl rl (u2 I 89 0 (0 : Int32)) L)) (w := some (.int q0)) (h' := hp kp nh rh tl rl (u2 I 89 0 (0 : Int32)) L) (pc := 11) (lo := [some (.ref 89), some (.int x1), none, none]) (rest := []) rfl (t_239 Ls xs (d + 0) kp tl rl nh rh x1.toInt64 (u2 I 89 0 (0 : Int32)) L q0 hq0) ?_
  refine bs_br (t := 17) (e := 14) (lo := [some (.ref 89), some (.int x1), none, none]) (st := []) (h := hp kp nh rh tl rl (u2 I 89 0 (0 : Int32)) L) rfl hf (fun hc hf => ?_) (fun hc hf => ?_)
  · refine bs_st 4 (x' := (21, [some (.ref 89), some (.int x1), some (.int (0 : Int32)), some (.int (0 : Int32))], [], hp kp nh rh tl rl (u2 I 89 0 (0 : Int32)) L)) rfl ?_
    exact tc_267_0 Ls xs d kp tl rl nh rh n n x1 (0 : Int32) (0 : Int32) (u2 I 89 0 (0 : Int32)) L r hf
  · refine bs_st 1 (x' := (16, [some (.ref 89), some (.int x1), none, none], [.int (-2 : Int32)], hp kp nh rh tl rl (u2 I 89 0 (0 : Int32)) L)) rfl ?_
    cases hf
    exact bs_ret rfl
/-- LampRoundsModel.far(II) on (89,) -/
def f_268 (n : Nat) (x1 : Int32) (x2 : Int32) (I : FI) (L : FL) : Option (Int32 × FI × FL) :=
  (f_239 x1.toInt64 (u2 I 89 0 (0 : Int32)) L).bind fun q0 =>
  if q0 = 0 then
    some ((-2 : Int32), (u2 I 89 0 (0 : Int32)), L)
  else
    (f_239 x2.toInt64 (u2 I 89 0 (0 : Int32)) L).bind fun q1 =>
    if ¬ q1 = 0 then
      (f_251 n x1 x2 (u2 I 89 0 (0 : Int32)) L).bind fun q2 =>
      if q2.1 < (100000 : Int32) then
        (f_251 n x1 x2 q2.2.1 q2.2.2).bind fun q3 =>
        some (q3.1, q3.2.1, q3.2.2)
      else
        some ((-1 : Int32), q2.2.1, q2.2.2)
    else
      some ((-2 : Int32), (u2 I 89 0 (0 : Int32)), L)
set_option maxHeartbeats 1000000 in
set_option maxRecDepth 20000 in
theorem t_268 (Ls : Nat) (xs : Nat → Int32) (d : Nat) (kp : Option Nat) (tl : List (Nat × Nat)) (rl : List (List (Option Nat))) (nh : Option Nat) (rh : Option Nat) (n : Nat) (x1 : Int32) (x2 : Int32) (I : FI) (L : FL) (r : Int32 × FI × FL) (hf : f_268 n x1 x2 I L = some r) : pEN Ls xs (d + 3) 268 [.ref 89, .int x1, .int x2] (hp kp nh rh tl rl I L) = some (some (.int r.1), hp kp nh rh tl rl r.2.1 r.2.2) := by
  refine en_run (d := d + 2) (cd := cd_268) (f := (sf 12 rs_12 false 3 (some (.int)) Ls xs (d + 2))) rfl rfl (x := (0, [some (.ref 89), some (.int x1), some (.int x2)], [], hp kp nh rh tl rl I L)) rfl rfl (Nat.le_of_ble_eq_true rfl) ?_
  unfold f_268 at hf
  refine bs_st 6 (x' := (8, [some (.ref 89), some (.int x1), some (.int x2)], [.long x1.toInt64, .ref 89], hp kp nh rh tl rl (u2 I 89 0 (0 : Int32)) L)) rfl ?_
  obtain ⟨q0, hq0, hf⟩ := Option.bind_eq_some_iff.mp hf
  refine bs_call (o := pEN Ls xs (d + 2) 239 [.ref 89, .long x1.toInt64] (hp kp nh rh tl rl (u2 I 89 0 (0 : Int32)) L)) (w := some (.int q0)) (h' := hp kp nh rh tl rl (u2 I 89 0 (0 : Int32)) L) (pc := 11) (lo := [some (.ref 89), some (.int x1), some (.int x2)]) (rest := []) rfl (t_239 Ls xs (d + 0) kp tl rl nh rh x1.toInt64 (u2 I 89 0 (0 : Int32)) L q0 hq0) ?_
  refine bs_br (t := 23) (e := 14) (lo := [some (.ref 89), some (.int x1), some (.int x2)]) (st := []) (h := hp kp nh rh tl rl (u2 I 89 0 (0 : Int32)) L) rfl hf (fun hc hf => ?_) (fun hc hf => ?_)
  · refine bs_st 1 (x' := (25, [some (.ref 89), some (.int x1), some (.int x2)], [.int (-2 : Int32)], hp kp nh rh tl rl (u2 I 89 0 (0 : Int32)) L)) rfl ?_
    cases hf
    exact bs_ret rfl
  · refine bs_st 3 (x' := (17, [some (.ref 89), some (.int x1), some (.int x2)], [.long x2.toInt64, .ref 89], hp kp nh rh tl rl (u2 I 89 0 (0 : Int32)) L)) rfl ?_
    obtain ⟨q1, hq1, hf⟩ := Option.bind_eq_some_iff.mp hf
    refine bs_call (o := pEN Ls xs (d + 2) 239 [.ref 89, .long x2.toInt64] (hp kp nh rh tl rl (u2 I 89 0 (0 : Int32)) L)) (w := some (.int q1)) (h' := hp kp nh rh tl rl (u2 I 89 0 (0 : Int32)) L) (pc := 20) (lo := [some (.ref 89), some (.int x1), some (.int x2)]) (rest := []) rfl (t_239 Ls xs (d + 0) kp tl rl nh rh x2.toInt64 (u2 I 89 0 (0 : Int32)) L q1 hq1) ?_
    refine bs_br (t := 26) (e := 23) (lo := [some (.ref 89), some (.int x1), some (.int x2)]) (st := []) (h := hp kp nh rh tl rl (u2 I 89 0 (0 : Int32)) L) rfl hf (fun hc hf => ?_) (fun hc hf => ?_)
    · refine bs_st 3 (x' := (29, [some (.ref 89), some (.int x1), some (.int x2)], [.int x2, .int x1, .ref 89], hp kp nh rh tl rl (u2 I 89 0 (0 : Int32)) L)) rfl ?_
      obtain ⟨q2, hq2, hf⟩ := Option.bind_eq_some_iff.mp hf
      refine bs_call (o := pEN Ls xs (d + 2) 251 [.ref 89, .int x1, .int x2] (hp kp nh rh tl rl (u2 I 89 0 (0 : Int32)) L)) (w := some (.int q2.1)) (h' := hp kp nh rh tl rl q2.2.1 q2.2.2) (pc := 32) (lo := [some (.ref 89), some (.int x1), some (.int x2)]) (rest := []) rfl (t_251 Ls xs (d + 0) kp tl rl nh rh n x1 x2 (u2 I 89 0 (0 : Int32)) L q2 hq2) ?_
      refine bs_st 1 (x' := (34, [some (.ref 89), some (.int x1), some (.int x2)], [.int (100000 : Int32), .int q2.1], hp kp nh rh tl rl q2.2.1 q2.2.2)) rfl ?_
      refine bs_br (t := 41) (e := 37) (lo := [some (.ref 89), some (.int x1), some (.int x2)]) (st := []) (h := hp kp nh rh tl rl q2.2.1 q2.2.2) rfl hf (fun hc hf => ?_) (fun hc hf => ?_)
      · refine bs_st 3 (x' := (44, [some (.ref 89), some (.int x1), some (.int x2)], [.int x2, .int x1, .ref 89], hp kp nh rh tl rl q2.2.1 q2.2.2)) rfl ?_
        obtain ⟨q3, hq3, hf⟩ := Option.bind_eq_some_iff.mp hf
        refine bs_call (o := pEN Ls xs (d + 2) 251 [.ref 89, .int x1, .int x2] (hp kp nh rh tl rl q2.2.1 q2.2.2)) (w := some (.int q3.1)) (h' := hp kp nh rh tl rl q3.2.1 q3.2.2) (pc := 47) (lo := [some (.ref 89), some (.int x1), some (.int x2)]) (rest := []) rfl (t_251 Ls xs (d + 0) kp tl rl nh rh n x1 x2 q2.2.1 q2.2.2 q3 hq3) ?_
        cases hf
        exact bs_ret rfl
      · refine bs_st 2 (x' := (47, [some (.ref 89), some (.int x1), some (.int x2)], [.int (-1 : Int32)], hp kp nh rh tl rl q2.2.1 q2.2.2)) rfl ?_
        cases hf
        exact bs_ret rfl
    · refine bs_st 1 (x' := (25, [some (.ref 89), some (.int x1), some (.int x2)], [.int (-2 : Int32)], hp kp nh rh tl rl (u2 I 89 0 (0 : Int32)) L)) rfl ?_
      cases hf
      exact bs_ret rfl
/-- LampRoundsModel.round(I) on (89,) -/
def f_269 (x1 : Int32) (I : FI) (L : FL) : Option (Int32 × FI × FL) :=
  (f_236 (u2 I 89 0 (0 : Int32)) L).bind fun q0 =>
  if q0 = 0 then
    some ((-2 : Int32), (u2 I 89 0 (0 : Int32)), L)
  else
    if 0 ≤ x1 then
      if I 96 6 ≤ x1 then
        some ((-1 : Int32), (u2 I 89 0 (0 : Int32)), L)
      else
        if pin x1 60 = true then some (I 100 x1.toNatClampNeg, (u2 I 89 0 (0 : Int32)), L) else none
    else
      some ((-2 : Int32), (u2 I 89 0 (0 : Int32)), L)
set_option maxHeartbeats 1000000 in
set_option maxRecDepth 20000 in
theorem t_269 (Ls : Nat) (xs : Nat → Int32) (d : Nat) (kp : Option Nat) (tl : List (Nat × Nat)) (rl : List (List (Option Nat))) (nh : Option Nat) (rh : Option Nat) (x1 : Int32) (I : FI) (L : FL) (r : Int32 × FI × FL) (hf : f_269 x1 I L = some r) : pEN Ls xs (d + 2) 269 [.ref 89, .int x1] (hp kp nh rh tl rl I L) = some (some (.int r.1), hp kp nh rh tl rl r.2.1 r.2.2) := by
  refine en_run (d := d + 1) (cd := cd_269) (f := (sf 12 rs_12 false 2 (some (.int)) Ls xs (d + 1))) rfl rfl (x := (0, [some (.ref 89), some (.int x1)], [], hp kp nh rh tl rl I L)) rfl rfl (Nat.le_of_ble_eq_true rfl) ?_
  unfold f_269 at hf
  refine bs_st 4 (x' := (6, [some (.ref 89), some (.int x1)], [.ref 89], hp kp nh rh tl rl (u2 I 89 0 (0 : Int32)) L)) rfl ?_
  obtain ⟨q0, hq0, hf⟩ := Option.bind_eq_some_iff.mp hf
  refine bs_call (o := pEN Ls xs (d + 1) 236 [.ref 89] (hp kp nh rh tl rl (u2 I 89 0 (0 : Int32)) L)) (w := some (.int q0)) (h' := hp kp nh rh tl rl (u2 I 89 0 (0 : Int32)) L) (pc := 9) (lo := [some (.ref 89), some (.int x1)]) (rest := []) rfl (t_236 Ls xs (d + 0) kp tl rl nh rh (u2 I 89 0 (0 : Int32)) L q0 hq0) ?_
  refine bs_br (t := 16) (e := 12) (lo := [some (.ref 89), some (.int x1)]) (st := []) (h := hp kp nh rh tl rl (u2 I 89 0 (0 : Int32)) L) rfl hf (fun hc hf => ?_) (fun hc hf => ?_)
  · refine bs_st 1 (x' := (18, [some (.ref 89), some (.int x1)], [.int (-2 : Int32)], hp kp nh rh tl rl (u2 I 89 0 (0 : Int32)) L)) rfl ?_
    cases hf
    exact bs_ret rfl
  · refine bs_st 1 (x' := (13, [some (.ref 89), some (.int x1)], [.int x1], hp kp nh rh tl rl (u2 I 89 0 (0 : Int32)) L)) rfl ?_
    refine bs_br (t := 19) (e := 16) (lo := [some (.ref 89), some (.int x1)]) (st := []) (h := hp kp nh rh tl rl (u2 I 89 0 (0 : Int32)) L) rfl hf (fun hc hf => ?_) (fun hc hf => ?_)
    · refine bs_st 5 (x' := (27, [some (.ref 89), some (.int x1)], [.int (I 96 6), .int x1], hp kp nh rh tl rl (u2 I 89 0 (0 : Int32)) L)) rfl ?_
      refine bs_br (t := 39) (e := 30) (lo := [some (.ref 89), some (.int x1)]) (st := []) (h := hp kp nh rh tl rl (u2 I 89 0 (0 : Int32)) L) rfl hf (fun hc hf => ?_) (fun hc hf => ?_)
      · refine bs_st 1 (x' := (40, [some (.ref 89), some (.int x1)], [.int (-1 : Int32)], hp kp nh rh tl rl (u2 I 89 0 (0 : Int32)) L)) rfl ?_
        cases hf
        exact bs_ret rfl
      · refine bs_st 3 (x' := (35, [some (.ref 89), some (.int x1)], [.int x1, .ref 100], hp kp nh rh tl rl (u2 I 89 0 (0 : Int32)) L)) rfl ?_
        refine bs_gd (x' := (36, [some (.ref 89), some (.int x1)], [.int (I 100 x1.toNatClampNeg)], hp kp nh rh tl rl (u2 I 89 0 (0 : Int32)) L)) rfl hf (fun hc hf => ?_)
        refine bs_st 1 (x' := (40, [some (.ref 89), some (.int x1)], [.int (I 100 x1.toNatClampNeg)], hp kp nh rh tl rl (u2 I 89 0 (0 : Int32)) L)) rfl ?_
        cases hf
        exact bs_ret rfl
    · refine bs_st 1 (x' := (18, [some (.ref 89), some (.int x1)], [.int (-2 : Int32)], hp kp nh rh tl rl (u2 I 89 0 (0 : Int32)) L)) rfl ?_
      cases hf
      exact bs_ret rfl
/-- LampRoundsModel.at(II) on (89,) -/
def f_270 (n : Nat) (x1 : Int32) (x2 : Int32) (I : FI) (L : FL) : Option (Int32 × FI × FL) :=
  (f_243 x1 x2 (u2 I 89 0 (0 : Int32)) L).bind fun q0 =>
  if ¬ q0 = 0 then
    (f_261 n x1 (u2 I 89 0 (0 : Int32)) L).bind fun q1 =>
    if pin x2 30 = true then some (q1.1 107 x2.toNatClampNeg, q1.1, q1.2) else none
  else
    some ((-2 : Int32), (u2 I 89 0 (0 : Int32)), L)
set_option maxHeartbeats 1000000 in
set_option maxRecDepth 20000 in
theorem t_270 (Ls : Nat) (xs : Nat → Int32) (d : Nat) (kp : Option Nat) (tl : List (Nat × Nat)) (rl : List (List (Option Nat))) (nh : Option Nat) (rh : Option Nat) (n : Nat) (x1 : Int32) (x2 : Int32) (I : FI) (L : FL) (r : Int32 × FI × FL) (hf : f_270 n x1 x2 I L = some r) : pEN Ls xs (d + 7) 270 [.ref 89, .int x1, .int x2] (hp kp nh rh tl rl I L) = some (some (.int r.1), hp kp nh rh tl rl r.2.1 r.2.2) := by
  refine en_run (d := d + 6) (cd := cd_270) (f := (sf 12 rs_12 false 3 (some (.int)) Ls xs (d + 6))) rfl rfl (x := (0, [some (.ref 89), some (.int x1), some (.int x2)], [], hp kp nh rh tl rl I L)) rfl rfl (Nat.le_of_ble_eq_true rfl) ?_
  unfold f_270 at hf
  refine bs_st 6 (x' := (8, [some (.ref 89), some (.int x1), some (.int x2)], [.int x2, .int x1, .ref 89], hp kp nh rh tl rl (u2 I 89 0 (0 : Int32)) L)) rfl ?_
  obtain ⟨q0, hq0, hf⟩ := Option.bind_eq_some_iff.mp hf
  refine bs_call (o := pEN Ls xs (d + 6) 243 [.ref 89, .int x1, .int x2] (hp kp nh rh tl rl (u2 I 89 0 (0 : Int32)) L)) (w := some (.int q0)) (h' := hp kp nh rh tl rl (u2 I 89 0 (0 : Int32)) L) (pc := 11) (lo := [some (.ref 89), some (.int x1), some (.int x2)]) (rest := []) rfl (t_243 Ls xs (d + 3) kp tl rl nh rh x1 x2 (u2 I 89 0 (0 : Int32)) L q0 hq0) ?_
  refine bs_br (t := 17) (e := 14) (lo := [some (.ref 89), some (.int x1), some (.int x2)]) (st := []) (h := hp kp nh rh tl rl (u2 I 89 0 (0 : Int32)) L) rfl hf (fun hc hf => ?_) (fun hc hf => ?_)
  · refine bs_st 2 (x' := (19, [some (.ref 89), some (.int x1), some (.int x2)], [.int x1, .ref 89], hp kp nh rh tl rl (u2 I 89 0 (0 : Int32)) L)) rfl ?_
    obtain ⟨q1, hq1, hf⟩ := Option.bind_eq_some_iff.mp hf
    refine bs_call (o := pEN Ls xs (d + 6) 261 [.ref 89, .int x1] (hp kp nh rh tl rl (u2 I 89 0 (0 : Int32)) L)) (w := none) (h' := hp kp nh rh tl rl q1.1 q1.2) (pc := 22) (lo := [some (.ref 89), some (.int x1), some (.int x2)]) (rest := []) rfl (t_261 Ls xs (d + 0) kp tl rl nh rh n x1 (u2 I 89 0 (0 : Int32)) L q1 hq1) ?_
    refine bs_st 3 (x' := (27, [some (.ref 89), some (.int x1), some (.int x2)], [.int x2, .ref 107], hp kp nh rh tl rl q1.1 q1.2)) rfl ?_
    refine bs_gd (x' := (28, [some (.ref 89), some (.int x1), some (.int x2)], [.int (q1.1 107 x2.toNatClampNeg)], hp kp nh rh tl rl q1.1 q1.2)) rfl hf (fun hc hf => ?_)
    cases hf
    exact bs_ret rfl
  · refine bs_st 1 (x' := (16, [some (.ref 89), some (.int x1), some (.int x2)], [.int (-2 : Int32)], hp kp nh rh tl rl (u2 I 89 0 (0 : Int32)) L)) rfl ?_
    cases hf
    exact bs_ret rfl
/-- LampRoundsModel.age(III) on (89,) -/
def f_271 (n : Nat) (x1 : Int32) (x2 : Int32) (x3 : Int32) (I : FI) (L : FL) : Option (Int32 × FI × FL) :=
  (f_244 x1 x2 (u2 I 89 0 (0 : Int32)) L).bind fun q0 =>
  if q0 = 0 then
    some ((-2 : Int32), (u2 I 89 0 (0 : Int32)), L)
  else
    (f_241 x3.toInt64 (u2 I 89 0 (0 : Int32)) L).bind fun q1 =>
    if ¬ q1 = 0 then
      (f_261 n x1 (u2 I 89 0 (0 : Int32)) L).bind fun q2 =>
      if pin (((4 : Int32) * x3) + x2) 120 = true then some (q2.1 106 ((((4 : Int32) * x3) + x2).toNatClampNeg), q2.1, q2.2) else none
    else
      some ((-2 : Int32), (u2 I 89 0 (0 : Int32)), L)
set_option maxHeartbeats 1000000 in
set_option maxRecDepth 20000 in
theorem t_271 (Ls : Nat) (xs : Nat → Int32) (d : Nat) (kp : Option Nat) (tl : List (Nat × Nat)) (rl : List (List (Option Nat))) (nh : Option Nat) (rh : Option Nat) (n : Nat) (x1 : Int32) (x2 : Int32) (x3 : Int32) (I : FI) (L : FL) (r : Int32 × FI × FL) (hf : f_271 n x1 x2 x3 I L = some r) : pEN Ls xs (d + 7) 271 [.ref 89, .int x1, .int x2, .int x3] (hp kp nh rh tl rl I L) = some (some (.int r.1), hp kp nh rh tl rl r.2.1 r.2.2) := by
  refine en_run (d := d + 6) (cd := cd_271) (f := (sf 12 rs_12 false 4 (some (.int)) Ls xs (d + 6))) rfl rfl (x := (0, [some (.ref 89), some (.int x1), some (.int x2), some (.int x3)], [], hp kp nh rh tl rl I L)) rfl rfl (Nat.le_of_ble_eq_true rfl) ?_
  unfold f_271 at hf
  refine bs_st 6 (x' := (8, [some (.ref 89), some (.int x1), some (.int x2), some (.int x3)], [.int x2, .int x1, .ref 89], hp kp nh rh tl rl (u2 I 89 0 (0 : Int32)) L)) rfl ?_
  obtain ⟨q0, hq0, hf⟩ := Option.bind_eq_some_iff.mp hf
  refine bs_call (o := pEN Ls xs (d + 6) 244 [.ref 89, .int x1, .int x2] (hp kp nh rh tl rl (u2 I 89 0 (0 : Int32)) L)) (w := some (.int q0)) (h' := hp kp nh rh tl rl (u2 I 89 0 (0 : Int32)) L) (pc := 11) (lo := [some (.ref 89), some (.int x1), some (.int x2), some (.int x3)]) (rest := []) rfl (t_244 Ls xs (d + 3) kp tl rl nh rh x1 x2 (u2 I 89 0 (0 : Int32)) L q0 hq0) ?_
  refine bs_br (t := 23) (e := 14) (lo := [some (.ref 89), some (.int x1), some (.int x2), some (.int x3)]) (st := []) (h := hp kp nh rh tl rl (u2 I 89 0 (0 : Int32)) L) rfl hf (fun hc hf => ?_) (fun hc hf => ?_)
  · refine bs_st 1 (x' := (25, [some (.ref 89), some (.int x1), some (.int x2), some (.int x3)], [.int (-2 : Int32)], hp kp nh rh tl rl (u2 I 89 0 (0 : Int32)) L)) rfl ?_
    cases hf
    exact bs_ret rfl
  · refine bs_st 3 (x' := (17, [some (.ref 89), some (.int x1), some (.int x2), some (.int x3)], [.long x3.toInt64, .ref 89], hp kp nh rh tl rl (u2 I 89 0 (0 : Int32)) L)) rfl ?_
    obtain ⟨q1, hq1, hf⟩ := Option.bind_eq_some_iff.mp hf
    refine bs_call (o := pEN Ls xs (d + 6) 241 [.ref 89, .long x3.toInt64] (hp kp nh rh tl rl (u2 I 89 0 (0 : Int32)) L)) (w := some (.int q1)) (h' := hp kp nh rh tl rl (u2 I 89 0 (0 : Int32)) L) (pc := 20) (lo := [some (.ref 89), some (.int x1), some (.int x2), some (.int x3)]) (rest := []) rfl (t_241 Ls xs (d + 4) kp tl rl nh rh x3.toInt64 (u2 I 89 0 (0 : Int32)) L q1 hq1) ?_
    refine bs_br (t := 26) (e := 23) (lo := [some (.ref 89), some (.int x1), some (.int x2), some (.int x3)]) (st := []) (h := hp kp nh rh tl rl (u2 I 89 0 (0 : Int32)) L) rfl hf (fun hc hf => ?_) (fun hc hf => ?_)
    · refine bs_st 2 (x' := (28, [some (.ref 89), some (.int x1), some (.int x2), some (.int x3)], [.int x1, .ref 89], hp kp nh rh tl rl (u2 I 89 0 (0 : Int32)) L)) rfl ?_
      obtain ⟨q2, hq2, hf⟩ := Option.bind_eq_some_iff.mp hf
      refine bs_call (o := pEN Ls xs (d + 6) 261 [.ref 89, .int x1] (hp kp nh rh tl rl (u2 I 89 0 (0 : Int32)) L)) (w := none) (h' := hp kp nh rh tl rl q2.1 q2.2) (pc := 31) (lo := [some (.ref 89), some (.int x1), some (.int x2), some (.int x3)]) (rest := []) rfl (t_261 Ls xs (d + 0) kp tl rl nh rh n x1 (u2 I 89 0 (0 : Int32)) L q2 hq2) ?_
      refine bs_st 7 (x' := (40, [some (.ref 89), some (.int x1), some (.int x2), some (.int x3)], [.int (((4 : Int32) * x3) + x2), .ref 106], hp kp nh rh tl rl q2.1 q2.2)) rfl ?_
      refine bs_gd (x' := (41, [some (.ref 89), some (.int x1), some (.int x2), some (.int x3)], [.int (q2.1 106 ((((4 : Int32) * x3) + x2).toNatClampNeg))], hp kp nh rh tl rl q2.1 q2.2)) rfl hf (fun hc hf => ?_)
      cases hf
      exact bs_ret rfl
    · refine bs_st 1 (x' := (25, [some (.ref 89), some (.int x1), some (.int x2), some (.int x3)], [.int (-2 : Int32)], hp kp nh rh tl rl (u2 I 89 0 (0 : Int32)) L)) rfl ?_
      cases hf
      exact bs_ret rfl
/-- LampRoundsModel.left(III) on (89,) -/
def f_272 (n : Nat) (x1 : Int32) (x2 : Int32) (x3 : Int32) (I : FI) (L : FL) : Option (Int32 × FI × FL) :=
  (f_244 x1 x2 (u2 I 89 0 (0 : Int32)) L).bind fun q0 =>
  if q0 = 0 then
    some ((-2 : Int32), (u2 I 89 0 (0 : Int32)), L)
  else
    (f_241 x3.toInt64 (u2 I 89 0 (0 : Int32)) L).bind fun q1 =>
    if ¬ q1 = 0 then
      (f_261 n x1 (u2 I 89 0 (0 : Int32)) L).bind fun q2 =>
      if pin (((4 : Int32) * x3) + x2) 120 = true then (if ¬ q2.1 106 ((((4 : Int32) * x3) + x2).toNatClampNeg) = (99 : Int32) then
          if pin x2 4 = true then (if pin (((4 : Int32) * x3) + x2) 120 = true then some (((q2.1 104 x2.toNatClampNeg) - (q2.1 106 ((((4 : Int32) * x3) + x2).toNatClampNeg))), q2.1, q2.2) else none) else none
        else
          some ((-1 : Int32), q2.1, q2.2)) else none
    else
      some ((-2 : Int32), (u2 I 89 0 (0 : Int32)), L)
set_option maxHeartbeats 1000000 in
set_option maxRecDepth 20000 in
theorem t_272 (Ls : Nat) (xs : Nat → Int32) (d : Nat) (kp : Option Nat) (tl : List (Nat × Nat)) (rl : List (List (Option Nat))) (nh : Option Nat) (rh : Option Nat) (n : Nat) (x1 : Int32) (x2 : Int32) (x3 : Int32) (I : FI) (L : FL) (r : Int32 × FI × FL) (hf : f_272 n x1 x2 x3 I L = some r) : pEN Ls xs (d + 7) 272 [.ref 89, .int x1, .int x2, .int x3] (hp kp nh rh tl rl I L) = some (some (.int r.1), hp kp nh rh tl rl r.2.1 r.2.2) := by
  refine en_run (d := d + 6) (cd := cd_272) (f := (sf 12 rs_12 false 4 (some (.int)) Ls xs (d + 6))) rfl rfl (x := (0, [some (.ref 89), some (.int x1), some (.int x2), some (.int x3)], [], hp kp nh rh tl rl I L)) rfl rfl (Nat.le_of_ble_eq_true rfl) ?_
  unfold f_272 at hf
  refine bs_st 6 (x' := (8, [some (.ref 89), some (.int x1), some (.int x2), some (.int x3)], [.int x2, .int x1, .ref 89], hp kp nh rh tl rl (u2 I 89 0 (0 : Int32)) L)) rfl ?_
  obtain ⟨q0, hq0, hf⟩ := Option.bind_eq_some_iff.mp hf
  refine bs_call (o := pEN Ls xs (d + 6) 244 [.ref 89, .int x1, .int x2] (hp kp nh rh tl rl (u2 I 89 0 (0 : Int32)) L)) (w := some (.int q0)) (h' := hp kp nh rh tl rl (u2 I 89 0 (0 : Int32)) L) (pc := 11) (lo := [some (.ref 89), some (.int x1), some (.int x2), some (.int x3)]) (rest := []) rfl (t_244 Ls xs (d + 3) kp tl rl nh rh x1 x2 (u2 I 89 0 (0 : Int32)) L q0 hq0) ?_
  refine bs_br (t := 23) (e := 14) (lo := [some (.ref 89), some (.int x1), some (.int x2), some (.int x3)]) (st := []) (h := hp kp nh rh tl rl (u2 I 89 0 (0 : Int32)) L) rfl hf (fun hc hf => ?_) (fun hc hf => ?_)
  · refine bs_st 1 (x' := (25, [some (.ref 89), some (.int x1), some (.int x2), some (.int x3)], [.int (-2 : Int32)], hp kp nh rh tl rl (u2 I 89 0 (0 : Int32)) L)) rfl ?_
    cases hf
    exact bs_ret rfl
  · refine bs_st 3 (x' := (17, [some (.ref 89), some (.int x1), some (.int x2), some (.int x3)], [.long x3.toInt64, .ref 89], hp kp nh rh tl rl (u2 I 89 0 (0 : Int32)) L)) rfl ?_
    obtain ⟨q1, hq1, hf⟩ := Option.bind_eq_some_iff.mp hf
    refine bs_call (o := pEN Ls xs (d + 6) 241 [.ref 89, .long x3.toInt64] (hp kp nh rh tl rl (u2 I 89 0 (0 : Int32)) L)) (w := some (.int q1)) (h' := hp kp nh rh tl rl (u2 I 89 0 (0 : Int32)) L) (pc := 20) (lo := [some (.ref 89), some (.int x1), some (.int x2), some (.int x3)]) (rest := []) rfl (t_241 Ls xs (d + 4) kp tl rl nh rh x3.toInt64 (u2 I 89 0 (0 : Int32)) L q1 hq1) ?_
    refine bs_br (t := 26) (e := 23) (lo := [some (.ref 89), some (.int x1), some (.int x2), some (.int x3)]) (st := []) (h := hp kp nh rh tl rl (u2 I 89 0 (0 : Int32)) L) rfl hf (fun hc hf => ?_) (fun hc hf => ?_)
    · refine bs_st 2 (x' := (28, [some (.ref 89), some (.int x1), some (.int x2), some (.int x3)], [.int x1, .ref 89], hp kp nh rh tl rl (u2 I 89 0 (0 : Int32)) L)) rfl ?_
      obtain ⟨q2, hq2, hf⟩ := Option.bind_eq_some_iff.mp hf
      refine bs_call (o := pEN Ls xs (d + 6) 261 [.ref 89, .int x1] (hp kp nh rh tl rl (u2 I 89 0 (0 : Int32)) L)) (w := none) (h' := hp kp nh rh tl rl q2.1 q2.2) (pc := 31) (lo := [some (.ref 89), some (.int x1), some (.int x2), some (.int x3)]) (rest := []) rfl (t_261 Ls xs (d + 0) kp tl rl nh rh n x1 (u2 I 89 0 (0 : Int32)) L q2 hq2) ?_
      refine bs_st 7 (x' := (40, [some (.ref 89), some (.int x1), some (.int x2), some (.int x3)], [.int (((4 : Int32) * x3) + x2), .ref 106], hp kp nh rh tl rl q2.1 q2.2)) rfl ?_
      refine bs_gd (x' := (41, [some (.ref 89), some (.int x1), some (.int x2), some (.int x3)], [.int (q2.1 106 ((((4 : Int32) * x3) + x2).toNatClampNeg))], hp kp nh rh tl rl q2.1 q2.2)) rfl hf (fun hc hf => ?_)
      refine bs_st 1 (x' := (43, [some (.ref 89), some (.int x1), some (.int x2), some (.int x3)], [.int (99 : Int32), .int (q2.1 106 ((((4 : Int32) * x3) + x2).toNatClampNeg))], hp kp nh rh tl rl q2.1 q2.2)) rfl ?_
      refine bs_br (t := 50) (e := 46) (lo := [some (.ref 89), some (.int x1), some (.int x2), some (.int x3)]) (st := []) (h := hp kp nh rh tl rl q2.1 q2.2) rfl hf (fun hc hf => ?_) (fun hc hf => ?_)
      · refine bs_st 3 (x' := (55, [some (.ref 89), some (.int x1), some (.int x2), some (.int x3)], [.int x2, .ref 104], hp kp nh rh tl rl q2.1 q2.2)) rfl ?_
        refine bs_gd (x' := (56, [some (.ref 89), some (.int x1), some (.int x2), some (.int x3)], [.int (q2.1 104 x2.toNatClampNeg)], hp kp nh rh tl rl q2.1 q2.2)) rfl hf (fun hc hf => ?_)
        refine bs_st 7 (x' := (65, [some (.ref 89), some (.int x1), some (.int x2), some (.int x3)], [.int (((4 : Int32) * x3) + x2), .ref 106, .int (q2.1 104 x2.toNatClampNeg)], hp kp nh rh tl rl q2.1 q2.2)) rfl ?_
        refine bs_gd (x' := (66, [some (.ref 89), some (.int x1), some (.int x2), some (.int x3)], [.int (q2.1 106 ((((4 : Int32) * x3) + x2).toNatClampNeg)), .int (q2.1 104 x2.toNatClampNeg)], hp kp nh rh tl rl q2.1 q2.2)) rfl hf (fun hc hf => ?_)
        refine bs_st 1 (x' := (67, [some (.ref 89), some (.int x1), some (.int x2), some (.int x3)], [.int ((q2.1 104 x2.toNatClampNeg) - (q2.1 106 ((((4 : Int32) * x3) + x2).toNatClampNeg)))], hp kp nh rh tl rl q2.1 q2.2)) rfl ?_
        cases hf
        exact bs_ret rfl
      · refine bs_st 2 (x' := (67, [some (.ref 89), some (.int x1), some (.int x2), some (.int x3)], [.int (-1 : Int32)], hp kp nh rh tl rl q2.1 q2.2)) rfl ?_
        cases hf
        exact bs_ret rfl
    · refine bs_st 1 (x' := (25, [some (.ref 89), some (.int x1), some (.int x2), some (.int x3)], [.int (-2 : Int32)], hp kp nh rh tl rl (u2 I 89 0 (0 : Int32)) L)) rfl ?_
      cases hf
      exact bs_ret rfl
/-- LampRoundsModel.burns(II) on (89,) -/
def f_273 (n : Nat) (x1 : Int32) (x2 : Int32) (I : FI) (L : FL) : Option (Int32 × FI × FL) :=
  (f_243 x1 x2 (u2 I 89 0 (0 : Int32)) L).bind fun q0 =>
  if ¬ q0 = 0 then
    (f_261 n x1 (u2 I 89 0 (0 : Int32)) L).bind fun q1 =>
    (f_262 n x2 q1.1 q1.2).bind fun q2 =>
    some (q2, q1.1, q1.2)
  else
    some ((-2 : Int32), (u2 I 89 0 (0 : Int32)), L)
set_option maxHeartbeats 1000000 in
set_option maxRecDepth 20000 in
theorem t_273 (Ls : Nat) (xs : Nat → Int32) (d : Nat) (kp : Option Nat) (tl : List (Nat × Nat)) (rl : List (List (Option Nat))) (nh : Option Nat) (rh : Option Nat) (n : Nat) (x1 : Int32) (x2 : Int32) (I : FI) (L : FL) (r : Int32 × FI × FL) (hf : f_273 n x1 x2 I L = some r) : pEN Ls xs (d + 7) 273 [.ref 89, .int x1, .int x2] (hp kp nh rh tl rl I L) = some (some (.int r.1), hp kp nh rh tl rl r.2.1 r.2.2) := by
  refine en_run (d := d + 6) (cd := cd_273) (f := (sf 12 rs_12 false 3 (some (.int)) Ls xs (d + 6))) rfl rfl (x := (0, [some (.ref 89), some (.int x1), some (.int x2)], [], hp kp nh rh tl rl I L)) rfl rfl (Nat.le_of_ble_eq_true rfl) ?_
  unfold f_273 at hf
  refine bs_st 6 (x' := (8, [some (.ref 89), some (.int x1), some (.int x2)], [.int x2, .int x1, .ref 89], hp kp nh rh tl rl (u2 I 89 0 (0 : Int32)) L)) rfl ?_
  obtain ⟨q0, hq0, hf⟩ := Option.bind_eq_some_iff.mp hf
  refine bs_call (o := pEN Ls xs (d + 6) 243 [.ref 89, .int x1, .int x2] (hp kp nh rh tl rl (u2 I 89 0 (0 : Int32)) L)) (w := some (.int q0)) (h' := hp kp nh rh tl rl (u2 I 89 0 (0 : Int32)) L) (pc := 11) (lo := [some (.ref 89), some (.int x1), some (.int x2)]) (rest := []) rfl (t_243 Ls xs (d + 3) kp tl rl nh rh x1 x2 (u2 I 89 0 (0 : Int32)) L q0 hq0) ?_
  refine bs_br (t := 17) (e := 14) (lo := [some (.ref 89), some (.int x1), some (.int x2)]) (st := []) (h := hp kp nh rh tl rl (u2 I 89 0 (0 : Int32)) L) rfl hf (fun hc hf => ?_) (fun hc hf => ?_)
  · refine bs_st 2 (x' := (19, [some (.ref 89), some (.int x1), some (.int x2)], [.int x1, .ref 89], hp kp nh rh tl rl (u2 I 89 0 (0 : Int32)) L)) rfl ?_
    obtain ⟨q1, hq1, hf⟩ := Option.bind_eq_some_iff.mp hf
    refine bs_call (o := pEN Ls xs (d + 6) 261 [.ref 89, .int x1] (hp kp nh rh tl rl (u2 I 89 0 (0 : Int32)) L)) (w := none) (h' := hp kp nh rh tl rl q1.1 q1.2) (pc := 22) (lo := [some (.ref 89), some (.int x1), some (.int x2)]) (rest := []) rfl (t_261 Ls xs (d + 0) kp tl rl nh rh n x1 (u2 I 89 0 (0 : Int32)) L q1 hq1) ?_
    refine bs_st 2 (x' := (24, [some (.ref 89), some (.int x1), some (.int x2)], [.int x2, .ref 89], hp kp nh rh tl rl q1.1 q1.2)) rfl ?_
    obtain ⟨q2, hq2, hf⟩ := Option.bind_eq_some_iff.mp hf
    refine bs_call (o := pEN Ls xs (d + 6) 262 [.ref 89, .int x2] (hp kp nh rh tl rl q1.1 q1.2)) (w := some (.int q2)) (h' := hp kp nh rh tl rl q1.1 q1.2) (pc := 27) (lo := [some (.ref 89), some (.int x1), some (.int x2)]) (rest := []) rfl (t_262 Ls xs (d + 4) kp tl rl nh rh n x2 q1.1 q1.2 q2 hq2) ?_
    cases hf
    exact bs_ret rfl
  · refine bs_st 1 (x' := (16, [some (.ref 89), some (.int x1), some (.int x2)], [.int (-2 : Int32)], hp kp nh rh tl rl (u2 I 89 0 (0 : Int32)) L)) rfl ?_
    cases hf
    exact bs_ret rfl
/-- LampRoundsModel.out(II) on (89,) -/
def f_274 (n : Nat) (x1 : Int32) (x2 : Int32) (I : FI) (L : FL) : Option (Int32 × FI × FL) :=
  (f_244 x1 x2 (u2 I 89 0 (0 : Int32)) L).bind fun q0 =>
  if ¬ q0 = 0 then
    (f_261 n x1 (u2 I 89 0 (0 : Int32)) L).bind fun q1 =>
    (f_263 n x2 q1.1 q1.2).bind fun q2 =>
    (f_265 q2 q1.1 q1.2).bind fun q3 =>
    some (q3, q1.1, q1.2)
  else
    some ((-2 : Int32), (u2 I 89 0 (0 : Int32)), L)
set_option maxHeartbeats 1000000 in
set_option maxRecDepth 20000 in
theorem t_274 (Ls : Nat) (xs : Nat → Int32) (d : Nat) (kp : Option Nat) (tl : List (Nat × Nat)) (rl : List (List (Option Nat))) (nh : Option Nat) (rh : Option Nat) (n : Nat) (x1 : Int32) (x2 : Int32) (I : FI) (L : FL) (r : Int32 × FI × FL) (hf : f_274 n x1 x2 I L = some r) : pEN Ls xs (d + 7) 274 [.ref 89, .int x1, .int x2] (hp kp nh rh tl rl I L) = some (some (.int r.1), hp kp nh rh tl rl r.2.1 r.2.2) := by
  refine en_run (d := d + 6) (cd := cd_274) (f := (sf 12 rs_12 false 3 (some (.int)) Ls xs (d + 6))) rfl rfl (x := (0, [some (.ref 89), some (.int x1), some (.int x2)], [], hp kp nh rh tl rl I L)) rfl rfl (Nat.le_of_ble_eq_true rfl) ?_
  unfold f_274 at hf
  refine bs_st 6 (x' := (8, [some (.ref 89), some (.int x1), some (.int x2)], [.int x2, .int x1, .ref 89], hp kp nh rh tl rl (u2 I 89 0 (0 : Int32)) L)) rfl ?_
  obtain ⟨q0, hq0, hf⟩ := Option.bind_eq_some_iff.mp hf
  refine bs_call (o := pEN Ls xs (d + 6) 244 [.ref 89, .int x1, .int x2] (hp kp nh rh tl rl (u2 I 89 0 (0 : Int32)) L)) (w := some (.int q0)) (h' := hp kp nh rh tl rl (u2 I 89 0 (0 : Int32)) L) (pc := 11) (lo := [some (.ref 89), some (.int x1), some (.int x2)]) (rest := []) rfl (t_244 Ls xs (d + 3) kp tl rl nh rh x1 x2 (u2 I 89 0 (0 : Int32)) L q0 hq0) ?_
  refine bs_br (t := 17) (e := 14) (lo := [some (.ref 89), some (.int x1), some (.int x2)]) (st := []) (h := hp kp nh rh tl rl (u2 I 89 0 (0 : Int32)) L) rfl hf (fun hc hf => ?_) (fun hc hf => ?_)
  · refine bs_st 2 (x' := (19, [some (.ref 89), some (.int x1), some (.int x2)], [.int x1, .ref 89], hp kp nh rh tl rl (u2 I 89 0 (0 : Int32)) L)) rfl ?_
    obtain ⟨q1, hq1, hf⟩ := Option.bind_eq_some_iff.mp hf
    refine bs_call (o := pEN Ls xs (d + 6) 261 [.ref 89, .int x1] (hp kp nh rh tl rl (u2 I 89 0 (0 : Int32)) L)) (w := none) (h' := hp kp nh rh tl rl q1.1 q1.2) (pc := 22) (lo := [some (.ref 89), some (.int x1), some (.int x2)]) (rest := []) rfl (t_261 Ls xs (d + 0) kp tl rl nh rh n x1 (u2 I 89 0 (0 : Int32)) L q1 hq1) ?_
    refine bs_st 3 (x' := (25, [some (.ref 89), some (.int x1), some (.int x2)], [.int x2, .ref 89, .ref 89], hp kp nh rh tl rl q1.1 q1.2)) rfl ?_
    obtain ⟨q2, hq2, hf⟩ := Option.bind_eq_some_iff.mp hf
    refine bs_call (o := pEN Ls xs (d + 6) 263 [.ref 89, .int x2] (hp kp nh rh tl rl q1.1 q1.2)) (w := some (.int q2)) (h' := hp kp nh rh tl rl q1.1 q1.2) (pc := 28) (lo := [some (.ref 89), some (.int x1), some (.int x2)]) (rest := [.ref 89]) rfl (t_263 Ls xs (d + 4) kp tl rl nh rh n x2 q1.1 q1.2 q2 hq2) ?_
    obtain ⟨q3, hq3, hf⟩ := Option.bind_eq_some_iff.mp hf
    refine bs_call (o := pEN Ls xs (d + 6) 265 [.ref 89, .int q2] (hp kp nh rh tl rl q1.1 q1.2)) (w := some (.int q3)) (h' := hp kp nh rh tl rl q1.1 q1.2) (pc := 31) (lo := [some (.ref 89), some (.int x1), some (.int x2)]) (rest := []) rfl (t_265 Ls xs (d + 4) kp tl rl nh rh q2 q1.1 q1.2 q3 hq3) ?_
    cases hf
    exact bs_ret rfl
  · refine bs_st 1 (x' := (16, [some (.ref 89), some (.int x1), some (.int x2)], [.int (-2 : Int32)], hp kp nh rh tl rl (u2 I 89 0 (0 : Int32)) L)) rfl ?_
    cases hf
    exact bs_ret rfl
/-- LampRoundsModel.dark(I) on (89,) -/
def f_275 (n : Nat) (x1 : Int32) (I : FI) (L : FL) : Option (Int32 × FI × FL) :=
  (f_245 x1 (u2 I 89 0 (0 : Int32)) L).bind fun q0 =>
  if ¬ q0 = 0 then
    (f_261 n x1 (u2 I 89 0 (0 : Int32)) L).bind fun q1 =>
    (f_264 n q1.1 q1.2).bind fun q2 =>
    (f_265 q2 q1.1 q1.2).bind fun q3 =>
    some (q3, q1.1, q1.2)
  else
    some ((-2 : Int32), (u2 I 89 0 (0 : Int32)), L)
set_option maxHeartbeats 1000000 in
set_option maxRecDepth 20000 in
theorem t_275 (Ls : Nat) (xs : Nat → Int32) (d : Nat) (kp : Option Nat) (tl : List (Nat × Nat)) (rl : List (List (Option Nat))) (nh : Option Nat) (rh : Option Nat) (n : Nat) (x1 : Int32) (I : FI) (L : FL) (r : Int32 × FI × FL) (hf : f_275 n x1 I L = some r) : pEN Ls xs (d + 7) 275 [.ref 89, .int x1] (hp kp nh rh tl rl I L) = some (some (.int r.1), hp kp nh rh tl rl r.2.1 r.2.2) := by
  refine en_run (d := d + 6) (cd := cd_275) (f := (sf 12 rs_12 false 2 (some (.int)) Ls xs (d + 6))) rfl rfl (x := (0, [some (.ref 89), some (.int x1)], [], hp kp nh rh tl rl I L)) rfl rfl (Nat.le_of_ble_eq_true rfl) ?_
  unfold f_275 at hf
  refine bs_st 5 (x' := (7, [some (.ref 89), some (.int x1)], [.int x1, .ref 89], hp kp nh rh tl rl (u2 I 89 0 (0 : Int32)) L)) rfl ?_
  obtain ⟨q0, hq0, hf⟩ := Option.bind_eq_some_iff.mp hf
  refine bs_call (o := pEN Ls xs (d + 6) 245 [.ref 89, .int x1] (hp kp nh rh tl rl (u2 I 89 0 (0 : Int32)) L)) (w := some (.int q0)) (h' := hp kp nh rh tl rl (u2 I 89 0 (0 : Int32)) L) (pc := 10) (lo := [some (.ref 89), some (.int x1)]) (rest := []) rfl (t_245 Ls xs (d + 3) kp tl rl nh rh x1 (u2 I 89 0 (0 : Int32)) L q0 hq0) ?_
  refine bs_br (t := 16) (e := 13) (lo := [some (.ref 89), some (.int x1)]) (st := []) (h := hp kp nh rh tl rl (u2 I 89 0 (0 : Int32)) L) rfl hf (fun hc hf => ?_) (fun hc hf => ?_)
  · refine bs_st 2 (x' := (18, [some (.ref 89), some (.int x1)], [.int x1, .ref 89], hp kp nh rh tl rl (u2 I 89 0 (0 : Int32)) L)) rfl ?_
    obtain ⟨q1, hq1, hf⟩ := Option.bind_eq_some_iff.mp hf
    refine bs_call (o := pEN Ls xs (d + 6) 261 [.ref 89, .int x1] (hp kp nh rh tl rl (u2 I 89 0 (0 : Int32)) L)) (w := none) (h' := hp kp nh rh tl rl q1.1 q1.2) (pc := 21) (lo := [some (.ref 89), some (.int x1)]) (rest := []) rfl (t_261 Ls xs (d + 0) kp tl rl nh rh n x1 (u2 I 89 0 (0 : Int32)) L q1 hq1) ?_
    refine bs_st 2 (x' := (23, [some (.ref 89), some (.int x1)], [.ref 89, .ref 89], hp kp nh rh tl rl q1.1 q1.2)) rfl ?_
    obtain ⟨q2, hq2, hf⟩ := Option.bind_eq_some_iff.mp hf
    refine bs_call (o := pEN Ls xs (d + 6) 264 [.ref 89] (hp kp nh rh tl rl q1.1 q1.2)) (w := some (.int q2)) (h' := hp kp nh rh tl rl q1.1 q1.2) (pc := 26) (lo := [some (.ref 89), some (.int x1)]) (rest := [.ref 89]) rfl (t_264 Ls xs (d + 3) kp tl rl nh rh n q1.1 q1.2 q2 hq2) ?_
    obtain ⟨q3, hq3, hf⟩ := Option.bind_eq_some_iff.mp hf
    refine bs_call (o := pEN Ls xs (d + 6) 265 [.ref 89, .int q2] (hp kp nh rh tl rl q1.1 q1.2)) (w := some (.int q3)) (h' := hp kp nh rh tl rl q1.1 q1.2) (pc := 29) (lo := [some (.ref 89), some (.int x1)]) (rest := []) rfl (t_265 Ls xs (d + 4) kp tl rl nh rh q2 q1.1 q1.2 q3 hq3) ?_
    cases hf
    exact bs_ret rfl
  · refine bs_st 1 (x' := (15, [some (.ref 89), some (.int x1)], [.int (-2 : Int32)], hp kp nh rh tl rl (u2 I 89 0 (0 : Int32)) L)) rfl ?_
    cases hf
    exact bs_ret rfl
/-- LampRoundsModel.first(I) on (89,) -/
def b_276_0 (n : Nat) (K0 : Int32 → Int32 → FI → FL → Option (Int32 × FI × FL)) (x2 : Int32) (x3 : Int32) (I : FI) (L : FL) : Option (Int32 × FI × FL) :=
  (f_237 I L).bind fun q3 =>
  if q3 ≤ x3 then
    some ((-1 : Int32), I, L)
  else
    (f_238 I L).bind fun q4 =>
    if q4 ≤ x2 then
      some ((-1 : Int32), I, L)
    else
      (f_263 n x3 I L).bind fun q5 =>
      if ¬ q5 = x2 then
        K0 x2 (x3 + (1 : Int32)) I L
      else
        some (x3, I, L)
def c_276_0 (n : Nat) : Nat → Int32 → Int32 → FI → FL → Option (Int32 × FI × FL)
  | 0, _, _, _, _ => none
  | m + 1, x2, x3, I, L => b_276_0 n (c_276_0 n m) x2 x3 I L
set_option maxHeartbeats 1000000 in
set_option maxRecDepth 20000 in
theorem tc_276_0 (Ls : Nat) (xs : Nat → Int32) (d : Nat) (kp : Option Nat) (tl : List (Nat × Nat)) (rl : List (List (Option Nat))) (nh : Option Nat) (rh : Option Nat) (n : Nat) : ∀ (m : Nat) (w1 : Option Value) (x2 : Int32) (x3 : Int32) (I : FI) (L : FL) (r : Int32 × FI × FL), c_276_0 n m x2 x3 I L = some r → Bs cd_276 (sf 12 rs_12 false 4 (some (.int)) Ls xs (d + 6)) (28, [some (.ref 89), w1, some (.int x2), some (.int x3)], [], hp kp nh rh tl rl I L) (some (.int r.1), hp kp nh rh tl rl r.2.1 r.2.2)
  | 0, w1, x2, x3, I, L, r, hf => by cases hf
  | m + 1, w1, x2, x3, I, L, r, hf => by
    unfold c_276_0 b_276_0 at hf
    have hK0 := tc_276_0 Ls xs d kp tl rl nh rh n m
    refine bs_st 2 (x' := (30, [some (.ref 89), w1, some (.int x2), some (.int x3)], [.ref 89, .int x3], hp kp nh rh tl rl I L)) rfl ?_
    obtain ⟨q3, hq3, hf⟩ := Option.bind_eq_some_iff.mp hf
    refine bs_call (o := pEN Ls xs (d + 6) 237 [.ref 89] (hp kp nh rh tl rl I L)) (w := some (.int q3)) (h' := hp kp nh rh tl rl I L) (pc := 33) (lo := [some (.ref 89), w1, some (.int x2), some (.int x3)]) (rest := [.int x3]) rfl (t_237 Ls xs (d + 5) kp tl rl nh rh I L q3 hq3) ?_
    refine bs_br (t := 61) (e := 36) (lo := [some (.ref 89), w1, some (.int x2), some (.int x3)]) (st := []) (h := hp kp nh rh tl rl I L) rfl hf (fun hc hf => ?_) (fun hc hf => ?_)
    · refine bs_st 1 (x' := (62, [some (.ref 89), w1, some (.int x2), some (.int x3)], [.int (-1 : Int32)], hp kp nh rh tl rl I L)) rfl ?_
      cases hf
      exact bs_ret rfl
    · refine bs_st 2 (x' := (38, [some (.ref 89), w1, some (.int x2), some (.int x3)], [.ref 89, .int x2], hp kp nh rh tl rl I L)) rfl ?_
      obtain ⟨q4, hq4, hf⟩ := Option.bind_eq_some_iff.mp hf
      refine bs_call (o := pEN Ls xs (d + 6) 238 [.ref 89] (hp kp nh rh tl rl I L)) (w := some (.int q4)) (h' := hp kp nh rh tl rl I L) (pc := 41) (lo := [some (.ref 89), w1, some (.int x2), some (.int x3)]) (rest := [.int x2]) rfl (t_238 Ls xs (d + 5) kp tl rl nh rh I L q4 hq4) ?_
      refine bs_br (t := 61) (e := 44) (lo := [some (.ref 89), w1, some (.int x2), some (.int x3)]) (st := []) (h := hp kp nh rh tl rl I L) rfl hf (fun hc hf => ?_) (fun hc hf => ?_)
      · refine bs_st 1 (x' := (62, [some (.ref 89), w1, some (.int x2), some (.int x3)], [.int (-1 : Int32)], hp kp nh rh tl rl I L)) rfl ?_
        cases hf
        exact bs_ret rfl
      · refine bs_st 2 (x' := (46, [some (.ref 89), w1, some (.int x2), some (.int x3)], [.int x3, .ref 89], hp kp nh rh tl rl I L)) rfl ?_
        obtain ⟨q5, hq5, hf⟩ := Option.bind_eq_some_iff.mp hf
        refine bs_call (o := pEN Ls xs (d + 6) 263 [.ref 89, .int x3] (hp kp nh rh tl rl I L)) (w := some (.int q5)) (h' := hp kp nh rh tl rl I L) (pc := 49) (lo := [some (.ref 89), w1, some (.int x2), some (.int x3)]) (rest := []) rfl (t_263 Ls xs (d + 4) kp tl rl nh rh n x3 I L q5 hq5) ?_
        refine bs_st 1 (x' := (50, [some (.ref 89), w1, some (.int x2), some (.int x3)], [.int x2, .int q5], hp kp nh rh tl rl I L)) rfl ?_
        refine bs_br (t := 55) (e := 53) (lo := [some (.ref 89), w1, some (.int x2), some (.int x3)]) (st := []) (h := hp kp nh rh tl rl I L) rfl hf (fun hc hf => ?_) (fun hc hf => ?_)
        · refine bs_st 2 (x' := (28, [some (.ref 89), w1, some (.int x2), some (.int (x3 + (1 : Int32)))], [], hp kp nh rh tl rl I L)) rfl ?_
          exact hK0 w1 x2 (x3 + (1 : Int32)) I L r hf
        · refine bs_st 1 (x' := (54, [some (.ref 89), w1, some (.int x2), some (.int x3)], [.int x3], hp kp nh rh tl rl I L)) rfl ?_
          cases hf
          exact bs_ret rfl
def f_276 (n : Nat) (x1 : Int32) (I : FI) (L : FL) : Option (Int32 × FI × FL) :=
  (f_245 x1 (u2 I 89 0 (0 : Int32)) L).bind fun q0 =>
  if ¬ q0 = 0 then
    (f_261 n x1 (u2 I 89 0 (0 : Int32)) L).bind fun q1 =>
    (f_264 n q1.1 q1.2).bind fun q2 =>
    c_276_0 n n q2 (0 : Int32) q1.1 q1.2
  else
    some ((-2 : Int32), (u2 I 89 0 (0 : Int32)), L)
set_option maxHeartbeats 1000000 in
set_option maxRecDepth 20000 in
theorem t_276 (Ls : Nat) (xs : Nat → Int32) (d : Nat) (kp : Option Nat) (tl : List (Nat × Nat)) (rl : List (List (Option Nat))) (nh : Option Nat) (rh : Option Nat) (n : Nat) (x1 : Int32) (I : FI) (L : FL) (r : Int32 × FI × FL) (hf : f_276 n x1 I L = some r) : pEN Ls xs (d + 7) 276 [.ref 89, .int x1] (hp kp nh rh tl rl I L) = some (some (.int r.1), hp kp nh rh tl rl r.2.1 r.2.2) := by
  refine en_run (d := d + 6) (cd := cd_276) (f := (sf 12 rs_12 false 4 (some (.int)) Ls xs (d + 6))) rfl rfl (x := (0, [some (.ref 89), some (.int x1), none, none], [], hp kp nh rh tl rl I L)) rfl rfl (Nat.le_of_ble_eq_true rfl) ?_
  unfold f_276 at hf
  refine bs_st 5 (x' := (7, [some (.ref 89), some (.int x1), none, none], [.int x1, .ref 89], hp kp nh rh tl rl (u2 I 89 0 (0 : Int32)) L)) rfl ?_
  obtain ⟨q0, hq0, hf⟩ := Option.bind_eq_some_iff.mp hf
  refine bs_call (o := pEN Ls xs (d + 6) 245 [.ref 89, .int x1] (hp kp nh rh tl rl (u2 I 89 0 (0 : Int32)) L)) (w := some (.int q0)) (h' := hp kp nh rh tl rl (u2 I 89 0 (0 : Int32)) L) (pc := 10) (lo := [some (.ref 89), some (.int x1), none, none]) (rest := []) rfl (t_245 Ls xs (d + 3) kp tl rl nh rh x1 (u2 I 89 0 (0 : Int32)) L q0 hq0) ?_
  refine bs_br (t := 16) (e := 13) (lo := [some (.ref 89), some (.int x1), none, none]) (st := []) (h := hp kp nh rh tl rl (u2 I 89 0 (0 : Int32)) L) rfl hf (fun hc hf => ?_) (fun hc hf => ?_)
  · refine bs_st 2 (x' := (18, [some (.ref 89), some (.int x1), none, none], [.int x1, .ref 89], hp kp nh rh tl rl (u2 I 89 0 (0 : Int32)) L)) rfl ?_
    obtain ⟨q1, hq1, hf⟩ := Option.bind_eq_some_iff.mp hf
    refine bs_call (o := pEN Ls xs (d + 6) 261 [.ref 89, .int x1] (hp kp nh rh tl rl (u2 I 89 0 (0 : Int32)) L)) (w := none) (h' := hp kp nh rh tl rl q1.1 q1.2) (pc := 21) (lo := [some (.ref 89), some (.int x1), none, none]) (rest := []) rfl (t_261 Ls xs (d + 0) kp tl rl nh rh n x1 (u2 I 89 0 (0 : Int32)) L q1 hq1) ?_
    refine bs_st 1 (x' := (22, [some (.ref 89), some (.int x1), none, none], [.ref 89], hp kp nh rh tl rl q1.1 q1.2)) rfl ?_
    obtain ⟨q2, hq2, hf⟩ := Option.bind_eq_some_iff.mp hf
    refine bs_call (o := pEN Ls xs (d + 6) 264 [.ref 89] (hp kp nh rh tl rl q1.1 q1.2)) (w := some (.int q2)) (h' := hp kp nh rh tl rl q1.1 q1.2) (pc := 25) (lo := [some (.ref 89), some (.int x1), none, none]) (rest := []) rfl (t_264 Ls xs (d + 3) kp tl rl nh rh n q1.1 q1.2 q2 hq2) ?_
    refine bs_st 3 (x' := (28, [some (.ref 89), some (.int x1), some (.int q2), some (.int (0 : Int32))], [], hp kp nh rh tl rl q1.1 q1.2)) rfl ?_
    exact tc_276_0 Ls xs d kp tl rl nh rh n n (some (.int x1)) q2 (0 : Int32) q1.1 q1.2 r hf
  · refine bs_st 1 (x' := (15, [some (.ref 89), some (.int x1), none, none], [.int (-2 : Int32)], hp kp nh rh tl rl (u2 I 89 0 (0 : Int32)) L)) rfl ?_
    cases hf
    exact bs_ret rfl
/-- LampRoundsModel.looksOf(I) on (89,) -/
def c_277_1 (n : Nat) (I : FI) (L : FL) (K0 : Int32 → Int32 → Int32 → Option (Int32)) (x1 : Int32) (x3 : Int32) (s0 : Int32) (s1 : Int32) : Option (Int32) :=
  K0 x1 (s1 + s0) (x3 + (1 : Int32))
set_option maxHeartbeats 1000000 in
set_option maxRecDepth 20000 in
theorem tc_277_1 (Ls : Nat) (xs : Nat → Int32) (d : Nat) (kp : Option Nat) (tl : List (Nat × Nat)) (rl : List (List (Option Nat))) (nh : Option Nat) (rh : Option Nat) (n : Nat) (I : FI) (L : FL) (K0 : Int32 → Int32 → Int32 → Option (Int32)) (hK0 : ∀ (x1 : Int32) (x2 : Int32) (x3 : Int32) (r : Int32), K0 x1 x2 x3 = some r → Bs cd_277 (sf 12 rs_12 false 4 (some (.int)) Ls xs (d + 1)) (4, [some (.ref 89), some (.int x1), some (.int x2), some (.int x3)], [], hp kp nh rh tl rl I L) (some (.int r), hp kp nh rh tl rl I L)) (w2 : Option Value) (x1 : Int32) (x3 : Int32) (s0 : Int32) (s1 : Int32) (r : Int32) (hf : c_277_1 n I L K0 x1 x3 s0 s1 = some r) : Bs cd_277 (sf 12 rs_12 false 4 (some (.int)) Ls xs (d + 1)) (31, [some (.ref 89), some (.int x1), w2, some (.int x3)], [.int s0, .int s1], hp kp nh rh tl rl I L) (some (.int r), hp kp nh rh tl rl I L) := by
  unfold c_277_1 at hf
  refine bs_st 4 (x' := (4, [some (.ref 89), some (.int x1), some (.int (s1 + s0)), some (.int (x3 + (1 : Int32)))], [], hp kp nh rh tl rl I L)) rfl ?_
  exact hK0 x1 (s1 + s0) (x3 + (1 : Int32)) r hf
def b_277_0 (n : Nat) (I : FI) (L : FL) (K0 : Int32 → Int32 → Int32 → Option (Int32)) (x1 : Int32) (x2 : Int32) (x3 : Int32) : Option (Int32) :=
  (f_238 I L).bind fun q0 =>
  if q0 ≤ x3 then
    some (x2)
  else
    if pin x3 30 = true then ((f_247 (I 108 x3.toNatClampNeg) x1 I L).bind fun q1 =>
      if q1 = 0 then
        c_277_1 n I L K0 x1 x3 (0 : Int32) x2
      else
        c_277_1 n I L K0 x1 x3 (1 : Int32) x2) else none
def c_277_0 (n : Nat) (I : FI) (L : FL) : Nat → Int32 → Int32 → Int32 → Option (Int32)
  | 0, _, _, _ => none
  | m + 1, x1, x2, x3 => b_277_0 n I L (c_277_0 n I L m) x1 x2 x3
set_option maxHeartbeats 1000000 in
set_option maxRecDepth 20000 in
theorem tc_277_0 (Ls : Nat) (xs : Nat → Int32) (d : Nat) (kp : Option Nat) (tl : List (Nat × Nat)) (rl : List (List (Option Nat))) (nh : Option Nat) (rh : Option Nat) (n : Nat) (I : FI) (L : FL) : ∀ (m : Nat) (x1 : Int32) (x2 : Int32) (x3 : Int32) (r : Int32), c_277_0 n I L m x1 x2 x3 = some r → Bs cd_277 (sf 12 rs_12 false 4 (some (.int)) Ls xs (d + 1)) (4, [some (.ref 89), some (.int x1), some (.int x2), some (.int x3)], [], hp kp nh rh tl rl I L) (some (.int r), hp kp nh rh tl rl I L)
  | 0, x1, x2, x3, r, hf => by cases hf
  | m + 1, x1, x2, x3, r, hf => by
    unfold c_277_0 b_277_0 at hf
    have hK0 := tc_277_0 Ls xs d kp tl rl nh rh n I L m
    refine bs_st 2 (x' := (6, [some (.ref 89), some (.int x1), some (.int x2), some (.int x3)], [.ref 89, .int x3], hp kp nh rh tl rl I L)) rfl ?_
    obtain ⟨q0, hq0, hf⟩ := Option.bind_eq_some_iff.mp hf
    refine bs_call (o := pEN Ls xs (d + 1) 238 [.ref 89] (hp kp nh rh tl rl I L)) (w := some (.int q0)) (h' := hp kp nh rh tl rl I L) (pc := 9) (lo := [some (.ref 89), some (.int x1), some (.int x2), some (.int x3)]) (rest := [.int x3]) rfl (t_238 Ls xs (d + 0) kp tl rl nh rh I L q0 hq0) ?_
    refine bs_br (t := 39) (e := 12) (lo := [some (.ref 89), some (.int x1), some (.int x2), some (.int x3)]) (st := []) (h := hp kp nh rh tl rl I L) rfl hf (fun hc hf => ?_) (fun hc hf => ?_)
    · refine bs_st 1 (x' := (40, [some (.ref 89), some (.int x1), some (.int x2), some (.int x3)], [.int x2], hp kp nh rh tl rl I L)) rfl ?_
      cases hf
      exact bs_ret rfl
    · refine bs_st 4 (x' := (18, [some (.ref 89), some (.int x1), some (.int x2), some (.int x3)], [.int x3, .ref 108, .int x2], hp kp nh rh tl rl I L)) rfl ?_
      refine bs_gd (x' := (19, [some (.ref 89), some (.int x1), some (.int x2), some (.int x3)], [.int (I 108 x3.toNatClampNeg), .int x2], hp kp nh rh tl rl I L)) rfl hf (fun hc hf => ?_)
      refine bs_st 1 (x' := (20, [some (.ref 89), some (.int x1), some (.int x2), some (.int x3)], [.int x1, .int (I 108 x3.toNatClampNeg), .int x2], hp kp nh rh tl rl I L)) rfl ?_
      obtain ⟨q1, hq1, hf⟩ := Option.bind_eq_some_iff.mp hf
      refine bs_call (o := pEN Ls xs (d + 1) 247 [.int (I 108 x3.toNatClampNeg), .int x1] (hp kp nh rh tl rl I L)) (w := some (.int q1)) (h' := hp kp nh rh tl rl I L) (pc := 23) (lo := [some (.ref 89), some (.int x1), some (.int x2), some (.int x3)]) (rest := [.int x2]) rfl (t_247 Ls xs (d + 0) kp tl rl nh rh (I 108 x3.toNatClampNeg) x1 I L q1 hq1) ?_
      refine bs_br (t := 30) (e := 26) (lo := [some (.ref 89), some (.int x1), some (.int x2), some (.int x3)]) (st := [.int x2]) (h := hp kp nh rh tl rl I L) rfl hf (fun hc hf => ?_) (fun hc hf => ?_)
      · refine bs_st 1 (x' := (31, [some (.ref 89), some (.int x1), some (.int x2), some (.int x3)], [.int (0 : Int32), .int x2], hp kp nh rh tl rl I L)) rfl ?_
        exact tc_277_1 Ls xs d kp tl rl nh rh n I L _ hK0 (some (.int x2)) x1 x3 (0 : Int32) x2 r hf
      · refine bs_st 2 (x' := (31, [some (.ref 89), some (.int x1), some (.int x2), some (.int x3)], [.int (1 : Int32), .int x2], hp kp nh rh tl rl I L)) rfl ?_
        exact tc_277_1 Ls xs d kp tl rl nh rh n I L _ hK0 (some (.int x2)) x1 x3 (1 : Int32) x2 r hf
def f_277 (n : Nat) (x1 : Int32) (I : FI) (L : FL) : Option (Int32) :=
  c_277_0 n I L n x1 (0 : Int32) (0 : Int32)
set_option maxHeartbeats 1000000 in
set_option maxRecDepth 20000 in
theorem t_277 (Ls : Nat) (xs : Nat → Int32) (d : Nat) (kp : Option Nat) (tl : List (Nat × Nat)) (rl : List (List (Option Nat))) (nh : Option Nat) (rh : Option Nat) (n : Nat) (x1 : Int32) (I : FI) (L : FL) (r : Int32) (hf : f_277 n x1 I L = some r) : pEN Ls xs (d + 2) 277 [.ref 89, .int x1] (hp kp nh rh tl rl I L) = some (some (.int r), hp kp nh rh tl rl I L) := by
  refine en_run (d := d + 1) (cd := cd_277) (f := (sf 12 rs_12 false 4 (some (.int)) Ls xs (d + 1))) rfl rfl (x := (0, [some (.ref 89), some (.int x1), none, none], [], hp kp nh rh tl rl I L)) rfl rfl (Nat.le_of_ble_eq_true rfl) ?_
  unfold f_277 at hf
  refine bs_st 4 (x' := (4, [some (.ref 89), some (.int x1), some (.int (0 : Int32)), some (.int (0 : Int32))], [], hp kp nh rh tl rl I L)) rfl ?_
  exact tc_277_0 Ls xs d kp tl rl nh rh n I L n x1 (0 : Int32) (0 : Int32) r hf
/-- LampRoundsModel.looks(II) on (89,) -/
def f_278 (n : Nat) (x1 : Int32) (x2 : Int32) (I : FI) (L : FL) : Option (Int32 × FI × FL) :=
  (f_244 x1 x2 (u2 I 89 0 (0 : Int32)) L).bind fun q0 =>
  if ¬ q0 = 0 then
    (f_261 n x1 (u2 I 89 0 (0 : Int32)) L).bind fun q1 =>
    (f_277 n x2 q1.1 q1.2).bind fun q2 =>
    some (q2, q1.1, q1.2)
  else
    some ((-2 : Int32), (u2 I 89 0 (0 : Int32)), L)
set_option maxHeartbeats 1000000 in
set_option maxRecDepth 20000 in
theorem t_278 (Ls : Nat) (xs : Nat → Int32) (d : Nat) (kp : Option Nat) (tl : List (Nat × Nat)) (rl : List (List (Option Nat))) (nh : Option Nat) (rh : Option Nat) (n : Nat) (x1 : Int32) (x2 : Int32) (I : FI) (L : FL) (r : Int32 × FI × FL) (hf : f_278 n x1 x2 I L = some r) : pEN Ls xs (d + 7) 278 [.ref 89, .int x1, .int x2] (hp kp nh rh tl rl I L) = some (some (.int r.1), hp kp nh rh tl rl r.2.1 r.2.2) := by
  refine en_run (d := d + 6) (cd := cd_278) (f := (sf 12 rs_12 false 3 (some (.int)) Ls xs (d + 6))) rfl rfl (x := (0, [some (.ref 89), some (.int x1), some (.int x2)], [], hp kp nh rh tl rl I L)) rfl rfl (Nat.le_of_ble_eq_true rfl) ?_
  unfold f_278 at hf
  refine bs_st 6 (x' := (8, [some (.ref 89), some (.int x1), some (.int x2)], [.int x2, .int x1, .ref 89], hp kp nh rh tl rl (u2 I 89 0 (0 : Int32)) L)) rfl ?_
  obtain ⟨q0, hq0, hf⟩ := Option.bind_eq_some_iff.mp hf
  refine bs_call (o := pEN Ls xs (d + 6) 244 [.ref 89, .int x1, .int x2] (hp kp nh rh tl rl (u2 I 89 0 (0 : Int32)) L)) (w := some (.int q0)) (h' := hp kp nh rh tl rl (u2 I 89 0 (0 : Int32)) L) (pc := 11) (lo := [some (.ref 89), some (.int x1), some (.int x2)]) (rest := []) rfl (t_244 Ls xs (d + 3) kp tl rl nh rh x1 x2 (u2 I 89 0 (0 : Int32)) L q0 hq0) ?_
  refine bs_br (t := 17) (e := 14) (lo := [some (.ref 89), some (.int x1), some (.int x2)]) (st := []) (h := hp kp nh rh tl rl (u2 I 89 0 (0 : Int32)) L) rfl hf (fun hc hf => ?_) (fun hc hf => ?_)
  · refine bs_st 2 (x' := (19, [some (.ref 89), some (.int x1), some (.int x2)], [.int x1, .ref 89], hp kp nh rh tl rl (u2 I 89 0 (0 : Int32)) L)) rfl ?_
    obtain ⟨q1, hq1, hf⟩ := Option.bind_eq_some_iff.mp hf
    refine bs_call (o := pEN Ls xs (d + 6) 261 [.ref 89, .int x1] (hp kp nh rh tl rl (u2 I 89 0 (0 : Int32)) L)) (w := none) (h' := hp kp nh rh tl rl q1.1 q1.2) (pc := 22) (lo := [some (.ref 89), some (.int x1), some (.int x2)]) (rest := []) rfl (t_261 Ls xs (d + 0) kp tl rl nh rh n x1 (u2 I 89 0 (0 : Int32)) L q1 hq1) ?_
    refine bs_st 2 (x' := (24, [some (.ref 89), some (.int x1), some (.int x2)], [.int x2, .ref 89], hp kp nh rh tl rl q1.1 q1.2)) rfl ?_
    obtain ⟨q2, hq2, hf⟩ := Option.bind_eq_some_iff.mp hf
    refine bs_call (o := pEN Ls xs (d + 6) 277 [.ref 89, .int x2] (hp kp nh rh tl rl q1.1 q1.2)) (w := some (.int q2)) (h' := hp kp nh rh tl rl q1.1 q1.2) (pc := 27) (lo := [some (.ref 89), some (.int x1), some (.int x2)]) (rest := []) rfl (t_277 Ls xs (d + 4) kp tl rl nh rh n x2 q1.1 q1.2 q2 hq2) ?_
    cases hf
    exact bs_ret rfl
  · refine bs_st 1 (x' := (16, [some (.ref 89), some (.int x1), some (.int x2)], [.int (-2 : Int32)], hp kp nh rh tl rl (u2 I 89 0 (0 : Int32)) L)) rfl ?_
    cases hf
    exact bs_ret rfl
/-- LampRoundsModel.oldest(II) on (89,) -/
def c_279_1 (n : Nat) (K0 : Int32 → Int32 → Int32 → FI → FL → Option (Int32 × FI × FL)) (x2 : Int32) (x4 : Int32) (s0 : Int32) (I : FI) (L : FL) : Option (Int32 × FI × FL) :=
  K0 x2 s0 (x4 + (1 : Int32)) I L
set_option maxHeartbeats 1000000 in
set_option maxRecDepth 20000 in
theorem tc_279_1 (Ls : Nat) (xs : Nat → Int32) (d : Nat) (kp : Option Nat) (tl : List (Nat × Nat)) (rl : List (List (Option Nat))) (nh : Option Nat) (rh : Option Nat) (n : Nat) (K0 : Int32 → Int32 → Int32 → FI → FL → Option (Int32 × FI × FL)) (hK0 : ∀ (w1 : Option Value) (x2 : Int32) (x3 : Int32) (x4 : Int32) (I : FI) (L : FL) (r : Int32 × FI × FL), K0 x2 x3 x4 I L = some r → Bs cd_279 (sf 12 rs_12 false 5 (some (.int)) Ls xs (d + 6)) (27, [some (.ref 89), w1, some (.int x2), some (.int x3), some (.int x4)], [], hp kp nh rh tl rl I L) (some (.int r.1), hp kp nh rh tl rl r.2.1 r.2.2)) (w1 : Option Value) (w3 : Option Value) (x2 : Int32) (x4 : Int32) (s0 : Int32) (I : FI) (L : FL) (r : Int32 × FI × FL) (hf : c_279_1 n K0 x2 x4 s0 I L = some r) : Bs cd_279 (sf 12 rs_12 false 5 (some (.int)) Ls xs (d + 6)) (66, [some (.ref 89), w1, some (.int x2), w3, some (.int x4)], [.int s0], hp kp nh rh tl rl I L) (some (.int r.1), hp kp nh rh tl rl r.2.1 r.2.2) := by
  unfold c_279_1 at hf
  refine bs_st 3 (x' := (27, [some (.ref 89), w1, some (.int x2), some (.int s0), some (.int (x4 + (1 : Int32)))], [], hp kp nh rh tl rl I L)) rfl ?_
  exact hK0 w1 x2 s0 (x4 + (1 : Int32)) I L r hf
def b_279_0 (n : Nat) (K0 : Int32 → Int32 → Int32 → FI → FL → Option (Int32 × FI × FL)) (x2 : Int32) (x3 : Int32) (x4 : Int32) (I : FI) (L : FL) : Option (Int32 × FI × FL) :=
  (f_238 I L).bind fun q2 =>
  if q2 ≤ x4 then
    some (x3, I, L)
  else
    if pin (((4 : Int32) * x4) + x2) 120 = true then (if I 106 ((((4 : Int32) * x4) + x2).toNatClampNeg) ≤ x3 then
        c_279_1 n K0 x2 x4 x3 I L
      else
        if pin (((4 : Int32) * x4) + x2) 120 = true then c_279_1 n K0 x2 x4 (I 106 ((((4 : Int32) * x4) + x2).toNatClampNeg)) I L else none) else none
def c_279_0 (n : Nat) : Nat → Int32 → Int32 → Int32 → FI → FL → Option (Int32 × FI × FL)
  | 0, _, _, _, _, _ => none
  | m + 1, x2, x3, x4, I, L => b_279_0 n (c_279_0 n m) x2 x3 x4 I L
set_option maxHeartbeats 1000000 in
set_option maxRecDepth 20000 in
theorem tc_279_0 (Ls : Nat) (xs : Nat → Int32) (d : Nat) (kp : Option Nat) (tl : List (Nat × Nat)) (rl : List (List (Option Nat))) (nh : Option Nat) (rh : Option Nat) (n : Nat) : ∀ (m : Nat) (w1 : Option Value) (x2 : Int32) (x3 : Int32) (x4 : Int32) (I : FI) (L : FL) (r : Int32 × FI × FL), c_279_0 n m x2 x3 x4 I L = some r → Bs cd_279 (sf 12 rs_12 false 5 (some (.int)) Ls xs (d + 6)) (27, [some (.ref 89), w1, some (.int x2), some (.int x3), some (.int x4)], [], hp kp nh rh tl rl I L) (some (.int r.1), hp kp nh rh tl rl r.2.1 r.2.2)
  | 0, w1, x2, x3, x4, I, L, r, hf => by cases hf
  | m + 1, w1, x2, x3, x4, I, L, r, hf => by
    unfold c_279_0 b_279_0 at hf
    have hK0 := tc_279_0 Ls xs d kp tl rl nh rh n m
    refine bs_st 2 (x' := (30, [some (.ref 89), w1, some (.int x2), some (.int x3), some (.int x4)], [.ref 89, .int x4], hp kp nh rh tl rl I L)) rfl ?_
    obtain ⟨q2, hq2, hf⟩ := Option.bind_eq_some_iff.mp hf
    refine bs_call (o := pEN Ls xs (d + 6) 238 [.ref 89] (hp kp nh rh tl rl I L)) (w := some (.int q2)) (h' := hp kp nh rh tl rl I L) (pc := 33) (lo := [some (.ref 89), w1, some (.int x2), some (.int x3), some (.int x4)]) (rest := [.int x4]) rfl (t_238 Ls xs (d + 5) kp tl rl nh rh I L q2 hq2) ?_
    refine bs_br (t := 73) (e := 36) (lo := [some (.ref 89), w1, some (.int x2), some (.int x3), some (.int x4)]) (st := []) (h := hp kp nh rh tl rl I L) rfl hf (fun hc hf => ?_) (fun hc hf => ?_)
    · refine bs_st 1 (x' := (74, [some (.ref 89), w1, some (.int x2), some (.int x3), some (.int x4)], [.int x3], hp kp nh rh tl rl I L)) rfl ?_
      cases hf
      exact bs_ret rfl
    · refine bs_st 7 (x' := (46, [some (.ref 89), w1, some (.int x2), some (.int x3), some (.int x4)], [.int (((4 : Int32) * x4) + x2), .ref 106], hp kp nh rh tl rl I L)) rfl ?_
      refine bs_gd (x' := (47, [some (.ref 89), w1, some (.int x2), some (.int x3), some (.int x4)], [.int (I 106 ((((4 : Int32) * x4) + x2).toNatClampNeg))], hp kp nh rh tl rl I L)) rfl hf (fun hc hf => ?_)
      refine bs_st 1 (x' := (48, [some (.ref 89), w1, some (.int x2), some (.int x3), some (.int x4)], [.int x3, .int (I 106 ((((4 : Int32) * x4) + x2).toNatClampNeg))], hp kp nh rh tl rl I L)) rfl ?_
      refine bs_br (t := 65) (e := 51) (lo := [some (.ref 89), w1, some (.int x2), some (.int x3), some (.int x4)]) (st := []) (h := hp kp nh rh tl rl I L) rfl hf (fun hc hf => ?_) (fun hc hf => ?_)
      · refine bs_st 1 (x' := (66, [some (.ref 89), w1, some (.int x2), some (.int x3), some (.int x4)], [.int x3], hp kp nh rh tl rl I L)) rfl ?_
        exact tc_279_1 Ls xs d kp tl rl nh rh n _ hK0 w1 (some (.int x3)) x2 x4 x3 I L r hf
      · refine bs_st 7 (x' := (61, [some (.ref 89), w1, some (.int x2), some (.int x3), some (.int x4)], [.int (((4 : Int32) * x4) + x2), .ref 106], hp kp nh rh tl rl I L)) rfl ?_
        refine bs_gd (x' := (62, [some (.ref 89), w1, some (.int x2), some (.int x3), some (.int x4)], [.int (I 106 ((((4 : Int32) * x4) + x2).toNatClampNeg))], hp kp nh rh tl rl I L)) rfl hf (fun hc hf => ?_)
        refine bs_st 1 (x' := (66, [some (.ref 89), w1, some (.int x2), some (.int x3), some (.int x4)], [.int (I 106 ((((4 : Int32) * x4) + x2).toNatClampNeg))], hp kp nh rh tl rl I L)) rfl ?_
        exact tc_279_1 Ls xs d kp tl rl nh rh n _ hK0 w1 (some (.int x3)) x2 x4 (I 106 ((((4 : Int32) * x4) + x2).toNatClampNeg)) I L r hf
def f_279 (n : Nat) (x1 : Int32) (x2 : Int32) (I : FI) (L : FL) : Option (Int32 × FI × FL) :=
  (f_244 x1 x2 (u2 I 89 0 (0 : Int32)) L).bind fun q0 =>
  if ¬ q0 = 0 then
    (f_261 n x1 (u2 I 89 0 (0 : Int32)) L).bind fun q1 =>
    c_279_0 n n x2 (0 : Int32) (0 : Int32) q1.1 q1.2
  else
    some ((-2 : Int32), (u2 I 89 0 (0 : Int32)), L)
set_option maxHeartbeats 1000000 in
set_option maxRecDepth 20000 in
theorem t_279 (Ls : Nat) (xs : Nat → Int32) (d : Nat) (kp : Option Nat) (tl : List (Nat × Nat)) (rl : List (List (Option Nat))) (nh : Option Nat) (rh : Option Nat) (n : Nat) (x1 : Int32) (x2 : Int32) (I : FI) (L : FL) (r : Int32 × FI × FL) (hf : f_279 n x1 x2 I L = some r) : pEN Ls xs (d + 7) 279 [.ref 89, .int x1, .int x2] (hp kp nh rh tl rl I L) = some (some (.int r.1), hp kp nh rh tl rl r.2.1 r.2.2) := by
  refine en_run (d := d + 6) (cd := cd_279) (f := (sf 12 rs_12 false 5 (some (.int)) Ls xs (d + 6))) rfl rfl (x := (0, [some (.ref 89), some (.int x1), some (.int x2), none, none], [], hp kp nh rh tl rl I L)) rfl rfl (Nat.le_of_ble_eq_true rfl) ?_
  unfold f_279 at hf
  refine bs_st 6 (x' := (8, [some (.ref 89), some (.int x1), some (.int x2), none, none], [.int x2, .int x1, .ref 89], hp kp nh rh tl rl (u2 I 89 0 (0 : Int32)) L)) rfl ?_
  obtain ⟨q0, hq0, hf⟩ := Option.bind_eq_some_iff.mp hf
  refine bs_call (o := pEN Ls xs (d + 6) 244 [.ref 89, .int x1, .int x2] (hp kp nh rh tl rl (u2 I 89 0 (0 : Int32)) L)) (w := some (.int q0)) (h' := hp kp nh rh tl rl (u2 I 89 0 (0 : Int32)) L) (pc := 11) (lo := [some (.ref 89), some (.int x1), some (.int x2), none, none]) (rest := []) rfl (t_244 Ls xs (d + 3) kp tl rl nh rh x1 x2 (u2 I 89 0 (0 : Int32)) L q0 hq0) ?_
  refine bs_br (t := 17) (e := 14) (lo := [some (.ref 89), some (.int x1), some (.int x2), none, none]) (st := []) (h := hp kp nh rh tl rl (u2 I 89 0 (0 : Int32)) L) rfl hf (fun hc hf => ?_) (fun hc hf => ?_)
  · refine bs_st 2 (x' := (19, [some (.ref 89), some (.int x1), some (.int x2), none, none], [.int x1, .ref 89], hp kp nh rh tl rl (u2 I 89 0 (0 : Int32)) L)) rfl ?_
    obtain ⟨q1, hq1, hf⟩ := Option.bind_eq_some_iff.mp hf
    refine bs_call (o := pEN Ls xs (d + 6) 261 [.ref 89, .int x1] (hp kp nh rh tl rl (u2 I 89 0 (0 : Int32)) L)) (w := none) (h' := hp kp nh rh tl rl q1.1 q1.2) (pc := 22) (lo := [some (.ref 89), some (.int x1), some (.int x2), none, none]) (rest := []) rfl (t_261 Ls xs (d + 0) kp tl rl nh rh n x1 (u2 I 89 0 (0 : Int32)) L q1 hq1) ?_
    refine bs_st 4 (x' := (27, [some (.ref 89), some (.int x1), some (.int x2), some (.int (0 : Int32)), some (.int (0 : Int32))], [], hp kp nh rh tl rl q1.1 q1.2)) rfl ?_
    exact tc_279_0 Ls xs d kp tl rl nh rh n n (some (.int x1)) x2 (0 : Int32) (0 : Int32) q1.1 q1.2 r hf
  · refine bs_st 1 (x' := (16, [some (.ref 89), some (.int x1), some (.int x2), none, none], [.int (-2 : Int32)], hp kp nh rh tl rl (u2 I 89 0 (0 : Int32)) L)) rfl ?_
    cases hf
    exact bs_ret rfl
/-- LampRoundsModel.worthOf(I) on (89,) -/
def c_280_1 (n : Nat) (I : FI) (L : FL) (K0 : Int32 → Int32 → Int32 → Option (Int32)) (x1 : Int32) (x3 : Int32) (s0 : Int32) (s1 : Int32) : Option (Int32) :=
  K0 x1 (s1 + s0) (x3 + (1 : Int32))
set_option maxHeartbeats 1000000 in
set_option maxRecDepth 20000 in
theorem tc_280_1 (Ls : Nat) (xs : Nat → Int32) (d : Nat) (kp : Option Nat) (tl : List (Nat × Nat)) (rl : List (List (Option Nat))) (nh : Option Nat) (rh : Option Nat) (n : Nat) (I : FI) (L : FL) (K0 : Int32 → Int32 → Int32 → Option (Int32)) (hK0 : ∀ (x1 : Int32) (x2 : Int32) (x3 : Int32) (r : Int32), K0 x1 x2 x3 = some r → Bs cd_280 (sf 12 rs_12 false 4 (some (.int)) Ls xs (d + 1)) (4, [some (.ref 89), some (.int x1), some (.int x2), some (.int x3)], [], hp kp nh rh tl rl I L) (some (.int r), hp kp nh rh tl rl I L)) (w2 : Option Value) (x1 : Int32) (x3 : Int32) (s0 : Int32) (s1 : Int32) (r : Int32) (hf : c_280_1 n I L K0 x1 x3 s0 s1 = some r) : Bs cd_280 (sf 12 rs_12 false 4 (some (.int)) Ls xs (d + 1)) (35, [some (.ref 89), some (.int x1), w2, some (.int x3)], [.int s0, .int s1], hp kp nh rh tl rl I L) (some (.int r), hp kp nh rh tl rl I L) := by
  unfold c_280_1 at hf
  refine bs_st 4 (x' := (4, [some (.ref 89), some (.int x1), some (.int (s1 + s0)), some (.int (x3 + (1 : Int32)))], [], hp kp nh rh tl rl I L)) rfl ?_
  exact hK0 x1 (s1 + s0) (x3 + (1 : Int32)) r hf
def b_280_0 (n : Nat) (I : FI) (L : FL) (K0 : Int32 → Int32 → Int32 → Option (Int32)) (x1 : Int32) (x2 : Int32) (x3 : Int32) : Option (Int32) :=
  (f_237 I L).bind fun q0 =>
  if q0 ≤ x3 then
    some (x2)
  else
    (f_247 x1 x3 I L).bind fun q1 =>
    if q1 = 0 then
      c_280_1 n I L K0 x1 x3 (0 : Int32) x2
    else
      if pin (((2 : Int32) * x3) + (1 : Int32)) 40 = true then c_280_1 n I L K0 x1 x3 (I 97 ((((2 : Int32) * x3) + (1 : Int32)).toNatClampNeg)) x2 else none
def c_280_0 (n : Nat) (I : FI) (L : FL) : Nat → Int32 → Int32 → Int32 → Option (Int32)
  | 0, _, _, _ => none
  | m + 1, x1, x2, x3 => b_280_0 n I L (c_280_0 n I L m) x1 x2 x3
set_option maxHeartbeats 1000000 in
set_option maxRecDepth 20000 in
theorem tc_280_0 (Ls : Nat) (xs : Nat → Int32) (d : Nat) (kp : Option Nat) (tl : List (Nat × Nat)) (rl : List (List (Option Nat))) (nh : Option Nat) (rh : Option Nat) (n : Nat) (I : FI) (L : FL) : ∀ (m : Nat) (x1 : Int32) (x2 : Int32) (x3 : Int32) (r : Int32), c_280_0 n I L m x1 x2 x3 = some r → Bs cd_280 (sf 12 rs_12 false 4 (some (.int)) Ls xs (d + 1)) (4, [some (.ref 89), some (.int x1), some (.int x2), some (.int x3)], [], hp kp nh rh tl rl I L) (some (.int r), hp kp nh rh tl rl I L)
  | 0, x1, x2, x3, r, hf => by cases hf
  | m + 1, x1, x2, x3, r, hf => by
    unfold c_280_0 b_280_0 at hf
    have hK0 := tc_280_0 Ls xs d kp tl rl nh rh n I L m
    refine bs_st 2 (x' := (6, [some (.ref 89), some (.int x1), some (.int x2), some (.int x3)], [.ref 89, .int x3], hp kp nh rh tl rl I L)) rfl ?_
    obtain ⟨q0, hq0, hf⟩ := Option.bind_eq_some_iff.mp hf
    refine bs_call (o := pEN Ls xs (d + 1) 237 [.ref 89] (hp kp nh rh tl rl I L)) (w := some (.int q0)) (h' := hp kp nh rh tl rl I L) (pc := 9) (lo := [some (.ref 89), some (.int x1), some (.int x2), some (.int x3)]) (rest := [.int x3]) rfl (t_237 Ls xs (d + 0) kp tl rl nh rh I L q0 hq0) ?_
    refine bs_br (t := 43) (e := 12) (lo := [some (.ref 89), some (.int x1), some (.int x2), some (.int x3)]) (st := []) (h := hp kp nh rh tl rl I L) rfl hf (fun hc hf => ?_) (fun hc hf => ?_)
    · refine bs_st 1 (x' := (44, [some (.ref 89), some (.int x1), some (.int x2), some (.int x3)], [.int x2], hp kp nh rh tl rl I L)) rfl ?_
      cases hf
      exact bs_ret rfl
    · refine bs_st 3 (x' := (15, [some (.ref 89), some (.int x1), some (.int x2), some (.int x3)], [.int x3, .int x1, .int x2], hp kp nh rh tl rl I L)) rfl ?_
      obtain ⟨q1, hq1, hf⟩ := Option.bind_eq_some_iff.mp hf
      refine bs_call (o := pEN Ls xs (d + 1) 247 [.int x1, .int x3] (hp kp nh rh tl rl I L)) (w := some (.int q1)) (h' := hp kp nh rh tl rl I L) (pc := 18) (lo := [some (.ref 89), some (.int x1), some (.int x2), some (.int x3)]) (rest := [.int x2]) rfl (t_247 Ls xs (d + 0) kp tl rl nh rh x1 x3 I L q1 hq1) ?_
      refine bs_br (t := 34) (e := 21) (lo := [some (.ref 89), some (.int x1), some (.int x2), some (.int x3)]) (st := [.int x2]) (h := hp kp nh rh tl rl I L) rfl hf (fun hc hf => ?_) (fun hc hf => ?_)
      · refine bs_st 1 (x' := (35, [some (.ref 89), some (.int x1), some (.int x2), some (.int x3)], [.int (0 : Int32), .int x2], hp kp nh rh tl rl I L)) rfl ?_
        exact tc_280_1 Ls xs d kp tl rl nh rh n I L _ hK0 (some (.int x2)) x1 x3 (0 : Int32) x2 r hf
      · refine bs_st 7 (x' := (30, [some (.ref 89), some (.int x1), some (.int x2), some (.int x3)], [.int (((2 : Int32) * x3) + (1 : Int32)), .ref 97, .int x2], hp kp nh rh tl rl I L)) rfl ?_
        refine bs_gd (x' := (31, [some (.ref 89), some (.int x1), some (.int x2), some (.int x3)], [.int (I 97 ((((2 : Int32) * x3) + (1 : Int32)).toNatClampNeg)), .int x2], hp kp nh rh tl rl I L)) rfl hf (fun hc hf => ?_)
        refine bs_st 1 (x' := (35, [some (.ref 89), some (.int x1), some (.int x2), some (.int x3)], [.int (I 97 ((((2 : Int32) * x3) + (1 : Int32)).toNatClampNeg)), .int x2], hp kp nh rh tl rl I L)) rfl ?_
        exact tc_280_1 Ls xs d kp tl rl nh rh n I L _ hK0 (some (.int x2)) x1 x3 (I 97 ((((2 : Int32) * x3) + (1 : Int32)).toNatClampNeg)) x2 r hf
def f_280 (n : Nat) (x1 : Int32) (I : FI) (L : FL) : Option (Int32) :=
  c_280_0 n I L n x1 (0 : Int32) (0 : Int32)
set_option maxHeartbeats 1000000 in
set_option maxRecDepth 20000 in
theorem t_280 (Ls : Nat) (xs : Nat → Int32) (d : Nat) (kp : Option Nat) (tl : List (Nat × Nat)) (rl : List (List (Option Nat))) (nh : Option Nat) (rh : Option Nat) (n : Nat) (x1 : Int32) (I : FI) (L : FL) (r : Int32) (hf : f_280 n x1 I L = some r) : pEN Ls xs (d + 2) 280 [.ref 89, .int x1] (hp kp nh rh tl rl I L) = some (some (.int r), hp kp nh rh tl rl I L) := by
  refine en_run (d := d + 1) (cd := cd_280) (f := (sf 12 rs_12 false 4 (some (.int)) Ls xs (d + 1))) rfl rfl (x := (0, [some (.ref 89), some (.int x1), none, none], [], hp kp nh rh tl rl I L)) rfl rfl (Nat.le_of_ble_eq_true rfl) ?_
  unfold f_280 at hf
  refine bs_st 4 (x' := (4, [some (.ref 89), some (.int x1), some (.int (0 : Int32)), some (.int (0 : Int32))], [], hp kp nh rh tl rl I L)) rfl ?_
  exact tc_280_0 Ls xs d kp tl rl nh rh n I L n x1 (0 : Int32) (0 : Int32) r hf
/-- LampRoundsModel.worth(II) on (89,) -/
def f_281 (n : Nat) (x1 : Int32) (x2 : Int32) (I : FI) (L : FL) : Option (Int32 × FI × FL) :=
  (f_243 x1 x2 (u2 I 89 0 (0 : Int32)) L).bind fun q0 =>
  if ¬ q0 = 0 then
    (f_261 n x1 (u2 I 89 0 (0 : Int32)) L).bind fun q1 =>
    (f_262 n x2 q1.1 q1.2).bind fun q2 =>
    (f_280 n q2 q1.1 q1.2).bind fun q3 =>
    some (q3, q1.1, q1.2)
  else
    some ((-2 : Int32), (u2 I 89 0 (0 : Int32)), L)
set_option maxHeartbeats 1000000 in
set_option maxRecDepth 20000 in
theorem t_281 (Ls : Nat) (xs : Nat → Int32) (d : Nat) (kp : Option Nat) (tl : List (Nat × Nat)) (rl : List (List (Option Nat))) (nh : Option Nat) (rh : Option Nat) (n : Nat) (x1 : Int32) (x2 : Int32) (I : FI) (L : FL) (r : Int32 × FI × FL) (hf : f_281 n x1 x2 I L = some r) : pEN Ls xs (d + 7) 281 [.ref 89, .int x1, .int x2] (hp kp nh rh tl rl I L) = some (some (.int r.1), hp kp nh rh tl rl r.2.1 r.2.2) := by
  refine en_run (d := d + 6) (cd := cd_281) (f := (sf 12 rs_12 false 3 (some (.int)) Ls xs (d + 6))) rfl rfl (x := (0, [some (.ref 89), some (.int x1), some (.int x2)], [], hp kp nh rh tl rl I L)) rfl rfl (Nat.le_of_ble_eq_true rfl) ?_
  unfold f_281 at hf
  refine bs_st 6 (x' := (8, [some (.ref 89), some (.int x1), some (.int x2)], [.int x2, .int x1, .ref 89], hp kp nh rh tl rl (u2 I 89 0 (0 : Int32)) L)) rfl ?_
  obtain ⟨q0, hq0, hf⟩ := Option.bind_eq_some_iff.mp hf
  refine bs_call (o := pEN Ls xs (d + 6) 243 [.ref 89, .int x1, .int x2] (hp kp nh rh tl rl (u2 I 89 0 (0 : Int32)) L)) (w := some (.int q0)) (h' := hp kp nh rh tl rl (u2 I 89 0 (0 : Int32)) L) (pc := 11) (lo := [some (.ref 89), some (.int x1), some (.int x2)]) (rest := []) rfl (t_243 Ls xs (d + 3) kp tl rl nh rh x1 x2 (u2 I 89 0 (0 : Int32)) L q0 hq0) ?_
  refine bs_br (t := 17) (e := 14) (lo := [some (.ref 89), some (.int x1), some (.int x2)]) (st := []) (h := hp kp nh rh tl rl (u2 I 89 0 (0 : Int32)) L) rfl hf (fun hc hf => ?_) (fun hc hf => ?_)
  · refine bs_st 2 (x' := (19, [some (.ref 89), some (.int x1), some (.int x2)], [.int x1, .ref 89], hp kp nh rh tl rl (u2 I 89 0 (0 : Int32)) L)) rfl ?_
    obtain ⟨q1, hq1, hf⟩ := Option.bind_eq_some_iff.mp hf
    refine bs_call (o := pEN Ls xs (d + 6) 261 [.ref 89, .int x1] (hp kp nh rh tl rl (u2 I 89 0 (0 : Int32)) L)) (w := none) (h' := hp kp nh rh tl rl q1.1 q1.2) (pc := 22) (lo := [some (.ref 89), some (.int x1), some (.int x2)]) (rest := []) rfl (t_261 Ls xs (d + 0) kp tl rl nh rh n x1 (u2 I 89 0 (0 : Int32)) L q1 hq1) ?_
    refine bs_st 3 (x' := (25, [some (.ref 89), some (.int x1), some (.int x2)], [.int x2, .ref 89, .ref 89], hp kp nh rh tl rl q1.1 q1.2)) rfl ?_
    obtain ⟨q2, hq2, hf⟩ := Option.bind_eq_some_iff.mp hf
    refine bs_call (o := pEN Ls xs (d + 6) 262 [.ref 89, .int x2] (hp kp nh rh tl rl q1.1 q1.2)) (w := some (.int q2)) (h' := hp kp nh rh tl rl q1.1 q1.2) (pc := 28) (lo := [some (.ref 89), some (.int x1), some (.int x2)]) (rest := [.ref 89]) rfl (t_262 Ls xs (d + 4) kp tl rl nh rh n x2 q1.1 q1.2 q2 hq2) ?_
    obtain ⟨q3, hq3, hf⟩ := Option.bind_eq_some_iff.mp hf
    refine bs_call (o := pEN Ls xs (d + 6) 280 [.ref 89, .int q2] (hp kp nh rh tl rl q1.1 q1.2)) (w := some (.int q3)) (h' := hp kp nh rh tl rl q1.1 q1.2) (pc := 31) (lo := [some (.ref 89), some (.int x1), some (.int x2)]) (rest := []) rfl (t_280 Ls xs (d + 4) kp tl rl nh rh n q2 q1.1 q1.2 q3 hq3) ?_
    cases hf
    exact bs_ret rfl
  · refine bs_st 1 (x' := (16, [some (.ref 89), some (.int x1), some (.int x2)], [.int (-2 : Int32)], hp kp nh rh tl rl (u2 I 89 0 (0 : Int32)) L)) rfl ?_
    cases hf
    exact bs_ret rfl
/-- LampRoundsModel.steps(I) on (89,) -/
def c_282_1 (n : Nat) (K0 : Int32 → Int32 → FI → FL → Option (Int32 × FI × FL)) (x3 : Int32) (s0 : Int32) (s1 : Int32) (I : FI) (L : FL) : Option (Int32 × FI × FL) :=
  K0 (s1 + s0) (x3 + (1 : Int32)) I L
set_option maxHeartbeats 1000000 in
set_option maxRecDepth 20000 in
theorem tc_282_1 (Ls : Nat) (xs : Nat → Int32) (d : Nat) (kp : Option Nat) (tl : List (Nat × Nat)) (rl : List (List (Option Nat))) (nh : Option Nat) (rh : Option Nat) (n : Nat) (K0 : Int32 → Int32 → FI → FL → Option (Int32 × FI × FL)) (hK0 : ∀ (w1 : Option Value) (x2 : Int32) (x3 : Int32) (I : FI) (L : FL) (r : Int32 × FI × FL), K0 x2 x3 I L = some r → Bs cd_282 (sf 12 rs_12 false 4 (some (.int)) Ls xs (d + 6)) (25, [some (.ref 89), w1, some (.int x2), some (.int x3)], [], hp kp nh rh tl rl I L) (some (.int r.1), hp kp nh rh tl rl r.2.1 r.2.2)) (w1 : Option Value) (w2 : Option Value) (x3 : Int32) (s0 : Int32) (s1 : Int32) (I : FI) (L : FL) (r : Int32 × FI × FL) (hf : c_282_1 n K0 x3 s0 s1 I L = some r) : Bs cd_282 (sf 12 rs_12 false 4 (some (.int)) Ls xs (d + 6)) (56, [some (.ref 89), w1, w2, some (.int x3)], [.int s0, .int s1], hp kp nh rh tl rl I L) (some (.int r.1), hp kp nh rh tl rl r.2.1 r.2.2) := by
  unfold c_282_1 at hf
  refine bs_st 4 (x' := (25, [some (.ref 89), (pcl w1), some (.int (s1 + s0)), some (.int (x3 + (1 : Int32)))], [], hp kp nh rh tl rl I L)) rfl ?_
  exact hK0 (pcl w1) (s1 + s0) (x3 + (1 : Int32)) I L r hf
def b_282_0 (n : Nat) (K0 : Int32 → Int32 → FI → FL → Option (Int32 × FI × FL)) (x2 : Int32) (x3 : Int32) (I : FI) (L : FL) : Option (Int32 × FI × FL) :=
  (f_238 I L).bind fun q2 =>
  if q2 ≤ x3 then
    some (x2, I, L)
  else
    if pin x3 30 = true then (if pin (x3 - (1 : Int32)) 30 = true then (if I 107 x3.toNatClampNeg = I 107 ((x3 - (1 : Int32)).toNatClampNeg) then
          c_282_1 n K0 x3 (0 : Int32) x2 I L
        else
          c_282_1 n K0 x3 (1 : Int32) x2 I L) else none) else none
def c_282_0 (n : Nat) : Nat → Int32 → Int32 → FI → FL → Option (Int32 × FI × FL)
  | 0, _, _, _, _ => none
  | m + 1, x2, x3, I, L => b_282_0 n (c_282_0 n m) x2 x3 I L
set_option maxHeartbeats 1000000 in
set_option maxRecDepth 20000 in
theorem tc_282_0 (Ls : Nat) (xs : Nat → Int32) (d : Nat) (kp : Option Nat) (tl : List (Nat × Nat)) (rl : List (List (Option Nat))) (nh : Option Nat) (rh : Option Nat) (n : Nat) : ∀ (m : Nat) (w1 : Option Value) (x2 : Int32) (x3 : Int32) (I : FI) (L : FL) (r : Int32 × FI × FL), c_282_0 n m x2 x3 I L = some r → Bs cd_282 (sf 12 rs_12 false 4 (some (.int)) Ls xs (d + 6)) (25, [some (.ref 89), w1, some (.int x2), some (.int x3)], [], hp kp nh rh tl rl I L) (some (.int r.1), hp kp nh rh tl rl r.2.1 r.2.2)
  | 0, w1, x2, x3, I, L, r, hf => by cases hf
  | m + 1, w1, x2, x3, I, L, r, hf => by
    unfold c_282_0 b_282_0 at hf
    have hK0 := tc_282_0 Ls xs d kp tl rl nh rh n m
    refine bs_st 2 (x' := (27, [some (.ref 89), w1, some (.int x2), some (.int x3)], [.ref 89, .int x3], hp kp nh rh tl rl I L)) rfl ?_
    obtain ⟨q2, hq2, hf⟩ := Option.bind_eq_some_iff.mp hf
    refine bs_call (o := pEN Ls xs (d + 6) 238 [.ref 89] (hp kp nh rh tl rl I L)) (w := some (.int q2)) (h' := hp kp nh rh tl rl I L) (pc := 30) (lo := [some (.ref 89), w1, some (.int x2), some (.int x3)]) (rest := [.int x3]) rfl (t_238 Ls xs (d + 5) kp tl rl nh rh I L q2 hq2) ?_
    refine bs_br (t := 64) (e := 33) (lo := [some (.ref 89), w1, some (.int x2), some (.int x3)]) (st := []) (h := hp kp nh rh tl rl I L) rfl hf (fun hc hf => ?_) (fun hc hf => ?_)
    · refine bs_st 1 (x' := (65, [some (.ref 89), w1, some (.int x2), some (.int x3)], [.int x2], hp kp nh rh tl rl I L)) rfl ?_
      cases hf
      exact bs_ret rfl
    · refine bs_st 4 (x' := (39, [some (.ref 89), w1, some (.int x2), some (.int x3)], [.int x3, .ref 107, .int x2], hp kp nh rh tl rl I L)) rfl ?_
      refine bs_gd (x' := (40, [some (.ref 89), w1, some (.int x2), some (.int x3)], [.int (I 107 x3.toNatClampNeg), .int x2], hp kp nh rh tl rl I L)) rfl hf (fun hc hf => ?_)
      refine bs_st 5 (x' := (47, [some (.ref 89), w1, some (.int x2), some (.int x3)], [.int (x3 - (1 : Int32)), .ref 107, .int (I 107 x3.toNatClampNeg), .int x2], hp kp nh rh tl rl I L)) rfl ?_
      refine bs_gd (x' := (48, [some (.ref 89), w1, some (.int x2), some (.int x3)], [.int (I 107 ((x3 - (1 : Int32)).toNatClampNeg)), .int (I 107 x3.toNatClampNeg), .int x2], hp kp nh rh tl rl I L)) rfl hf (fun hc hf => ?_)
      refine bs_br (t := 55) (e := 51) (lo := [some (.ref 89), w1, some (.int x2), some (.int x3)]) (st := [.int x2]) (h := hp kp nh rh tl rl I L) rfl hf (fun hc hf => ?_) (fun hc hf => ?_)
      · refine bs_st 1 (x' := (56, [some (.ref 89), w1, some (.int x2), some (.int x3)], [.int (0 : Int32), .int x2], hp kp nh rh tl rl I L)) rfl ?_
        exact tc_282_1 Ls xs d kp tl rl nh rh n _ hK0 w1 (some (.int x2)) x3 (0 : Int32) x2 I L r hf
      · refine bs_st 2 (x' := (56, [some (.ref 89), w1, some (.int x2), some (.int x3)], [.int (1 : Int32), .int x2], hp kp nh rh tl rl I L)) rfl ?_
        exact tc_282_1 Ls xs d kp tl rl nh rh n _ hK0 w1 (some (.int x2)) x3 (1 : Int32) x2 I L r hf
def f_282 (n : Nat) (x1 : Int32) (I : FI) (L : FL) : Option (Int32 × FI × FL) :=
  (f_245 x1 (u2 I 89 0 (0 : Int32)) L).bind fun q0 =>
  if ¬ q0 = 0 then
    (f_261 n x1 (u2 I 89 0 (0 : Int32)) L).bind fun q1 =>
    c_282_0 n n (0 : Int32) (1 : Int32) q1.1 q1.2
  else
    some ((-2 : Int32), (u2 I 89 0 (0 : Int32)), L)
set_option maxHeartbeats 1000000 in
set_option maxRecDepth 20000 in
theorem t_282 (Ls : Nat) (xs : Nat → Int32) (d : Nat) (kp : Option Nat) (tl : List (Nat × Nat)) (rl : List (List (Option Nat))) (nh : Option Nat) (rh : Option Nat) (n : Nat) (x1 : Int32) (I : FI) (L : FL) (r : Int32 × FI × FL) (hf : f_282 n x1 I L = some r) : pEN Ls xs (d + 7) 282 [.ref 89, .int x1] (hp kp nh rh tl rl I L) = some (some (.int r.1), hp kp nh rh tl rl r.2.1 r.2.2) := by
  refine en_run (d := d + 6) (cd := cd_282) (f := (sf 12 rs_12 false 4 (some (.int)) Ls xs (d + 6))) rfl rfl (x := (0, [some (.ref 89), some (.int x1), none, none], [], hp kp nh rh tl rl I L)) rfl rfl (Nat.le_of_ble_eq_true rfl) ?_
  unfold f_282 at hf
  refine bs_st 5 (x' := (7, [some (.ref 89), some (.int x1), none, none], [.int x1, .ref 89], hp kp nh rh tl rl (u2 I 89 0 (0 : Int32)) L)) rfl ?_
  obtain ⟨q0, hq0, hf⟩ := Option.bind_eq_some_iff.mp hf
  refine bs_call (o := pEN Ls xs (d + 6) 245 [.ref 89, .int x1] (hp kp nh rh tl rl (u2 I 89 0 (0 : Int32)) L)) (w := some (.int q0)) (h' := hp kp nh rh tl rl (u2 I 89 0 (0 : Int32)) L) (pc := 10) (lo := [some (.ref 89), some (.int x1), none, none]) (rest := []) rfl (t_245 Ls xs (d + 3) kp tl rl nh rh x1 (u2 I 89 0 (0 : Int32)) L q0 hq0) ?_
  refine bs_br (t := 16) (e := 13) (lo := [some (.ref 89), some (.int x1), none, none]) (st := []) (h := hp kp nh rh tl rl (u2 I 89 0 (0 : Int32)) L) rfl hf (fun hc hf => ?_) (fun hc hf => ?_)
  · refine bs_st 2 (x' := (18, [some (.ref 89), some (.int x1), none, none], [.int x1, .ref 89], hp kp nh rh tl rl (u2 I 89 0 (0 : Int32)) L)) rfl ?_
    obtain ⟨q1, hq1, hf⟩ := Option.bind_eq_some_iff.mp hf
    refine bs_call (o := pEN Ls xs (d + 6) 261 [.ref 89, .int x1] (hp kp nh rh tl rl (u2 I 89 0 (0 : Int32)) L)) (w := none) (h' := hp kp nh rh tl rl q1.1 q1.2) (pc := 21) (lo := [some (.ref 89), some (.int x1), none, none]) (rest := []) rfl (t_261 Ls xs (d + 0) kp tl rl nh rh n x1 (u2 I 89 0 (0 : Int32)) L q1 hq1) ?_
    refine bs_st 4 (x' := (25, [some (.ref 89), some (.int x1), some (.int (0 : Int32)), some (.int (1 : Int32))], [], hp kp nh rh tl rl q1.1 q1.2)) rfl ?_
    exact tc_282_0 Ls xs d kp tl rl nh rh n n (some (.int x1)) (0 : Int32) (1 : Int32) q1.1 q1.2 r hf
  · refine bs_st 1 (x' := (15, [some (.ref 89), some (.int x1), none, none], [.int (-2 : Int32)], hp kp nh rh tl rl (u2 I 89 0 (0 : Int32)) L)) rfl ?_
    cases hf
    exact bs_ret rfl
/-- LampRoundsModel.urgent(II) on (89,) -/
def b_283_0 (n : Nat) (K0 : Int32 → Int32 → FI → FL → Option (Int32 × FI × FL)) (x2 : Int32) (x3 : Int32) (I : FI) (L : FL) : Option (Int32 × FI × FL) :=
  (f_237 I L).bind fun q2 =>
  if q2 ≤ x3 then
    (f_254 n I L).bind fun q3 =>
    some (q3, I, L)
  else
    if pin (((4 : Int32) * x2) + x3) 120 = true then (if pin x3 4 = true then K0 x2 (x3 + (1 : Int32)) (u2 I 105 x3.toNatClampNeg (I 106 ((((4 : Int32) * x2) + x3).toNatClampNeg))) L else none) else none
def c_283_0 (n : Nat) : Nat → Int32 → Int32 → FI → FL → Option (Int32 × FI × FL)
  | 0, _, _, _, _ => none
  | m + 1, x2, x3, I, L => b_283_0 n (c_283_0 n m) x2 x3 I L
set_option maxHeartbeats 1000000 in
set_option maxRecDepth 20000 in
theorem tc_283_0 (Ls : Nat) (xs : Nat → Int32) (d : Nat) (kp : Option Nat) (tl : List (Nat × Nat)) (rl : List (List (Option Nat))) (nh : Option Nat) (rh : Option Nat) (n : Nat) : ∀ (m : Nat) (w1 : Option Value) (x2 : Int32) (x3 : Int32) (I : FI) (L : FL) (r : Int32 × FI × FL), c_283_0 n m x2 x3 I L = some r → Bs cd_283 (sf 12 rs_12 false 4 (some (.int)) Ls xs (d + 6)) (24, [some (.ref 89), w1, some (.int x2), some (.int x3)], [], hp kp nh rh tl rl I L) (some (.int r.1), hp kp nh rh tl rl r.2.1 r.2.2)
  | 0, w1, x2, x3, I, L, r, hf => by cases hf
  | m + 1, w1, x2, x3, I, L, r, hf => by
    unfold c_283_0 b_283_0 at hf
    have hK0 := tc_283_0 Ls xs d kp tl rl nh rh n m
    refine bs_st 2 (x' := (26, [some (.ref 89), w1, some (.int x2), some (.int x3)], [.ref 89, .int x3], hp kp nh rh tl rl I L)) rfl ?_
    obtain ⟨q2, hq2, hf⟩ := Option.bind_eq_some_iff.mp hf
    refine bs_call (o := pEN Ls xs (d + 6) 237 [.ref 89] (hp kp nh rh tl rl I L)) (w := some (.int q2)) (h' := hp kp nh rh tl rl I L) (pc := 29) (lo := [some (.ref 89), w1, some (.int x2), some (.int x3)]) (rest := [.int x3]) rfl (t_237 Ls xs (d + 5) kp tl rl nh rh I L q2 hq2) ?_
    refine bs_br (t := 54) (e := 32) (lo := [some (.ref 89), w1, some (.int x2), some (.int x3)]) (st := []) (h := hp kp nh rh tl rl I L) rfl hf (fun hc hf => ?_) (fun hc hf => ?_)
    · refine bs_st 1 (x' := (55, [some (.ref 89), w1, some (.int x2), some (.int x3)], [.ref 89], hp kp nh rh tl rl I L)) rfl ?_
      obtain ⟨q3, hq3, hf⟩ := Option.bind_eq_some_iff.mp hf
      refine bs_call (o := pEN Ls xs (d + 6) 254 [.ref 89] (hp kp nh rh tl rl I L)) (w := some (.int q3)) (h' := hp kp nh rh tl rl I L) (pc := 58) (lo := [some (.ref 89), w1, some (.int x2), some (.int x3)]) (rest := []) rfl (t_254 Ls xs (d + 4) kp tl rl nh rh n I L q3 hq3) ?_
      cases hf
      exact bs_ret rfl
    · refine bs_st 10 (x' := (46, [some (.ref 89), w1, some (.int x2), some (.int x3)], [.int (((4 : Int32) * x2) + x3), .ref 106, .int x3, .ref 105], hp kp nh rh tl rl I L)) rfl ?_
      refine bs_gd (x' := (47, [some (.ref 89), w1, some (.int x2), some (.int x3)], [.int (I 106 ((((4 : Int32) * x2) + x3).toNatClampNeg)), .int x3, .ref 105], hp kp nh rh tl rl I L)) rfl hf (fun hc hf => ?_)
      refine bs_gd (x' := (48, [some (.ref 89), w1, some (.int x2), some (.int x3)], [], hp kp nh rh tl rl (u2 I 105 x3.toNatClampNeg (I 106 ((((4 : Int32) * x2) + x3).toNatClampNeg))) L)) rfl hf (fun hc hf => ?_)
      refine bs_st 2 (x' := (24, [some (.ref 89), w1, some (.int x2), some (.int (x3 + (1 : Int32)))], [], hp kp nh rh tl rl (u2 I 105 x3.toNatClampNeg (I 106 ((((4 : Int32) * x2) + x3).toNatClampNeg))) L)) rfl ?_
      exact hK0 w1 x2 (x3 + (1 : Int32)) (u2 I 105 x3.toNatClampNeg (I 106 ((((4 : Int32) * x2) + x3).toNatClampNeg))) L r hf
def f_283 (n : Nat) (x1 : Int32) (x2 : Int32) (I : FI) (L : FL) : Option (Int32 × FI × FL) :=
  (f_243 x1 x2 (u2 I 89 0 (0 : Int32)) L).bind fun q0 =>
  if ¬ q0 = 0 then
    (f_261 n x1 (u2 I 89 0 (0 : Int32)) L).bind fun q1 =>
    c_283_0 n n x2 (0 : Int32) q1.1 q1.2
  else
    some ((-2 : Int32), (u2 I 89 0 (0 : Int32)), L)
set_option maxHeartbeats 1000000 in
set_option maxRecDepth 20000 in
theorem t_283 (Ls : Nat) (xs : Nat → Int32) (d : Nat) (kp : Option Nat) (tl : List (Nat × Nat)) (rl : List (List (Option Nat))) (nh : Option Nat) (rh : Option Nat) (n : Nat) (x1 : Int32) (x2 : Int32) (I : FI) (L : FL) (r : Int32 × FI × FL) (hf : f_283 n x1 x2 I L = some r) : pEN Ls xs (d + 7) 283 [.ref 89, .int x1, .int x2] (hp kp nh rh tl rl I L) = some (some (.int r.1), hp kp nh rh tl rl r.2.1 r.2.2) := by
  refine en_run (d := d + 6) (cd := cd_283) (f := (sf 12 rs_12 false 4 (some (.int)) Ls xs (d + 6))) rfl rfl (x := (0, [some (.ref 89), some (.int x1), some (.int x2), none], [], hp kp nh rh tl rl I L)) rfl rfl (Nat.le_of_ble_eq_true rfl) ?_
  unfold f_283 at hf
  refine bs_st 6 (x' := (8, [some (.ref 89), some (.int x1), some (.int x2), none], [.int x2, .int x1, .ref 89], hp kp nh rh tl rl (u2 I 89 0 (0 : Int32)) L)) rfl ?_
  obtain ⟨q0, hq0, hf⟩ := Option.bind_eq_some_iff.mp hf
  refine bs_call (o := pEN Ls xs (d + 6) 243 [.ref 89, .int x1, .int x2] (hp kp nh rh tl rl (u2 I 89 0 (0 : Int32)) L)) (w := some (.int q0)) (h' := hp kp nh rh tl rl (u2 I 89 0 (0 : Int32)) L) (pc := 11) (lo := [some (.ref 89), some (.int x1), some (.int x2), none]) (rest := []) rfl (t_243 Ls xs (d + 3) kp tl rl nh rh x1 x2 (u2 I 89 0 (0 : Int32)) L q0 hq0) ?_
  refine bs_br (t := 17) (e := 14) (lo := [some (.ref 89), some (.int x1), some (.int x2), none]) (st := []) (h := hp kp nh rh tl rl (u2 I 89 0 (0 : Int32)) L) rfl hf (fun hc hf => ?_) (fun hc hf => ?_)
  · refine bs_st 2 (x' := (19, [some (.ref 89), some (.int x1), some (.int x2), none], [.int x1, .ref 89], hp kp nh rh tl rl (u2 I 89 0 (0 : Int32)) L)) rfl ?_
    obtain ⟨q1, hq1, hf⟩ := Option.bind_eq_some_iff.mp hf
    refine bs_call (o := pEN Ls xs (d + 6) 261 [.ref 89, .int x1] (hp kp nh rh tl rl (u2 I 89 0 (0 : Int32)) L)) (w := none) (h' := hp kp nh rh tl rl q1.1 q1.2) (pc := 22) (lo := [some (.ref 89), some (.int x1), some (.int x2), none]) (rest := []) rfl (t_261 Ls xs (d + 0) kp tl rl nh rh n x1 (u2 I 89 0 (0 : Int32)) L q1 hq1) ?_
    refine bs_st 2 (x' := (24, [some (.ref 89), some (.int x1), some (.int x2), some (.int (0 : Int32))], [], hp kp nh rh tl rl q1.1 q1.2)) rfl ?_
    exact tc_283_0 Ls xs d kp tl rl nh rh n n (some (.int x1)) x2 (0 : Int32) q1.1 q1.2 r hf
  · refine bs_st 1 (x' := (16, [some (.ref 89), some (.int x1), some (.int x2), none], [.int (-2 : Int32)], hp kp nh rh tl rl (u2 I 89 0 (0 : Int32)) L)) rfl ?_
    cases hf
    exact bs_ret rfl
/-- LampRoundsModel.seen(I) on (89,) -/
def b_284_0 (n : Nat) (K0 : Int32 → Int32 → FI → FL → Option (Int32 × FI × FL)) (x2 : Int32) (x3 : Int32) (I : FI) (L : FL) : Option (Int32 × FI × FL) :=
  (f_238 I L).bind fun q2 =>
  if q2 ≤ x3 then
    some (x2, I, L)
  else
    (f_237 I L).bind fun q3 =>
    if q3 ≤ 0 then
      some (x2, I, L)
    else
      if pin x3 30 = true then K0 (x2 ||| ((1 : Int32) <<< ((I 107 x3.toNatClampNeg) &&& 31))) (x3 + (1 : Int32)) I L else none
def c_284_0 (n : Nat) : Nat → Int32 → Int32 → FI → FL → Option (Int32 × FI × FL)
  | 0, _, _, _, _ => none
  | m + 1, x2, x3, I, L => b_284_0 n (c_284_0 n m) x2 x3 I L
set_option maxHeartbeats 1000000 in
set_option maxRecDepth 20000 in
theorem tc_284_0 (Ls : Nat) (xs : Nat → Int32) (d : Nat) (kp : Option Nat) (tl : List (Nat × Nat)) (rl : List (List (Option Nat))) (nh : Option Nat) (rh : Option Nat) (n : Nat) : ∀ (m : Nat) (w1 : Option Value) (x2 : Int32) (x3 : Int32) (I : FI) (L : FL) (r : Int32 × FI × FL), c_284_0 n m x2 x3 I L = some r → Bs cd_284 (sf 12 rs_12 false 4 (some (.int)) Ls xs (d + 6)) (25, [some (.ref 89), w1, some (.int x2), some (.int x3)], [], hp kp nh rh tl rl I L) (some (.int r.1), hp kp nh rh tl rl r.2.1 r.2.2)
  | 0, w1, x2, x3, I, L, r, hf => by cases hf
  | m + 1, w1, x2, x3, I, L, r, hf => by
    unfold c_284_0 b_284_0 at hf
    have hK0 := tc_284_0 Ls xs d kp tl rl nh rh n m
    refine bs_st 2 (x' := (27, [some (.ref 89), w1, some (.int x2), some (.int x3)], [.ref 89, .int x3], hp kp nh rh tl rl I L)) rfl ?_
    obtain ⟨q2, hq2, hf⟩ := Option.bind_eq_some_iff.mp hf
    refine bs_call (o := pEN Ls xs (d + 6) 238 [.ref 89] (hp kp nh rh tl rl I L)) (w := some (.int q2)) (h' := hp kp nh rh tl rl I L) (pc := 30) (lo := [some (.ref 89), w1, some (.int x2), some (.int x3)]) (rest := [.int x3]) rfl (t_238 Ls xs (d + 5) kp tl rl nh rh I L q2 hq2) ?_
    refine bs_br (t := 57) (e := 33) (lo := [some (.ref 89), w1, some (.int x2), some (.int x3)]) (st := []) (h := hp kp nh rh tl rl I L) rfl hf (fun hc hf => ?_) (fun hc hf => ?_)
    · refine bs_st 1 (x' := (58, [some (.ref 89), w1, some (.int x2), some (.int x3)], [.int x2], hp kp nh rh tl rl I L)) rfl ?_
      cases hf
      exact bs_ret rfl
    · refine bs_st 1 (x' := (34, [some (.ref 89), w1, some (.int x2), some (.int x3)], [.ref 89], hp kp nh rh tl rl I L)) rfl ?_
      obtain ⟨q3, hq3, hf⟩ := Option.bind_eq_some_iff.mp hf
      refine bs_call (o := pEN Ls xs (d + 6) 237 [.ref 89] (hp kp nh rh tl rl I L)) (w := some (.int q3)) (h' := hp kp nh rh tl rl I L) (pc := 37) (lo := [some (.ref 89), w1, some (.int x2), some (.int x3)]) (rest := []) rfl (t_237 Ls xs (d + 5) kp tl rl nh rh I L q3 hq3) ?_
      refine bs_br (t := 57) (e := 40) (lo := [some (.ref 89), w1, some (.int x2), some (.int x3)]) (st := []) (h := hp kp nh rh tl rl I L) rfl hf (fun hc hf => ?_) (fun hc hf => ?_)
      · refine bs_st 1 (x' := (58, [some (.ref 89), w1, some (.int x2), some (.int x3)], [.int x2], hp kp nh rh tl rl I L)) rfl ?_
        cases hf
        exact bs_ret rfl
      · refine bs_st 5 (x' := (47, [some (.ref 89), w1, some (.int x2), some (.int x3)], [.int x3, .ref 107, .int (1 : Int32), .int x2], hp kp nh rh tl rl I L)) rfl ?_
        refine bs_gd (x' := (48, [some (.ref 89), w1, some (.int x2), some (.int x3)], [.int (I 107 x3.toNatClampNeg), .int (1 : Int32), .int x2], hp kp nh rh tl rl I L)) rfl hf (fun hc hf => ?_)
        refine bs_st 5 (x' := (25, [some (.ref 89), (pcl w1), some (.int (x2 ||| ((1 : Int32) <<< ((I 107 x3.toNatClampNeg) &&& 31)))), some (.int (x3 + (1 : Int32)))], [], hp kp nh rh tl rl I L)) rfl ?_
        exact hK0 (pcl w1) (x2 ||| ((1 : Int32) <<< ((I 107 x3.toNatClampNeg) &&& 31))) (x3 + (1 : Int32)) I L r hf
def f_284 (n : Nat) (x1 : Int32) (I : FI) (L : FL) : Option (Int32 × FI × FL) :=
  (f_245 x1 (u2 I 89 0 (0 : Int32)) L).bind fun q0 =>
  if ¬ q0 = 0 then
    (f_261 n x1 (u2 I 89 0 (0 : Int32)) L).bind fun q1 =>
    c_284_0 n n (0 : Int32) (0 : Int32) q1.1 q1.2
  else
    some ((-2 : Int32), (u2 I 89 0 (0 : Int32)), L)
set_option maxHeartbeats 1000000 in
set_option maxRecDepth 20000 in
theorem t_284 (Ls : Nat) (xs : Nat → Int32) (d : Nat) (kp : Option Nat) (tl : List (Nat × Nat)) (rl : List (List (Option Nat))) (nh : Option Nat) (rh : Option Nat) (n : Nat) (x1 : Int32) (I : FI) (L : FL) (r : Int32 × FI × FL) (hf : f_284 n x1 I L = some r) : pEN Ls xs (d + 7) 284 [.ref 89, .int x1] (hp kp nh rh tl rl I L) = some (some (.int r.1), hp kp nh rh tl rl r.2.1 r.2.2) := by
  refine en_run (d := d + 6) (cd := cd_284) (f := (sf 12 rs_12 false 4 (some (.int)) Ls xs (d + 6))) rfl rfl (x := (0, [some (.ref 89), some (.int x1), none, none], [], hp kp nh rh tl rl I L)) rfl rfl (Nat.le_of_ble_eq_true rfl) ?_
  unfold f_284 at hf
  refine bs_st 5 (x' := (7, [some (.ref 89), some (.int x1), none, none], [.int x1, .ref 89], hp kp nh rh tl rl (u2 I 89 0 (0 : Int32)) L)) rfl ?_
  obtain ⟨q0, hq0, hf⟩ := Option.bind_eq_some_iff.mp hf
  refine bs_call (o := pEN Ls xs (d + 6) 245 [.ref 89, .int x1] (hp kp nh rh tl rl (u2 I 89 0 (0 : Int32)) L)) (w := some (.int q0)) (h' := hp kp nh rh tl rl (u2 I 89 0 (0 : Int32)) L) (pc := 10) (lo := [some (.ref 89), some (.int x1), none, none]) (rest := []) rfl (t_245 Ls xs (d + 3) kp tl rl nh rh x1 (u2 I 89 0 (0 : Int32)) L q0 hq0) ?_
  refine bs_br (t := 16) (e := 13) (lo := [some (.ref 89), some (.int x1), none, none]) (st := []) (h := hp kp nh rh tl rl (u2 I 89 0 (0 : Int32)) L) rfl hf (fun hc hf => ?_) (fun hc hf => ?_)
  · refine bs_st 2 (x' := (18, [some (.ref 89), some (.int x1), none, none], [.int x1, .ref 89], hp kp nh rh tl rl (u2 I 89 0 (0 : Int32)) L)) rfl ?_
    obtain ⟨q1, hq1, hf⟩ := Option.bind_eq_some_iff.mp hf
    refine bs_call (o := pEN Ls xs (d + 6) 261 [.ref 89, .int x1] (hp kp nh rh tl rl (u2 I 89 0 (0 : Int32)) L)) (w := none) (h' := hp kp nh rh tl rl q1.1 q1.2) (pc := 21) (lo := [some (.ref 89), some (.int x1), none, none]) (rest := []) rfl (t_261 Ls xs (d + 0) kp tl rl nh rh n x1 (u2 I 89 0 (0 : Int32)) L q1 hq1) ?_
    refine bs_st 4 (x' := (25, [some (.ref 89), some (.int x1), some (.int (0 : Int32)), some (.int (0 : Int32))], [], hp kp nh rh tl rl q1.1 q1.2)) rfl ?_
    exact tc_284_0 Ls xs d kp tl rl nh rh n n (some (.int x1)) (0 : Int32) (0 : Int32) q1.1 q1.2 r hf
  · refine bs_st 1 (x' := (15, [some (.ref 89), some (.int x1), none, none], [.int (-2 : Int32)], hp kp nh rh tl rl (u2 I 89 0 (0 : Int32)) L)) rfl ?_
    cases hf
    exact bs_ret rfl
/-- LampRoundsModel.steady(I) on (89,) -/
def c_285_1 (n : Nat) (K0 : Int32 → Int32 → FI → FL → Option (Int32 × FI × FL)) (x3 : Int32) (s0 : Int32) (s1 : Int32) (I : FI) (L : FL) : Option (Int32 × FI × FL) :=
  K0 (s1 ||| s0) (x3 + (1 : Int32)) I L
set_option maxHeartbeats 1000000 in
set_option maxRecDepth 20000 in
theorem tc_285_1 (Ls : Nat) (xs : Nat → Int32) (d : Nat) (kp : Option Nat) (tl : List (Nat × Nat)) (rl : List (List (Option Nat))) (nh : Option Nat) (rh : Option Nat) (n : Nat) (K0 : Int32 → Int32 → FI → FL → Option (Int32 × FI × FL)) (hK0 : ∀ (w1 : Option Value) (x2 : Int32) (x3 : Int32) (I : FI) (L : FL) (r : Int32 × FI × FL), K0 x2 x3 I L = some r → Bs cd_285 (sf 12 rs_12 false 4 (some (.int)) Ls xs (d + 6)) (25, [some (.ref 89), w1, some (.int x2), some (.int x3)], [], hp kp nh rh tl rl I L) (some (.int r.1), hp kp nh rh tl rl r.2.1 r.2.2)) (w1 : Option Value) (w2 : Option Value) (x3 : Int32) (s0 : Int32) (s1 : Int32) (I : FI) (L : FL) (r : Int32 × FI × FL) (hf : c_285_1 n K0 x3 s0 s1 I L = some r) : Bs cd_285 (sf 12 rs_12 false 4 (some (.int)) Ls xs (d + 6)) (53, [some (.ref 89), w1, w2, some (.int x3)], [.int s0, .int s1], hp kp nh rh tl rl I L) (some (.int r.1), hp kp nh rh tl rl r.2.1 r.2.2) := by
  unfold c_285_1 at hf
  refine bs_st 4 (x' := (25, [some (.ref 89), (pcl w1), some (.int (s1 ||| s0)), some (.int (x3 + (1 : Int32)))], [], hp kp nh rh tl rl I L)) rfl ?_
  exact hK0 (pcl w1) (s1 ||| s0) (x3 + (1 : Int32)) I L r hf
def b_285_0 (n : Nat) (K0 : Int32 → Int32 → FI → FL → Option (Int32 × FI × FL)) (x2 : Int32) (x3 : Int32) (I : FI) (L : FL) : Option (Int32 × FI × FL) :=
  (f_237 I L).bind fun q2 =>
  if q2 ≤ x3 then
    some (x2, I, L)
  else
    (f_263 n x3 I L).bind fun q3 =>
    (f_238 I L).bind fun q4 =>
    if ¬ q3 = q4 then
      c_285_1 n K0 x3 (0 : Int32) x2 I L
    else
      c_285_1 n K0 x3 ((1 : Int32) <<< (x3 &&& 31)) x2 I L
def c_285_0 (n : Nat) : Nat → Int32 → Int32 → FI → FL → Option (Int32 × FI × FL)
  | 0, _, _, _, _ => none
  | m + 1, x2, x3, I, L => b_285_0 n (c_285_0 n m) x2 x3 I L
set_option maxHeartbeats 1000000 in
set_option maxRecDepth 20000 in
theorem tc_285_0 (Ls : Nat) (xs : Nat → Int32) (d : Nat) (kp : Option Nat) (tl : List (Nat × Nat)) (rl : List (List (Option Nat))) (nh : Option Nat) (rh : Option Nat) (n : Nat) : ∀ (m : Nat) (w1 : Option Value) (x2 : Int32) (x3 : Int32) (I : FI) (L : FL) (r : Int32 × FI × FL), c_285_0 n m x2 x3 I L = some r → Bs cd_285 (sf 12 rs_12 false 4 (some (.int)) Ls xs (d + 6)) (25, [some (.ref 89), w1, some (.int x2), some (.int x3)], [], hp kp nh rh tl rl I L) (some (.int r.1), hp kp nh rh tl rl r.2.1 r.2.2)
  | 0, w1, x2, x3, I, L, r, hf => by cases hf
  | m + 1, w1, x2, x3, I, L, r, hf => by
    unfold c_285_0 b_285_0 at hf
    have hK0 := tc_285_0 Ls xs d kp tl rl nh rh n m
    refine bs_st 2 (x' := (27, [some (.ref 89), w1, some (.int x2), some (.int x3)], [.ref 89, .int x3], hp kp nh rh tl rl I L)) rfl ?_
    obtain ⟨q2, hq2, hf⟩ := Option.bind_eq_some_iff.mp hf
    refine bs_call (o := pEN Ls xs (d + 6) 237 [.ref 89] (hp kp nh rh tl rl I L)) (w := some (.int q2)) (h' := hp kp nh rh tl rl I L) (pc := 30) (lo := [some (.ref 89), w1, some (.int x2), some (.int x3)]) (rest := [.int x3]) rfl (t_237 Ls xs (d + 5) kp tl rl nh rh I L q2 hq2) ?_
    refine bs_br (t := 61) (e := 33) (lo := [some (.ref 89), w1, some (.int x2), some (.int x3)]) (st := []) (h := hp kp nh rh tl rl I L) rfl hf (fun hc hf => ?_) (fun hc hf => ?_)
    · refine bs_st 1 (x' := (62, [some (.ref 89), w1, some (.int x2), some (.int x3)], [.int x2], hp kp nh rh tl rl I L)) rfl ?_
      cases hf
      exact bs_ret rfl
    · refine bs_st 3 (x' := (36, [some (.ref 89), w1, some (.int x2), some (.int x3)], [.int x3, .ref 89, .int x2], hp kp nh rh tl rl I L)) rfl ?_
      obtain ⟨q3, hq3, hf⟩ := Option.bind_eq_some_iff.mp hf
      refine bs_call (o := pEN Ls xs (d + 6) 263 [.ref 89, .int x3] (hp kp nh rh tl rl I L)) (w := some (.int q3)) (h' := hp kp nh rh tl rl I L) (pc := 39) (lo := [some (.ref 89), w1, some (.int x2), some (.int x3)]) (rest := [.int x2]) rfl (t_263 Ls xs (d + 4) kp tl rl nh rh n x3 I L q3 hq3) ?_
      refine bs_st 1 (x' := (40, [some (.ref 89), w1, some (.int x2), some (.int x3)], [.ref 89, .int q3, .int x2], hp kp nh rh tl rl I L)) rfl ?_
      obtain ⟨q4, hq4, hf⟩ := Option.bind_eq_some_iff.mp hf
      refine bs_call (o := pEN Ls xs (d + 6) 238 [.ref 89] (hp kp nh rh tl rl I L)) (w := some (.int q4)) (h' := hp kp nh rh tl rl I L) (pc := 43) (lo := [some (.ref 89), w1, some (.int x2), some (.int x3)]) (rest := [.int q3, .int x2]) rfl (t_238 Ls xs (d + 5) kp tl rl nh rh I L q4 hq4) ?_
      refine bs_br (t := 52) (e := 46) (lo := [some (.ref 89), w1, some (.int x2), some (.int x3)]) (st := [.int x2]) (h := hp kp nh rh tl rl I L) rfl hf (fun hc hf => ?_) (fun hc hf => ?_)
      · refine bs_st 1 (x' := (53, [some (.ref 89), w1, some (.int x2), some (.int x3)], [.int (0 : Int32), .int x2], hp kp nh rh tl rl I L)) rfl ?_
        exact tc_285_1 Ls xs d kp tl rl nh rh n _ hK0 w1 (some (.int x2)) x3 (0 : Int32) x2 I L r hf
      · refine bs_st 4 (x' := (53, [some (.ref 89), w1, some (.int x2), some (.int x3)], [.int ((1 : Int32) <<< (x3 &&& 31)), .int x2], hp kp nh rh tl rl I L)) rfl ?_
        exact tc_285_1 Ls xs d kp tl rl nh rh n _ hK0 w1 (some (.int x2)) x3 ((1 : Int32) <<< (x3 &&& 31)) x2 I L r hf
def f_285 (n : Nat) (x1 : Int32) (I : FI) (L : FL) : Option (Int32 × FI × FL) :=
  (f_245 x1 (u2 I 89 0 (0 : Int32)) L).bind fun q0 =>
  if ¬ q0 = 0 then
    (f_261 n x1 (u2 I 89 0 (0 : Int32)) L).bind fun q1 =>
    c_285_0 n n (0 : Int32) (0 : Int32) q1.1 q1.2
  else
    some ((-2 : Int32), (u2 I 89 0 (0 : Int32)), L)
set_option maxHeartbeats 1000000 in
set_option maxRecDepth 20000 in
theorem t_285 (Ls : Nat) (xs : Nat → Int32) (d : Nat) (kp : Option Nat) (tl : List (Nat × Nat)) (rl : List (List (Option Nat))) (nh : Option Nat) (rh : Option Nat) (n : Nat) (x1 : Int32) (I : FI) (L : FL) (r : Int32 × FI × FL) (hf : f_285 n x1 I L = some r) : pEN Ls xs (d + 7) 285 [.ref 89, .int x1] (hp kp nh rh tl rl I L) = some (some (.int r.1), hp kp nh rh tl rl r.2.1 r.2.2) := by
  refine en_run (d := d + 6) (cd := cd_285) (f := (sf 12 rs_12 false 4 (some (.int)) Ls xs (d + 6))) rfl rfl (x := (0, [some (.ref 89), some (.int x1), none, none], [], hp kp nh rh tl rl I L)) rfl rfl (Nat.le_of_ble_eq_true rfl) ?_
  unfold f_285 at hf
  refine bs_st 5 (x' := (7, [some (.ref 89), some (.int x1), none, none], [.int x1, .ref 89], hp kp nh rh tl rl (u2 I 89 0 (0 : Int32)) L)) rfl ?_
  obtain ⟨q0, hq0, hf⟩ := Option.bind_eq_some_iff.mp hf
  refine bs_call (o := pEN Ls xs (d + 6) 245 [.ref 89, .int x1] (hp kp nh rh tl rl (u2 I 89 0 (0 : Int32)) L)) (w := some (.int q0)) (h' := hp kp nh rh tl rl (u2 I 89 0 (0 : Int32)) L) (pc := 10) (lo := [some (.ref 89), some (.int x1), none, none]) (rest := []) rfl (t_245 Ls xs (d + 3) kp tl rl nh rh x1 (u2 I 89 0 (0 : Int32)) L q0 hq0) ?_
  refine bs_br (t := 16) (e := 13) (lo := [some (.ref 89), some (.int x1), none, none]) (st := []) (h := hp kp nh rh tl rl (u2 I 89 0 (0 : Int32)) L) rfl hf (fun hc hf => ?_) (fun hc hf => ?_)
  · refine bs_st 2 (x' := (18, [some (.ref 89), some (.int x1), none, none], [.int x1, .ref 89], hp kp nh rh tl rl (u2 I 89 0 (0 : Int32)) L)) rfl ?_
    obtain ⟨q1, hq1, hf⟩ := Option.bind_eq_some_iff.mp hf
    refine bs_call (o := pEN Ls xs (d + 6) 261 [.ref 89, .int x1] (hp kp nh rh tl rl (u2 I 89 0 (0 : Int32)) L)) (w := none) (h' := hp kp nh rh tl rl q1.1 q1.2) (pc := 21) (lo := [some (.ref 89), some (.int x1), none, none]) (rest := []) rfl (t_261 Ls xs (d + 0) kp tl rl nh rh n x1 (u2 I 89 0 (0 : Int32)) L q1 hq1) ?_
    refine bs_st 4 (x' := (25, [some (.ref 89), some (.int x1), some (.int (0 : Int32)), some (.int (0 : Int32))], [], hp kp nh rh tl rl q1.1 q1.2)) rfl ?_
    exact tc_285_0 Ls xs d kp tl rl nh rh n n (some (.int x1)) (0 : Int32) (0 : Int32) q1.1 q1.2 r hf
  · refine bs_st 1 (x' := (15, [some (.ref 89), some (.int x1), none, none], [.int (-2 : Int32)], hp kp nh rh tl rl (u2 I 89 0 (0 : Int32)) L)) rfl ?_
    cases hf
    exact bs_ret rfl
/-- LampRoundsModel.tight(II) on (89,) -/
def c_286_2 (n : Nat) (K0 : Int32 → Int32 → Int32 → FI → FL → Option (Int32 × FI × FL)) (x2 : Int32) (x4 : Int32) (s0 : Int32) (I : FI) (L : FL) : Option (Int32 × FI × FL) :=
  K0 x2 s0 (x4 + (1 : Int32)) I L
set_option maxHeartbeats 1000000 in
set_option maxRecDepth 20000 in
theorem tc_286_2 (Ls : Nat) (xs : Nat → Int32) (d : Nat) (kp : Option Nat) (tl : List (Nat × Nat)) (rl : List (List (Option Nat))) (nh : Option Nat) (rh : Option Nat) (n : Nat) (K0 : Int32 → Int32 → Int32 → FI → FL → Option (Int32 × FI × FL)) (hK0 : ∀ (w1 : Option Value) (x2 : Int32) (x3 : Int32) (x4 : Int32) (I : FI) (L : FL) (r : Int32 × FI × FL), K0 x2 x3 x4 I L = some r → Bs cd_286 (sf 12 rs_12 false 5 (some (.int)) Ls xs (d + 6)) (28, [some (.ref 89), w1, some (.int x2), some (.int x3), some (.int x4)], [], hp kp nh rh tl rl I L) (some (.int r.1), hp kp nh rh tl rl r.2.1 r.2.2)) (w1 : Option Value) (w3 : Option Value) (x2 : Int32) (x4 : Int32) (s0 : Int32) (I : FI) (L : FL) (r : Int32 × FI × FL) (hf : c_286_2 n K0 x2 x4 s0 I L = some r) : Bs cd_286 (sf 12 rs_12 false 5 (some (.int)) Ls xs (d + 6)) (97, [some (.ref 89), w1, some (.int x2), w3, some (.int x4)], [.int s0], hp kp nh rh tl rl I L) (some (.int r.1), hp kp nh rh tl rl r.2.1 r.2.2) := by
  unfold c_286_2 at hf
  refine bs_st 3 (x' := (28, [some (.ref 89), w1, some (.int x2), some (.int s0), some (.int (x4 + (1 : Int32)))], [], hp kp nh rh tl rl I L)) rfl ?_
  exact hK0 w1 x2 s0 (x4 + (1 : Int32)) I L r hf
def c_286_1 (n : Nat) (K0 : Int32 → Int32 → Int32 → FI → FL → Option (Int32 × FI × FL)) (x2 : Int32) (x3 : Int32) (x4 : Int32) (I : FI) (L : FL) : Option (Int32 × FI × FL) :=
  c_286_2 n K0 x2 x4 x3 I L
set_option maxHeartbeats 1000000 in
set_option maxRecDepth 20000 in
theorem tc_286_1 (Ls : Nat) (xs : Nat → Int32) (d : Nat) (kp : Option Nat) (tl : List (Nat × Nat)) (rl : List (List (Option Nat))) (nh : Option Nat) (rh : Option Nat) (n : Nat) (K0 : Int32 → Int32 → Int32 → FI → FL → Option (Int32 × FI × FL)) (hK0 : ∀ (w1 : Option Value) (x2 : Int32) (x3 : Int32) (x4 : Int32) (I : FI) (L : FL) (r : Int32 × FI × FL), K0 x2 x3 x4 I L = some r → Bs cd_286 (sf 12 rs_12 false 5 (some (.int)) Ls xs (d + 6)) (28, [some (.ref 89), w1, some (.int x2), some (.int x3), some (.int x4)], [], hp kp nh rh tl rl I L) (some (.int r.1), hp kp nh rh tl rl r.2.1 r.2.2)) (w1 : Option Value) (x2 : Int32) (x3 : Int32) (x4 : Int32) (I : FI) (L : FL) (r : Int32 × FI × FL) (hf : c_286_1 n K0 x2 x3 x4 I L = some r) : Bs cd_286 (sf 12 rs_12 false 5 (some (.int)) Ls xs (d + 6)) (96, [some (.ref 89), w1, some (.int x2), some (.int x3), some (.int x4)], [], hp kp nh rh tl rl I L) (some (.int r.1), hp kp nh rh tl rl r.2.1 r.2.2) := by
  unfold c_286_1 at hf
  refine bs_st 1 (x' := (97, [some (.ref 89), w1, some (.int x2), some (.int x3), some (.int x4)], [.int x3], hp kp nh rh tl rl I L)) rfl ?_
  exact tc_286_2 Ls xs d kp tl rl nh rh n _ hK0 w1 (some (.int x3)) x2 x4 x3 I L r hf
def b_286_0 (n : Nat) (K0 : Int32 → Int32 → Int32 → FI → FL → Option (Int32 × FI × FL)) (x2 : Int32) (x3 : Int32) (x4 : Int32) (I : FI) (L : FL) : Option (Int32 × FI × FL) :=
  (f_238 I L).bind fun q2 =>
  if q2 ≤ x4 then
    some (x3, I, L)
  else
    if pin (((4 : Int32) * x4) + x2) 120 = true then (if I 106 ((((4 : Int32) * x4) + x2).toNatClampNeg) = (99 : Int32) then
        c_286_1 n K0 x2 x3 x4 I L
      else
        if pin x2 4 = true then (if pin (((4 : Int32) * x4) + x2) 120 = true then (if x3 ≤ ((I 104 x2.toNatClampNeg) - (I 106 ((((4 : Int32) * x4) + x2).toNatClampNeg))) then
              c_286_1 n K0 x2 x3 x4 I L
            else
              if pin x2 4 = true then (if pin (((4 : Int32) * x4) + x2) 120 = true then c_286_2 n K0 x2 x4 ((I 104 x2.toNatClampNeg) - (I 106 ((((4 : Int32) * x4) + x2).toNatClampNeg))) I L else none) else none) else none) else none) else none
def c_286_0 (n : Nat) : Nat → Int32 → Int32 → Int32 → FI → FL → Option (Int32 × FI × FL)
  | 0, _, _, _, _, _ => none
  | m + 1, x2, x3, x4, I, L => b_286_0 n (c_286_0 n m) x2 x3 x4 I L
set_option maxHeartbeats 1000000 in
set_option maxRecDepth 20000 in
theorem tc_286_0 (Ls : Nat) (xs : Nat → Int32) (d : Nat) (kp : Option Nat) (tl : List (Nat × Nat)) (rl : List (List (Option Nat))) (nh : Option Nat) (rh : Option Nat) (n : Nat) : ∀ (m : Nat) (w1 : Option Value) (x2 : Int32) (x3 : Int32) (x4 : Int32) (I : FI) (L : FL) (r : Int32 × FI × FL), c_286_0 n m x2 x3 x4 I L = some r → Bs cd_286 (sf 12 rs_12 false 5 (some (.int)) Ls xs (d + 6)) (28, [some (.ref 89), w1, some (.int x2), some (.int x3), some (.int x4)], [], hp kp nh rh tl rl I L) (some (.int r.1), hp kp nh rh tl rl r.2.1 r.2.2)
  | 0, w1, x2, x3, x4, I, L, r, hf => by cases hf
  | m + 1, w1, x2, x3, x4, I, L, r, hf => by
    unfold c_286_0 b_286_0 at hf
    have hK0 := tc_286_0 Ls xs d kp tl rl nh rh n m
    refine bs_st 2 (x' := (31, [some (.ref 89), w1, some (.int x2), some (.int x3), some (.int x4)], [.ref 89, .int x4], hp kp nh rh tl rl I L)) rfl ?_
    obtain ⟨q2, hq2, hf⟩ := Option.bind_eq_some_iff.mp hf
    refine bs_call (o := pEN Ls xs (d + 6) 238 [.ref 89] (hp kp nh rh tl rl I L)) (w := some (.int q2)) (h' := hp kp nh rh tl rl I L) (pc := 34) (lo := [some (.ref 89), w1, some (.int x2), some (.int x3), some (.int x4)]) (rest := [.int x4]) rfl (t_238 Ls xs (d + 5) kp tl rl nh rh I L q2 hq2) ?_
    refine bs_br (t := 104) (e := 37) (lo := [some (.ref 89), w1, some (.int x2), some (.int x3), some (.int x4)]) (st := []) (h := hp kp nh rh tl rl I L) rfl hf (fun hc hf => ?_) (fun hc hf => ?_)
    · refine bs_st 1 (x' := (105, [some (.ref 89), w1, some (.int x2), some (.int x3), some (.int x4)], [.int x3], hp kp nh rh tl rl I L)) rfl ?_
      cases hf
      exact bs_ret rfl
    · refine bs_st 7 (x' := (47, [some (.ref 89), w1, some (.int x2), some (.int x3), some (.int x4)], [.int (((4 : Int32) * x4) + x2), .ref 106], hp kp nh rh tl rl I L)) rfl ?_
      refine bs_gd (x' := (48, [some (.ref 89), w1, some (.int x2), some (.int x3), some (.int x4)], [.int (I 106 ((((4 : Int32) * x4) + x2).toNatClampNeg))], hp kp nh rh tl rl I L)) rfl hf (fun hc hf => ?_)
      refine bs_st 1 (x' := (50, [some (.ref 89), w1, some (.int x2), some (.int x3), some (.int x4)], [.int (99 : Int32), .int (I 106 ((((4 : Int32) * x4) + x2).toNatClampNeg))], hp kp nh rh tl rl I L)) rfl ?_
      refine bs_br (t := 96) (e := 53) (lo := [some (.ref 89), w1, some (.int x2), some (.int x3), some (.int x4)]) (st := []) (h := hp kp nh rh tl rl I L) rfl hf (fun hc hf => ?_) (fun hc hf => ?_)
      · exact tc_286_1 Ls xs d kp tl rl nh rh n _ hK0 w1 x2 x3 x4 I L r hf
      · refine bs_st 3 (x' := (58, [some (.ref 89), w1, some (.int x2), some (.int x3), some (.int x4)], [.int x2, .ref 104], hp kp nh rh tl rl I L)) rfl ?_
        refine bs_gd (x' := (59, [some (.ref 89), w1, some (.int x2), some (.int x3), some (.int x4)], [.int (I 104 x2.toNatClampNeg)], hp kp nh rh tl rl I L)) rfl hf (fun hc hf => ?_)
        refine bs_st 7 (x' := (69, [some (.ref 89), w1, some (.int x2), some (.int x3), some (.int x4)], [.int (((4 : Int32) * x4) + x2), .ref 106, .int (I 104 x2.toNatClampNeg)], hp kp nh rh tl rl I L)) rfl ?_
        refine bs_gd (x' := (70, [some (.ref 89), w1, some (.int x2), some (.int x3), some (.int x4)], [.int (I 106 ((((4 : Int32) * x4) + x2).toNatClampNeg)), .int (I 104 x2.toNatClampNeg)], hp kp nh rh tl rl I L)) rfl hf (fun hc hf => ?_)
        refine bs_st 2 (x' := (72, [some (.ref 89), w1, some (.int x2), some (.int x3), some (.int x4)], [.int x3, .int ((I 104 x2.toNatClampNeg) - (I 106 ((((4 : Int32) * x4) + x2).toNatClampNeg)))], hp kp nh rh tl rl I L)) rfl ?_
        refine bs_br (t := 96) (e := 75) (lo := [some (.ref 89), w1, some (.int x2), some (.int x3), some (.int x4)]) (st := []) (h := hp kp nh rh tl rl I L) rfl hf (fun hc hf => ?_) (fun hc hf => ?_)
        · exact tc_286_1 Ls xs d kp tl rl nh rh n _ hK0 w1 x2 x3 x4 I L r hf
        · refine bs_st 3 (x' := (80, [some (.ref 89), w1, some (.int x2), some (.int x3), some (.int x4)], [.int x2, .ref 104], hp kp nh rh tl rl I L)) rfl ?_
          refine bs_gd (x' := (81, [some (.ref 89), w1, some (.int x2), some (.int x3), some (.int x4)], [.int (I 104 x2.toNatClampNeg)], hp kp nh rh tl rl I L)) rfl hf (fun hc hf => ?_)
          refine bs_st 7 (x' := (91, [some (.ref 89), w1, some (.int x2), some (.int x3), some (.int x4)], [.int (((4 : Int32) * x4) + x2), .ref 106, .int (I 104 x2.toNatClampNeg)], hp kp nh rh tl rl I L)) rfl ?_
          refine bs_gd (x' := (92, [some (.ref 89), w1, some (.int x2), some (.int x3), some (.int x4)], [.int (I 106 ((((4 : Int32) * x4) + x2).toNatClampNeg)), .int (I 104 x2.toNatClampNeg)], hp kp nh rh tl rl I L)) rfl hf (fun hc hf => ?_)
          refine bs_st 2 (x' := (97, [some (.ref 89), w1, some (.int x2), some (.int x3), some (.int x4)], [.int ((I 104 x2.toNatClampNeg) - (I 106 ((((4 : Int32) * x4) + x2).toNatClampNeg)))], hp kp nh rh tl rl I L)) rfl ?_
          exact tc_286_2 Ls xs d kp tl rl nh rh n _ hK0 w1 (some (.int x3)) x2 x4 ((I 104 x2.toNatClampNeg) - (I 106 ((((4 : Int32) * x4) + x2).toNatClampNeg))) I L r hf
def f_286 (n : Nat) (x1 : Int32) (x2 : Int32) (I : FI) (L : FL) : Option (Int32 × FI × FL) :=
  (f_244 x1 x2 (u2 I 89 0 (0 : Int32)) L).bind fun q0 =>
  if ¬ q0 = 0 then
    (f_261 n x1 (u2 I 89 0 (0 : Int32)) L).bind fun q1 =>
    c_286_0 n n x2 (100000 : Int32) (0 : Int32) q1.1 q1.2
  else
    some ((-2 : Int32), (u2 I 89 0 (0 : Int32)), L)
set_option maxHeartbeats 1000000 in
set_option maxRecDepth 20000 in
theorem t_286 (Ls : Nat) (xs : Nat → Int32) (d : Nat) (kp : Option Nat) (tl : List (Nat × Nat)) (rl : List (List (Option Nat))) (nh : Option Nat) (rh : Option Nat) (n : Nat) (x1 : Int32) (x2 : Int32) (I : FI) (L : FL) (r : Int32 × FI × FL) (hf : f_286 n x1 x2 I L = some r) : pEN Ls xs (d + 7) 286 [.ref 89, .int x1, .int x2] (hp kp nh rh tl rl I L) = some (some (.int r.1), hp kp nh rh tl rl r.2.1 r.2.2) := by
  refine en_run (d := d + 6) (cd := cd_286) (f := (sf 12 rs_12 false 5 (some (.int)) Ls xs (d + 6))) rfl rfl (x := (0, [some (.ref 89), some (.int x1), some (.int x2), none, none], [], hp kp nh rh tl rl I L)) rfl rfl (Nat.le_of_ble_eq_true rfl) ?_
  unfold f_286 at hf
  refine bs_st 6 (x' := (8, [some (.ref 89), some (.int x1), some (.int x2), none, none], [.int x2, .int x1, .ref 89], hp kp nh rh tl rl (u2 I 89 0 (0 : Int32)) L)) rfl ?_
  obtain ⟨q0, hq0, hf⟩ := Option.bind_eq_some_iff.mp hf
  refine bs_call (o := pEN Ls xs (d + 6) 244 [.ref 89, .int x1, .int x2] (hp kp nh rh tl rl (u2 I 89 0 (0 : Int32)) L)) (w := some (.int q0)) (h' := hp kp nh rh tl rl (u2 I 89 0 (0 : Int32)) L) (pc := 11) (lo := [some (.ref 89), some (.int x1), some (.int x2), none, none]) (rest := []) rfl (t_244 Ls xs (d + 3) kp tl rl nh rh x1 x2 (u2 I 89 0 (0 : Int32)) L q0 hq0) ?_
  refine bs_br (t := 17) (e := 14) (lo := [some (.ref 89), some (.int x1), some (.int x2), none, none]) (st := []) (h := hp kp nh rh tl rl (u2 I 89 0 (0 : Int32)) L) rfl hf (fun hc hf => ?_) (fun hc hf => ?_)
  · refine bs_st 2 (x' := (19, [some (.ref 89), some (.int x1), some (.int x2), none, none], [.int x1, .ref 89], hp kp nh rh tl rl (u2 I 89 0 (0 : Int32)) L)) rfl ?_
    obtain ⟨q1, hq1, hf⟩ := Option.bind_eq_some_iff.mp hf
    refine bs_call (o := pEN Ls xs (d + 6) 261 [.ref 89, .int x1] (hp kp nh rh tl rl (u2 I 89 0 (0 : Int32)) L)) (w := none) (h' := hp kp nh rh tl rl q1.1 q1.2) (pc := 22) (lo := [some (.ref 89), some (.int x1), some (.int x2), none, none]) (rest := []) rfl (t_261 Ls xs (d + 0) kp tl rl nh rh n x1 (u2 I 89 0 (0 : Int32)) L q1 hq1) ?_
    refine bs_st 4 (x' := (28, [some (.ref 89), some (.int x1), some (.int x2), some (.int (100000 : Int32)), some (.int (0 : Int32))], [], hp kp nh rh tl rl q1.1 q1.2)) rfl ?_
    exact tc_286_0 Ls xs d kp tl rl nh rh n n (some (.int x1)) x2 (100000 : Int32) (0 : Int32) q1.1 q1.2 r hf
  · refine bs_st 1 (x' := (16, [some (.ref 89), some (.int x1), some (.int x2), none, none], [.int (-2 : Int32)], hp kp nh rh tl rl (u2 I 89 0 (0 : Int32)) L)) rfl ?_
    cases hf
    exact bs_ret rfl
/-- LampRoundsModel.stateOf(II) on (89,) -/
def c_287_1 (n : Nat) (I : FI) (L : FL) (K0 : Int32 → Int32 → Int32 → Option (Int32)) (x2 : Int32) (x4 : Int32) (s0 : Int32) (s1 : Int32) : Option (Int32) :=
  K0 x2 (s1 + s0) (x4 + (1 : Int32))
set_option maxHeartbeats 1000000 in
set_option maxRecDepth 20000 in
theorem tc_287_1 (Ls : Nat) (xs : Nat → Int32) (d : Nat) (kp : Option Nat) (tl : List (Nat × Nat)) (rl : List (List (Option Nat))) (nh : Option Nat) (rh : Option Nat) (n : Nat) (I : FI) (L : FL) (K0 : Int32 → Int32 → Int32 → Option (Int32)) (hK0 : ∀ (w1 : Option Value) (x2 : Int32) (x3 : Int32) (x4 : Int32) (r : Int32), K0 x2 x3 x4 = some r → Bs cd_287 (sf 12 rs_12 false 5 (some (.int)) Ls xs (d + 1)) (5, [some (.ref 89), w1, some (.int x2), some (.int x3), some (.int x4)], [], hp kp nh rh tl rl I L) (some (.int r), hp kp nh rh tl rl I L)) (w1 : Option Value) (w3 : Option Value) (x2 : Int32) (x4 : Int32) (s0 : Int32) (s1 : Int32) (r : Int32) (hf : c_287_1 n I L K0 x2 x4 s0 s1 = some r) : Bs cd_287 (sf 12 rs_12 false 5 (some (.int)) Ls xs (d + 1)) (38, [some (.ref 89), w1, some (.int x2), w3, some (.int x4)], [.int s0, .int s1], hp kp nh rh tl rl I L) (some (.int r), hp kp nh rh tl rl I L) := by
  unfold c_287_1 at hf
  refine bs_st 4 (x' := (5, [some (.ref 89), w1, some (.int x2), some (.int (s1 + s0)), some (.int (x4 + (1 : Int32)))], [], hp kp nh rh tl rl I L)) rfl ?_
  exact hK0 w1 x2 (s1 + s0) (x4 + (1 : Int32)) r hf
def b_287_0 (n : Nat) (I : FI) (L : FL) (K0 : Int32 → Int32 → Int32 → Option (Int32)) (x2 : Int32) (x3 : Int32) (x4 : Int32) : Option (Int32) :=
  (f_237 I L).bind fun q0 =>
  if q0 ≤ x4 then
    some (x3)
  else
    (f_247 x2 x4 I L).bind fun q1 =>
    if q1 = 0 then
      c_287_1 n I L K0 x2 x4 (0 : Int32) ((8 : Int32) * x3)
    else
      if pin x4 4 = true then c_287_1 n I L K0 x2 x4 (I 105 x4.toNatClampNeg) ((8 : Int32) * x3) else none
def c_287_0 (n : Nat) (I : FI) (L : FL) : Nat → Int32 → Int32 → Int32 → Option (Int32)
  | 0, _, _, _ => none
  | m + 1, x2, x3, x4 => b_287_0 n I L (c_287_0 n I L m) x2 x3 x4
set_option maxHeartbeats 1000000 in
set_option maxRecDepth 20000 in
theorem tc_287_0 (Ls : Nat) (xs : Nat → Int32) (d : Nat) (kp : Option Nat) (tl : List (Nat × Nat)) (rl : List (List (Option Nat))) (nh : Option Nat) (rh : Option Nat) (n : Nat) (I : FI) (L : FL) : ∀ (m : Nat) (w1 : Option Value) (x2 : Int32) (x3 : Int32) (x4 : Int32) (r : Int32), c_287_0 n I L m x2 x3 x4 = some r → Bs cd_287 (sf 12 rs_12 false 5 (some (.int)) Ls xs (d + 1)) (5, [some (.ref 89), w1, some (.int x2), some (.int x3), some (.int x4)], [], hp kp nh rh tl rl I L) (some (.int r), hp kp nh rh tl rl I L)
  | 0, w1, x2, x3, x4, r, hf => by cases hf
  | m + 1, w1, x2, x3, x4, r, hf => by
    unfold c_287_0 b_287_0 at hf
    have hK0 := tc_287_0 Ls xs d kp tl rl nh rh n I L m
    refine bs_st 2 (x' := (8, [some (.ref 89), w1, some (.int x2), some (.int x3), some (.int x4)], [.ref 89, .int x4], hp kp nh rh tl rl I L)) rfl ?_
    obtain ⟨q0, hq0, hf⟩ := Option.bind_eq_some_iff.mp hf
    refine bs_call (o := pEN Ls xs (d + 1) 237 [.ref 89] (hp kp nh rh tl rl I L)) (w := some (.int q0)) (h' := hp kp nh rh tl rl I L) (pc := 11) (lo := [some (.ref 89), w1, some (.int x2), some (.int x3), some (.int x4)]) (rest := [.int x4]) rfl (t_237 Ls xs (d + 0) kp tl rl nh rh I L q0 hq0) ?_
    refine bs_br (t := 46) (e := 14) (lo := [some (.ref 89), w1, some (.int x2), some (.int x3), some (.int x4)]) (st := []) (h := hp kp nh rh tl rl I L) rfl hf (fun hc hf => ?_) (fun hc hf => ?_)
    · refine bs_st 1 (x' := (47, [some (.ref 89), w1, some (.int x2), some (.int x3), some (.int x4)], [.int x3], hp kp nh rh tl rl I L)) rfl ?_
      cases hf
      exact bs_ret rfl
    · refine bs_st 5 (x' := (21, [some (.ref 89), w1, some (.int x2), some (.int x3), some (.int x4)], [.int x4, .int x2, .int ((8 : Int32) * x3)], hp kp nh rh tl rl I L)) rfl ?_
      obtain ⟨q1, hq1, hf⟩ := Option.bind_eq_some_iff.mp hf
      refine bs_call (o := pEN Ls xs (d + 1) 247 [.int x2, .int x4] (hp kp nh rh tl rl I L)) (w := some (.int q1)) (h' := hp kp nh rh tl rl I L) (pc := 24) (lo := [some (.ref 89), w1, some (.int x2), some (.int x3), some (.int x4)]) (rest := [.int ((8 : Int32) * x3)]) rfl (t_247 Ls xs (d + 0) kp tl rl nh rh x2 x4 I L q1 hq1) ?_
      refine bs_br (t := 37) (e := 27) (lo := [some (.ref 89), w1, some (.int x2), some (.int x3), some (.int x4)]) (st := [.int ((8 : Int32) * x3)]) (h := hp kp nh rh tl rl I L) rfl hf (fun hc hf => ?_) (fun hc hf => ?_)
      · refine bs_st 1 (x' := (38, [some (.ref 89), w1, some (.int x2), some (.int x3), some (.int x4)], [.int (0 : Int32), .int ((8 : Int32) * x3)], hp kp nh rh tl rl I L)) rfl ?_
        exact tc_287_1 Ls xs d kp tl rl nh rh n I L _ hK0 w1 (some (.int x3)) x2 x4 (0 : Int32) ((8 : Int32) * x3) r hf
      · refine bs_st 3 (x' := (33, [some (.ref 89), w1, some (.int x2), some (.int x3), some (.int x4)], [.int x4, .ref 105, .int ((8 : Int32) * x3)], hp kp nh rh tl rl I L)) rfl ?_
        refine bs_gd (x' := (34, [some (.ref 89), w1, some (.int x2), some (.int x3), some (.int x4)], [.int (I 105 x4.toNatClampNeg), .int ((8 : Int32) * x3)], hp kp nh rh tl rl I L)) rfl hf (fun hc hf => ?_)
        refine bs_st 1 (x' := (38, [some (.ref 89), w1, some (.int x2), some (.int x3), some (.int x4)], [.int (I 105 x4.toNatClampNeg), .int ((8 : Int32) * x3)], hp kp nh rh tl rl I L)) rfl ?_
        exact tc_287_1 Ls xs d kp tl rl nh rh n I L _ hK0 w1 (some (.int x3)) x2 x4 (I 105 x4.toNatClampNeg) ((8 : Int32) * x3) r hf
def f_287 (n : Nat) (x1 : Int32) (x2 : Int32) (I : FI) (L : FL) : Option (Int32) :=
  c_287_0 n I L n x2 x1 (0 : Int32)
set_option maxHeartbeats 1000000 in
set_option maxRecDepth 20000 in
theorem t_287 (Ls : Nat) (xs : Nat → Int32) (d : Nat) (kp : Option Nat) (tl : List (Nat × Nat)) (rl : List (List (Option Nat))) (nh : Option Nat) (rh : Option Nat) (n : Nat) (x1 : Int32) (x2 : Int32) (I : FI) (L : FL) (r : Int32) (hf : f_287 n x1 x2 I L = some r) : pEN Ls xs (d + 2) 287 [.ref 89, .int x1, .int x2] (hp kp nh rh tl rl I L) = some (some (.int r), hp kp nh rh tl rl I L) := by
  refine en_run (d := d + 1) (cd := cd_287) (f := (sf 12 rs_12 false 5 (some (.int)) Ls xs (d + 1))) rfl rfl (x := (0, [some (.ref 89), some (.int x1), some (.int x2), none, none], [], hp kp nh rh tl rl I L)) rfl rfl (Nat.le_of_ble_eq_true rfl) ?_
  unfold f_287 at hf
  refine bs_st 4 (x' := (5, [some (.ref 89), some (.int x1), some (.int x2), some (.int x1), some (.int (0 : Int32))], [], hp kp nh rh tl rl I L)) rfl ?_
  exact tc_287_0 Ls xs d kp tl rl nh rh n I L n (some (.int x1)) x2 x1 (0 : Int32) r hf
