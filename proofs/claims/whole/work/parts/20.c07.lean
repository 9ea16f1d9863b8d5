/-- Row.hasPart(II) on (81,) -/
def f_108 (x1 : Int32) (x2 : Int32) (I : FI) (L : FL) : Option (Int32) :=
  if x1 < 0 then
    some ((0 : Int32))
  else
    if x2 < 0 then
      some ((0 : Int32))
    else
      if 0 < (lg_cmp (x1.toInt64 + x2.toInt64) ((I 81 2).toInt64)) then
        some ((0 : Int32))
      else
        some ((1 : Int32))
set_option maxHeartbeats 1000000 in
set_option maxRecDepth 20000 in
theorem t_108 (Ls : Nat) (xs : Nat → Int32) (d : Nat) (kp : Option Nat) (tl : List (Nat × Nat)) (rl : List (List (Option Nat))) (nh : Option Nat) (rh : Option Nat) (x1 : Int32) (x2 : Int32) (I : FI) (L : FL) (r : Int32) (hf : f_108 x1 x2 I L = some r) : pEN Ls xs (d + 1) 108 [.ref 81, .int x1, .int x2] (hp kp nh rh tl rl I L) = some (some (.int r), hp kp nh rh tl rl I L) := by
  refine en_run (d := d + 0) (cd := cd_108) (f := (sf 9 rs_9 false 3 (some (.boolean)) Ls xs (d + 0))) rfl rfl (x := (0, [some (.ref 81), some (.int x1), some (.int x2)], [], hp kp nh rh tl rl I L)) rfl rfl (Nat.le_of_ble_eq_true rfl) ?_
  unfold f_108 at hf
  refine bs_st 1 (x' := (1, [some (.ref 81), some (.int x1), some (.int x2)], [.int x1], hp kp nh rh tl rl I L)) rfl ?_
  refine bs_br (t := 26) (e := 4) (lo := [some (.ref 81), some (.int x1), some (.int x2)]) (st := []) (h := hp kp nh rh tl rl I L) rfl hf (fun hc hf => ?_) (fun hc hf => ?_)
  · refine bs_st 1 (x' := (27, [some (.ref 81), some (.int x1), some (.int x2)], [.int (0 : Int32)], hp kp nh rh tl rl I L)) rfl ?_
    cases hf
    exact bs_ret rfl
  · refine bs_st 1 (x' := (5, [some (.ref 81), some (.int x1), some (.int x2)], [.int x2], hp kp nh rh tl rl I L)) rfl ?_
    refine bs_br (t := 26) (e := 8) (lo := [some (.ref 81), some (.int x1), some (.int x2)]) (st := []) (h := hp kp nh rh tl rl I L) rfl hf (fun hc hf => ?_) (fun hc hf => ?_)
    · refine bs_st 1 (x' := (27, [some (.ref 81), some (.int x1), some (.int x2)], [.int (0 : Int32)], hp kp nh rh tl rl I L)) rfl ?_
      cases hf
      exact bs_ret rfl
    · refine bs_st 9 (x' := (19, [some (.ref 81), some (.int x1), some (.int x2)], [.int (lg_cmp (x1.toInt64 + x2.toInt64) ((I 81 2).toInt64))], hp kp nh rh tl rl I L)) rfl ?_
      refine bs_br (t := 26) (e := 22) (lo := [some (.ref 81), some (.int x1), some (.int x2)]) (st := []) (h := hp kp nh rh tl rl I L) rfl hf (fun hc hf => ?_) (fun hc hf => ?_)
      · refine bs_st 1 (x' := (27, [some (.ref 81), some (.int x1), some (.int x2)], [.int (0 : Int32)], hp kp nh rh tl rl I L)) rfl ?_
        cases hf
        exact bs_ret rfl
      · refine bs_st 2 (x' := (27, [some (.ref 81), some (.int x1), some (.int x2)], [.int (1 : Int32)], hp kp nh rh tl rl I L)) rfl ?_
        cases hf
        exact bs_ret rfl
/-- Row.hasPart(II) on (83,) -/
def f_108_1 (x1 : Int32) (x2 : Int32) (I : FI) (L : FL) : Option (Int32) :=
  if x1 < 0 then
    some ((0 : Int32))
  else
    if x2 < 0 then
      some ((0 : Int32))
    else
      if 0 < (lg_cmp (x1.toInt64 + x2.toInt64) ((I 83 2).toInt64)) then
        some ((0 : Int32))
      else
        some ((1 : Int32))
set_option maxHeartbeats 1000000 in
set_option maxRecDepth 20000 in
theorem t_108_1 (Ls : Nat) (xs : Nat → Int32) (d : Nat) (kp : Option Nat) (tl : List (Nat × Nat)) (rl : List (List (Option Nat))) (nh : Option Nat) (rh : Option Nat) (x1 : Int32) (x2 : Int32) (I : FI) (L : FL) (r : Int32) (hf : f_108_1 x1 x2 I L = some r) : pEN Ls xs (d + 1) 108 [.ref 83, .int x1, .int x2] (hp kp nh rh tl rl I L) = some (some (.int r), hp kp nh rh tl rl I L) := by
  refine en_run (d := d + 0) (cd := cd_108) (f := (sf 9 rs_9 false 3 (some (.boolean)) Ls xs (d + 0))) rfl rfl (x := (0, [some (.ref 83), some (.int x1), some (.int x2)], [], hp kp nh rh tl rl I L)) rfl rfl (Nat.le_of_ble_eq_true rfl) ?_
  unfold f_108_1 at hf
  refine bs_st 1 (x' := (1, [some (.ref 83), some (.int x1), some (.int x2)], [.int x1], hp kp nh rh tl rl I L)) rfl ?_
  refine bs_br (t := 26) (e := 4) (lo := [some (.ref 83), some (.int x1), some (.int x2)]) (st := []) (h := hp kp nh rh tl rl I L) rfl hf (fun hc hf => ?_) (fun hc hf => ?_)
  · refine bs_st 1 (x' := (27, [some (.ref 83), some (.int x1), some (.int x2)], [.int (0 : Int32)], hp kp nh rh tl rl I L)) rfl ?_
    cases hf
    exact bs_ret rfl
  · refine bs_st 1 (x' := (5, [some (.ref 83), some (.int x1), some (.int x2)], [.int x2], hp kp nh rh tl rl I L)) rfl ?_
    refine bs_br (t := 26) (e := 8) (lo := [some (.ref 83), some (.int x1), some (.int x2)]) (st := []) (h := hp kp nh rh tl rl I L) rfl hf (fun hc hf => ?_) (fun hc hf => ?_)
    · refine bs_st 1 (x' := (27, [some (.ref 83), some (.int x1), some (.int x2)], [.int (0 : Int32)], hp kp nh rh tl rl I L)) rfl ?_
      cases hf
      exact bs_ret rfl
    · refine bs_st 9 (x' := (19, [some (.ref 83), some (.int x1), some (.int x2)], [.int (lg_cmp (x1.toInt64 + x2.toInt64) ((I 83 2).toInt64))], hp kp nh rh tl rl I L)) rfl ?_
      refine bs_br (t := 26) (e := 22) (lo := [some (.ref 83), some (.int x1), some (.int x2)]) (st := []) (h := hp kp nh rh tl rl I L) rfl hf (fun hc hf => ?_) (fun hc hf => ?_)
      · refine bs_st 1 (x' := (27, [some (.ref 83), some (.int x1), some (.int x2)], [.int (0 : Int32)], hp kp nh rh tl rl I L)) rfl ?_
        cases hf
        exact bs_ret rfl
      · refine bs_st 2 (x' := (27, [some (.ref 83), some (.int x1), some (.int x2)], [.int (1 : Int32)], hp kp nh rh tl rl I L)) rfl ?_
        cases hf
        exact bs_ret rfl
/-- Row.hasPart(II) on (85,) -/
def f_108_2 (x1 : Int32) (x2 : Int32) (I : FI) (L : FL) : Option (Int32) :=
  if x1 < 0 then
    some ((0 : Int32))
  else
    if x2 < 0 then
      some ((0 : Int32))
    else
      if 0 < (lg_cmp (x1.toInt64 + x2.toInt64) ((I 85 2).toInt64)) then
        some ((0 : Int32))
      else
        some ((1 : Int32))
set_option maxHeartbeats 1000000 in
set_option maxRecDepth 20000 in
theorem t_108_2 (Ls : Nat) (xs : Nat → Int32) (d : Nat) (kp : Option Nat) (tl : List (Nat × Nat)) (rl : List (List (Option Nat))) (nh : Option Nat) (rh : Option Nat) (x1 : Int32) (x2 : Int32) (I : FI) (L : FL) (r : Int32) (hf : f_108_2 x1 x2 I L = some r) : pEN Ls xs (d + 1) 108 [.ref 85, .int x1, .int x2] (hp kp nh rh tl rl I L) = some (some (.int r), hp kp nh rh tl rl I L) := by
  refine en_run (d := d + 0) (cd := cd_108) (f := (sf 9 rs_9 false 3 (some (.boolean)) Ls xs (d + 0))) rfl rfl (x := (0, [some (.ref 85), some (.int x1), some (.int x2)], [], hp kp nh rh tl rl I L)) rfl rfl (Nat.le_of_ble_eq_true rfl) ?_
  unfold f_108_2 at hf
  refine bs_st 1 (x' := (1, [some (.ref 85), some (.int x1), some (.int x2)], [.int x1], hp kp nh rh tl rl I L)) rfl ?_
  refine bs_br (t := 26) (e := 4) (lo := [some (.ref 85), some (.int x1), some (.int x2)]) (st := []) (h := hp kp nh rh tl rl I L) rfl hf (fun hc hf => ?_) (fun hc hf => ?_)
  · refine bs_st 1 (x' := (27, [some (.ref 85), some (.int x1), some (.int x2)], [.int (0 : Int32)], hp kp nh rh tl rl I L)) rfl ?_
    cases hf
    exact bs_ret rfl
  · refine bs_st 1 (x' := (5, [some (.ref 85), some (.int x1), some (.int x2)], [.int x2], hp kp nh rh tl rl I L)) rfl ?_
    refine bs_br (t := 26) (e := 8) (lo := [some (.ref 85), some (.int x1), some (.int x2)]) (st := []) (h := hp kp nh rh tl rl I L) rfl hf (fun hc hf => ?_) (fun hc hf => ?_)
    · refine bs_st 1 (x' := (27, [some (.ref 85), some (.int x1), some (.int x2)], [.int (0 : Int32)], hp kp nh rh tl rl I L)) rfl ?_
      cases hf
      exact bs_ret rfl
    · refine bs_st 9 (x' := (19, [some (.ref 85), some (.int x1), some (.int x2)], [.int (lg_cmp (x1.toInt64 + x2.toInt64) ((I 85 2).toInt64))], hp kp nh rh tl rl I L)) rfl ?_
      refine bs_br (t := 26) (e := 22) (lo := [some (.ref 85), some (.int x1), some (.int x2)]) (st := []) (h := hp kp nh rh tl rl I L) rfl hf (fun hc hf => ?_) (fun hc hf => ?_)
      · refine bs_st 1 (x' := (27, [some (.ref 85), some (.int x1), some (.int x2)], [.int (0 : Int32)], hp kp nh rh tl rl I L)) rfl ?_
        cases hf
        exact bs_ret rfl
      · refine bs_st 2 (x' := (27, [some (.ref 85), some (.int x1), some (.int x2)], [.int (1 : Int32)], hp kp nh rh tl rl I L)) rfl ?_
        cases hf
        exact bs_ret rfl
/-- Row.hasPart(II) on (87,) -/
def f_108_3 (x1 : Int32) (x2 : Int32) (I : FI) (L : FL) : Option (Int32) :=
  if x1 < 0 then
    some ((0 : Int32))
  else
    if x2 < 0 then
      some ((0 : Int32))
    else
      if 0 < (lg_cmp (x1.toInt64 + x2.toInt64) ((I 87 2).toInt64)) then
        some ((0 : Int32))
      else
        some ((1 : Int32))
set_option maxHeartbeats 1000000 in
set_option maxRecDepth 20000 in
theorem t_108_3 (Ls : Nat) (xs : Nat → Int32) (d : Nat) (kp : Option Nat) (tl : List (Nat × Nat)) (rl : List (List (Option Nat))) (nh : Option Nat) (rh : Option Nat) (x1 : Int32) (x2 : Int32) (I : FI) (L : FL) (r : Int32) (hf : f_108_3 x1 x2 I L = some r) : pEN Ls xs (d + 1) 108 [.ref 87, .int x1, .int x2] (hp kp nh rh tl rl I L) = some (some (.int r), hp kp nh rh tl rl I L) := by
  refine en_run (d := d + 0) (cd := cd_108) (f := (sf 9 rs_9 false 3 (some (.boolean)) Ls xs (d + 0))) rfl rfl (x := (0, [some (.ref 87), some (.int x1), some (.int x2)], [], hp kp nh rh tl rl I L)) rfl rfl (Nat.le_of_ble_eq_true rfl) ?_
  unfold f_108_3 at hf
  refine bs_st 1 (x' := (1, [some (.ref 87), some (.int x1), some (.int x2)], [.int x1], hp kp nh rh tl rl I L)) rfl ?_
  refine bs_br (t := 26) (e := 4) (lo := [some (.ref 87), some (.int x1), some (.int x2)]) (st := []) (h := hp kp nh rh tl rl I L) rfl hf (fun hc hf => ?_) (fun hc hf => ?_)
  · refine bs_st 1 (x' := (27, [some (.ref 87), some (.int x1), some (.int x2)], [.int (0 : Int32)], hp kp nh rh tl rl I L)) rfl ?_
    cases hf
    exact bs_ret rfl
  · refine bs_st 1 (x' := (5, [some (.ref 87), some (.int x1), some (.int x2)], [.int x2], hp kp nh rh tl rl I L)) rfl ?_
    refine bs_br (t := 26) (e := 8) (lo := [some (.ref 87), some (.int x1), some (.int x2)]) (st := []) (h := hp kp nh rh tl rl I L) rfl hf (fun hc hf => ?_) (fun hc hf => ?_)
    · refine bs_st 1 (x' := (27, [some (.ref 87), some (.int x1), some (.int x2)], [.int (0 : Int32)], hp kp nh rh tl rl I L)) rfl ?_
      cases hf
      exact bs_ret rfl
    · refine bs_st 9 (x' := (19, [some (.ref 87), some (.int x1), some (.int x2)], [.int (lg_cmp (x1.toInt64 + x2.toInt64) ((I 87 2).toInt64))], hp kp nh rh tl rl I L)) rfl ?_
      refine bs_br (t := 26) (e := 22) (lo := [some (.ref 87), some (.int x1), some (.int x2)]) (st := []) (h := hp kp nh rh tl rl I L) rfl hf (fun hc hf => ?_) (fun hc hf => ?_)
      · refine bs_st 1 (x' := (27, [some (.ref 87), some (.int x1), some (.int x2)], [.int (0 : Int32)], hp kp nh rh tl rl I L)) rfl ?_
        cases hf
        exact bs_ret rfl
      · refine bs_st 2 (x' := (27, [some (.ref 87), some (.int x1), some (.int x2)], [.int (1 : Int32)], hp kp nh rh tl rl I L)) rfl ?_
        cases hf
        exact bs_ret rfl
/-- LampRounds.paste(IIIII) on (0,) -/
def f_176 (x1 : Int32) (x2 : Int32) (x3 : Int32) (x4 : Int32) (x5 : Int32) (I : FI) (L : FL) : Option (Int32 × FI × FL) :=
  (f_184 x1 I L).bind fun q0 =>
  if q0 = 0 then
    some ((-2 : Int32), I, L)
  else
    (f_184 x3 I L).bind fun q1 =>
    if ¬ q1 = 0 then
      if x1 = 0 then (if x3 = 0 then (if I 81 3 = 0 then
            some ((-6 : Int32), I, L)
          else
            if ¬ I 81 3 = 0 then
              if I 81 1 = I 81 1 then
                (f_108 x2 x5 I L).bind fun q2 =>
                if q2 = 0 then
                  some ((-7 : Int32), I, L)
                else
                  (f_108 x4 x5 I L).bind fun q3 =>
                  if ¬ q3 = 0 then
                    if x2 < 0 ∨ x4 < 0 ∨ x5 < 0 ∨ 8 < pcat [] then none else if x2.toNatClampNeg + x5.toNatClampNeg ≤ 60 ∧ x4.toNatClampNeg + x5.toNatClampNeg ≤ 60 then some ((0 : Int32), I, (c2 L 82 82 x2.toNatClampNeg x4.toNatClampNeg x5.toNatClampNeg)) else none
                  else
                    some ((-7 : Int32), I, L)
              else
                some ((-8 : Int32), I, L)
            else
              some ((-6 : Int32), I, L)) else if x3 = 1 then (if I 81 3 = 0 then
            some ((-6 : Int32), I, L)
          else
            if ¬ I 83 3 = 0 then
              if I 81 1 = I 83 1 then
                (f_108 x2 x5 I L).bind fun q4 =>
                if q4 = 0 then
                  some ((-7 : Int32), I, L)
                else
                  (f_108_1 x4 x5 I L).bind fun q5 =>
                  if ¬ q5 = 0 then
                    if x2 < 0 ∨ x4 < 0 ∨ x5 < 0 ∨ 8 < pcat [] then none else if x2.toNatClampNeg + x5.toNatClampNeg ≤ 60 ∧ x4.toNatClampNeg + x5.toNatClampNeg ≤ 60 then some ((0 : Int32), I, (c2 L 82 84 x2.toNatClampNeg x4.toNatClampNeg x5.toNatClampNeg)) else none
                  else
                    some ((-7 : Int32), I, L)
              else
                some ((-8 : Int32), I, L)
            else
              some ((-6 : Int32), I, L)) else if x3 = 2 then (if I 81 3 = 0 then
            some ((-6 : Int32), I, L)
          else
            if ¬ I 85 3 = 0 then
              if I 81 1 = I 85 1 then
                (f_108 x2 x5 I L).bind fun q6 =>
                if q6 = 0 then
                  some ((-7 : Int32), I, L)
                else
                  (f_108_2 x4 x5 I L).bind fun q7 =>
                  if ¬ q7 = 0 then
                    if x2 < 0 ∨ x4 < 0 ∨ x5 < 0 ∨ 8 < pcat [] then none else if x2.toNatClampNeg + x5.toNatClampNeg ≤ 60 ∧ x4.toNatClampNeg + x5.toNatClampNeg ≤ 60 then some ((0 : Int32), I, (c2 L 82 86 x2.toNatClampNeg x4.toNatClampNeg x5.toNatClampNeg)) else none
                  else
                    some ((-7 : Int32), I, L)
              else
                some ((-8 : Int32), I, L)
            else
              some ((-6 : Int32), I, L)) else if x3 = 3 then (if I 81 3 = 0 then
            some ((-6 : Int32), I, L)
          else
            if ¬ I 87 3 = 0 then
              if I 81 1 = I 87 1 then
                (f_108 x2 x5 I L).bind fun q8 =>
                if q8 = 0 then
                  some ((-7 : Int32), I, L)
                else
                  (f_108_3 x4 x5 I L).bind fun q9 =>
                  if ¬ q9 = 0 then
                    if x2 < 0 ∨ x4 < 0 ∨ x5 < 0 ∨ 8 < pcat [] then none else if x2.toNatClampNeg + x5.toNatClampNeg ≤ 60 ∧ x4.toNatClampNeg + x5.toNatClampNeg ≤ 60 then some ((0 : Int32), I, (c2 L 82 88 x2.toNatClampNeg x4.toNatClampNeg x5.toNatClampNeg)) else none
                  else
                    some ((-7 : Int32), I, L)
              else
                some ((-8 : Int32), I, L)
            else
              some ((-6 : Int32), I, L)) else none) else if x1 = 1 then (if x3 = 0 then (if I 83 3 = 0 then
            some ((-6 : Int32), I, L)
          else
            if ¬ I 81 3 = 0 then
              if I 83 1 = I 81 1 then
                (f_108_1 x2 x5 I L).bind fun q10 =>
                if q10 = 0 then
                  some ((-7 : Int32), I, L)
                else
                  (f_108 x4 x5 I L).bind fun q11 =>
                  if ¬ q11 = 0 then
                    if x2 < 0 ∨ x4 < 0 ∨ x5 < 0 ∨ 8 < pcat [] then none else if x2.toNatClampNeg + x5.toNatClampNeg ≤ 60 ∧ x4.toNatClampNeg + x5.toNatClampNeg ≤ 60 then some ((0 : Int32), I, (c2 L 84 82 x2.toNatClampNeg x4.toNatClampNeg x5.toNatClampNeg)) else none
                  else
                    some ((-7 : Int32), I, L)
              else
                some ((-8 : Int32), I, L)
            else
              some ((-6 : Int32), I, L)) else if x3 = 1 then (if I 83 3 = 0 then
            some ((-6 : Int32), I, L)
          else
            if ¬ I 83 3 = 0 then
              if I 83 1 = I 83 1 then
                (f_108_1 x2 x5 I L).bind fun q12 =>
                if q12 = 0 then
                  some ((-7 : Int32), I, L)
                else
                  (f_108_1 x4 x5 I L).bind fun q13 =>
                  if ¬ q13 = 0 then
                    if x2 < 0 ∨ x4 < 0 ∨ x5 < 0 ∨ 8 < pcat [] then none else if x2.toNatClampNeg + x5.toNatClampNeg ≤ 60 ∧ x4.toNatClampNeg + x5.toNatClampNeg ≤ 60 then some ((0 : Int32), I, (c2 L 84 84 x2.toNatClampNeg x4.toNatClampNeg x5.toNatClampNeg)) else none
                  else
                    some ((-7 : Int32), I, L)
              else
                some ((-8 : Int32), I, L)
            else
              some ((-6 : Int32), I, L)) else if x3 = 2 then (if I 83 3 = 0 then
            some ((-6 : Int32), I, L)
          else
            if ¬ I 85 3 = 0 then
              if I 83 1 = I 85 1 then
                (f_108_1 x2 x5 I L).bind fun q14 =>
                if q14 = 0 then
                  some ((-7 : Int32), I, L)
                else
                  (f_108_2 x4 x5 I L).bind fun q15 =>
                  if ¬ q15 = 0 then
                    if x2 < 0 ∨ x4 < 0 ∨ x5 < 0 ∨ 8 < pcat [] then none else if x2.toNatClampNeg + x5.toNatClampNeg ≤ 60 ∧ x4.toNatClampNeg + x5.toNatClampNeg ≤ 60 then some ((0 : Int32), I, (c2 L 84 86 x2.toNatClampNeg x4.toNatClampNeg x5.toNatClampNeg)) else none
                  else
                    some ((-7 : Int32), I, L)
              else
                some ((-8 : Int32), I, L)
            else
              some ((-6 : Int32), I, L)) else if x3 = 3 then (if I 83 3 = 0 then
            some ((-6 : Int32), I, L)
          else
            if ¬ I 87 3 = 0 then
              if I 83 1 = I 87 1 then
                (f_108_1 x2 x5 I L).bind fun q16 =>
                if q16 = 0 then
                  some ((-7 : Int32), I, L)
                else
                  (f_108_3 x4 x5 I L).bind fun q17 =>
                  if ¬ q17 = 0 then
                    if x2 < 0 ∨ x4 < 0 ∨ x5 < 0 ∨ 8 < pcat [] then none else if x2.toNatClampNeg + x5.toNatClampNeg ≤ 60 ∧ x4.toNatClampNeg + x5.toNatClampNeg ≤ 60 then some ((0 : Int32), I, (c2 L 84 88 x2.toNatClampNeg x4.toNatClampNeg x5.toNatClampNeg)) else none
                  else
                    some ((-7 : Int32), I, L)
              else
                some ((-8 : Int32), I, L)
            else
              some ((-6 : Int32), I, L)) else none) else if x1 = 2 then (if x3 = 0 then (if I 85 3 = 0 then
            some ((-6 : Int32), I, L)
          else
            if ¬ I 81 3 = 0 then
              if I 85 1 = I 81 1 then
                (f_108_2 x2 x5 I L).bind fun q18 =>
                if q18 = 0 then
                  some ((-7 : Int32), I, L)
                else
                  (f_108 x4 x5 I L).bind fun q19 =>
                  if ¬ q19 = 0 then
                    if x2 < 0 ∨ x4 < 0 ∨ x5 < 0 ∨ 8 < pcat [] then none else if x2.toNatClampNeg + x5.toNatClampNeg ≤ 60 ∧ x4.toNatClampNeg + x5.toNatClampNeg ≤ 60 then some ((0 : Int32), I, (c2 L 86 82 x2.toNatClampNeg x4.toNatClampNeg x5.toNatClampNeg)) else none
                  else
                    some ((-7 : Int32), I, L)
              else
                some ((-8 : Int32), I, L)
            else
              some ((-6 : Int32), I, L)) else if x3 = 1 then (if I 85 3 = 0 then
            some ((-6 : Int32), I, L)
          else
            if ¬ I 83 3 = 0 then
              if I 85 1 = I 83 1 then
                (f_108_2 x2 x5 I L).bind fun q20 =>
                if q20 = 0 then
                  some ((-7 : Int32), I, L)
                else
                  (f_108_1 x4 x5 I L).bind fun q21 =>
                  if ¬ q21 = 0 then
                    if x2 < 0 ∨ x4 < 0 ∨ x5 < 0 ∨ 8 < pcat [] then none else if x2.toNatClampNeg + x5.toNatClampNeg ≤ 60 ∧ x4.toNatClampNeg + x5.toNatClampNeg ≤ 60 then some ((0 : Int32), I, (c2 L 86 84 x2.toNatClampNeg x4.toNatClampNeg x5.toNatClampNeg)) else none
                  else
                    some ((-7 : Int32), I, L)
              else
                some ((-8 : Int32), I, L)
            else
              some ((-6 : Int32), I, L)) else if x3 = 2 then (if I 85 3 = 0 then
            some ((-6 : Int32), I, L)
          else
            if ¬ I 85 3 = 0 then
              if I 85 1 = I 85 1 then
                (f_108_2 x2 x5 I L).bind fun q22 =>
                if q22 = 0 then
                  some ((-7 : Int32), I, L)
                else
                  (f_108_2 x4 x5 I L).bind fun q23 =>
                  if ¬ q23 = 0 then
                    if x2 < 0 ∨ x4 < 0 ∨ x5 < 0 ∨ 8 < pcat [] then none else if x2.toNatClampNeg + x5.toNatClampNeg ≤ 60 ∧ x4.toNatClampNeg + x5.toNatClampNeg ≤ 60 then some ((0 : Int32), I, (c2 L 86 86 x2.toNatClampNeg x4.toNatClampNeg x5.toNatClampNeg)) else none
                  else
                    some ((-7 : Int32), I, L)
              else
                some ((-8 : Int32), I, L)
            else
              some ((-6 : Int32), I, L)) else if x3 = 3 then (if I 85 3 = 0 then
            some ((-6 : Int32), I, L)
          else
            if ¬ I 87 3 = 0 then
              if I 85 1 = I 87 1 then
                (f_108_2 x2 x5 I L).bind fun q24 =>
                if q24 = 0 then
                  some ((-7 : Int32), I, L)
                else
                  (f_108_3 x4 x5 I L).bind fun q25 =>
                  if ¬ q25 = 0 then
                    if x2 < 0 ∨ x4 < 0 ∨ x5 < 0 ∨ 8 < pcat [] then none else if x2.toNatClampNeg + x5.toNatClampNeg ≤ 60 ∧ x4.toNatClampNeg + x5.toNatClampNeg ≤ 60 then some ((0 : Int32), I, (c2 L 86 88 x2.toNatClampNeg x4.toNatClampNeg x5.toNatClampNeg)) else none
                  else
                    some ((-7 : Int32), I, L)
              else
                some ((-8 : Int32), I, L)
            else
              some ((-6 : Int32), I, L)) else none) else if x1 = 3 then (if x3 = 0 then (if I 87 3 = 0 then
            some ((-6 : Int32), I, L)
          else
            if ¬ I 81 3 = 0 then
              if I 87 1 = I 81 1 then
                (f_108_3 x2 x5 I L).bind fun q26 =>
                if q26 = 0 then
                  some ((-7 : Int32), I, L)
                else
                  (f_108 x4 x5 I L).bind fun q27 =>
                  if ¬ q27 = 0 then
                    if x2 < 0 ∨ x4 < 0 ∨ x5 < 0 ∨ 8 < pcat [] then none else if x2.toNatClampNeg + x5.toNatClampNeg ≤ 60 ∧ x4.toNatClampNeg + x5.toNatClampNeg ≤ 60 then some ((0 : Int32), I, (c2 L 88 82 x2.toNatClampNeg x4.toNatClampNeg x5.toNatClampNeg)) else none
                  else
                    some ((-7 : Int32), I, L)
              else
                some ((-8 : Int32), I, L)
            else
              some ((-6 : Int32), I, L)) else if x3 = 1 then (if I 87 3 = 0 then
            some ((-6 : Int32), I, L)
          else
            if ¬ I 83 3 = 0 then
              if I 87 1 = I 83 1 then
                (f_108_3 x2 x5 I L).bind fun q28 =>
                if q28 = 0 then
                  some ((-7 : Int32), I, L)
                else
                  (f_108_1 x4 x5 I L).bind fun q29 =>
                  if ¬ q29 = 0 then
                    if x2 < 0 ∨ x4 < 0 ∨ x5 < 0 ∨ 8 < pcat [] then none else if x2.toNatClampNeg + x5.toNatClampNeg ≤ 60 ∧ x4.toNatClampNeg + x5.toNatClampNeg ≤ 60 then some ((0 : Int32), I, (c2 L 88 84 x2.toNatClampNeg x4.toNatClampNeg x5.toNatClampNeg)) else none
                  else
                    some ((-7 : Int32), I, L)
              else
                some ((-8 : Int32), I, L)
            else
              some ((-6 : Int32), I, L)) else if x3 = 2 then (if I 87 3 = 0 then
            some ((-6 : Int32), I, L)
          else
            if ¬ I 85 3 = 0 then
              if I 87 1 = I 85 1 then
                (f_108_3 x2 x5 I L).bind fun q30 =>
                if q30 = 0 then
                  some ((-7 : Int32), I, L)
                else
                  (f_108_2 x4 x5 I L).bind fun q31 =>
                  if ¬ q31 = 0 then
                    if x2 < 0 ∨ x4 < 0 ∨ x5 < 0 ∨ 8 < pcat [] then none else if x2.toNatClampNeg + x5.toNatClampNeg ≤ 60 ∧ x4.toNatClampNeg + x5.toNatClampNeg ≤ 60 then some ((0 : Int32), I, (c2 L 88 86 x2.toNatClampNeg x4.toNatClampNeg x5.toNatClampNeg)) else none
                  else
                    some ((-7 : Int32), I, L)
              else
                some ((-8 : Int32), I, L)
            else
              some ((-6 : Int32), I, L)) else if x3 = 3 then (if I 87 3 = 0 then
            some ((-6 : Int32), I, L)
          else
            if ¬ I 87 3 = 0 then
              if I 87 1 = I 87 1 then
                (f_108_3 x2 x5 I L).bind fun q32 =>
                if q32 = 0 then
                  some ((-7 : Int32), I, L)
                else
                  (f_108_3 x4 x5 I L).bind fun q33 =>
                  if ¬ q33 = 0 then
                    if x2 < 0 ∨ x4 < 0 ∨ x5 < 0 ∨ 8 < pcat [] then none else if x2.toNatClampNeg + x5.toNatClampNeg ≤ 60 ∧ x4.toNatClampNeg + x5.toNatClampNeg ≤ 60 then some ((0 : Int32), I, (c2 L 88 88 x2.toNatClampNeg x4.toNatClampNeg x5.toNatClampNeg)) else none
                  else
                    some ((-7 : Int32), I, L)
              else
                some ((-8 : Int32), I, L)
            else
              some ((-6 : Int32), I, L)) else none) else none
    else
      some ((-2 : Int32), I, L)
set_option maxHeartbeats 1000000 in
set_option maxRecDepth 20000 in
theorem t_176 (Ls : Nat) (xs : Nat → Int32) (d : Nat) (kp : Option Nat) (tl : List (Nat × Nat)) (rl : List (List (Option Nat))) (nh : Option Nat) (rh : Option Nat) (x1 : Int32) (x2 : Int32) (x3 : Int32) (x4 : Int32) (x5 : Int32) (I : FI) (L : FL) (r : Int32 × FI × FL) (hf : f_176 x1 x2 x3 x4 x5 I L = some r) : pEN Ls xs (d + 2) 176 [.ref 0, .int x1, .int x2, .int x3, .int x4, .int x5] (hp kp nh rh tl rl I L) = some (some (.int r.1), hp kp nh rh tl rl r.2.1 r.2.2) := by
  refine en_run (d := d + 1) (cd := cd_176) (f := (sf 11 rs_11 false 8 (some (.int)) Ls xs (d + 1))) rfl rfl (x := (0, [some (.ref 0), some (.int x1), some (.int x2), some (.int x3), some (.int x4), some (.int x5), none, none], [], hp kp nh rh tl rl I L)) rfl rfl (Nat.le_of_ble_eq_true rfl) ?_
  unfold f_176 at hf
  refine bs_st 1 (x' := (1, [some (.ref 0), some (.int x1), some (.int x2), some (.int x3), some (.int x4), some (.int x5), none, none], [.int x1], hp kp nh rh tl rl I L)) rfl ?_
  obtain ⟨q0, hq0, hf⟩ := Option.bind_eq_some_iff.mp hf
  refine bs_call (o := pEN Ls xs (d + 1) 184 [.int x1] (hp kp nh rh tl rl I L)) (w := some (.int q0)) (h' := hp kp nh rh tl rl I L) (pc := 4) (lo := [some (.ref 0), some (.int x1), some (.int x2), some (.int x3), some (.int x4), some (.int x5), none, none]) (rest := []) rfl (t_184 Ls xs (d + 0) kp tl rl nh rh x1 I L q0 hq0) ?_
  refine bs_br (t := 14) (e := 7) (lo := [some (.ref 0), some (.int x1), some (.int x2), some (.int x3), some (.int x4), some (.int x5), none, none]) (st := []) (h := hp kp nh rh tl rl I L) rfl hf (fun hc hf => ?_) (fun hc hf => ?_)
  · refine bs_st 1 (x' := (16, [some (.ref 0), some (.int x1), some (.int x2), some (.int x3), some (.int x4), some (.int x5), none, none], [.int (-2 : Int32)], hp kp nh rh tl rl I L)) rfl ?_
    cases hf
    exact bs_ret rfl
  · refine bs_st 1 (x' := (8, [some (.ref 0), some (.int x1), some (.int x2), some (.int x3), some (.int x4), some (.int x5), none, none], [.int x3], hp kp nh rh tl rl I L)) rfl ?_
    obtain ⟨q1, hq1, hf⟩ := Option.bind_eq_some_iff.mp hf
    refine bs_call (o := pEN Ls xs (d + 1) 184 [.int x3] (hp kp nh rh tl rl I L)) (w := some (.int q1)) (h' := hp kp nh rh tl rl I L) (pc := 11) (lo := [some (.ref 0), some (.int x1), some (.int x2), some (.int x3), some (.int x4), some (.int x5), none, none]) (rest := []) rfl (t_184 Ls xs (d + 0) kp tl rl nh rh x3 I L q1 hq1) ?_
    refine bs_br (t := 17) (e := 14) (lo := [some (.ref 0), some (.int x1), some (.int x2), some (.int x3), some (.int x4), some (.int x5), none, none]) (st := []) (h := hp kp nh rh tl rl I L) rfl hf (fun hc hf => ?_) (fun hc hf => ?_)
    · refine bs_st 3 (x' := (22, [some (.ref 0), some (.int x1), some (.int x2), some (.int x3), some (.int x4), some (.int x5), none, none], [.int x1, .ref 44], hp kp nh rh tl rl I L)) rfl ?_
      refine bs_cs hf (fun hc hf5_0 => ?_) (fun hc hf5_0 => ?_)
      · subst hc
        refine bs_st 5 (x' := (30, [some (.ref 0), some (.int (0 : Int32)), some (.int x2), some (.int x3), some (.int x4), some (.int x5), some (.ref 81), none], [.int x3, .ref 44], hp kp nh rh tl rl I L)) rfl ?_
        refine bs_cs hf5_0 (fun hc hf1_0 => ?_) (fun hc hf1_0 => ?_)
        · subst hc
          refine bs_st 4 (x' := (38, [some (.ref 0), some (.int (0 : Int32)), some (.int x2), some (.int (0 : Int32)), some (.int x4), some (.int x5), some (.ref 81), some (.ref 81)], [.int (I 81 3)], hp kp nh rh tl rl I L)) rfl ?_
          refine bs_br (t := 49) (e := 41) (lo := [some (.ref 0), some (.int (0 : Int32)), some (.int x2), some (.int (0 : Int32)), some (.int x4), some (.int x5), some (.ref 81), some (.ref 81)]) (st := []) (h := hp kp nh rh tl rl I L) rfl hf1_0 (fun hc hf1_0 => ?_) (fun hc hf1_0 => ?_)
          · refine bs_st 1 (x' := (51, [some (.ref 0), some (.int (0 : Int32)), some (.int x2), some (.int (0 : Int32)), some (.int x4), some (.int x5), some (.ref 81), some (.ref 81)], [.int (-6 : Int32)], hp kp nh rh tl rl I L)) rfl ?_
            cases hf1_0
            exact bs_ret rfl
          · refine bs_st 2 (x' := (46, [some (.ref 0), some (.int (0 : Int32)), some (.int x2), some (.int (0 : Int32)), some (.int x4), some (.int x5), some (.ref 81), some (.ref 81)], [.int (I 81 3)], hp kp nh rh tl rl I L)) rfl ?_
            refine bs_br (t := 52) (e := 49) (lo := [some (.ref 0), some (.int (0 : Int32)), some (.int x2), some (.int (0 : Int32)), some (.int x4), some (.int x5), some (.ref 81), some (.ref 81)]) (st := []) (h := hp kp nh rh tl rl I L) rfl hf1_0 (fun hc hf1_0 => ?_) (fun hc hf1_0 => ?_)
            · refine bs_st 4 (x' := (62, [some (.ref 0), some (.int (0 : Int32)), some (.int x2), some (.int (0 : Int32)), some (.int x4), some (.int x5), some (.ref 81), some (.ref 81)], [.int (I 81 1), .int (I 81 1)], hp kp nh rh tl rl I L)) rfl ?_
              refine bs_br (t := 68) (e := 65) (lo := [some (.ref 0), some (.int (0 : Int32)), some (.int x2), some (.int (0 : Int32)), some (.int x4), some (.int x5), some (.ref 81), some (.ref 81)]) (st := []) (h := hp kp nh rh tl rl I L) rfl hf1_0 (fun hc hf1_0 => ?_) (fun hc hf1_0 => ?_)
              · refine bs_st 3 (x' := (73, [some (.ref 0), some (.int (0 : Int32)), some (.int x2), some (.int (0 : Int32)), some (.int x4), some (.int x5), some (.ref 81), some (.ref 81)], [.int x5, .int x2, .ref 81], hp kp nh rh tl rl I L)) rfl ?_
                obtain ⟨q2, hq2, hf1_0⟩ := Option.bind_eq_some_iff.mp hf1_0
                refine bs_call (o := pEN Ls xs (d + 1) 108 [.ref 81, .int x2, .int x5] (hp kp nh rh tl rl I L)) (w := some (.int q2)) (h' := hp kp nh rh tl rl I L) (pc := 76) (lo := [some (.ref 0), some (.int (0 : Int32)), some (.int x2), some (.int (0 : Int32)), some (.int x4), some (.int x5), some (.ref 81), some (.ref 81)]) (rest := []) rfl (t_108 Ls xs (d + 0) kp tl rl nh rh x2 x5 I L q2 hq2) ?_
                refine bs_br (t := 91) (e := 79) (lo := [some (.ref 0), some (.int (0 : Int32)), some (.int x2), some (.int (0 : Int32)), some (.int x4), some (.int x5), some (.ref 81), some (.ref 81)]) (st := []) (h := hp kp nh rh tl rl I L) rfl hf1_0 (fun hc hf1_0 => ?_) (fun hc hf1_0 => ?_)
                · refine bs_st 1 (x' := (93, [some (.ref 0), some (.int (0 : Int32)), some (.int x2), some (.int (0 : Int32)), some (.int x4), some (.int x5), some (.ref 81), some (.ref 81)], [.int (-7 : Int32)], hp kp nh rh tl rl I L)) rfl ?_
                  cases hf1_0
                  exact bs_ret rfl
                · refine bs_st 3 (x' := (85, [some (.ref 0), some (.int (0 : Int32)), some (.int x2), some (.int (0 : Int32)), some (.int x4), some (.int x5), some (.ref 81), some (.ref 81)], [.int x5, .int x4, .ref 81], hp kp nh rh tl rl I L)) rfl ?_
                  obtain ⟨q3, hq3, hf1_0⟩ := Option.bind_eq_some_iff.mp hf1_0
                  refine bs_call (o := pEN Ls xs (d + 1) 108 [.ref 81, .int x4, .int x5] (hp kp nh rh tl rl I L)) (w := some (.int q3)) (h' := hp kp nh rh tl rl I L) (pc := 88) (lo := [some (.ref 0), some (.int (0 : Int32)), some (.int x2), some (.int (0 : Int32)), some (.int x4), some (.int x5), some (.ref 81), some (.ref 81)]) (rest := []) rfl (t_108 Ls xs (d + 0) kp tl rl nh rh x4 x5 I L q3 hq3) ?_
                  refine bs_br (t := 94) (e := 91) (lo := [some (.ref 0), some (.int (0 : Int32)), some (.int x2), some (.int (0 : Int32)), some (.int x4), some (.int x5), some (.ref 81), some (.ref 81)]) (st := []) (h := hp kp nh rh tl rl I L) rfl hf1_0 (fun hc hf1_0 => ?_) (fun hc hf1_0 => ?_)
                  · refine bs_st 7 (x' := (109, [some (.ref 0), some (.int (0 : Int32)), some (.int x2), some (.int (0 : Int32)), some (.int x4), some (.int x5), some (.ref 81), some (.ref 81)], [.int x5, .int x4, .ref 82, .int x2, .ref 82], hp kp nh rh tl rl I L)) rfl ?_
                    refine bs_acp (x' := (112, [some (.ref 0), some (.int (0 : Int32)), some (.int x2), some (.int (0 : Int32)), some (.int x4), some (.int x5), some (.ref 81), some (.ref 81)], [], hp kp nh rh tl rl I (c2 L 82 82 x2.toNatClampNeg x4.toNatClampNeg x5.toNatClampNeg))) rfl hf1_0 (fun hc1 hc2 hf1_0 => ?_)
                    refine bs_st 1 (x' := (113, [some (.ref 0), some (.int (0 : Int32)), some (.int x2), some (.int (0 : Int32)), some (.int x4), some (.int x5), some (.ref 81), some (.ref 81)], [.int (0 : Int32)], hp kp nh rh tl rl I (c2 L 82 82 x2.toNatClampNeg x4.toNatClampNeg x5.toNatClampNeg))) rfl ?_
                    cases hf1_0
                    exact bs_ret rfl
                  · refine bs_st 1 (x' := (93, [some (.ref 0), some (.int (0 : Int32)), some (.int x2), some (.int (0 : Int32)), some (.int x4), some (.int x5), some (.ref 81), some (.ref 81)], [.int (-7 : Int32)], hp kp nh rh tl rl I L)) rfl ?_
                    cases hf1_0
                    exact bs_ret rfl
              · refine bs_st 1 (x' := (67, [some (.ref 0), some (.int (0 : Int32)), some (.int x2), some (.int (0 : Int32)), some (.int x4), some (.int x5), some (.ref 81), some (.ref 81)], [.int (-8 : Int32)], hp kp nh rh tl rl I L)) rfl ?_
                cases hf1_0
                exact bs_ret rfl
            · refine bs_st 1 (x' := (51, [some (.ref 0), some (.int (0 : Int32)), some (.int x2), some (.int (0 : Int32)), some (.int x4), some (.int x5), some (.ref 81), some (.ref 81)], [.int (-6 : Int32)], hp kp nh rh tl rl I L)) rfl ?_
              cases hf1_0
              exact bs_ret rfl
        refine bs_cs hf1_0 (fun hc hf1_1 => ?_) (fun hc hf1_1 => ?_)
        · subst hc
          refine bs_st 4 (x' := (38, [some (.ref 0), some (.int (0 : Int32)), some (.int x2), some (.int (1 : Int32)), some (.int x4), some (.int x5), some (.ref 81), some (.ref 83)], [.int (I 81 3)], hp kp nh rh tl rl I L)) rfl ?_
          refine bs_br (t := 49) (e := 41) (lo := [some (.ref 0), some (.int (0 : Int32)), some (.int x2), some (.int (1 : Int32)), some (.int x4), some (.int x5), some (.ref 81), some (.ref 83)]) (st := []) (h := hp kp nh rh tl rl I L) rfl hf1_1 (fun hc hf1_1 => ?_) (fun hc hf1_1 => ?_)
          · refine bs_st 1 (x' := (51, [some (.ref 0), some (.int (0 : Int32)), some (.int x2), some (.int (1 : Int32)), some (.int x4), some (.int x5), some (.ref 81), some (.ref 83)], [.int (-6 : Int32)], hp kp nh rh tl rl I L)) rfl ?_
            cases hf1_1
            exact bs_ret rfl
          · refine bs_st 2 (x' := (46, [some (.ref 0), some (.int (0 : Int32)), some (.int x2), some (.int (1 : Int32)), some (.int x4), some (.int x5), some (.ref 81), some (.ref 83)], [.int (I 83 3)], hp kp nh rh tl rl I L)) rfl ?_
            refine bs_br (t := 52) (e := 49) (lo := [some (.ref 0), some (.int (0 : Int32)), some (.int x2), some (.int (1 : Int32)), some (.int x4), some (.int x5), some (.ref 81), some (.ref 83)]) (st := []) (h := hp kp nh rh tl rl I L) rfl hf1_1 (fun hc hf1_1 => ?_) (fun hc hf1_1 => ?_)
            · refine bs_st 4 (x' := (62, [some (.ref 0), some (.int (0 : Int32)), some (.int x2), some (.int (1 : Int32)), some (.int x4), some (.int x5), some (.ref 81), some (.ref 83)], [.int (I 83 1), .int (I 81 1)], hp kp nh rh tl rl I L)) rfl ?_
              refine bs_br (t := 68) (e := 65) (lo := [some (.ref 0), some (.int (0 : Int32)), some (.int x2), some (.int (1 : Int32)), some (.int x4), some (.int x5), some (.ref 81), some (.ref 83)]) (st := []) (h := hp kp nh rh tl rl I L) rfl hf1_1 (fun hc hf1_1 => ?_) (fun hc hf1_1 => ?_)
              · refine bs_st 3 (x' := (73, [some (.ref 0), some (.int (0 : Int32)), some (.int x2), some (.int (1 : Int32)), some (.int x4), some (.int x5), some (.ref 81), some (.ref 83)], [.int x5, .int x2, .ref 81], hp kp nh rh tl rl I L)) rfl ?_
                obtain ⟨q4, hq4, hf1_1⟩ := Option.bind_eq_some_iff.mp hf1_1
                refine bs_call (o := pEN Ls xs (d + 1) 108 [.ref 81, .int x2, .int x5] (hp kp nh rh tl rl I L)) (w := some (.int q4)) (h' := hp kp nh rh tl rl I L) (pc := 76) (lo := [some (.ref 0), some (.int (0 : Int32)), some (.int x2), some (.int (1 : Int32)), some (.int x4), some (.int x5), some (.ref 81), some (.ref 83)]) (rest := []) rfl (t_108 Ls xs (d + 0) kp tl rl nh rh x2 x5 I L q4 hq4) ?_
                refine bs_br (t := 91) (e := 79) (lo := [some (.ref 0), some (.int (0 : Int32)), some (.int x2), some (.int (1 : Int32)), some (.int x4), some (.int x5), some (.ref 81), some (.ref 83)]) (st := []) (h := hp kp nh rh tl rl I L) rfl hf1_1 (fun hc hf1_1 => ?_) (fun hc hf1_1 => ?_)
                · refine bs_st 1 (x' := (93, [some (.ref 0), some (.int (0 : Int32)), some (.int x2), some (.int (1 : Int32)), some (.int x4), some (.int x5), some (.ref 81), some (.ref 83)], [.int (-7 : Int32)], hp kp nh rh tl rl I L)) rfl ?_
                  cases hf1_1
                  exact bs_ret rfl
                · refine bs_st 3 (x' := (85, [some (.ref 0), some (.int (0 : Int32)), some (.int x2), some (.int (1 : Int32)), some (.int x4), some (.int x5), some (.ref 81), some (.ref 83)], [.int x5, .int x4, .ref 83], hp kp nh rh tl rl I L)) rfl ?_
                  obtain ⟨q5, hq5, hf1_1⟩ := Option.bind_eq_some_iff.mp hf1_1
                  refine bs_call (o := pEN Ls xs (d + 1) 108 [.ref 83, .int x4, .int x5] (hp kp nh rh tl rl I L)) (w := some (.int q5)) (h' := hp kp nh rh tl rl I L) (pc := 88) (lo := [some (.ref 0), some (.int (0 : Int32)), some (.int x2), some (.int (1 : Int32)), some (.int x4), some (.int x5), some (.ref 81), some (.ref 83)]) (rest := []) rfl (t_108_1 Ls xs (d + 0) kp tl rl nh rh x4 x5 I L q5 hq5) ?_
                  refine bs_br (t := 94) (e := 91) (lo := [some (.ref 0), some (.int (0 : Int32)), some (.int x2), some (.int (1 : Int32)), some (.int x4), some (.int x5), some (.ref 81), some (.ref 83)]) (st := []) (h := hp kp nh rh tl rl I L) rfl hf1_1 (fun hc hf1_1 => ?_) (fun hc hf1_1 => ?_)
                  · refine bs_st 7 (x' := (109, [some (.ref 0), some (.int (0 : Int32)), some (.int x2), some (.int (1 : Int32)), some (.int x4), some (.int x5), some (.ref 81), some (.ref 83)], [.int x5, .int x4, .ref 84, .int x2, .ref 82], hp kp nh rh tl rl I L)) rfl ?_
                    refine bs_acp (x' := (112, [some (.ref 0), some (.int (0 : Int32)), some (.int x2), some (.int (1 : Int32)), some (.int x4), some (.int x5), some (.ref 81), some (.ref 83)], [], hp kp nh rh tl rl I (c2 L 82 84 x2.toNatClampNeg x4.toNatClampNeg x5.toNatClampNeg))) rfl hf1_1 (fun hc1 hc2 hf1_1 => ?_)
                    refine bs_st 1 (x' := (113, [some (.ref 0), some (.int (0 : Int32)), some (.int x2), some (.int (1 : Int32)), some (.int x4), some (.int x5), some (.ref 81), some (.ref 83)], [.int (0 : Int32)], hp kp nh rh tl rl I (c2 L 82 84 x2.toNatClampNeg x4.toNatClampNeg x5.toNatClampNeg))) rfl ?_
                    cases hf1_1
                    exact bs_ret rfl
                  · refine bs_st 1 (x' := (93, [some (.ref 0), some (.int (0 : Int32)), some (.int x2), some (.int (1 : Int32)), some (.int x4), some (.int x5), some (.ref 81), some (.ref 83)], [.int (-7 : Int32)], hp kp nh rh tl rl I L)) rfl ?_
                    cases hf1_1
                    exact bs_ret rfl
              · refine bs_st 1 (x' := (67, [some (.ref 0), some (.int (0 : Int32)), some (.int x2), some (.int (1 : Int32)), some (.int x4), some (.int x5), some (.ref 81), some (.ref 83)], [.int (-8 : Int32)], hp kp nh rh tl rl I L)) rfl ?_
                cases hf1_1
                exact bs_ret rfl
            · refine bs_st 1 (x' := (51, [some (.ref 0), some (.int (0 : Int32)), some (.int x2), some (.int (1 : Int32)), some (.int x4), some (.int x5), some (.ref 81), some (.ref 83)], [.int (-6 : Int32)], hp kp nh rh tl rl I L)) rfl ?_
              cases hf1_1
              exact bs_ret rfl
        refine bs_cs hf1_1 (fun hc hf1_2 => ?_) (fun hc hf1_2 => ?_)
        · subst hc
          refine bs_st 4 (x' := (38, [some (.ref 0), some (.int (0 : Int32)), some (.int x2), some (.int (2 : Int32)), some (.int x4), some (.int x5), some (.ref 81), some (.ref 85)], [.int (I 81 3)], hp kp nh rh tl rl I L)) rfl ?_
          refine bs_br (t := 49) (e := 41) (lo := [some (.ref 0), some (.int (0 : Int32)), some (.int x2), some (.int (2 : Int32)), some (.int x4), some (.int x5), some (.ref 81), some (.ref 85)]) (st := []) (h := hp kp nh rh tl rl I L) rfl hf1_2 (fun hc hf1_2 => ?_) (fun hc hf1_2 => ?_)
          · refine bs_st 1 (x' := (51, [some (.ref 0), some (.int (0 : Int32)), some (.int x2), some (.int (2 : Int32)), some (.int x4), some (.int x5), some (.ref 81), some (.ref 85)], [.int (-6 : Int32)], hp kp nh rh tl rl I L)) rfl ?_
            cases hf1_2
            exact bs_ret rfl
          · refine bs_st 2 (x' := (46, [some (.ref 0), some (.int (0 : Int32)), some (.int x2), some (.int (2 : Int32)), some (.int x4), some (.int x5), some (.ref 81), some (.ref 85)], [.int (I 85 3)], hp kp nh rh tl rl I L)) rfl ?_
            refine bs_br (t := 52) (e := 49) (lo := [some (.ref 0), some (.int (0 : Int32)), some (.int x2), some (.int (2 : Int32)), some (.int x4), some (.int x5), some (.ref 81), some (.ref 85)]) (st := []) (h := hp kp nh rh tl rl I L) rfl hf1_2 (fun hc hf1_2 => ?_) (fun hc hf1_2 => ?_)
            · refine bs_st 4 (x' := (62, [some (.ref 0), some (.int (0 : Int32)), some (.int x2), some (.int (2 : Int32)), some (.int x4), some (.int x5), some (.ref 81), some (.ref 85)], [.int (I 85 1), .int (I 81 1)], hp kp nh rh tl rl I L)) rfl ?_
              refine bs_br (t := 68) (e := 65) (lo := [some (.ref 0), some (.int (0 : Int32)), some (.int x2), some (.int (2 : Int32)), some (.int x4), some (.int x5), some (.ref 81), some (.ref 85)]) (st := []) (h := hp kp nh rh tl rl I L) rfl hf1_2 (fun hc hf1_2 => ?_) (fun hc hf1_2 => ?_)
              · refine bs_st 3 (x' := (73, [some (.ref 0), some (.int (0 : Int32)), some (.int x2), some (.int (2 : Int32)), some (.int x4), some (.int x5), some (.ref 81), some (.ref 85)], [.int x5, .int x2, .ref 81], hp kp nh rh tl rl I L)) rfl ?_
                obtain ⟨q6, hq6, hf1_2⟩ := Option.bind_eq_some_iff.mp hf1_2
                refine bs_call (o := pEN Ls xs (d + 1) 108 [.ref 81, .int x2, .int x5] (hp kp nh rh tl rl I L)) (w := some (.int q6)) (h' := hp kp nh rh tl rl I L) (pc := 76) (lo := [some (.ref 0), some (.int (0 : Int32)), some (.int x2), some (.int (2 : Int32)), some (.int x4), some (.int x5), some (.ref 81), some (.ref 85)]) (rest := []) rfl (t_108 Ls xs (d + 0) kp tl rl nh rh x2 x5 I L q6 hq6) ?_
                refine bs_br (t := 91) (e := 79) (lo := [some (.ref 0), some (.int (0 : Int32)), some (.int x2), some (.int (2 : Int32)), some (.int x4), some (.int x5), some (.ref 81), some (.ref 85)]) (st := []) (h := hp kp nh rh tl rl I L) rfl hf1_2 (fun hc hf1_2 => ?_) (fun hc hf1_2 => ?_)
                · refine bs_st 1 (x' := (93, [some (.ref 0), some (.int (0 : Int32)), some (.int x2), some (.int (2 : Int32)), some (.int x4), some (.int x5), some (.ref 81), some (.ref 85)], [.int (-7 : Int32)], hp kp nh rh tl rl I L)) rfl ?_
                  cases hf1_2
                  exact bs_ret rfl
                · refine bs_st 3 (x' := (85, [some (.ref 0), some (.int (0 : Int32)), some (.int x2), some (.int (2 : Int32)), some (.int x4), some (.int x5), some (.ref 81), some (.ref 85)], [.int x5, .int x4, .ref 85], hp kp nh rh tl rl I L)) rfl ?_
                  obtain ⟨q7, hq7, hf1_2⟩ := Option.bind_eq_some_iff.mp hf1_2
                  refine bs_call (o := pEN Ls xs (d + 1) 108 [.ref 85, .int x4, .int x5] (hp kp nh rh tl rl I L)) (w := some (.int q7)) (h' := hp kp nh rh tl rl I L) (pc := 88) (lo := [some (.ref 0), some (.int (0 : Int32)), some (.int x2), some (.int (2 : Int32)), some (.int x4), some (.int x5), some (.ref 81), some (.ref 85)]) (rest := []) rfl (t_108_2 Ls xs (d + 0) kp tl rl nh rh x4 x5 I L q7 hq7) ?_
                  refine bs_br (t := 94) (e := 91) (lo := [some (.ref 0), some (.int (0 : Int32)), some (.int x2), some (.int (2 : Int32)), some (.int x4), some (.int x5), some (.ref 81), some (.ref 85)]) (st := []) (h := hp kp nh rh tl rl I L) rfl hf1_2 (fun hc hf1_2 => ?_) (fun hc hf1_2 => ?_)
                  · refine bs_st 7 (x' := (109, [some (.ref 0), some (.int (0 : Int32)), some (.int x2), some (.int (2 : Int32)), some (.int x4), some (.int x5), some (.ref 81), some (.ref 85)], [.int x5, .int x4, .ref 86, .int x2, .ref 82], hp kp nh rh tl rl I L)) rfl ?_
                    refine bs_acp (x' := (112, [some (.ref 0), some (.int (0 : Int32)), some (.int x2), some (.int (2 : Int32)), some (.int x4), some (.int x5), some (.ref 81), some (.ref 85)], [], hp kp nh rh tl rl I (c2 L 82 86 x2.toNatClampNeg x4.toNatClampNeg x5.toNatClampNeg))) rfl hf1_2 (fun hc1 hc2 hf1_2 => ?_)
                    refine bs_st 1 (x' := (113, [some (.ref 0), some (.int (0 : Int32)), some (.int x2), some (.int (2 : Int32)), some (.int x4), some (.int x5), some (.ref 81), some (.ref 85)], [.int (0 : Int32)], hp kp nh rh tl rl I (c2 L 82 86 x2.toNatClampNeg x4.toNatClampNeg x5.toNatClampNeg))) rfl ?_
                    cases hf1_2
                    exact bs_ret rfl
                  · refine bs_st 1 (x' := (93, [some (.ref 0), some (.int (0 : Int32)), some (.int x2), some (.int (2 : Int32)), some (.int x4), some (.int x5), some (.ref 81), some (.ref 85)], [.int (-7 : Int32)], hp kp nh rh tl rl I L)) rfl ?_
                    cases hf1_2
                    exact bs_ret rfl
              · refine bs_st 1 (x' := (67, [some (.ref 0), some (.int (0 : Int32)), some (.int x2), some (.int (2 : Int32)), some (.int x4), some (.int x5), some (.ref 81), some (.ref 85)], [.int (-8 : Int32)], hp kp nh rh tl rl I L)) rfl ?_
                cases hf1_2
                exact bs_ret rfl
            · refine bs_st 1 (x' := (51, [some (.ref 0), some (.int (0 : Int32)), some (.int x2), some (.int (2 : Int32)), some (.int x4), some (.int x5), some (.ref 81), some (.ref 85)], [.int (-6 : Int32)], hp kp nh rh tl rl I L)) rfl ?_
              cases hf1_2
              exact bs_ret rfl
        refine bs_cs hf1_2 (fun hc hf1_3 => ?_) (fun hc hf1_3 => ?_)
        · subst hc
          refine bs_st 4 (x' := (38, [some (.ref 0), some (.int (0 : Int32)), some (.int x2), some (.int (3 : Int32)), some (.int x4), some (.int x5), some (.ref 81), some (.ref 87)], [.int (I 81 3)], hp kp nh rh tl rl I L)) rfl ?_
          refine bs_br (t := 49) (e := 41) (lo := [some (.ref 0), some (.int (0 : Int32)), some (.int x2), some (.int (3 : Int32)), some (.int x4), some (.int x5), some (.ref 81), some (.ref 87)]) (st := []) (h := hp kp nh rh tl rl I L) rfl hf1_3 (fun hc hf1_3 => ?_) (fun hc hf1_3 => ?_)
          · refine bs_st 1 (x' := (51, [some (.ref 0), some (.int (0 : Int32)), some (.int x2), some (.int (3 : Int32)), some (.int x4), some (.int x5), some (.ref 81), some (.ref 87)], [.int (-6 : Int32)], hp kp nh rh tl rl I L)) rfl ?_
            cases hf1_3
            exact bs_ret rfl
          · refine bs_st 2 (x' := (46, [some (.ref 0), some (.int (0 : Int32)), some (.int x2), some (.int (3 : Int32)), some (.int x4), some (.int x5), some (.ref 81), some (.ref 87)], [.int (I 87 3)], hp kp nh rh tl rl I L)) rfl ?_
            refine bs_br (t := 52) (e := 49) (lo := [some (.ref 0), some (.int (0 : Int32)), some (.int x2), some (.int (3 : Int32)), some (.int x4), some (.int x5), some (.ref 81), some (.ref 87)]) (st := []) (h := hp kp nh rh tl rl I L) rfl hf1_3 (fun hc hf1_3 => ?_) (fun hc hf1_3 => ?_)
            · refine bs_st 4 (x' := (62, [some (.ref 0), some (.int (0 : Int32)), some (.int x2), some (.int (3 : Int32)), some (.int x4), some (.int x5), some (.ref 81), some (.ref 87)], [.int (I 87 1), .int (I 81 1)], hp kp nh rh tl rl I L)) rfl ?_
              refine bs_br (t := 68) (e := 65) (lo := [some (.ref 0), some (.int (0 : Int32)), some (.int x2), some (.int (3 : Int32)), some (.int x4), some (.int x5), some (.ref 81), some (.ref 87)]) (st := []) (h := hp kp nh rh tl rl I L) rfl hf1_3 (fun hc hf1_3 => ?_) (fun hc hf1_3 => ?_)
              · refine bs_st 3 (x' := (73, [some (.ref 0), some (.int (0 : Int32)), some (.int x2), some (.int (3 : Int32)), some (.int x4), some (.int x5), some (.ref 81), some (.ref 87)], [.int x5, .int x2, .ref 81], hp kp nh rh tl rl I L)) rfl ?_
                obtain ⟨q8, hq8, hf1_3⟩ := Option.bind_eq_some_iff.mp hf1_3
                refine bs_call (o := pEN Ls xs (d + 1) 108 [.ref 81, .int x2, .int x5] (hp kp nh rh tl rl I L)) (w := some (.int q8)) (h' := hp kp nh rh tl rl I L) (pc := 76) (lo := [some (.ref 0), some (.int (0 : Int32)), some (.int x2), some (.int (3 : Int32)), some (.int x4), some (.int x5), some (.ref 81), some (.ref 87)]) (rest := []) rfl (t_108 Ls xs (d + 0) kp tl rl nh rh x2 x5 I L q8 hq8) ?_
                refine bs_br (t := 91) (e := 79) (lo := [some (.ref 0), some (.int (0 : Int32)), some (.int x2), some (.int (3 : Int32)), some (.int x4), some (.int x5), some (.ref 81), some (.ref 87)]) (st := []) (h := hp kp nh rh tl rl I L) rfl hf1_3 (fun hc hf1_3 => ?_) (fun hc hf1_3 => ?_)
                · refine bs_st 1 (x' := (93, [some (.ref 0), some (.int (0 : Int32)), some (.int x2), some (.int (3 : Int32)), some (.int x4), some (.int x5), some (.ref 81), some (.ref 87)], [.int (-7 : Int32)], hp kp nh rh tl rl I L)) rfl ?_
                  cases hf1_3
                  exact bs_ret rfl
                · refine bs_st 3 (x' := (85, [some (.ref 0), some (.int (0 : Int32)), some (.int x2), some (.int (3 : Int32)), some (.int x4), some (.int x5), some (.ref 81), some (.ref 87)], [.int x5, .int x4, .ref 87], hp kp nh rh tl rl I L)) rfl ?_
                  obtain ⟨q9, hq9, hf1_3⟩ := Option.bind_eq_some_iff.mp hf1_3
                  refine bs_call (o := pEN Ls xs (d + 1) 108 [.ref 87, .int x4, .int x5] (hp kp nh rh tl rl I L)) (w := some (.int q9)) (h' := hp kp nh rh tl rl I L) (pc := 88) (lo := [some (.ref 0), some (.int (0 : Int32)), some (.int x2), some (.int (3 : Int32)), some (.int x4), some (.int x5), some (.ref 81), some (.ref 87)]) (rest := []) rfl (t_108_3 Ls xs (d + 0) kp tl rl nh rh x4 x5 I L q9 hq9) ?_
                  refine bs_br (t := 94) (e := 91) (lo := [some (.ref 0), some (.int (0 : Int32)), some (.int x2), some (.int (3 : Int32)), some (.int x4), some (.int x5), some (.ref 81), some (.ref 87)]) (st := []) (h := hp kp nh rh tl rl I L) rfl hf1_3 (fun hc hf1_3 => ?_) (fun hc hf1_3 => ?_)
                  · refine bs_st 7 (x' := (109, [some (.ref 0), some (.int (0 : Int32)), some (.int x2), some (.int (3 : Int32)), some (.int x4), some (.int x5), some (.ref 81), some (.ref 87)], [.int x5, .int x4, .ref 88, .int x2, .ref 82], hp kp nh rh tl rl I L)) rfl ?_
                    refine bs_acp (x' := (112, [some (.ref 0), some (.int (0 : Int32)), some (.int x2), some (.int (3 : Int32)), some (.int x4), some (.int x5), some (.ref 81), some (.ref 87)], [], hp kp nh rh tl rl I (c2 L 82 88 x2.toNatClampNeg x4.toNatClampNeg x5.toNatClampNeg))) rfl hf1_3 (fun hc1 hc2 hf1_3 => ?_)
                    refine bs_st 1 (x' := (113, [some (.ref 0), some (.int (0 : Int32)), some (.int x2), some (.int (3 : Int32)), some (.int x4), some (.int x5), some (.ref 81), some (.ref 87)], [.int (0 : Int32)], hp kp nh rh tl rl I (c2 L 82 88 x2.toNatClampNeg x4.toNatClampNeg x5.toNatClampNeg))) rfl ?_
                    cases hf1_3
                    exact bs_ret rfl
                  · refine bs_st 1 (x' := (93, [some (.ref 0), some (.int (0 : Int32)), some (.int x2), some (.int (3 : Int32)), some (.int x4), some (.int x5), some (.ref 81), some (.ref 87)], [.int (-7 : Int32)], hp kp nh rh tl rl I L)) rfl ?_
                    cases hf1_3
                    exact bs_ret rfl
              · refine bs_st 1 (x' := (67, [some (.ref 0), some (.int (0 : Int32)), some (.int x2), some (.int (3 : Int32)), some (.int x4), some (.int x5), some (.ref 81), some (.ref 87)], [.int (-8 : Int32)], hp kp nh rh tl rl I L)) rfl ?_
                cases hf1_3
                exact bs_ret rfl
            · refine bs_st 1 (x' := (51, [some (.ref 0), some (.int (0 : Int32)), some (.int x2), some (.int (3 : Int32)), some (.int x4), some (.int x5), some (.ref 81), some (.ref 87)], [.int (-6 : Int32)], hp kp nh rh tl rl I L)) rfl ?_
              cases hf1_3
              exact bs_ret rfl
        cases hf1_3
      refine bs_cs hf5_0 (fun hc hf5_1 => ?_) (fun hc hf5_1 => ?_)
      · subst hc
        refine bs_st 5 (x' := (30, [some (.ref 0), some (.int (1 : Int32)), some (.int x2), some (.int x3), some (.int x4), some (.int x5), some (.ref 83), none], [.int x3, .ref 44], hp kp nh rh tl rl I L)) rfl ?_
        refine bs_cs hf5_1 (fun hc hf2_0 => ?_) (fun hc hf2_0 => ?_)
        · subst hc
          refine bs_st 4 (x' := (38, [some (.ref 0), some (.int (1 : Int32)), some (.int x2), some (.int (0 : Int32)), some (.int x4), some (.int x5), some (.ref 83), some (.ref 81)], [.int (I 83 3)], hp kp nh rh tl rl I L)) rfl ?_
          refine bs_br (t := 49) (e := 41) (lo := [some (.ref 0), some (.int (1 : Int32)), some (.int x2), some (.int (0 : Int32)), some (.int x4), some (.int x5), some (.ref 83), some (.ref 81)]) (st := []) (h := hp kp nh rh tl rl I L) rfl hf2_0 (fun hc hf2_0 => ?_) (fun hc hf2_0 => ?_)
          · refine bs_st 1 (x' := (51, [some (.ref 0), some (.int (1 : Int32)), some (.int x2), some (.int (0 : Int32)), some (.int x4), some (.int x5), some (.ref 83), some (.ref 81)], [.int (-6 : Int32)], hp kp nh rh tl rl I L)) rfl ?_
            cases hf2_0
            exact bs_ret rfl
          · refine bs_st 2 (x' := (46, [some (.ref 0), some (.int (1 : Int32)), some (.int x2), some (.int (0 : Int32)), some (.int x4), some (.int x5), some (.ref 83), some (.ref 81)], [.int (I 81 3)], hp kp nh rh tl rl I L)) rfl ?_
            refine bs_br (t := 52) (e := 49) (lo := [some (.ref 0), some (.int (1 : Int32)), some (.int x2), some (.int (0 : Int32)), some (.int x4), some (.int x5), some (.ref 83), some (.ref 81)]) (st := []) (h := hp kp nh rh tl rl I L) rfl hf2_0 (fun hc hf2_0 => ?_) (fun hc hf2_0 => ?_)
            · refine bs_st 4 (x' := (62, [some (.ref 0), some (.int (1 : Int32)), some (.int x2), some (.int (0 : Int32)), some (.int x4), some (.int x5), some (.ref 83), some (.ref 81)], [.int (I 81 1), .int (I 83 1)], hp kp nh rh tl rl I L)) rfl ?_
              refine bs_br (t := 68) (e := 65) (lo := [some (.ref 0), some (.int (1 : Int32)), some (.int x2), some (.int (0 : Int32)), some (.int x4), some (.int x5), some (.ref 83), some (.ref 81)]) (st := []) (h := hp kp nh rh tl rl I L) rfl hf2_0 (fun hc hf2_0 => ?_) (fun hc hf2_0 => ?_)
              · refine bs_st 3 (x' := (73, [some (.ref 0), some (.int (1 : Int32)), some (.int x2), some (.int (0 : Int32)), some (.int x4), some (.int x5), some (.ref 83), some (.ref 81)], [.int x5, .int x2, .ref 83], hp kp nh rh tl rl I L)) rfl ?_
                obtain ⟨q10, hq10, hf2_0⟩ := Option.bind_eq_some_iff.mp hf2_0
                refine bs_call (o := pEN Ls xs (d + 1) 108 [.ref 83, .int x2, .int x5] (hp kp nh rh tl rl I L)) (w := some (.int q10)) (h' := hp kp nh rh tl rl I L) (pc := 76) (lo := [some (.ref 0), some (.int (1 : Int32)), some (.int x2), some (.int (0 : Int32)), some (.int x4), some (.int x5), some (.ref 83), some (.ref 81)]) (rest := []) rfl (t_108_1 Ls xs (d + 0) kp tl rl nh rh x2 x5 I L q10 hq10) ?_
                refine bs_br (t := 91) (e := 79) (lo := [some (.ref 0), some (.int (1 : Int32)), some (.int x2), some (.int (0 : Int32)), some (.int x4), some (.int x5), some (.ref 83), some (.ref 81)]) (st := []) (h := hp kp nh rh tl rl I L) rfl hf2_0 (fun hc hf2_0 => ?_) (fun hc hf2_0 => ?_)
                · refine bs_st 1 (x' := (93, [some (.ref 0), some (.int (1 : Int32)), some (.int x2), some (.int (0 : Int32)), some (.int x4), some (.int x5), some (.ref 83), some (.ref 81)], [.int (-7 : Int32)], hp kp nh rh tl rl I L)) rfl ?_
                  cases hf2_0
                  exact bs_ret rfl
                · refine bs_st 3 (x' := (85, [some (.ref 0), some (.int (1 : Int32)), some (.int x2), some (.int (0 : Int32)), some (.int x4), some (.int x5), some (.ref 83), some (.ref 81)], [.int x5, .int x4, .ref 81], hp kp nh rh tl rl I L)) rfl ?_
                  obtain ⟨q11, hq11, hf2_0⟩ := Option.bind_eq_some_iff.mp hf2_0
                  refine bs_call (o := pEN Ls xs (d + 1) 108 [.ref 81, .int x4, .int x5] (hp kp nh rh tl rl I L)) (w := some (.int q11)) (h' := hp kp nh rh tl rl I L) (pc := 88) (lo := [some (.ref 0), some (.int (1 : Int32)), some (.int x2), some (.int (0 : Int32)), some (.int x4), some (.int x5), some (.ref 83), some (.ref 81)]) (rest := []) rfl (t_108 Ls xs (d + 0) kp tl rl nh rh x4 x5 I L q11 hq11) ?_
                  refine bs_br (t := 94) (e := 91) (lo := [some (.ref 0), some (.int (1 : Int32)), some (.int x2), some (.int (0 : Int32)), some (.int x4), some (.int x5), some (.ref 83), some (.ref 81)]) (st := []) (h := hp kp nh rh tl rl I L) rfl hf2_0 (fun hc hf2_0 => ?_) (fun hc hf2_0 => ?_)
                  · refine bs_st 7 (x' := (109, [some (.ref 0), some (.int (1 : Int32)), some (.int x2), some (.int (0 : Int32)), some (.int x4), some (.int x5), some (.ref 83), some (.ref 81)], [.int x5, .int x4, .ref 82, .int x2, .ref 84], hp kp nh rh tl rl I L)) rfl ?_
                    refine bs_acp (x' := (112, [some (.ref 0), some (.int (1 : Int32)), some (.int x2), some (.int (0 : Int32)), some (.int x4), some (.int x5), some (.ref 83), some (.ref 81)], [], hp kp nh rh tl rl I (c2 L 84 82 x2.toNatClampNeg x4.toNatClampNeg x5.toNatClampNeg))) rfl hf2_0 (fun hc1 hc2 hf2_0 => ?_)
                    refine bs_st 1 (x' := (113, [some (.ref 0), some (.int (1 : Int32)), some (.int x2), some (.int (0 : Int32)), some (.int x4), some (.int x5), some (.ref 83), some (.ref 81)], [.int (0 : Int32)], hp kp nh rh tl rl I (c2 L 84 82 x2.toNatClampNeg x4.toNatClampNeg x5.toNatClampNeg))) rfl ?_
                    cases hf2_0
                    exact bs_ret rfl
                  · refine bs_st 1 (x' := (93, [some (.ref 0), some (.int (1 : Int32)), some (.int x2), some (.int (0 : Int32)), some (.int x4), some (.int x5), some (.ref 83), some (.ref 81)], [.int (-7 : Int32)], hp kp nh rh tl rl I L)) rfl ?_
                    cases hf2_0
                    exact bs_ret rfl
              · refine bs_st 1 (x' := (67, [some (.ref 0), some (.int (1 : Int32)), some (.int x2), some (.int (0 : Int32)), some (.int x4), some (.int x5), some (.ref 83), some (.ref 81)], [.int (-8 : Int32)], hp kp nh rh tl rl I L)) rfl ?_
                cases hf2_0
                exact bs_ret rfl
            · refine bs_st 1 (x' := (51, [some (.ref 0), some (.int (1 : Int32)), some (.int x2), some (.int (0 : Int32)), some (.int x4), some (.int x5), some (.ref 83), some (.ref 81)], [.int (-6 : Int32)], hp kp nh rh tl rl I L)) rfl ?_
              cases hf2_0
              exact bs_ret rfl
        refine bs_cs hf2_0 (fun hc hf2_1 => ?_) (fun hc hf2_1 => ?_)
        · subst hc
          refine bs_st 4 (x' := (38, [some (.ref 0), some (.int (1 : Int32)), some (.int x2), some (.int (1 : Int32)), some (.int x4), some (.int x5), some (.ref 83), some (.ref 83)], [.int (I 83 3)], hp kp nh rh tl rl I L)) rfl ?_
          refine bs_br (t := 49) (e := 41) (lo := [some (.ref 0), some (.int (1 : Int32)), some (.int x2), some (.int (1 : Int32)), some (.int x4), some (.int x5), some (.ref 83), some (.ref 83)]) (st := []) (h := hp kp nh rh tl rl I L) rfl hf2_1 (fun hc hf2_1 => ?_) (fun hc hf2_1 => ?_)
          · refine bs_st 1 (x' := (51, [some (.ref 0), some (.int (1 : Int32)), some (.int x2), some (.int (1 : Int32)), some (.int x4), some (.int x5), some (.ref 83), some (.ref 83)], [.int (-6 : Int32)], hp kp nh rh tl rl I L)) rfl ?_
            cases hf2_1
            exact bs_ret rfl
          · refine bs_st 2 (x' := (46, [some (.ref 0), some (.int (1 : Int32)), some (.int x2), some (.int (1 : Int32)), some (.int x4), some (.int x5), some (.ref 83), some (.ref 83)], [.int (I 83 3)], hp kp nh rh tl rl I L)) rfl ?_
            refine bs_br (t := 52) (e := 49) (lo := [some (.ref 0), some (.int (1 : Int32)), some (.int x2), some (.int (1 : Int32)), some (.int x4), some (.int x5), some (.ref 83), some (.ref 83)]) (st := []) (h := hp kp nh rh tl rl I L) rfl hf2_1 (fun hc hf2_1 => ?_) (fun hc hf2_1 => ?_)
            · refine bs_st 4 (x' := (62, [some (.ref 0), some (.int (1 : Int32)), some (.int x2), some (.int (1 : Int32)), some (.int x4), some (.int x5), some (.ref 83), some (.ref 83)], [.int (I 83 1), .int (I 83 1)], hp kp nh rh tl rl I L)) rfl ?_
              refine bs_br (t := 68) (e := 65) (lo := [some (.ref 0), some (.int (1 : Int32)), some (.int x2), some (.int (1 : Int32)), some (.int x4), some (.int x5), some (.ref 83), some (.ref 83)]) (st := []) (h := hp kp nh rh tl rl I L) rfl hf2_1 (fun hc hf2_1 => ?_) (fun hc hf2_1 => ?_)
              · refine bs_st 3 (x' := (73, [some (.ref 0), some (.int (1 : Int32)), some (.int x2), some (.int (1 : Int32)), some (.int x4), some (.int x5), some (.ref 83), some (.ref 83)], [.int x5, .int x2, .ref 83], hp kp nh rh tl rl I L)) rfl ?_
                obtain ⟨q12, hq12, hf2_1⟩ := Option.bind_eq_some_iff.mp hf2_1
                refine bs_call (o := pEN Ls xs (d + 1) 108 [.ref 83, .int x2, .int x5] (hp kp nh rh tl rl I L)) (w := some (.int q12)) (h' := hp kp nh rh tl rl I L) (pc := 76) (lo := [some (.ref 0), some (.int (1 : Int32)), some (.int x2), some (.int (1 : Int32)), some (.int x4), some (.int x5), some (.ref 83), some (.ref 83)]) (rest := []) rfl (t_108_1 Ls xs (d + 0) kp tl rl nh rh x2 x5 I L q12 hq12) ?_
                refine bs_br (t := 91) (e := 79) (lo := [some (.ref 0), some (.int (1 : Int32)), some (.int x2), some (.int (1 : Int32)), some (.int x4), some (.int x5), some (.ref 83), some (.ref 83)]) (st := []) (h := hp kp nh rh tl rl I L) rfl hf2_1 (fun hc hf2_1 => ?_) (fun hc hf2_1 => ?_)
                · refine bs_st 1 (x' := (93, [some (.ref 0), some (.int (1 : Int32)), some (.int x2), some (.int (1 : Int32)), some (.int x4), some (.int x5), some (.ref 83), some (.ref 83)], [.int (-7 : Int32)], hp kp nh rh tl rl I L)) rfl ?_
                  cases hf2_1
                  exact bs_ret rfl
                · refine bs_st 3 (x' := (85, [some (.ref 0), some (.int (1 : Int32)), some (.int x2), some (.int (1 : Int32)), some (.int x4), some (.int x5), some (.ref 83), some (.ref 83)], [.int x5, .int x4, .ref 83], hp kp nh rh tl rl I L)) rfl ?_
                  obtain ⟨q13, hq13, hf2_1⟩ := Option.bind_eq_some_iff.mp hf2_1
                  refine bs_call (o := pEN Ls xs (d + 1) 108 [.ref 83, .int x4, .int x5] (hp kp nh rh tl rl I L)) (w := some (.int q13)) (h' := hp kp nh rh tl rl I L) (pc := 88) (lo := [some (.ref 0), some (.int (1 : Int32)), some (.int x2), some (.int (1 : Int32)), some (.int x4), some (.int x5), some (.ref 83), some (.ref 83)]) (rest := []) rfl (t_108_1 Ls xs (d + 0) kp tl rl nh rh x4 x5 I L q13 hq13) ?_
                  refine bs_br (t := 94) (e := 91) (lo := [some (.ref 0), some (.int (1 : Int32)), some (.int x2), some (.int (1 : Int32)), some (.int x4), some (.int x5), some (.ref 83), some (.ref 83)]) (st := []) (h := hp kp nh rh tl rl I L) rfl hf2_1 (fun hc hf2_1 => ?_) (fun hc hf2_1 => ?_)
                  · refine bs_st 7 (x' := (109, [some (.ref 0), some (.int (1 : Int32)), some (.int x2), some (.int (1 : Int32)), some (.int x4), some (.int x5), some (.ref 83), some (.ref 83)], [.int x5, .int x4, .ref 84, .int x2, .ref 84], hp kp nh rh tl rl I L)) rfl ?_
                    refine bs_acp (x' := (112, [some (.ref 0), some (.int (1 : Int32)), some (.int x2), some (.int (1 : Int32)), some (.int x4), some (.int x5), some (.ref 83), some (.ref 83)], [], hp kp nh rh tl rl I (c2 L 84 84 x2.toNatClampNeg x4.toNatClampNeg x5.toNatClampNeg))) rfl hf2_1 (fun hc1 hc2 hf2_1 => ?_)
                    refine bs_st 1 (x' := (113, [some (.ref 0), some (.int (1 : Int32)), some (.int x2), some (.int (1 : Int32)), some (.int x4), some (.int x5), some (.ref 83), some (.ref 83)], [.int (0 : Int32)], hp kp nh rh tl rl I (c2 L 84 84 x2.toNatClampNeg x4.toNatClampNeg x5.toNatClampNeg))) rfl ?_
                    cases hf2_1
                    exact bs_ret rfl
                  · refine bs_st 1 (x' := (93, [some (.ref 0), some (.int (1 : Int32)), some (.int x2), some (.int (1 : Int32)), some (.int x4), some (.int x5), some (.ref 83), some (.ref 83)], [.int (-7 : Int32)], hp kp nh rh tl rl I L)) rfl ?_
                    cases hf2_1
                    exact bs_ret rfl
              · refine bs_st 1 (x' := (67, [some (.ref 0), some (.int (1 : Int32)), some (.int x2), some (.int (1 : Int32)), some (.int x4), some (.int x5), some (.ref 83), some (.ref 83)], [.int (-8 : Int32)], hp kp nh rh tl rl I L)) rfl ?_
                cases hf2_1
                exact bs_ret rfl
            · refine bs_st 1 (x' := (51, [some (.ref 0), some (.int (1 : Int32)), some (.int x2), some (.int (1 : Int32)), some (.int x4), some (.int x5), some (.ref 83), some (.ref 83)], [.int (-6 : Int32)], hp kp nh rh tl rl I L)) rfl ?_
              cases hf2_1
              exact bs_ret rfl
        refine bs_cs hf2_1 (fun hc hf2_2 => ?_) (fun hc hf2_2 => ?_)
        · subst hc
          refine bs_st 4 (x' := (38, [some (.ref 0), some (.int (1 : Int32)), some (.int x2), some (.int (2 : Int32)), some (.int x4), some (.int x5), some (.ref 83), some (.ref 85)], [.int (I 83 3)], hp kp nh rh tl rl I L)) rfl ?_
          refine bs_br (t := 49) (e := 41) (lo := [some (.ref 0), some (.int (1 : Int32)), some (.int x2), some (.int (2 : Int32)), some (.int x4), some (.int x5), some (.ref 83), some (.ref 85)]) (st := []) (h := hp kp nh rh tl rl I L) rfl hf2_2 (fun hc hf2_2 => ?_) (fun hc hf2_2 => ?_)
          · refine bs_st 1 (x' := (51, [some (.ref 0), some (.int (1 : Int32)), some (.int x2), some (.int (2 : Int32)), some (.int x4), some (.int x5), some (.ref 83), some (.ref 85)], [.int (-6 : Int32)], hp kp nh rh tl rl I L)) rfl ?_
            cases hf2_2
            exact bs_ret rfl
          · refine bs_st 2 (x' := (46, [some (.ref 0), some (.int (1 : Int32)), some (.int x2), some (.int (2 : Int32)), some (.int x4), some (.int x5), some (.ref 83), some (.ref 85)], [.int (I 85 3)], hp kp nh rh tl rl I L)) rfl ?_
            refine bs_br (t := 52) (e := 49) (lo := [some (.ref 0), some (.int (1 : Int32)), some (.int x2), some (.int (2 : Int32)), some (.int x4), some (.int x5), some (.ref 83), some (.ref 85)]) (st := []) (h := hp kp nh rh tl rl I L) rfl hf2_2 (fun hc hf2_2 => ?_) (fun hc hf2_2 => ?_)
            · refine bs_st 4 (x' := (62, [some (.ref 0), some (.int (1 : Int32)), some (.int x2), some (.int (2 : Int32)), some (.int x4), some (.int x5), some (.ref 83), some (.ref 85)], [.int (I 85 1), .int (I 83 1)], hp kp nh rh tl rl I L)) rfl ?_
              refine bs_br (t := 68) (e := 65) (lo := [some (.ref 0), some (.int (1 : Int32)), some (.int x2), some (.int (2 : Int32)), some (.int x4), some (.int x5), some (.ref 83), some (.ref 85)]) (st := []) (h := hp kp nh rh tl rl I L) rfl hf2_2 (fun hc hf2_2 => ?_) (fun hc hf2_2 => ?_)
              · refine bs_st 3 (x' := (73, [some (.ref 0), some (.int (1 : Int32)), some (.int x2), some (.int (2 : Int32)), some (.int x4), some (.int x5), some (.ref 83), some (.ref 85)], [.int x5, .int x2, .ref 83], hp kp nh rh tl rl I L)) rfl ?_
                obtain ⟨q14, hq14, hf2_2⟩ := Option.bind_eq_some_iff.mp hf2_2
                refine bs_call (o := pEN Ls xs (d + 1) 108 [.ref 83, .int x2, .int x5] (hp kp nh rh tl rl I L)) (w := some (.int q14)) (h' := hp kp nh rh tl rl I L) (pc := 76) (lo := [some (.ref 0), some (.int (1 : Int32)), some (.int x2), some (.int (2 : Int32)), some (.int x4), some (.int x5), some (.ref 83), some (.ref 85)]) (rest := []) rfl (t_108_1 Ls xs (d + 0) kp tl rl nh rh x2 x5 I L q14 hq14) ?_
                refine bs_br (t := 91) (e := 79) (lo := [some (.ref 0), some (.int (1 : Int32)), some (.int x2), some (.int (2 : Int32)), some (.int x4), some (.int x5), some (.ref 83), some (.ref 85)]) (st := []) (h := hp kp nh rh tl rl I L) rfl hf2_2 (fun hc hf2_2 => ?_) (fun hc hf2_2 => ?_)
                · refine bs_st 1 (x' := (93, [some (.ref 0), some (.int (1 : Int32)), some (.int x2), some (.int (2 : Int32)), some (.int x4), some (.int x5), some (.ref 83), some (.ref 85)], [.int (-7 : Int32)], hp kp nh rh tl rl I L)) rfl ?_
                  cases hf2_2
                  exact bs_ret rfl
                · refine bs_st 3 (x' := (85, [some (.ref 0), some (.int (1 : Int32)), some (.int x2), some (.int (2 : Int32)), some (.int x4), some (.int x5), some (.ref 83), some (.ref 85)], [.int x5, .int x4, .ref 85], hp kp nh rh tl rl I L)) rfl ?_
                  obtain ⟨q15, hq15, hf2_2⟩ := Option.bind_eq_some_iff.mp hf2_2
                  refine bs_call (o := pEN Ls xs (d + 1) 108 [.ref 85, .int x4, .int x5] (hp kp nh rh tl rl I L)) (w := some (.int q15)) (h' := hp kp nh rh tl rl I L) (pc := 88) (lo := [some (.ref 0), some (.int (1 : Int32)), some (.int x2), some (.int (2 : Int32)), some (.int x4), some (.int x5), some (.ref 83), some (.ref 85)]) (rest := []) rfl (t_108_2 Ls xs (d + 0) kp tl rl nh rh x4 x5 I L q15 hq15) ?_
                  refine bs_br (t := 94) (e := 91) (lo := [some (.ref 0), some (.int (1 : Int32)), some (.int x2), some (.int (2 : Int32)), some (.int x4), some (.int x5), some (.ref 83), some (.ref 85)]) (st := []) (h := hp kp nh rh tl rl I L) rfl hf2_2 (fun hc hf2_2 => ?_) (fun hc hf2_2 => ?_)
                  · refine bs_st 7 (x' := (109, [some (.ref 0), some (.int (1 : Int32)), some (.int x2), some (.int (2 : Int32)), some (.int x4), some (.int x5), some (.ref 83), some (.ref 85)], [.int x5, .int x4, .ref 86, .int x2, .ref 84], hp kp nh rh tl rl I L)) rfl ?_
                    refine bs_acp (x' := (112, [some (.ref 0), some (.int (1 : Int32)), some (.int x2), some (.int (2 : Int32)), some (.int x4), some (.int x5), some (.ref 83), some (.ref 85)], [], hp kp nh rh tl rl I (c2 L 84 86 x2.toNatClampNeg x4.toNatClampNeg x5.toNatClampNeg))) rfl hf2_2 (fun hc1 hc2 hf2_2 => ?_)
                    refine bs_st 1 (x' := (113, [some (.ref 0), some (.int (1 : Int32)), some (.int x2), some (.int (2 : Int32)), some (.int x4), some (.int x5), some (.ref 83), some (.ref 85)], [.int (0 : Int32)], hp kp nh rh tl rl I (c2 L 84 86 x2.toNatClampNeg x4.toNatClampNeg x5.toNatClampNeg))) rfl ?_
                    cases hf2_2
                    exact bs_ret rfl
                  · refine bs_st 1 (x' := (93, [some (.ref 0), some (.int (1 : Int32)), some (.int x2), some (.int (2 : Int32)), some (.int x4), some (.int x5), some (.ref 83), some (.ref 85)], [.int (-7 : Int32)], hp kp nh rh tl rl I L)) rfl ?_
                    cases hf2_2
                    exact bs_ret rfl
              · refine bs_st 1 (x' := (67, [some (.ref 0), some (.int (1 : Int32)), some (.int x2), some (.int (2 : Int32)), some (.int x4), some (.int x5), some (.ref 83), some (.ref 85)], [.int (-8 : Int32)], hp kp nh rh tl rl I L)) rfl ?_
                cases hf2_2
                exact bs_ret rfl
            · refine bs_st 1 (x' := (51, [some (.ref 0), some (.int (1 : Int32)), some (.int x2), some (.int (2 : Int32)), some (.int x4), some (.int x5), some (.ref 83), some (.ref 85)], [.int (-6 : Int32)], hp kp nh rh tl rl I L)) rfl ?_
              cases hf2_2
              exact bs_ret rfl
        refine bs_cs hf2_2 (fun hc hf2_3 => ?_) (fun hc hf2_3 => ?_)
        · subst hc
          refine bs_st 4 (x' := (38, [some (.ref 0), some (.int (1 : Int32)), some (.int x2), some (.int (3 : Int32)), some (.int x4), some (.int x5), some (.ref 83), some (.ref 87)], [.int (I 83 3)], hp kp nh rh tl rl I L)) rfl ?_
          refine bs_br (t := 49) (e := 41) (lo := [some (.ref 0), some (.int (1 : Int32)), some (.int x2), some (.int (3 : Int32)), some (.int x4), some (.int x5), some (.ref 83), some (.ref 87)]) (st := []) (h := hp kp nh rh tl rl I L) rfl hf2_3 (fun hc hf2_3 => ?_) (fun hc hf2_3 => ?_)
          · refine bs_st 1 (x' := (51, [some (.ref 0), some (.int (1 : Int32)), some (.int x2), some (.int (3 : Int32)), some (.int x4), some (.int x5), some (.ref 83), some (.ref 87)], [.int (-6 : Int32)], hp kp nh rh tl rl I L)) rfl ?_
            cases hf2_3
            exact bs_ret rfl
          · refine bs_st 2 (x' := (46, [some (.ref 0), some (.int (1 : Int32)), some (.int x2), some (.int (3 : Int32)), some (.int x4), some (.int x5), some (.ref 83), some (.ref 87)], [.int (I 87 3)], hp kp nh rh tl rl I L)) rfl ?_
            refine bs_br (t := 52) (e := 49) (lo := [some (.ref 0), some (.int (1 : Int32)), some (.int x2), some (.int (3 : Int32)), some (.int x4), some (.int x5), some (.ref 83), some (.ref 87)]) (st := []) (h := hp kp nh rh tl rl I L) rfl hf2_3 (fun hc hf2_3 => ?_) (fun hc hf2_3 => ?_)
            · refine bs_st 4 (x' := (62, [some (.ref 0), some (.int (1 : Int32)), some (.int x2), some (.int (3 : Int32)), some (.int x4), some (.int x5), some (.ref 83), some (.ref 87)], [.int (I 87 1), .int (I 83 1)], hp kp nh rh tl rl I L)) rfl ?_
              refine bs_br (t := 68) (e := 65) (lo := [some (.ref 0), some (.int (1 : Int32)), some (.int x2), some (.int (3 : Int32)), some (.int x4), some (.int x5), some (.ref 83), some (.ref 87)]) (st := []) (h := hp kp nh rh tl rl I L) rfl hf2_3 (fun hc hf2_3 => ?_) (fun hc hf2_3 => ?_)
              · refine bs_st 3 (x' := (73, [some (.ref 0), some (.int (1 : Int32)), some (.int x2), some (.int (3 : Int32)), some (.int x4), some (.int x5), some (.ref 83), some (.ref 87)], [.int x5, .int x2, .ref 83], hp kp nh rh tl rl I L)) rfl ?_
                obtain ⟨q16, hq16, hf2_3⟩ := Option.bind_eq_some_iff.mp hf2_3
                refine bs_call (o := pEN Ls xs (d + 1) 108 [.ref 83, .int x2, .int x5] (hp kp nh rh tl rl I L)) (w := some (.int q16)) (h' := hp kp nh rh tl rl I L) (pc := 76) (lo := [some (.ref 0), some (.int (1 : Int32)), some (.int x2), some (.int (3 : Int32)), some (.int x4), some (.int x5), some (.ref 83), some (.ref 87)]) (rest := []) rfl (t_108_1 Ls xs (d + 0) kp tl rl nh rh x2 x5 I L q16 hq16) ?_
                refine bs_br (t := 91) (e := 79) (lo := [some (.ref 0), some (.int (1 : Int32)), some (.int x2), some (.int (3 : Int32)), some (.int x4), some (.int x5), some (.ref 83), some (.ref 87)]) (st := []) (h := hp kp nh rh tl rl I L) rfl hf2_3 (fun hc hf2_3 => ?_) (fun hc hf2_3 => ?_)
                · refine bs_st 1 (x' := (93, [some (.ref 0), some (.int (1 : Int32)), some (.int x2), some (.int (3 : Int32)), some (.int x4), some (.int x5), some (.ref 83), some (.ref 87)], [.int (-7 : Int32)], hp kp nh rh tl rl I L)) rfl ?_
                  cases hf2_3
                  exact bs_ret rfl
                · refine bs_st 3 (x' := (85, [some (.ref 0), some (.int (1 : Int32)), some (.int x2), some (.int (3 : Int32)), some (.int x4), some (.int x5), some (.ref 83), some (.ref 87)], [.int x5, .int x4, .ref 87], hp kp nh rh tl rl I L)) rfl ?_
                  obtain ⟨q17, hq17, hf2_3⟩ := Option.bind_eq_some_iff.mp hf2_3
                  refine bs_call (o := pEN Ls xs (d + 1) 108 [.ref 87, .int x4, .int x5] (hp kp nh rh tl rl I L)) (w := some (.int q17)) (h' := hp kp nh rh tl rl I L) (pc := 88) (lo := [some (.ref 0), some (.int (1 : Int32)), some (.int x2), some (.int (3 : Int32)), some (.int x4), some (.int x5), some (.ref 83), some (.ref 87)]) (rest := []) rfl (t_108_3 Ls xs (d + 0) kp tl rl nh rh x4 x5 I L q17 hq17) ?_
                  refine bs_br (t := 94) (e := 91) (lo := [some (.ref 0), some (.int (1 : Int32)), some (.int x2), some (.int (3 : Int32)), some (.int x4), some (.int x5), some (.ref 83), some (.ref 87)]) (st := []) (h := hp kp nh rh tl rl I L) rfl hf2_3 (fun hc hf2_3 => ?_) (fun hc hf2_3 => ?_)
                  · refine bs_st 7 (x' := (109, [some (.ref 0), some (.int (1 : Int32)), some (.int x2), some (.int (3 : Int32)), some (.int x4), some (.int x5), some (.ref 83), some (.ref 87)], [.int x5, .int x4, .ref 88, .int x2, .ref 84], hp kp nh rh tl rl I L)) rfl ?_
                    refine bs_acp (x' := (112, [some (.ref 0), some (.int (1 : Int32)), some (.int x2), some (.int (3 : Int32)), some (.int x4), some (.int x5), some (.ref 83), some (.ref 87)], [], hp kp nh rh tl rl I (c2 L 84 88 x2.toNatClampNeg x4.toNatClampNeg x5.toNatClampNeg))) rfl hf2_3 (fun hc1 hc2 hf2_3 => ?_)
                    refine bs_st 1 (x' := (113, [some (.ref 0), some (.int (1 : Int32)), some (.int x2), some (.int (3 : Int32)), some (.int x4), some (.int x5), some (.ref 83), some (.ref 87)], [.int (0 : Int32)], hp kp nh rh tl rl I (c2 L 84 88 x2.toNatClampNeg x4.toNatClampNeg x5.toNatClampNeg))) rfl ?_
                    cases hf2_3
                    exact bs_ret rfl
                  · refine bs_st 1 (x' := (93, [some (.ref 0), some (.int (1 : Int32)), some (.int x2), some (.int (3 : Int32)), some (.int x4), some (.int x5), some (.ref 83), some (.ref 87)], [.int (-7 : Int32)], hp kp nh rh tl rl I L)) rfl ?_
                    cases hf2_3
                    exact bs_ret rfl
              · refine bs_st 1 (x' := (67, [some (.ref 0), some (.int (1 : Int32)), some (.int x2), some (.int (3 : Int32)), some (.int x4), some (.int x5), some (.ref 83), some (.ref 87)], [.int (-8 : Int32)], hp kp nh rh tl rl I L)) rfl ?_
                cases hf2_3
                exact bs_ret rfl
            · refine bs_st 1 (x' := (51, [some (.ref 0), some (.int (1 : Int32)), some (.int x2), some (.int (3 : Int32)), some (.int x4), some (.int x5), some (.ref 83), some (.ref 87)], [.int (-6 : Int32)], hp kp nh rh tl rl I L)) rfl ?_
              cases hf2_3
              exact bs_ret rfl
        cases hf2_3
      refine bs_cs hf5_1 (fun hc hf5_2 => ?_) (fun hc hf5_2 => ?_)
      · subst hc
        refine bs_st 5 (x' := (30, [some (.ref 0), some (.int (2 : Int32)), some (.int x2), some (.int x3), some (.int x4), some (.int x5), some (.ref 85), none], [.int x3, .ref 44], hp kp nh rh tl rl I L)) rfl ?_
        refine bs_cs hf5_2 (fun hc hf3_0 => ?_) (fun hc hf3_0 => ?_)
        · subst hc
          refine bs_st 4 (x' := (38, [some (.ref 0), some (.int (2 : Int32)), some (.int x2), some (.int (0 : Int32)), some (.int x4), some (.int x5), some (.ref 85), some (.ref 81)], [.int (I 85 3)], hp kp nh rh tl rl I L)) rfl ?_
          refine bs_br (t := 49) (e := 41) (lo := [some (.ref 0), some (.int (2 : Int32)), some (.int x2), some (.int (0 : Int32)), some (.int x4), some (.int x5), some (.ref 85), some (.ref 81)]) (st := []) (h := hp kp nh rh tl rl I L) rfl hf3_0 (fun hc hf3_0 => ?_) (fun hc hf3_0 => ?_)
          · refine bs_st 1 (x' := (51, [some (.ref 0), some (.int (2 : Int32)), some (.int x2), some (.int (0 : Int32)), some (.int x4), some (.int x5), some (.ref 85), some (.ref 81)], [.int (-6 : Int32)], hp kp nh rh tl rl I L)) rfl ?_
            cases hf3_0
            exact bs_ret rfl
          · refine bs_st 2 (x' := (46, [some (.ref 0), some (.int (2 : Int32)), some (.int x2), some (.int (0 : Int32)), some (.int x4), some (.int x5), some (.ref 85), some (.ref 81)], [.int (I 81 3)], hp kp nh rh tl rl I L)) rfl ?_
            refine bs_br (t := 52) (e := 49) (lo := [some (.ref 0), some (.int (2 : Int32)), some (.int x2), some (.int (0 : Int32)), some (.int x4), some (.int x5), some (.ref 85), some (.ref 81)]) (st := []) (h := hp kp nh rh tl rl I L) rfl hf3_0 (fun hc hf3_0 => ?_) (fun hc hf3_0 => ?_)
            · refine bs_st 4 (x' := (62, [some (.ref 0), some (.int (2 : Int32)), some (.int x2), some (.int (0 : Int32)), some (.int x4), some (.int x5), some (.ref 85), some (.ref 81)], [.int (I 81 1), .int (I 85 1)], hp kp nh rh tl rl I L)) rfl ?_
              refine bs_br (t := 68) (e := 65) (lo := [some (.ref 0), some (.int (2 : Int32)), some (.int x2), some (.int (0 : Int32)), some (.int x4), some (.int x5), some (.ref 85), some (.ref 81)]) (st := []) (h := hp kp nh rh tl rl I L) rfl hf3_0 (fun hc hf3_0 => ?_) (fun hc hf3_0 => ?_)
              · refine bs_st 3 (x' := (73, [some (.ref 0), some (.int (2 : Int32)), some (.int x2), some (.int (0 : Int32)), some (.int x4), some (.int x5), some (.ref 85), some (.ref 81)], [.int x5, .int x2, .ref 85], hp kp nh rh tl rl I L)) rfl ?_
                obtain ⟨q18, hq18, hf3_0⟩ := Option.bind_eq_some_iff.mp hf3_0
                refine bs_call (o := pEN Ls xs (d + 1) 108 [.ref 85, .int x2, .int x5] (hp kp nh rh tl rl I L)) (w := some (.int q18)) (h' := hp kp nh rh tl rl I L) (pc := 76) (lo := [some (.ref 0), some (.int (2 : Int32)), some (.int x2), some (.int (0 : Int32)), some (.int x4), some (.int x5), some (.ref 85), some (.ref 81)]) (rest := []) rfl (t_108_2 Ls xs (d + 0) kp tl rl nh rh x2 x5 I L q18 hq18) ?_
                refine bs_br (t := 91) (e := 79) (lo := [some (.ref 0), some (.int (2 : Int32)), some (.int x2), some (.int (0 : Int32)), some (.int x4), some (.int x5), some (.ref 85), some (.ref 81)]) (st := []) (h := hp kp nh rh tl rl I L) rfl hf3_0 (fun hc hf3_0 => ?_) (fun hc hf3_0 => ?_)
                · refine bs_st 1 (x' := (93, [some (.ref 0), some (.int (2 : Int32)), some (.int x2), some (.int (0 : Int32)), some (.int x4), some (.int x5), some (.ref 85), some (.ref 81)], [.int (-7 : Int32)], hp kp nh rh tl rl I L)) rfl ?_
                  cases hf3_0
                  exact bs_ret rfl
                · refine bs_st 3 (x' := (85, [some (.ref 0), some (.int (2 : Int32)), some (.int x2), some (.int (0 : Int32)), some (.int x4), some (.int x5), some (.ref 85), some (.ref 81)], [.int x5, .int x4, .ref 81], hp kp nh rh tl rl I L)) rfl ?_
                  obtain ⟨q19, hq19, hf3_0⟩ := Option.bind_eq_some_iff.mp hf3_0
                  refine bs_call (o := pEN Ls xs (d + 1) 108 [.ref 81, .int x4, .int x5] (hp kp nh rh tl rl I L)) (w := some (.int q19)) (h' := hp kp nh rh tl rl I L) (pc := 88) (lo := [some (.ref 0), some (.int (2 : Int32)), some (.int x2), some (.int (0 : Int32)), some (.int x4), some (.int x5), some (.ref 85), some (.ref 81)]) (rest := []) rfl (t_108 Ls xs (d + 0) kp tl rl nh rh x4 x5 I L q19 hq19) ?_
                  refine bs_br (t := 94) (e := 91) (lo := [some (.ref 0), some (.int (2 : Int32)), some (.int x2), some (.int (0 : Int32)), some (.int x4), some (.int x5), some (.ref 85), some (.ref 81)]) (st := []) (h := hp kp nh rh tl rl I L) rfl hf3_0 (fun hc hf3_0 => ?_) (fun hc hf3_0 => ?_)
                  · refine bs_st 7 (x' := (109, [some (.ref 0), some (.int (2 : Int32)), some (.int x2), some (.int (0 : Int32)), some (.int x4), some (.int x5), some (.ref 85), some (.ref 81)], [.int x5, .int x4, .ref 82, .int x2, .ref 86], hp kp nh rh tl rl I L)) rfl ?_
                    refine bs_acp (x' := (112, [some (.ref 0), some (.int (2 : Int32)), some (.int x2), some (.int (0 : Int32)), some (.int x4), some (.int x5), some (.ref 85), some (.ref 81)], [], hp kp nh rh tl rl I (c2 L 86 82 x2.toNatClampNeg x4.toNatClampNeg x5.toNatClampNeg))) rfl hf3_0 (fun hc1 hc2 hf3_0 => ?_)
                    refine bs_st 1 (x' := (113, [some (.ref 0), some (.int (2 : Int32)), some (.int x2), some (.int (0 : Int32)), some (.int x4), some (.int x5), some (.ref 85), some (.ref 81)], [.int (0 : Int32)], hp kp nh rh tl rl I (c2 L 86 82 x2.toNatClampNeg x4.toNatClampNeg x5.toNatClampNeg))) rfl ?_
                    cases hf3_0
                    exact bs_ret rfl
                  · refine bs_st 1 (x' := (93, [some (.ref 0), some (.int (2 : Int32)), some (.int x2), some (.int (0 : Int32)), some (.int x4), some (.int x5), some (.ref 85), some (.ref 81)], [.int (-7 : Int32)], hp kp nh rh tl rl I L)) rfl ?_
                    cases hf3_0
                    exact bs_ret rfl
              · refine bs_st 1 (x' := (67, [some (.ref 0), some (.int (2 : Int32)), some (.int x2), some (.int (0 : Int32)), some (.int x4), some (.int x5), some (.ref 85), some (.ref 81)], [.int (-8 : Int32)], hp kp nh rh tl rl I L)) rfl ?_
                cases hf3_0
                exact bs_ret rfl
            · refine bs_st 1 (x' := (51, [some (.ref 0), some (.int (2 : Int32)), some (.int x2), some (.int (0 : Int32)), some (.int x4), some (.int x5), some (.ref 85), some (.ref 81)], [.int (-6 : Int32)], hp kp nh rh tl rl I L)) rfl ?_
              cases hf3_0
              exact bs_ret rfl
        refine bs_cs hf3_0 (fun hc hf3_1 => ?_) (fun hc hf3_1 => ?_)
        · subst hc
          refine bs_st 4 (x' := (38, [some (.ref 0), some (.int (2 : Int32)), some (.int x2), some (.int (1 : Int32)), some (.int x4), some (.int x5), some (.ref 85), some (.ref 83)], [.int (I 85 3)], hp kp nh rh tl rl I L)) rfl ?_
          refine bs_br (t := 49) (e := 41) (lo := [some (.ref 0), some (.int (2 : Int32)), some (.int x2), some (.int (1 : Int32)), some (.int x4), some (.int x5), some (.ref 85), some (.ref 83)]) (st := []) (h := hp kp nh rh tl rl I L) rfl hf3_1 (fun hc hf3_1 => ?_) (fun hc hf3_1 => ?_)
          · refine bs_st 1 (x' := (51, [some (.ref 0), some (.int (2 : Int32)), some (.int x2), some (.int (1 : Int32)), some (.int x4), some (.int x5), some (.ref 85), some (.ref 83)], [.int (-6 : Int32)], hp kp nh rh tl rl I L)) rfl ?_
            cases hf3_1
            exact bs_ret rfl
          · refine bs_st 2 (x' := (46, [some (.ref 0), some (.int (2 : Int32)), some (.int x2), some (.int (1 : Int32)), some (.int x4), some (.int x5), some (.ref 85), some (.ref 83)], [.int (I 83 3)], hp kp nh rh tl rl I L)) rfl ?_
            refine bs_br (t := 52) (e := 49) (lo := [some (.ref 0), some (.int (2 : Int32)), some (.int x2), some (.int (1 : Int32)), some (.int x4), some (.int x5), some (.ref 85), some (.ref 83)]) (st := []) (h := hp kp nh rh tl rl I L) rfl hf3_1 (fun hc hf3_1 => ?_) (fun hc hf3_1 => ?_)
            · refine bs_st 4 (x' := (62, [some (.ref 0), some (.int (2 : Int32)), some (.int x2), some (.int (1 : Int32)), some (.int x4), some (.int x5), some (.ref 85), some (.ref 83)], [.int (I 83 1), .int (I 85 1)], hp kp nh rh tl rl I L)) rfl ?_
              refine bs_br (t := 68) (e := 65) (lo := [some (.ref 0), some (.int (2 : Int32)), some (.int x2), some (.int (1 : Int32)), some (.int x4), some (.int x5), some (.ref 85), some (.ref 83)]) (st := []) (h := hp kp nh rh tl rl I L) rfl hf3_1 (fun hc hf3_1 => ?_) (fun hc hf3_1 => ?_)
              · refine bs_st 3 (x' := (73, [some (.ref 0), some (.int (2 : Int32)), some (.int x2), some (.int (1 : Int32)), some (.int x4), some (.int x5), some (.ref 85), some (.ref 83)], [.int x5, .int x2, .ref 85], hp kp nh rh tl rl I L)) rfl ?_
                obtain ⟨q20, hq20, hf3_1⟩ := Option.bind_eq_some_iff.mp hf3_1
                refine bs_call (o := pEN Ls xs (d + 1) 108 [.ref 85, .int x2, .int x5] (hp kp nh rh tl rl I L)) (w := some (.int q20)) (h' := hp kp nh rh tl rl I L) (pc := 76) (lo := [some (.ref 0), some (.int (2 : Int32)), some (.int x2), some (.int (1 : Int32)), some (.int x4), some (.int x5), some (.ref 85), some (.ref 83)]) (rest := []) rfl (t_108_2 Ls xs (d + 0) kp tl rl nh rh x2 x5 I L q20 hq20) ?_
                refine bs_br (t := 91) (e := 79) (lo := [some (.ref 0), some (.int (2 : Int32)), some (.int x2), some (.int (1 : Int32)), some (.int x4), some (.int x5), some (.ref 85), some (.ref 83)]) (st := []) (h := hp kp nh rh tl rl I L) rfl hf3_1 (fun hc hf3_1 => ?_) (fun hc hf3_1 => ?_)
                · refine bs_st 1 (x' := (93, [some (.ref 0), some (.int (2 : Int32)), some (.int x2), some (.int (1 : Int32)), some (.int x4), some (.int x5), some (.ref 85), some (.ref 83)], [.int (-7 : Int32)], hp kp nh rh tl rl I L)) rfl ?_
                  cases hf3_1
                  exact bs_ret rfl
                · refine bs_st 3 (x' := (85, [some (.ref 0), some (.int (2 : Int32)), some (.int x2), some (.int (1 : Int32)), some (.int x4), some (.int x5), some (.ref 85), some (.ref 83)], [.int x5, .int x4, .ref 83], hp kp nh rh tl rl I L)) rfl ?_
                  obtain ⟨q21, hq21, hf3_1⟩ := Option.bind_eq_some_iff.mp hf3_1
                  refine bs_call (o := pEN Ls xs (d + 1) 108 [.ref 83, .int x4, .int x5] (hp kp nh rh tl rl I L)) (w := some (.int q21)) (h' := hp kp nh rh tl rl I L) (pc := 88) (lo := [some (.ref 0), some (.int (2 : Int32)), some (.int x2), some (.int (1 : Int32)), some (.int x4), some (.int x5), some (.ref 85), some (.ref 83)]) (rest := []) rfl (t_108_1 Ls xs (d + 0) kp tl rl nh rh x4 x5 I L q21 hq21) ?_
                  refine bs_br (t := 94) (e := 91) (lo := [some (.ref 0), some (.int (2 : Int32)), some (.int x2), some (.int (1 : Int32)), some (.int x4), some (.int x5), some (.ref 85), some (.ref 83)]) (st := []) (h := hp kp nh rh tl rl I L) rfl hf3_1 (fun hc hf3_1 => ?_) (fun hc hf3_1 => ?_)
                  · refine bs_st 7 (x' := (109, [some (.ref 0), some (.int (2 : Int32)), some (.int x2), some (.int (1 : Int32)), some (.int x4), some (.int x5), some (.ref 85), some (.ref 83)], [.int x5, .int x4, .ref 84, .int x2, .ref 86], hp kp nh rh tl rl I L)) rfl ?_
                    refine bs_acp (x' := (112, [some (.ref 0), some (.int (2 : Int32)), some (.int x2), some (.int (1 : Int32)), some (.int x4), some (.int x5), some (.ref 85), some (.ref 83)], [], hp kp nh rh tl rl I (c2 L 86 84 x2.toNatClampNeg x4.toNatClampNeg x5.toNatClampNeg))) rfl hf3_1 (fun hc1 hc2 hf3_1 => ?_)
                    refine bs_st 1 (x' := (113, [some (.ref 0), some (.int (2 : Int32)), some (.int x2), some (.int (1 : Int32)), some (.int x4), some (.int x5), some (.ref 85), some (.ref 83)], [.int (0 : Int32)], hp kp nh rh tl rl I (c2 L 86 84 x2.toNatClampNeg x4.toNatClampNeg x5.toNatClampNeg))) rfl ?_
                    cases hf3_1
                    exact bs_ret rfl
                  · refine bs_st 1 (x' := (93, [some (.ref 0), some (.int (2 : Int32)), some (.int x2), some (.int (1 : Int32)), some (.int x4), some (.int x5), some (.ref 85), some (.ref 83)], [.int (-7 : Int32)], hp kp nh rh tl rl I L)) rfl ?_
                    cases hf3_1
                    exact bs_ret rfl
              · refine bs_st 1 (x' := (67, [some (.ref 0), some (.int (2 : Int32)), some (.int x2), some (.int (1 : Int32)), some (.int x4), some (.int x5), some (.ref 85), some (.ref 83)], [.int (-8 : Int32)], hp kp nh rh tl rl I L)) rfl ?_
                cases hf3_1
                exact bs_ret rfl
            · refine bs_st 1 (x' := (51, [some (.ref 0), some (.int (2 : Int32)), some (.int x2), some (.int (1 : Int32)), some (.int x4), some (.int x5), some (.ref 85), some (.ref 83)], [.int (-6 : Int32)], hp kp nh rh tl rl I L)) rfl ?_
              cases hf3_1
              exact bs_ret rfl
        refine bs_cs hf3_1 (fun hc hf3_2 => ?_) (fun hc hf3_2 => ?_)
        · subst hc
          refine bs_st 4 (x' := (38, [some (.ref 0), some (.int (2 : Int32)), some (.int x2), some (.int (2 : Int32)), some (.int x4), some (.int x5), some (.ref 85), some (.ref 85)], [.int (I 85 3)], hp kp nh rh tl rl I L)) rfl ?_
          refine bs_br (t := 49) (e := 41) (lo := [some (.ref 0), some (.int (2 : Int32)), some (.int x2), some (.int (2 : Int32)), some (.int x4), some (.int x5), some (.ref 85), some (.ref 85)]) (st := []) (h := hp kp nh rh tl rl I L) rfl hf3_2 (fun hc hf3_2 => ?_) (fun hc hf3_2 => ?_)
          · refine bs_st 1 (x' := (51, [some (.ref 0), some (.int (2 : Int32)), some (.int x2), some (.int (2 : Int32)), some (.int x4), some (.int x5), some (.ref 85), some (.ref 85)], [.int (-6 : Int32)], hp kp nh rh tl rl I L)) rfl ?_
            cases hf3_2
            exact bs_ret rfl
          · refine bs_st 2 (x' := (46, [some (.ref 0), some (.int (2 : Int32)), some (.int x2), some (.int (2 : Int32)), some (.int x4), some (.int x5), some (.ref 85), some (.ref 85)], [.int (I 85 3)], hp kp nh rh tl rl I L)) rfl ?_
            refine bs_br (t := 52) (e := 49) (lo := [some (.ref 0), some (.int (2 : Int32)), some (.int x2), some (.int (2 : Int32)), some (.int x4), some (.int x5), some (.ref 85), some (.ref 85)]) (st := []) (h := hp kp nh rh tl rl I L) rfl hf3_2 (fun hc hf3_2 => ?_) (fun hc hf3_2 => ?_)
            · refine bs_st 4 (x' := (62, [some (.ref 0), some (.int (2 : Int32)), some (.int x2), some (.int (2 : Int32)), some (.int x4), some (.int x5), some (.ref 85), some (.ref 85)], [.int (I 85 1), .int (I 85 1)], hp kp nh rh tl rl I L)) rfl ?_
              refine bs_br (t := 68) (e := 65) (lo := [some (.ref 0), some (.int (2 : Int32)), some (.int x2), some (.int (2 : Int32)), some (.int x4), some (.int x5), some (.ref 85), some (.ref 85)]) (st := []) (h := hp kp nh rh tl rl I L) rfl hf3_2 (fun hc hf3_2 => ?_) (fun hc hf3_2 => ?_)
              · refine bs_st 3 (x' := (73, [some (.ref 0), some (.int (2 : Int32)), some (.int x2), some (.int (2 : Int32)), some (.int x4), some (.int x5), some (.ref 85), some (.ref 85)], [.int x5, .int x2, .ref 85], hp kp nh rh tl rl I L)) rfl ?_
                obtain ⟨q22, hq22, hf3_2⟩ := Option.bind_eq_some_iff.mp hf3_2
                refine bs_call (o := pEN Ls xs (d + 1) 108 [.ref 85, .int x2, .int x5] (hp kp nh rh tl rl I L)) (w := some (.int q22)) (h' := hp kp nh rh tl rl I L) (pc := 76) (lo := [some (.ref 0), some (.int (2 : Int32)), some (.int x2), some (.int (2 : Int32)), some (.int x4), some (.int x5), some (.ref 85), some (.ref 85)]) (rest := []) rfl (t_108_2 Ls xs (d + 0) kp tl rl nh rh x2 x5 I L q22 hq22) ?_
                refine bs_br (t := 91) (e := 79) (lo := [some (.ref 0), some (.int (2 : Int32)), some (.int x2), some (.int (2 : Int32)), some (.int x4), some (.int x5), some (.ref 85), some (.ref 85)]) (st := []) (h := hp kp nh rh tl rl I L) rfl hf3_2 (fun hc hf3_2 => ?_) (fun hc hf3_2 => ?_)
                · refine bs_st 1 (x' := (93, [some (.ref 0), some (.int (2 : Int32)), some (.int x2), some (.int (2 : Int32)), some (.int x4), some (.int x5), some (.ref 85), some (.ref 85)], [.int (-7 : Int32)], hp kp nh rh tl rl I L)) rfl ?_
                  cases hf3_2
                  exact bs_ret rfl
                · refine bs_st 3 (x' := (85, [some (.ref 0), some (.int (2 : Int32)), some (.int x2), some (.int (2 : Int32)), some (.int x4), some (.int x5), some (.ref 85), some (.ref 85)], [.int x5, .int x4, .ref 85], hp kp nh rh tl rl I L)) rfl ?_
                  obtain ⟨q23, hq23, hf3_2⟩ := Option.bind_eq_some_iff.mp hf3_2
                  refine bs_call (o := pEN Ls xs (d + 1) 108 [.ref 85, .int x4, .int x5] (hp kp nh rh tl rl I L)) (w := some (.int q23)) (h' := hp kp nh rh tl rl I L) (pc := 88) (lo := [some (.ref 0), some (.int (2 : Int32)), some (.int x2), some (.int (2 : Int32)), some (.int x4), some (.int x5), some (.ref 85), some (.ref 85)]) (rest := []) rfl (t_108_2 Ls xs (d + 0) kp tl rl nh rh x4 x5 I L q23 hq23) ?_
                  refine bs_br (t := 94) (e := 91) (lo := [some (.ref 0), some (.int (2 : Int32)), some (.int x2), some (.int (2 : Int32)), some (.int x4), some (.int x5), some (.ref 85), some (.ref 85)]) (st := []) (h := hp kp nh rh tl rl I L) rfl hf3_2 (fun hc hf3_2 => ?_) (fun hc hf3_2 => ?_)
                  · refine bs_st 7 (x' := (109, [some (.ref 0), some (.int (2 : Int32)), some (.int x2), some (.int (2 : Int32)), some (.int x4), some (.int x5), some (.ref 85), some (.ref 85)], [.int x5, .int x4, .ref 86, .int x2, .ref 86], hp kp nh rh tl rl I L)) rfl ?_
                    refine bs_acp (x' := (112, [some (.ref 0), some (.int (2 : Int32)), some (.int x2), some (.int (2 : Int32)), some (.int x4), some (.int x5), some (.ref 85), some (.ref 85)], [], hp kp nh rh tl rl I (c2 L 86 86 x2.toNatClampNeg x4.toNatClampNeg x5.toNatClampNeg))) rfl hf3_2 (fun hc1 hc2 hf3_2 => ?_)
                    refine bs_st 1 (x' := (113, [some (.ref 0), some (.int (2 : Int32)), some (.int x2), some (.int (2 : Int32)), some (.int x4), some (.int x5), some (.ref 85), some (.ref 85)], [.int (0 : Int32)], hp kp nh rh tl rl I (c2 L 86 86 x2.toNatClampNeg x4.toNatClampNeg x5.toNatClampNeg))) rfl ?_
                    cases hf3_2
                    exact bs_ret rfl
                  · refine bs_st 1 (x' := (93, [some (.ref 0), some (.int (2 : Int32)), some (.int x2), some (.int (2 : Int32)), some (.int x4), some (.int x5), some (.ref 85), some (.ref 85)], [.int (-7 : Int32)], hp kp nh rh tl rl I L)) rfl ?_
                    cases hf3_2
                    exact bs_ret rfl
              · refine bs_st 1 (x' := (67, [some (.ref 0), some (.int (2 : Int32)), some (.int x2), some (.int (2 : Int32)), some (.int x4), some (.int x5), some (.ref 85), some (.ref 85)], [.int (-8 : Int32)], hp kp nh rh tl rl I L)) rfl ?_
                cases hf3_2
                exact bs_ret rfl
            · refine bs_st 1 (x' := (51, [some (.ref 0), some (.int (2 : Int32)), some (.int x2), some (.int (2 : Int32)), some (.int x4), some (.int x5), some (.ref 85), some (.ref 85)], [.int (-6 : Int32)], hp kp nh rh tl rl I L)) rfl ?_
              cases hf3_2
              exact bs_ret rfl
        refine bs_cs hf3_2 (fun hc hf3_3 => ?_) (fun hc hf3_3 => ?_)
        · subst hc
          refine bs_st 4 (x' := (38, [some (.ref 0), some (.int (2 : Int32)), some (.int x2), some (.int (3 : Int32)), some (.int x4), some (.int x5), some (.ref 85), some (.ref 87)], [.int (I 85 3)], hp kp nh rh tl rl I L)) rfl ?_
          refine bs_br (t := 49) (e := 41) (lo := [some (.ref 0), some (.int (2 : Int32)), some (.int x2), some (.int (3 : Int32)), some (.int x4), some (.int x5), some (.ref 85), some (.ref 87)]) (st := []) (h := hp kp nh rh tl rl I L) rfl hf3_3 (fun hc hf3_3 => ?_) (fun hc hf3_3 => ?_)
          · refine bs_st 1 (x' := (51, [some (.ref 0), some (.int (2 : Int32)), some (.int x2), some (.int (3 : Int32)), some (.int x4), some (.int x5), some (.ref 85), some (.ref 87)], [.int (-6 : Int32)], hp kp nh rh tl rl I L)) rfl ?_
            cases hf3_3
            exact bs_ret rfl
          · refine bs_st 2 (x' := (46, [some (.ref 0), some (.int (2 : Int32)), some (.int x2), some (.int (3 : Int32)), some (.int x4), some (.int x5), some (.ref 85), some (.ref 87)], [.int (I 87 3)], hp kp nh rh tl rl I L)) rfl ?_
            refine bs_br (t := 52) (e := 49) (lo := [some (.ref 0), some (.int (2 : Int32)), some (.int x2), some (.int (3 : Int32)), some (.int x4), some (.int x5), some (.ref 85), some (.ref 87)]) (st := []) (h := hp kp nh rh tl rl I L) rfl hf3_3 (fun hc hf3_3 => ?_) (fun hc hf3_3 => ?_)
            · refine bs_st 4 (x' := (62, [some (.ref 0), some (.int (2 : Int32)), some (.int x2), some (.int (3 : Int32)), some (.int x4), some (.int x5), some (.ref 85), some (.ref 87)], [.int (I 87 1), .int (I 85 1)], hp kp nh rh tl rl I L)) rfl ?_
              refine bs_br (t := 68) (e := 65) (lo := [some (.ref 0), some (.int (2 : Int32)), some (.int x2), some (.int (3 : Int32)), some (.int x4), some (.int x5), some (.ref 85), some (.ref 87)]) (st := []) (h := hp kp nh rh tl rl I L) rfl hf3_3 (fun hc hf3_3 => ?_) (fun hc hf3_3 => ?_)
              · refine bs_st 3 (x' := (73, [some (.ref 0), some (.int (2 : Int32)), some (.int x2), some (.int (3 : Int32)), some (.int x4), some (.int x5), some (.ref 85), some (.ref 87)], [.int x5, .int x2, .ref 85], hp kp nh rh tl rl I L)) rfl ?_
                obtain ⟨q24, hq24, hf3_3⟩ := Option.bind_eq_some_iff.mp hf3_3
                refine bs_call (o := pEN Ls xs (d + 1) 108 [.ref 85, .int x2, .int x5] (hp kp nh rh tl rl I L)) (w := some (.int q24)) (h' := hp kp nh rh tl rl I L) (pc := 76) (lo := [some (.ref 0), some (.int (2 : Int32)), some (.int x2), some (.int (3 : Int32)), some (.int x4), some (.int x5), some (.ref 85), some (.ref 87)]) (rest := []) rfl (t_108_2 Ls xs (d + 0) kp tl rl nh rh x2 x5 I L q24 hq24) ?_
                refine bs_br (t := 91) (e := 79) (lo := [some (.ref 0), some (.int (2 : Int32)), some (.int x2), some (.int (3 : Int32)), some (.int x4), some (.int x5), some (.ref 85), some (.ref 87)]) (st := []) (h := hp kp nh rh tl rl I L) rfl hf3_3 (fun hc hf3_3 => ?_) (fun hc hf3_3 => ?_)
                · refine bs_st 1 (x' := (93, [some (.ref 0), some (.int (2 : Int32)), some (.int x2), some (.int (3 : Int32)), some (.int x4), some (.int x5), some (.ref 85), some (.ref 87)], [.int (-7 : Int32)], hp kp nh rh tl rl I L)) rfl ?_
                  cases hf3_3
                  exact bs_ret rfl
                · refine bs_st 3 (x' := (85, [some (.ref 0), some (.int (2 : Int32)), some (.int x2), some (.int (3 : Int32)), some (.int x4), some (.int x5), some (.ref 85), some (.ref 87)], [.int x5, .int x4, .ref 87], hp kp nh rh tl rl I L)) rfl ?_
                  obtain ⟨q25, hq25, hf3_3⟩ := Option.bind_eq_some_iff.mp hf3_3
                  refine bs_call (o := pEN Ls xs (d + 1) 108 [.ref 87, .int x4, .int x5] (hp kp nh rh tl rl I L)) (w := some (.int q25)) (h' := hp kp nh rh tl rl I L) (pc := 88) (lo := [some (.ref 0), some (.int (2 : Int32)), some (.int x2), some (.int (3 : Int32)), some (.int x4), some (.int x5), some (.ref 85), some (.ref 87)]) (rest := []) rfl (t_108_3 Ls xs (d + 0) kp tl rl nh rh x4 x5 I L q25 hq25) ?_
                  refine bs_br (t := 94) (e := 91) (lo := [some (.ref 0), some (.int (2 : Int32)), some (.int x2), some (.int (3 : Int32)), some (.int x4), some (.int x5), some (.ref 85), some (.ref 87)]) (st := []) (h := hp kp nh rh tl rl I L) rfl hf3_3 (fun hc hf3_3 => ?_) (fun hc hf3_3 => ?_)
                  · refine bs_st 7 (x' := (109, [some (.ref 0), some (.int (2 : Int32)), some (.int x2), some (.int (3 : Int32)), some (.int x4), some (.int x5), some (.ref 85), some (.ref 87)], [.int x5, .int x4, .ref 88, .int x2, .ref 86], hp kp nh rh tl rl I L)) rfl ?_
                    refine bs_acp (x' := (112, [some (.ref 0), some (.int (2 : Int32)), some (.int x2), some (.int (3 : Int32)), some (.int x4), some (.int x5), some (.ref 85), some (.ref 87)], [], hp kp nh rh tl rl I (c2 L 86 88 x2.toNatClampNeg x4.toNatClampNeg x5.toNatClampNeg))) rfl hf3_3 (fun hc1 hc2 hf3_3 => ?_)
                    refine bs_st 1 (x' := (113, [some (.ref 0), some (.int (2 : Int32)), some (.int x2), some (.int (3 : Int32)), some (.int x4), some (.int x5), some (.ref 85), some (.ref 87)], [.int (0 : Int32)], hp kp nh rh tl rl I (c2 L 86 88 x2.toNatClampNeg x4.toNatClampNeg x5.toNatClampNeg))) rfl ?_
                    cases hf3_3
                    exact bs_ret rfl
                  · refine bs_st 1 (x' := (93, [some (.ref 0), some (.int (2 : Int32)), some (.int x2), some (.int (3 : Int32)), some (.int x4), some (.int x5), some (.ref 85), some (.ref 87)], [.int (-7 : Int32)], hp kp nh rh tl rl I L)) rfl ?_
                    cases hf3_3
                    exact bs_ret rfl
              · refine bs_st 1 (x' := (67, [some (.ref 0), some (.int (2 : Int32)), some (.int x2), some (.int (3 : Int32)), some (.int x4), some (.int x5), some (.ref 85), some (.ref 87)], [.int (-8 : Int32)], hp kp nh rh tl rl I L)) rfl ?_
                cases hf3_3
                exact bs_ret rfl
            · refine bs_st 1 (x' := (51, [some (.ref 0), some (.int (2 : Int32)), some (.int x2), some (.int (3 : Int32)), some (.int x4), some (.int x5), some (.ref 85), some (.ref 87)], [.int (-6 : Int32)], hp kp nh rh tl rl I L)) rfl ?_
              cases hf3_3
              exact bs_ret rfl
        cases hf3_3
      refine bs_cs hf5_2 (fun hc hf5_3 => ?_) (fun hc hf5_3 => ?_)
      · subst hc
        refine bs_st 5 (x' := (30, [some (.ref 0), some (.int (3 : Int32)), some (.int x2), some (.int x3), some (.int x4), some (.int x5), some (.ref 87), none], [.int x3, .ref 44], hp kp nh rh tl rl I L)) rfl ?_
        refine bs_cs hf5_3 (fun hc hf4_0 => ?_) (fun hc hf4_0 => ?_)
        · subst hc
          refine bs_st 4 (x' := (38, [some (.ref 0), some (.int (3 : Int32)), some (.int x2), some (.int (0 : Int32)), some (.int x4), some (.int x5), some (.ref 87), some (.ref 81)], [.int (I 87 3)], hp kp nh rh tl rl I L)) rfl ?_
          refine bs_br (t := 49) (e := 41) (lo := [some (.ref 0), some (.int (3 : Int32)), some (.int x2), some (.int (0 : Int32)), some (.int x4), some (.int x5), some (.ref 87), some (.ref 81)]) (st := []) (h := hp kp nh rh tl rl I L) rfl hf4_0 (fun hc hf4_0 => ?_) (fun hc hf4_0 => ?_)
          · refine bs_st 1 (x' := (51, [some (.ref 0), some (.int (3 : Int32)), some (.int x2), some (.int (0 : Int32)), some (.int x4), some (.int x5), some (.ref 87), some (.ref 81)], [.int (-6 : Int32)], hp kp nh rh tl rl I L)) rfl ?_
            cases hf4_0
            exact bs_ret rfl
          · refine bs_st 2 (x' := (46, [some (.ref 0), some (.int (3 : Int32)), some (.int x2), some (.int (0 : Int32)), some (.int x4), some (.int x5), some (.ref 87), some (.ref 81)], [.int (I 81 3)], hp kp nh rh tl rl I L)) rfl ?_
            refine bs_br (t := 52) (e := 49) (lo := [some (.ref 0), some (.int (3 : Int32)), some (.int x2), some (.int (0 : Int32)), some (.int x4), some (.int x5), some (.ref 87), some (.ref 81)]) (st := []) (h := hp kp nh rh tl rl I L) rfl hf4_0 (fun hc hf4_0 => ?_) (fun hc hf4_0 => ?_)
            · refine bs_st 4 (x' := (62, [some (.ref 0), some (.int (3 : Int32)), some (.int x2), some (.int (0 : Int32)), some (.int x4), some (.int x5), some (.ref 87), some (.ref 81)], [.int (I 81 1), .int (I 87 1)], hp kp nh rh tl rl I L)) rfl ?_
              refine bs_br (t := 68) (e := 65) (lo := [some (.ref 0), some (.int (3 : Int32)), some (.int x2), some (.int (0 : Int32)), some (.int x4), some (.int x5), some (.ref 87), some (.ref 81)]) (st := []) (h := hp kp nh rh tl rl I L) rfl hf4_0 (fun hc hf4_0 => ?_) (fun hc hf4_0 => ?_)
              · refine bs_st 3 (x' := (73, [some (.ref 0), some (.int (3 : Int32)), some (.int x2), some (.int (0 : Int32)), some (.int x4), some (.int x5), some (.ref 87), some (.ref 81)], [.int x5, .int x2, .ref 87], hp kp nh rh tl rl I L)) rfl ?_
                obtain ⟨q26, hq26, hf4_0⟩ := Option.bind_eq_some_iff.mp hf4_0
                refine bs_call (o := pEN Ls xs (d + 1) 108 [.ref 87, .int x2, .int x5] (hp kp nh rh tl rl I L)) (w := some (.int q26)) (h' := hp kp nh rh tl rl I L) (pc := 76) (lo := [some (.ref 0), some (.int (3 : Int32)), some (.int x2), some (.int (0 : Int32)), some (.int x4), some (.int x5), some (.ref 87), some (.ref 81)]) (rest := []) rfl (t_108_3 Ls xs (d + 0) kp tl rl nh rh x2 x5 I L q26 hq26) ?_
                refine bs_br (t := 91) (e := 79) (lo := [some (.ref 0), some (.int (3 : Int32)), some (.int x2), some (.int (0 : Int32)), some (.int x4), some (.int x5), some (.ref 87), some (.ref 81)]) (st := []) (h := hp kp nh rh tl rl I L) rfl hf4_0 (fun hc hf4_0 => ?_) (fun hc hf4_0 => ?_)
                · refine bs_st 1 (x' := (93, [some (.ref 0), some (.int (3 : Int32)), some (.int x2), some (.int (0 : Int32)), some (.int x4), some (.int x5), some (.ref 87), some (.ref 81)], [.int (-7 : Int32)], hp kp nh rh tl rl I L)) rfl ?_
                  cases hf4_0
                  exact bs_ret rfl
                · refine bs_st 3 (x' := (85, [some (.ref 0), some (.int (3 : Int32)), some (.int x2), some (.int (0 : Int32)), some (.int x4), some (.int x5), some (.ref 87), some (.ref 81)], [.int x5, .int x4, .ref 81], hp kp nh rh tl rl I L)) rfl ?_
                  obtain ⟨q27, hq27, hf4_0⟩ := Option.bind_eq_some_iff.mp hf4_0
                  refine bs_call (o := pEN Ls xs (d + 1) 108 [.ref 81, .int x4, .int x5] (hp kp nh rh tl rl I L)) (w := some (.int q27)) (h' := hp kp nh rh tl rl I L) (pc := 88) (lo := [some (.ref 0), some (.int (3 : Int32)), some (.int x2), some (.int (0 : Int32)), some (.int x4), some (.int x5), some (.ref 87), some (.ref 81)]) (rest := []) rfl (t_108 Ls xs (d + 0) kp tl rl nh rh x4 x5 I L q27 hq27) ?_
                  refine bs_br (t := 94) (e := 91) (lo := [some (.ref 0), some (.int (3 : Int32)), some (.int x2), some (.int (0 : Int32)), some (.int x4), some (.int x5), some (.ref 87), some (.ref 81)]) (st := []) (h := hp kp nh rh tl rl I L) rfl hf4_0 (fun hc hf4_0 => ?_) (fun hc hf4_0 => ?_)
                  · refine bs_st 7 (x' := (109, [some (.ref 0), some (.int (3 : Int32)), some (.int x2), some (.int (0 : Int32)), some (.int x4), some (.int x5), some (.ref 87), some (.ref 81)], [.int x5, .int x4, .ref 82, .int x2, .ref 88], hp kp nh rh tl rl I L)) rfl ?_
                    refine bs_acp (x' := (112, [some (.ref 0), some (.int (3 : Int32)), some (.int x2), some (.int (0 : Int32)), some (.int x4), some (.int x5), some (.ref 87), some (.ref 81)], [], hp kp nh rh tl rl I (c2 L 88 82 x2.toNatClampNeg x4.toNatClampNeg x5.toNatClampNeg))) rfl hf4_0 (fun hc1 hc2 hf4_0 => ?_)
                    refine bs_st 1 (x' := (113, [some (.ref 0), some (.int (3 : Int32)), some (.int x2), some (.int (0 : Int32)), some (.int x4), some (.int x5), some (.ref 87), some (.ref 81)], [.int (0 : Int32)], hp kp nh rh tl rl I (c2 L 88 82 x2.toNatClampNeg x4.toNatClampNeg x5.toNatClampNeg))) rfl ?_
                    cases hf4_0
                    exact bs_ret rfl
                  · refine bs_st 1 (x' := (93, [some (.ref 0), some (.int (3 : Int32)), some (.int x2), some (.int (0 : Int32)), some (.int x4), some (.int x5), some (.ref 87), some (.ref 81)], [.int (-7 : Int32)], hp kp nh rh tl rl I L)) rfl ?_
                    cases hf4_0
                    exact bs_ret rfl
              · refine bs_st 1 (x' := (67, [some (.ref 0), some (.int (3 : Int32)), some (.int x2), some (.int (0 : Int32)), some (.int x4), some (.int x5), some (.ref 87), some (.ref 81)], [.int (-8 : Int32)], hp kp nh rh tl rl I L)) rfl ?_
                cases hf4_0
                exact bs_ret rfl
            · refine bs_st 1 (x' := (51, [some (.ref 0), some (.int (3 : Int32)), some (.int x2), some (.int (0 : Int32)), some (.int x4), some (.int x5), some (.ref 87), some (.ref 81)], [.int (-6 : Int32)], hp kp nh rh tl rl I L)) rfl ?_
              cases hf4_0
              exact bs_ret rfl
        refine bs_cs hf4_0 (fun hc hf4_1 => ?_) (fun hc hf4_1 => ?_)
        · subst hc
          refine bs_st 4 (x' := (38, [some (.ref 0), some (.int (3 : Int32)), some (.int x2), some (.int (1 : Int32)), some (.int x4), some (.int x5), some (.ref 87), some (.ref 83)], [.int (I 87 3)], hp kp nh rh tl rl I L)) rfl ?_
          refine bs_br (t := 49) (e := 41) (lo := [some (.ref 0), some (.int (3 : Int32)), some (.int x2), some (.int (1 : Int32)), some (.int x4), some (.int x5), some (.ref 87), some (.ref 83)]) (st := []) (h := hp kp nh rh tl rl I L) rfl hf4_1 (fun hc hf4_1 => ?_) (fun hc hf4_1 => ?_)
          · refine bs_st 1 (x' := (51, [some (.ref 0), some (.int (3 : Int32)), some (.int x2), some (.int (1 : Int32)), some (.int x4), some (.int x5), some (.ref 87), some (.ref 83)], [.int (-6 : Int32)], hp kp nh rh tl rl I L)) rfl ?_
            cases hf4_1
            exact bs_ret rfl
          · refine bs_st 2 (x' := (46, [some (.ref 0), some (.int (3 : Int32)), some (.int x2), some (.int (1 : Int32)), some (.int x4), some (.int x5), some (.ref 87), some (.ref 83)], [.int (I 83 3)], hp kp nh rh tl rl I L)) rfl ?_
            refine bs_br (t := 52) (e := 49) (lo := [some (.ref 0), some (.int (3 : Int32)), some (.int x2), some (.int (1 : Int32)), some (.int x4), some (.int x5), some (.ref 87), some (.ref 83)]) (st := []) (h := hp kp nh rh tl rl I L) rfl hf4_1 (fun hc hf4_1 => ?_) (fun hc hf4_1 => ?_)
            · refine bs_st 4 (x' := (62, [some (.ref 0), some (.int (3 : Int32)), some (.int x2), some (.int (1 : Int32)), some (.int x4), some (.int x5), some (.ref 87), some (.ref 83)], [.int (I 83 1), .int (I 87 1)], hp kp nh rh tl rl I L)) rfl ?_
              refine bs_br (t := 68) (e := 65) (lo := [some (.ref 0), some (.int (3 : Int32)), some (.int x2), some (.int (1 : Int32)), some (.int x4), some (.int x5), some (.ref 87), some (.ref 83)]) (st := []) (h := hp kp nh rh tl rl I L) rfl hf4_1 (fun hc hf4_1 => ?_) (fun hc hf4_1 => ?_)
              · refine bs_st 3 (x' := (73, [some (.ref 0), some (.int (3 : Int32)), some (.int x2), some (.int (1 : Int32)), some (.int x4), some (.int x5), some (.ref 87), some (.ref 83)], [.int x5, .int x2, .ref 87], hp kp nh rh tl rl I L)) rfl ?_
                obtain ⟨q28, hq28, hf4_1⟩ := Option.bind_eq_some_iff.mp hf4_1
                refine bs_call (o := pEN Ls xs (d + 1) 108 [.ref 87, .int x2, .int x5] (hp kp nh rh tl rl I L)) (w := some (.int q28)) (h' := hp kp nh rh tl rl I L) (pc := 76) (lo := [some (.ref 0), some (.int (3 : Int32)), some (.int x2), some (.int (1 : Int32)), some (.int x4), some (.int x5), some (.ref 87), some (.ref 83)]) (rest := []) rfl (t_108_3 Ls xs (d + 0) kp tl rl nh rh x2 x5 I L q28 hq28) ?_
                refine bs_br (t := 91) (e := 79) (lo := [some (.ref 0), some (.int (3 : Int32)), some (.int x2), some (.int (1 : Int32)), some (.int x4), some (.int x5), some (.ref 87), some (.ref 83)]) (st := []) (h := hp kp nh rh tl rl I L) rfl hf4_1 (fun hc hf4_1 => ?_) (fun hc hf4_1 => ?_)
                · refine bs_st 1 (x' := (93, [some (.ref 0), some (.int (3 : Int32)), some (.int x2), some (.int (1 : Int32)), some (.int x4), some (.int x5), some (.ref 87), some (.ref 83)], [.int (-7 : Int32)], hp kp nh rh tl rl I L)) rfl ?_
                  cases hf4_1
                  exact bs_ret rfl
                · refine bs_st 3 (x' := (85, [some (.ref 0), some (.int (3 : Int32)), some (.int x2), some (.int (1 : Int32)), some (.int x4), some (.int x5), some (.ref 87), some (.ref 83)], [.int x5, .int x4, .ref 83], hp kp nh rh tl rl I L)) rfl ?_
                  obtain ⟨q29, hq29, hf4_1⟩ := Option.bind_eq_some_iff.mp hf4_1
                  refine bs_call (o := pEN Ls xs (d + 1) 108 [.ref 83, .int x4, .int x5] (hp kp nh rh tl rl I L)) (w := some (.int q29)) (h' := hp kp nh rh tl rl I L) (pc := 88) (lo := [some (.ref 0), some (.int (3 : Int32)), some (.int x2), some (.int (1 : Int32)), some (.int x4), some (.int x5), some (.ref 87), some (.ref 83)]) (rest := []) rfl (t_108_1 Ls xs (d + 0) kp tl rl nh rh x4 x5 I L q29 hq29) ?_
                  refine bs_br (t := 94) (e := 91) (lo := [some (.ref 0), some (.int (3 : Int32)), some (.int x2), some (.int (1 : Int32)), some (.int x4), some (.int x5), some (.ref 87), some (.ref 83)]) (st := []) (h := hp kp nh rh tl rl I L) rfl hf4_1 (fun hc hf4_1 => ?_) (fun hc hf4_1 => ?_)
                  · refine bs_st 7 (x' := (109, [some (.ref 0), some (.int (3 : Int32)), some (.int x2), some (.int (1 : Int32)), some (.int x4), some (.int x5), some (.ref 87), some (.ref 83)], [.int x5, .int x4, .ref 84, .int x2, .ref 88], hp kp nh rh tl rl I L)) rfl ?_
                    refine bs_acp (x' := (112, [some (.ref 0), some (.int (3 : Int32)), some (.int x2), some (.int (1 : Int32)), some (.int x4), some (.int x5), some (.ref 87), some (.ref 83)], [], hp kp nh rh tl rl I (c2 L 88 84 x2.toNatClampNeg x4.toNatClampNeg x5.toNatClampNeg))) rfl hf4_1 (fun hc1 hc2 hf4_1 => ?_)
                    refine bs_st 1 (x' := (113, [some (.ref 0), some (.int (3 : Int32)), some (.int x2), some (.int (1 : Int32)), some (.int x4), some (.int x5), some (.ref 87), some (.ref 83)], [.int (0 : Int32)], hp kp nh rh tl rl I (c2 L 88 84 x2.toNatClampNeg x4.toNatClampNeg x5.toNatClampNeg))) rfl ?_
                    cases hf4_1
                    exact bs_ret rfl
                  · refine bs_st 1 (x' := (93, [some (.ref 0), some (.int (3 : Int32)), some (.int x2), some (.int (1 : Int32)), some (.int x4), some (.int x5), some (.ref 87), some (.ref 83)], [.int (-7 : Int32)], hp kp nh rh tl rl I L)) rfl ?_
                    cases hf4_1
                    exact bs_ret rfl
              · refine bs_st 1 (x' := (67, [some (.ref 0), some (.int (3 : Int32)), some (.int x2), some (.int (1 : Int32)), some (.int x4), some (.int x5), some (.ref 87), some (.ref 83)], [.int (-8 : Int32)], hp kp nh rh tl rl I L)) rfl ?_
                cases hf4_1
                exact bs_ret rfl
            · refine bs_st 1 (x' := (51, [some (.ref 0), some (.int (3 : Int32)), some (.int x2), some (.int (1 : Int32)), some (.int x4), some (.int x5), some (.ref 87), some (.ref 83)], [.int (-6 : Int32)], hp kp nh rh tl rl I L)) rfl ?_
              cases hf4_1
              exact bs_ret rfl
        refine bs_cs hf4_1 (fun hc hf4_2 => ?_) (fun hc hf4_2 => ?_)
        · subst hc
          refine bs_st 4 (x' := (38, [some (.ref 0), some (.int (3 : Int32)), some (.int x2), some (.int (2 : Int32)), some (.int x4), some (.int x5), some (.ref 87), some (.ref 85)], [.int (I 87 3)], hp kp nh rh tl rl I L)) rfl ?_
          refine bs_br (t := 49) (e := 41) (lo := [some (.ref 0), some (.int (3 : Int32)), some (.int x2), some (.int (2 : Int32)), some (.int x4), some (.int x5), some (.ref 87), some (.ref 85)]) (st := []) (h := hp kp nh rh tl rl I L) rfl hf4_2 (fun hc hf4_2 => ?_) (fun hc hf4_2 => ?_)
          · refine bs_st 1 (x' := (51, [some (.ref 0), some (.int (3 : Int32)), some (.int x2), some (.int (2 : Int32)), some (.int x4), some (.int x5), some (.ref 87), some (.ref 85)], [.int (-6 : Int32)], hp kp nh rh tl rl I L)) rfl ?_
            cases hf4_2
            exact bs_ret rfl
          · refine bs_st 2 (x' := (46, [some (.ref 0), some (.int (3 : Int32)), some (.int x2), some (.int (2 : Int32)), some (.int x4), some (.int x5), some (.ref 87), some (.ref 85)], [.int (I 85 3)], hp kp nh rh tl rl I L)) rfl ?_
            refine bs_br (t := 52) (e := 49) (lo := [some (.ref 0), some (.int (3 : Int32)), some (.int x2), some (.int (2 : Int32)), some (.int x4), some (.int x5), some (.ref 87), some (.ref 85)]) (st := []) (h := hp kp nh rh tl rl I L) rfl hf4_2 (fun hc hf4_2 => ?_) (fun hc hf4_2 => ?_)
            · refine bs_st 4 (x' := (62, [some (.ref 0), some (.int (3 : Int32)), some (.int x2), some (.int (2 : Int32)), some (.int x4), some (.int x5), some (.ref 87), some (.ref 85)], [.int (I 85 1), .int (I 87 1)], hp kp nh rh tl rl I L)) rfl ?_
              refine bs_br (t := 68) (e := 65) (lo := [some (.ref 0), some (.int (3 : Int32)), some (.int x2), some (.int (2 : Int32)), some (.int x4), some (.int x5), some (.ref 87), some (.ref 85)]) (st := []) (h := hp kp nh rh tl rl I L) rfl hf4_2 (fun hc hf4_2 => ?_) (fun hc hf4_2 => ?_)
              · refine bs_st 3 (x' := (73, [some (.ref 0), some (.int (3 : Int32)), some (.int x2), some (.int (2 : Int32)), some (.int x4), some (.int x5), some (.ref 87), some (.ref 85)], [.int x5, .int x2, .ref 87], hp kp nh rh tl rl I L)) rfl ?_
                obtain ⟨q30, hq30, hf4_2⟩ := Option.bind_eq_some_iff.mp hf4_2
                refine bs_call (o := pEN Ls xs (d + 1) 108 [.ref 87, .int x2, .int x5] (hp kp nh rh tl rl I L)) (w := some (.int q30)) (h' := hp kp nh rh tl rl I L) (pc := 76) (lo := [some (.ref 0), some (.int (3 : Int32)), some (.int x2), some (.int (2 : Int32)), some (.int x4), some (.int x5), some (.ref 87), some (.ref 85)]) (rest := []) rfl (t_108_3 Ls xs (d + 0) kp tl rl nh rh x2 x5 I L q30 hq30) ?_
                refine bs_br (t := 91) (e := 79) (lo := [some (.ref 0), some (.int (3 : Int32)), some (.int x2), some (.int (2 : Int32)), some (.int x4), some (.int x5), some (.ref 87), some (.ref 85)]) (st := []) (h := hp kp nh rh tl rl I L) rfl hf4_2 (fun hc hf4_2 => ?_) (fun hc hf4_2 => ?_)
                · refine bs_st 1 (x' := (93, [some (.ref 0), some (.int (3 : Int32)), some (.int x2), some (.int (2 : Int32)), some (.int x4), some (.int x5), some (.ref 87), some (.ref 85)], [.int (-7 : Int32)], hp kp nh rh tl rl I L)) rfl ?_
                  cases hf4_2
                  exact bs_ret rfl
                · refine bs_st 3 (x' := (85, [some (.ref 0), some (.int (3 : Int32)), some (.int x2), some (.int (2 : Int32)), some (.int x4), some (.int x5), some (.ref 87), some (.ref 85)], [.int x5, .int x4, .ref 85], hp kp nh rh tl rl I L)) rfl ?_
                  obtain ⟨q31, hq31, hf4_2⟩ := Option.bind_eq_some_iff.mp hf4_2
                  refine bs_call (o := pEN Ls xs (d + 1) 108 [.ref 85, .int x4, .int x5] (hp kp nh rh tl rl I L)) (w := some (.int q31)) (h' := hp kp nh rh tl rl I L) (pc := 88) (lo := [some (.ref 0), some (.int (3 : Int32)), some (.int x2), some (.int (2 : Int32)), some (.int x4), some (.int x5), some (.ref 87), some (.ref 85)]) (rest := []) rfl (t_108_2 Ls xs (d + 0) kp tl rl nh rh x4 x5 I L q31 hq31) ?_
                  refine bs_br (t := 94) (e := 91) (lo := [some (.ref 0), some (.int (3 : Int32)), some (.int x2), some (.int (2 : Int32)), some (.int x4), some (.int x5), some (.ref 87), some (.ref 85)]) (st := []) (h := hp kp nh rh tl rl I L) rfl hf4_2 (fun hc hf4_2 => ?_) (fun hc hf4_2 => ?_)
                  · refine bs_st 7 (x' := (109, [some (.ref 0), some (.int (3 : Int32)), some (.int x2), some (.int (2 : Int32)), some (.int x4), some (.int x5), some (.ref 87), some (.ref 85)], [.int x5, .int x4, .ref 86, .int x2, .ref 88], hp kp nh rh tl rl I L)) rfl ?_
                    refine bs_acp (x' := (112, [some (.ref 0), some (.int (3 : Int32)), some (.int x2), some (.int (2 : Int32)), some (.int x4), some (.int x5), some (.ref 87), some (.ref 85)], [], hp kp nh rh tl rl I (c2 L 88 86 x2.toNatClampNeg x4.toNatClampNeg x5.toNatClampNeg))) rfl hf4_2 (fun hc1 hc2 hf4_2 => ?_)
                    refine bs_st 1 (x' := (113, [some (.ref 0), some (.int (3 : Int32)), some (.int x2), some (.int (2 : Int32)), some (.int x4), some (.int x5), some (.ref 87), some (.ref 85)], [.int (0 : Int32)], hp kp nh rh tl rl I (c2 L 88 86 x2.toNatClampNeg x4.toNatClampNeg x5.toNatClampNeg))) rfl ?_
                    cases hf4_2
                    exact bs_ret rfl
                  · refine bs_st 1 (x' := (93, [some (.ref 0), some (.int (3 : Int32)), some (.int x2), some (.int (2 : Int32)), some (.int x4), some (.int x5), some (.ref 87), some (.ref 85)], [.int (-7 : Int32)], hp kp nh rh tl rl I L)) rfl ?_
                    cases hf4_2
                    exact bs_ret rfl
              · refine bs_st 1 (x' := (67, [some (.ref 0), some (.int (3 : Int32)), some (.int x2), some (.int (2 : Int32)), some (.int x4), some (.int x5), some (.ref 87), some (.ref 85)], [.int (-8 : Int32)], hp kp nh rh tl rl I L)) rfl ?_
                cases hf4_2
                exact bs_ret rfl
            · refine bs_st 1 (x' := (51, [some (.ref 0), some (.int (3 : Int32)), some (.int x2), some (.int (2 : Int32)), some (.int x4), some (.int x5), some (.ref 87), some (.ref 85)], [.int (-6 : Int32)], hp kp nh rh tl rl I L)) rfl ?_
              cases hf4_2
              exact bs_ret rfl
        refine bs_cs hf4_2 (fun hc hf4_3 => ?_) (fun hc hf4_3 => ?_)
        · subst hc
          refine bs_st 4 (x' := (38, [some (.ref 0), some (.int (3 : Int32)), some (.int x2), some (.int (3 : Int32)), some (.int x4), some (.int x5), some (.ref 87), some (.ref 87)], [.int (I 87 3)], hp kp nh rh tl rl I L)) rfl ?_
          refine bs_br (t := 49) (e := 41) (lo := [some (.ref 0), some (.int (3 : Int32)), some (.int x2), some (.int (3 : Int32)), some (.int x4), some (.int x5), some (.ref 87), some (.ref 87)]) (st := []) (h := hp kp nh rh tl rl I L) rfl hf4_3 (fun hc hf4_3 => ?_) (fun hc hf4_3 => ?_)
          · refine bs_st 1 (x' := (51, [some (.ref 0), some (.int (3 : Int32)), some (.int x2), some (.int (3 : Int32)), some (.int x4), some (.int x5), some (.ref 87), some (.ref 87)], [.int (-6 : Int32)], hp kp nh rh tl rl I L)) rfl ?_
            cases hf4_3
            exact bs_ret rfl
          · refine bs_st 2 (x' := (46, [some (.ref 0), some (.int (3 : Int32)), some (.int x2), some (.int (3 : Int32)), some (.int x4), some (.int x5), some (.ref 87), some (.ref 87)], [.int (I 87 3)], hp kp nh rh tl rl I L)) rfl ?_
            refine bs_br (t := 52) (e := 49) (lo := [some (.ref 0), some (.int (3 : Int32)), some (.int x2), some (.int (3 : Int32)), some (.int x4), some (.int x5), some (.ref 87), some (.ref 87)]) (st := []) (h := hp kp nh rh tl rl I L) rfl hf4_3 (fun hc hf4_3 => ?_) (fun hc hf4_3 => ?_)
            · refine bs_st 4 (x' := (62, [some (.ref 0), some (.int (3 : Int32)), some (.int x2), some (.int (3 : Int32)), some (.int x4), some (.int x5), some (.ref 87), some (.ref 87)], [.int (I 87 1), .int (I 87 1)], hp kp nh rh tl rl I L)) rfl ?_
              refine bs_br (t := 68) (e := 65) (lo := [some (.ref 0), some (.int (3 : Int32)), some (.int x2), some (.int (3 : Int32)), some (.int x4), some (.int x5), some (.ref 87), some (.ref 87)]) (st := []) (h := hp kp nh rh tl rl I L) rfl hf4_3 (fun hc hf4_3 => ?_) (fun hc hf4_3 => ?_)
              · refine bs_st 3 (x' := (73, [some (.ref 0), some (.int (3 : Int32)), some (.int x2), some (.int (3 : Int32)), some (.int x4), some (.int x5), some (.ref 87), some (.ref 87)], [.int x5, .int x2, .ref 87], hp kp nh rh tl rl I L)) rfl ?_
                obtain ⟨q32, hq32, hf4_3⟩ := Option.bind_eq_some_iff.mp hf4_3
                refine bs_call (o := pEN Ls xs (d + 1) 108 [.ref 87, .int x2, .int x5] (hp kp nh rh tl rl I L)) (w := some (.int q32)) (h' := hp kp nh rh tl rl I L) (pc := 76) (lo := [some (.ref 0), some (.int (3 : Int32)), some (.int x2), some (.int (3 : Int32)), some (.int x4), some (.int x5), some (.ref 87), some (.ref 87)]) (rest := []) rfl (t_108_3 Ls xs (d + 0) kp tl rl nh rh x2 x5 I L q32 hq32) ?_
                refine bs_br (t := 91) (e := 79) (lo := [some (.ref 0), some (.int (3 : Int32)), some (.int x2), some (.int (3 : Int32)), some (.int x4), some (.int x5), some (.ref 87), some (.ref 87)]) (st := []) (h := hp kp nh rh tl rl I L) rfl hf4_3 (fun hc hf4_3 => ?_) (fun hc hf4_3 => ?_)
                · refine bs_st 1 (x' := (93, [some (.ref 0), some (.int (3 : Int32)), some (.int x2), some (.int (3 : Int32)), some (.int x4), some (.int x5), some (.ref 87), some (.ref 87)], [.int (-7 : Int32)], hp kp nh rh tl rl I L)) rfl ?_
                  cases hf4_3
                  exact bs_ret rfl
                · refine bs_st 3 (x' := (85, [some (.ref 0), some (.int (3 : Int32)), some (.int x2), some (.int (3 : Int32)), some (.int x4), some (.int x5), some (.ref 87), some (.ref 87)], [.int x5, .int x4, .ref 87], hp kp nh rh tl rl I L)) rfl ?_
                  obtain ⟨q33, hq33, hf4_3⟩ := Option.bind_eq_some_iff.mp hf4_3
                  refine bs_call (o := pEN Ls xs (d + 1) 108 [.ref 87, .int x4, .int x5] (hp kp nh rh tl rl I L)) (w := some (.int q33)) (h' := hp kp nh rh tl rl I L) (pc := 88) (lo := [some (.ref 0), some (.int (3 : Int32)), some (.int x2), some (.int (3 : Int32)), some (.int x4), some (.int x5), some (.ref 87), some (.ref 87)]) (rest := []) rfl (t_108_3 Ls xs (d + 0) kp tl rl nh rh x4 x5 I L q33 hq33) ?_
                  refine bs_br (t := 94) (e := 91) (lo := [some (.ref 0), some (.int (3 : Int32)), some (.int x2), some (.int (3 : Int32)), some (.int x4), some (.int x5), some (.ref 87), some (.ref 87)]) (st := []) (h := hp kp nh rh tl rl I L) rfl hf4_3 (fun hc hf4_3 => ?_) (fun hc hf4_3 => ?_)
                  · refine bs_st 7 (x' := (109, [some (.ref 0), some (.int (3 : Int32)), some (.int x2), some (.int (3 : Int32)), some (.int x4), some (.int x5), some (.ref 87), some (.ref 87)], [.int x5, .int x4, .ref 88, .int x2, .ref 88], hp kp nh rh tl rl I L)) rfl ?_
                    refine bs_acp (x' := (112, [some (.ref 0), some (.int (3 : Int32)), some (.int x2), some (.int (3 : Int32)), some (.int x4), some (.int x5), some (.ref 87), some (.ref 87)], [], hp kp nh rh tl rl I (c2 L 88 88 x2.toNatClampNeg x4.toNatClampNeg x5.toNatClampNeg))) rfl hf4_3 (fun hc1 hc2 hf4_3 => ?_)
                    refine bs_st 1 (x' := (113, [some (.ref 0), some (.int (3 : Int32)), some (.int x2), some (.int (3 : Int32)), some (.int x4), some (.int x5), some (.ref 87), some (.ref 87)], [.int (0 : Int32)], hp kp nh rh tl rl I (c2 L 88 88 x2.toNatClampNeg x4.toNatClampNeg x5.toNatClampNeg))) rfl ?_
                    cases hf4_3
                    exact bs_ret rfl
                  · refine bs_st 1 (x' := (93, [some (.ref 0), some (.int (3 : Int32)), some (.int x2), some (.int (3 : Int32)), some (.int x4), some (.int x5), some (.ref 87), some (.ref 87)], [.int (-7 : Int32)], hp kp nh rh tl rl I L)) rfl ?_
                    cases hf4_3
                    exact bs_ret rfl
              · refine bs_st 1 (x' := (67, [some (.ref 0), some (.int (3 : Int32)), some (.int x2), some (.int (3 : Int32)), some (.int x4), some (.int x5), some (.ref 87), some (.ref 87)], [.int (-8 : Int32)], hp kp nh rh tl rl I L)) rfl ?_
                cases hf4_3
                exact bs_ret rfl
            · refine bs_st 1 (x' := (51, [some (.ref 0), some (.int (3 : Int32)), some (.int x2), some (.int (3 : Int32)), some (.int x4), some (.int x5), some (.ref 87), some (.ref 87)], [.int (-6 : Int32)], hp kp nh rh tl rl I L)) rfl ?_
              cases hf4_3
              exact bs_ret rfl
        cases hf4_3
      cases hf5_3
    · refine bs_st 1 (x' := (16, [some (.ref 0), some (.int x1), some (.int x2), some (.int x3), some (.int x4), some (.int x5), none, none], [.int (-2 : Int32)], hp kp nh rh tl rl I L)) rfl ?_
      cases hf
      exact bs_ret rfl
/-- LampRounds.nightWithGuest(II) on (0,) -/
def f_194_1 (n : Nat) (x1 : Int32) (x2 : Int32) (I : FI) (L : FL) : Option (FI × FL) :=
  (f_53 n (31 : Int32) I L).bind fun q0 =>
  if pin x2 30 = true then (if pin x2 30 = true then ((f_55 n (u2 q0.1 28 x2.toNatClampNeg ((q0.1 28 x2.toNatClampNeg) ||| ((1 : Int32) <<< (x1 &&& 31)))) q0.2).bind fun q1 =>
      some (q1.1, q1.2)) else none) else none
set_option maxHeartbeats 1000000 in
set_option maxRecDepth 20000 in
theorem t_194_1 (Ls : Nat) (xs : Nat → Int32) (d : Nat) (kp : Option Nat) (tl : List (Nat × Nat)) (rl : List (List (Option Nat))) (nh : Option Nat) (rh : Option Nat) (n : Nat) (x1 : Int32) (x2 : Int32) (I : FI) (L : FL) (r : FI × FL) (hf : f_194_1 n x1 x2 I L = some r) : pEN Ls xs (d + 6) 194 [.ref 0, .int x1, .int x2] (hp kp nh rh tl rl I L) = some (some (.ref 26), hp kp (some 3) rh tl rl r.1 r.2) := by
  refine en_run (d := d + 5) (cd := cd_194) (f := (sf 11 rs_11 false 3 (some (.object "LampRounds$Night")) Ls xs (d + 5))) rfl rfl (x := (0, [some (.ref 0), some (.int x1), some (.int x2)], [], hp kp nh rh tl rl I L)) rfl rfl (Nat.le_of_ble_eq_true rfl) ?_
  unfold f_194_1 at hf
  refine bs_st 7 (x' := (14, [some (.ref 0), some (.int x1), some (.int x2)], [.int (31 : Int32), .ref 11, .ref 3, .ref 26], hp kp nh rh tl rl I L)) rfl ?_
  obtain ⟨q0, hq0, hf⟩ := Option.bind_eq_some_iff.mp hf
  refine bs_call (o := pEN Ls xs (d + 5) 53 [.ref 26, .ref 3, .ref 11, .int (31 : Int32)] (hp kp nh rh tl rl I L)) (w := none) (h' := hp kp (some 3) rh tl rl q0.1 q0.2) (pc := 17) (lo := [some (.ref 0), some (.int x1), some (.int x2)]) (rest := []) rfl (t_53 Ls xs (d + 4) kp tl rl nh rh n (31 : Int32) I L q0 hq0) ?_
  refine bs_st 5 (x' := (26, [some (.ref 0), some (.int x1), some (.int x2)], [.int x2, .ref 28, .int x2, .ref 28], hp kp (some 3) rh tl rl q0.1 q0.2)) rfl ?_
  refine bs_gd (x' := (27, [some (.ref 0), some (.int x1), some (.int x2)], [.int (q0.1 28 x2.toNatClampNeg), .int x2, .ref 28], hp kp (some 3) rh tl rl q0.1 q0.2)) rfl hf (fun hc hf => ?_)
  refine bs_st 4 (x' := (31, [some (.ref 0), some (.int x1), some (.int x2)], [.int ((q0.1 28 x2.toNatClampNeg) ||| ((1 : Int32) <<< (x1 &&& 31))), .int x2, .ref 28], hp kp (some 3) rh tl rl q0.1 q0.2)) rfl ?_
  refine bs_gd (x' := (32, [some (.ref 0), some (.int x1), some (.int x2)], [], hp kp (some 3) rh tl rl (u2 q0.1 28 x2.toNatClampNeg ((q0.1 28 x2.toNatClampNeg) ||| ((1 : Int32) <<< (x1 &&& 31)))) q0.2)) rfl hf (fun hc hf => ?_)
  refine bs_st 2 (x' := (36, [some (.ref 0), some (.int x1), some (.int x2)], [.ref 26], hp kp (some 3) rh tl rl (u2 q0.1 28 x2.toNatClampNeg ((q0.1 28 x2.toNatClampNeg) ||| ((1 : Int32) <<< (x1 &&& 31)))) q0.2)) rfl ?_
  obtain ⟨q1, hq1, hf⟩ := Option.bind_eq_some_iff.mp hf
  refine bs_call (o := pEN Ls xs (d + 5) 55 [.ref 26] (hp kp (some 3) rh tl rl (u2 q0.1 28 x2.toNatClampNeg ((q0.1 28 x2.toNatClampNeg) ||| ((1 : Int32) <<< (x1 &&& 31)))) q0.2)) (w := none) (h' := hp kp (some 3) rh tl rl q1.1 q1.2) (pc := 39) (lo := [some (.ref 0), some (.int x1), some (.int x2)]) (rest := []) rfl (t_55 Ls xs (d + 0) kp tl rl rh n (u2 q0.1 28 x2.toNatClampNeg ((q0.1 28 x2.toNatClampNeg) ||| ((1 : Int32) <<< (x1 &&& 31)))) q0.2 q1 hq1) ?_
  refine bs_st 2 (x' := (43, [some (.ref 0), some (.int x1), some (.int x2)], [.ref 26], hp kp (some 3) rh tl rl q1.1 q1.2)) rfl ?_
  cases hf
  exact bs_ret rfl
/-- LampRounds.lateness(I) on () -/
def f_196_1 (x0 : Int32) (I : FI) (L : FL) : Option (Int32) :=
  if ¬ x0 = (-1 : Int32) then
    some (x0)
  else
    some ((1000 : Int32))
set_option maxHeartbeats 1000000 in
set_option maxRecDepth 20000 in
theorem t_196_1 (Ls : Nat) (xs : Nat → Int32) (d : Nat) (kp : Option Nat) (tl : List (Nat × Nat)) (rl : List (List (Option Nat))) (nh : Option Nat) (rh : Option Nat) (x0 : Int32) (I : FI) (L : FL) (r : Int32) (hf : f_196_1 x0 I L = some r) : pEN Ls xs (d + 1) 196 [.int x0] (hp kp nh rh tl rl I L) = some (some (.int r), hp kp nh rh tl rl I L) := by
  refine en_run (d := d + 0) (cd := cd_196) (f := (sf 11 rs_11 false 1 (some (.int)) Ls xs (d + 0))) rfl rfl (x := (0, [some (.int x0)], [], hp kp nh rh tl rl I L)) rfl rfl (Nat.le_of_ble_eq_true rfl) ?_
  unfold f_196_1 at hf
  refine bs_st 2 (x' := (2, [some (.int x0)], [.int (-1 : Int32), .int x0], hp kp nh rh tl rl I L)) rfl ?_
  refine bs_br (t := 11) (e := 5) (lo := [some (.int x0)]) (st := []) (h := hp kp nh rh tl rl I L) rfl hf (fun hc hf => ?_) (fun hc hf => ?_)
  · refine bs_st 1 (x' := (12, [some (.int x0)], [.int x0], hp kp nh rh tl rl I L)) rfl ?_
    cases hf
    exact bs_ret rfl
  · refine bs_st 2 (x' := (12, [some (.int x0)], [.int (1000 : Int32)], hp kp nh rh tl rl I L)) rfl ?_
    cases hf
    exact bs_ret rfl
