section BS4
variable {cd : List (Nat × Instr × Nat)} {f : Instr → pS → pO} {x x' : pS} {r : pR}
theorem lk_off (df k : Int) : ∀ (ps : List (Int × Int)), (∀ q ∈ ps, k ≠ q.1) → Op.lookupswitch.offset ps df k = df
  | [], _ => rfl
  | (a, o) :: ps, h => by
    have h1 : k ≠ a := h (a, o) List.mem_cons_self
    have h2 := lk_off df k ps (fun q hq => h q (List.mem_cons_of_mem _ hq))
    simp only [Op.lookupswitch.offset]
    first
      | (rw [if_neg (Ne.symm h1)]; exact h2)
      | (rw [if_neg h1]; exact h2)
      | (simp [Ne.symm h1, h1, h2]; done)
theorem bs_lk {a : Int32} {pc : Nat} {lo : List (Option Value)} {st : List Value} {h : pH} {ps : List (Int × Int)} {df : Int} (hs : fst cd f (pc, lo, .int a :: st, h) = pgo (pc, lo, .int a :: st, h) (Op.lookupswitch.offset ps df a.toInt) st) (hd : ∀ q ∈ ps, a.toInt ≠ q.1) (hg : pgo (pc, lo, .int a :: st, h) df st = some (.inl x')) (k : Bs cd f x' r) : Bs cd f (pc, lo, .int a :: st, h) r := by
  rw [lk_off df _ ps hd, hg] at hs
  exact bs_one hs k
end BS4
/-- LampRounds.forgetFindings() on (0,) -/
def f_186 (n : Nat) (I : FI) (L : FL) : Option (FI × FL) :=
  (f_95 n I L).bind fun q0 =>
  some (q0.1, q0.2)
set_option maxHeartbeats 1000000 in
set_option maxRecDepth 20000 in
theorem t_186 (Ls : Nat) (xs : Nat → Int32) (d : Nat) (nh : Option Nat) (rh : Option Nat) (n : Nat) (I : FI) (L : FL) (r : FI × FL) (hf : f_186 n I L = some r) : pEN Ls xs (d + 2) 186 [.ref 0] (hp none nh rh [] [] I L) = some (none, hp none nh (some 3) [] [] r.1 r.2) := by
  refine en_run (d := d + 1) (cd := cd_186) (f := (sf 11 rs_11 false 1 none Ls xs (d + 1))) rfl rfl (x := (0, [some (.ref 0)], [], hp none nh rh [] [] I L)) rfl rfl (Nat.le_of_ble_eq_true rfl) ?_
  unfold f_186 at hf
  refine bs_st 4 (x' := (8, [some (.ref 0)], [.ref 3, .ref 35], hp none nh rh [] [] I L)) rfl ?_
  obtain ⟨q0, hq0, hf⟩ := Option.bind_eq_some_iff.mp hf
  refine bs_call (o := pEN Ls xs (d + 1) 95 [.ref 35, .ref 3] (hp none nh rh [] [] I L)) (w := none) (h' := hp none nh (some 3) [] [] q0.1 q0.2) (pc := 11) (lo := [some (.ref 0)]) (rest := []) rfl (t_95 Ls xs (d + 0) none [] [] nh rh n I L q0 hq0) ?_
  refine bs_st 3 (x' := (29, [some (.ref 0)], [], hp none nh (some 3) [] [] q0.1 q0.2)) rfl ?_
  cases hf
  exact bs_ret rfl
/-- LampRounds.house() on (0,) -/
def f_115 (n : Nat) (rh : Option Nat) (I : FI) (L : FL) : Option (Int32 × Option Nat × FI × FL) :=
  (f_74 n I L).bind fun q0 =>
  if q0.1 14 1 = 0 then
    (f_17 (u2 q0.1 1 1 (0 : Int32)) q0.2).bind fun q1 =>
    (f_18 n q1.1 q1.2).bind fun q2 =>
    (f_186 n (u2 q2.1 11 2 (0 : Int32)) q2.2).bind fun q3 =>
    some (q3.1 3 0, (some 3), q3.1, q3.2)
  else
    some ((-4 : Int32), rh, (u2 q0.1 1 1 (0 : Int32)), q0.2)
set_option maxHeartbeats 1000000 in
set_option maxRecDepth 20000 in
theorem t_115 (Ls : Nat) (xs : Nat → Int32) (d : Nat) (nh : Option Nat) (rh : Option Nat) (n : Nat) (I : FI) (L : FL) (r : Int32 × Option Nat × FI × FL) (hf : f_115 n rh I L = some r) : pEN Ls xs (d + 9) 115 [.ref 0] (hp none nh rh [] [] I L) = some (some (.int r.1), hp none nh r.2.1 [] [] r.2.2.1 r.2.2.2) := by
  refine en_run (d := d + 8) (cd := cd_115) (f := (sf 11 rs_11 false 1 (some (.int)) Ls xs (d + 8))) rfl rfl (x := (0, [some (.ref 0)], [], hp none nh rh [] [] I L)) rfl rfl (Nat.le_of_ble_eq_true rfl) ?_
  unfold f_115 at hf
  refine bs_st 4 (x' := (8, [some (.ref 0)], [.ref 1, .ref 14], hp none nh rh [] [] I L)) rfl ?_
  obtain ⟨q0, hq0, hf⟩ := Option.bind_eq_some_iff.mp hf
  refine bs_call (o := pEN Ls xs (d + 8) 74 [.ref 14, .ref 1] (hp none nh rh [] [] I L)) (w := none) (h' := hp none nh rh [] [] q0.1 q0.2) (pc := 11) (lo := [some (.ref 0)]) (rest := []) rfl (t_74 Ls xs (d + 0) none [] [] nh rh n I L q0 hq0) ?_
  refine bs_st 7 (x' := (26, [some (.ref 0)], [.int (q0.1 14 1)], hp none nh rh [] [] (u2 q0.1 1 1 (0 : Int32)) q0.2)) rfl ?_
  refine bs_br (t := 32) (e := 29) (lo := [some (.ref 0)]) (st := []) (h := hp none nh rh [] [] (u2 q0.1 1 1 (0 : Int32)) q0.2) rfl hf (fun hc hf => ?_) (fun hc hf => ?_)
  · refine bs_st 5 (x' := (43, [some (.ref 0)], [.ref 15, .ref 3], hp none nh rh [] [] (u2 q0.1 1 1 (0 : Int32)) q0.2)) rfl ?_
    obtain ⟨q1, hq1, hf⟩ := Option.bind_eq_some_iff.mp hf
    refine bs_call (o := pEN Ls xs (d + 8) 17 [.ref 3, .ref 15] (hp none nh rh [] [] (u2 q0.1 1 1 (0 : Int32)) q0.2)) (w := none) (h' := hp none nh rh [] [] q1.1 q1.2) (pc := 46) (lo := [some (.ref 0)]) (rest := []) rfl (t_17 Ls xs (d + 7) none [] [] nh rh (u2 q0.1 1 1 (0 : Int32)) q0.2 q1 hq1) ?_
    refine bs_st 2 (x' := (50, [some (.ref 0)], [.ref 3], hp none nh rh [] [] q1.1 q1.2)) rfl ?_
    obtain ⟨q2, hq2, hf⟩ := Option.bind_eq_some_iff.mp hf
    refine bs_call (o := pEN Ls xs (d + 8) 18 [.ref 3] (hp none nh rh [] [] q1.1 q1.2)) (w := none) (h' := hp none nh rh [] [] q2.1 q2.2) (pc := 53) (lo := [some (.ref 0)]) (rest := []) rfl (t_18 Ls xs (d + 6) none [] [] nh rh n q1.1 q1.2 q2 hq2) ?_
    refine bs_st 5 (x' := (62, [some (.ref 0)], [.ref 0], hp none nh rh [] [] (u2 q2.1 11 2 (0 : Int32)) q2.2)) rfl ?_
    obtain ⟨q3, hq3, hf⟩ := Option.bind_eq_some_iff.mp hf
    refine bs_call (o := pEN Ls xs (d + 8) 186 [.ref 0] (hp none nh rh [] [] (u2 q2.1 11 2 (0 : Int32)) q2.2)) (w := none) (h' := hp none nh (some 3) [] [] q3.1 q3.2) (pc := 65) (lo := [some (.ref 0)]) (rest := []) rfl (t_186 Ls xs (d + 6) nh rh n (u2 q2.1 11 2 (0 : Int32)) q2.2 q3 hq3) ?_
    refine bs_st 3 (x' := (72, [some (.ref 0)], [.int (q3.1 3 0)], hp none nh (some 3) [] [] q3.1 q3.2)) rfl ?_
    cases hf
    exact bs_ret rfl
  · refine bs_st 1 (x' := (31, [some (.ref 0)], [.int (-4 : Int32)], hp none nh rh [] [] (u2 q0.1 1 1 (0 : Int32)) q0.2)) rfl ?_
    cases hf
    exact bs_ret rfl
/-- LampRounds.fault(I) on (0,) -/
def f_116 (x1 : Int32) (I : FI) (L : FL) : Option (Int32) :=
  if x1 = (0 : Int32) then some (I 14 1) else if x1 = (1 : Int32) then some (I 14 2) else some ((-1 : Int32))
set_option maxHeartbeats 1000000 in
set_option maxRecDepth 20000 in
theorem t_116 (Ls : Nat) (xs : Nat → Int32) (d : Nat) (kp : Option Nat) (tl : List (Nat × Nat)) (rl : List (List (Option Nat))) (nh : Option Nat) (rh : Option Nat) (x1 : Int32) (I : FI) (L : FL) (r : Int32) (hf : f_116 x1 I L = some r) : pEN Ls xs (d + 1) 116 [.ref 0, .int x1] (hp kp nh rh tl rl I L) = some (some (.int r), hp kp nh rh tl rl I L) := by
  refine en_run (d := d + 0) (cd := cd_116) (f := (sf 11 rs_11 false 2 (some (.int)) Ls xs (d + 0))) rfl rfl (x := (0, [some (.ref 0), some (.int x1)], [], hp kp nh rh tl rl I L)) rfl rfl (Nat.le_of_ble_eq_true rfl) ?_
  unfold f_116 at hf
  refine bs_st 1 (x' := (1, [some (.ref 0), some (.int x1)], [.int x1], hp kp nh rh tl rl I L)) rfl ?_
  refine bs_cs hf (fun hc hf => ?_) (fun hc0 hf => ?_)
  · refine bs_val hc (x' := (28, [some (.ref 0), some (.int x1)], [], hp kp nh rh tl rl I L)) rfl ?_
    refine bs_st 3 (x' := (35, [some (.ref 0), some (.int x1)], [.int (I 14 1)], hp kp nh rh tl rl I L)) rfl ?_
    cases hf
    exact bs_ret rfl
  refine bs_cs hf (fun hc hf => ?_) (fun hc1 hf => ?_)
  · refine bs_val hc (x' := (36, [some (.ref 0), some (.int x1)], [], hp kp nh rh tl rl I L)) rfl ?_
    refine bs_st 3 (x' := (43, [some (.ref 0), some (.int x1)], [.int (I 14 2)], hp kp nh rh tl rl I L)) rfl ?_
    cases hf
    exact bs_ret rfl
  refine bs_lk (ps := [(0, 27), (1, 35)]) (df := 43) (x' := (44, [some (.ref 0), some (.int x1)], [], hp kp nh rh tl rl I L)) rfl ?_ rfl ?_
  · intro q hq
    rcases List.mem_cons.mp hq with rfl | hq
    · exact fun e => by first | exact hc0 (Int32.toInt_inj.mp e) | exact hc1 (Int32.toInt_inj.mp e)
    rcases List.mem_cons.mp hq with rfl | hq
    · exact fun e => by first | exact hc0 (Int32.toInt_inj.mp e) | exact hc1 (Int32.toInt_inj.mp e)
    cases hq
  refine bs_st 1 (x' := (45, [some (.ref 0), some (.int x1)], [.int (-1 : Int32)], hp kp nh rh tl rl I L)) rfl ?_
  cases hf
  exact bs_ret rfl
/-- LampRounds.keeps(I) on (0,) -/
def f_136 (n : Nat) (x1 : Int32) (I : FI) (L : FL) : Option (Int32 × Bool × FI × FL) :=
  (f_177 I L).bind fun q0 =>
  if q0 = 0 then
    some ((-2 : Int32), false, I, L)
  else
    if x1 < 0 then
      some ((-2 : Int32), false, I, L)
    else
      (f_24 I L).bind fun q1 =>
      if x1 ≤ q1 then
        (f_23 I L).bind fun q2 =>
        (f_findA n I L).bind fun q3 =>
        (f_32 n x1 q3.1 q3.2).bind fun q4 =>
        (f_188 q2 q4.1 q4.2.1 q4.2.2).bind fun q5 =>
        if q5 = 0 then
          some ((0 : Int32), true, q4.2.1, q4.2.2)
        else
          some ((1 : Int32), true, q4.2.1, q4.2.2)
      else
        some ((-2 : Int32), false, I, L)
set_option maxHeartbeats 1000000 in
set_option maxRecDepth 20000 in
theorem t_136 (Ls : Nat) (xs : Nat → Int32) (d : Nat) (nh : Option Nat) (rh : Option Nat) (n : Nat) (x1 : Int32) (I : FI) (L : FL) (r : Int32 × Bool × FI × FL) (hf : f_136 n x1 I L = some r) : pEN Ls xs (d + 6) 136 [.ref 0, .int x1] (hp none nh rh [] [] I L) = some (some (.int r.1), hw r.2.1 nh rh r.2.2.1 r.2.2.2) := by
  refine en_run (d := d + 5) (cd := cd_136) (f := (sf 11 rs_11 false 2 (some (.int)) Ls xs (d + 5))) rfl rfl (x := (0, [some (.ref 0), some (.int x1)], [], hp none nh rh [] [] I L)) rfl rfl (Nat.le_of_ble_eq_true rfl) ?_
  unfold f_136 at hf
  refine bs_st 1 (x' := (1, [some (.ref 0), some (.int x1)], [.ref 0], hp none nh rh [] [] I L)) rfl ?_
  obtain ⟨q0, hq0, hf⟩ := Option.bind_eq_some_iff.mp hf
  refine bs_call (o := pEN Ls xs (d + 5) 177 [.ref 0] (hp none nh rh [] [] I L)) (w := some (.int q0)) (h' := hp none nh rh [] [] I L) (pc := 4) (lo := [some (.ref 0), some (.int x1)]) (rest := []) rfl (t_177 Ls xs (d + 4) none [] [] nh rh I L q0 hq0) ?_
  refine bs_br (t := 22) (e := 7) (lo := [some (.ref 0), some (.int x1)]) (st := []) (h := hp none nh rh [] [] I L) rfl hf (fun hc hf => ?_) (fun hc hf => ?_)
  · refine bs_st 1 (x' := (24, [some (.ref 0), some (.int x1)], [.int (-2 : Int32)], hp none nh rh [] [] I L)) rfl ?_
    cases hf
    exact bs_ret rfl
  · refine bs_st 1 (x' := (8, [some (.ref 0), some (.int x1)], [.int x1], hp none nh rh [] [] I L)) rfl ?_
    refine bs_br (t := 22) (e := 11) (lo := [some (.ref 0), some (.int x1)]) (st := []) (h := hp none nh rh [] [] I L) rfl hf (fun hc hf => ?_) (fun hc hf => ?_)
    · refine bs_st 1 (x' := (24, [some (.ref 0), some (.int x1)], [.int (-2 : Int32)], hp none nh rh [] [] I L)) rfl ?_
      cases hf
      exact bs_ret rfl
    · refine bs_st 3 (x' := (16, [some (.ref 0), some (.int x1)], [.ref 3, .int x1], hp none nh rh [] [] I L)) rfl ?_
      obtain ⟨q1, hq1, hf⟩ := Option.bind_eq_some_iff.mp hf
      refine bs_call (o := pEN Ls xs (d + 5) 24 [.ref 3] (hp none nh rh [] [] I L)) (w := some (.int q1)) (h' := hp none nh rh [] [] I L) (pc := 19) (lo := [some (.ref 0), some (.int x1)]) (rest := [.int x1]) rfl (t_24 Ls xs (d + 4) none [] [] nh rh I L q1 hq1) ?_
      refine bs_br (t := 25) (e := 22) (lo := [some (.ref 0), some (.int x1)]) (st := []) (h := hp none nh rh [] [] I L) rfl hf (fun hc hf => ?_) (fun hc hf => ?_)
      · refine bs_st 2 (x' := (29, [some (.ref 0), some (.int x1)], [.ref 3], hp none nh rh [] [] I L)) rfl ?_
        obtain ⟨q2, hq2, hf⟩ := Option.bind_eq_some_iff.mp hf
        refine bs_call (o := pEN Ls xs (d + 5) 23 [.ref 3] (hp none nh rh [] [] I L)) (w := some (.int q2)) (h' := hp none nh rh [] [] I L) (pc := 32) (lo := [some (.ref 0), some (.int x1)]) (rest := []) rfl (t_23 Ls xs (d + 4) none [] [] nh rh I L q2 hq2) ?_
        refine bs_st 1 (x' := (33, [some (.ref 0), some (.int x1)], [.ref 0, .int q2], hp none nh rh [] [] I L)) rfl ?_
        obtain ⟨q3, hq3, hf⟩ := Option.bind_eq_some_iff.mp hf
        refine bs_call (o := pEN Ls xs (d + 5) 187 [.ref 0] (hp none nh rh [] [] I L)) (w := some (.ref 114)) (h' := hp (some 114) nh rh TK (RK (some 3)) q3.1 q3.2) (pc := 36) (lo := [some (.ref 0), some (.int x1)]) (rest := [.int q2]) rfl (t_findA Ls xs (d + 2) nh rh n I L q3 hq3) ?_
        refine bs_st 1 (x' := (37, [some (.ref 0), some (.int x1)], [.int x1, .ref 114, .int q2], hp (some 114) nh rh TK (RK (some 3)) q3.1 q3.2)) rfl ?_
        obtain ⟨q4, hq4, hf⟩ := Option.bind_eq_some_iff.mp hf
        refine bs_call (o := pEN Ls xs (d + 5) 32 [.ref 114, .int x1] (hp (some 114) nh rh TK (RK (some 3)) q3.1 q3.2)) (w := some (.int q4.1)) (h' := hp (some 114) nh rh TK (RK (some 3)) q4.2.1 q4.2.2) (pc := 40) (lo := [some (.ref 0), some (.int x1)]) (rest := [.int q2]) rfl (t_32 Ls xs (d + 0) nh rh n x1 q3.1 q3.2 q4 hq4) ?_
        obtain ⟨q5, hq5, hf⟩ := Option.bind_eq_some_iff.mp hf
        refine bs_call (o := pEN Ls xs (d + 5) 188 [.int q2, .int q4.1] (hp (some 114) nh rh TK (RK (some 3)) q4.2.1 q4.2.2)) (w := some (.int q5)) (h' := hp (some 114) nh rh TK (RK (some 3)) q4.2.1 q4.2.2) (pc := 43) (lo := [some (.ref 0), some (.int x1)]) (rest := []) rfl (t_188 Ls xs (d + 4) (some 114) TK (RK (some 3)) nh rh q2 q4.1 q4.2.1 q4.2.2 q5 hq5) ?_
        refine bs_br (t := 50) (e := 46) (lo := [some (.ref 0), some (.int x1)]) (st := []) (h := hp (some 114) nh rh TK (RK (some 3)) q4.2.1 q4.2.2) rfl hf (fun hc hf => ?_) (fun hc hf => ?_)
        · refine bs_st 1 (x' := (51, [some (.ref 0), some (.int x1)], [.int (0 : Int32)], hp (some 114) nh rh TK (RK (some 3)) q4.2.1 q4.2.2)) rfl ?_
          cases hf
          exact bs_ret rfl
        · refine bs_st 2 (x' := (51, [some (.ref 0), some (.int x1)], [.int (1 : Int32)], hp (some 114) nh rh TK (RK (some 3)) q4.2.1 q4.2.2)) rfl ?_
          cases hf
          exact bs_ret rfl
      · refine bs_st 1 (x' := (24, [some (.ref 0), some (.int x1)], [.int (-2 : Int32)], hp none nh rh [] [] I L)) rfl ?_
        cases hf
        exact bs_ret rfl
/-- LampRounds.states() on (0,) -/
def f_137 (n : Nat) (I : FI) (L : FL) : Option (Int32 × Bool × FI × FL) :=
  (f_177 I L).bind fun q0 =>
  if q0 = 0 then
    some ((-2 : Int32), false, I, L)
  else
    (f_findA n I L).bind fun q1 =>
    (f_33 n q1.1 q1.2).bind fun q2 =>
    some (q2.1, true, q2.2.1, q2.2.2)
set_option maxHeartbeats 1000000 in
set_option maxRecDepth 20000 in
theorem t_137 (Ls : Nat) (xs : Nat → Int32) (d : Nat) (nh : Option Nat) (rh : Option Nat) (n : Nat) (I : FI) (L : FL) (r : Int32 × Bool × FI × FL) (hf : f_137 n I L = some r) : pEN Ls xs (d + 6) 137 [.ref 0] (hp none nh rh [] [] I L) = some (some (.int r.1), hw r.2.1 nh rh r.2.2.1 r.2.2.2) := by
  refine en_run (d := d + 5) (cd := cd_137) (f := (sf 11 rs_11 false 1 (some (.int)) Ls xs (d + 5))) rfl rfl (x := (0, [some (.ref 0)], [], hp none nh rh [] [] I L)) rfl rfl (Nat.le_of_ble_eq_true rfl) ?_
  unfold f_137 at hf
  refine bs_st 1 (x' := (1, [some (.ref 0)], [.ref 0], hp none nh rh [] [] I L)) rfl ?_
  obtain ⟨q0, hq0, hf⟩ := Option.bind_eq_some_iff.mp hf
  refine bs_call (o := pEN Ls xs (d + 5) 177 [.ref 0] (hp none nh rh [] [] I L)) (w := some (.int q0)) (h' := hp none nh rh [] [] I L) (pc := 4) (lo := [some (.ref 0)]) (rest := []) rfl (t_177 Ls xs (d + 4) none [] [] nh rh I L q0 hq0) ?_
  refine bs_br (t := 17) (e := 7) (lo := [some (.ref 0)]) (st := []) (h := hp none nh rh [] [] I L) rfl hf (fun hc hf => ?_) (fun hc hf => ?_)
  · refine bs_st 1 (x' := (19, [some (.ref 0)], [.int (-2 : Int32)], hp none nh rh [] [] I L)) rfl ?_
    cases hf
    exact bs_ret rfl
  · refine bs_st 1 (x' := (8, [some (.ref 0)], [.ref 0], hp none nh rh [] [] I L)) rfl ?_
    obtain ⟨q1, hq1, hf⟩ := Option.bind_eq_some_iff.mp hf
    refine bs_call (o := pEN Ls xs (d + 5) 187 [.ref 0] (hp none nh rh [] [] I L)) (w := some (.ref 114)) (h' := hp (some 114) nh rh TK (RK (some 3)) q1.1 q1.2) (pc := 11) (lo := [some (.ref 0)]) (rest := []) rfl (t_findA Ls xs (d + 2) nh rh n I L q1 hq1) ?_
    obtain ⟨q2, hq2, hf⟩ := Option.bind_eq_some_iff.mp hf
    refine bs_call (o := pEN Ls xs (d + 5) 33 [.ref 114] (hp (some 114) nh rh TK (RK (some 3)) q1.1 q1.2)) (w := some (.int q2.1)) (h' := hp (some 114) nh rh TK (RK (some 3)) q2.2.1 q2.2.2) (pc := 14) (lo := [some (.ref 0)]) (rest := []) rfl (t_33 Ls xs (d + 0) nh rh n q1.1 q1.2 q2 hq2) ?_
    refine bs_st 1 (x' := (19, [some (.ref 0)], [.int q2.1], hp (some 114) nh rh TK (RK (some 3)) q2.2.1 q2.2.2)) rfl ?_
    cases hf
    exact bs_ret rfl
/-- LampRounds.next() on (0,) -/
def f_138 (n : Nat) (I : FI) (L : FL) : Option (Int32 × Bool × FI × FL) :=
  (f_177 I L).bind fun q0 =>
  if q0 = 0 then
    some ((-2 : Int32), false, I, L)
  else
    (f_findA n I L).bind fun q1 =>
    (f_34 n q1.1 q1.2).bind fun q2 =>
    some (q2.1, true, q2.2.1, q2.2.2)
set_option maxHeartbeats 1000000 in
set_option maxRecDepth 20000 in
theorem t_138 (Ls : Nat) (xs : Nat → Int32) (d : Nat) (nh : Option Nat) (rh : Option Nat) (n : Nat) (I : FI) (L : FL) (r : Int32 × Bool × FI × FL) (hf : f_138 n I L = some r) : pEN Ls xs (d + 6) 138 [.ref 0] (hp none nh rh [] [] I L) = some (some (.int r.1), hw r.2.1 nh rh r.2.2.1 r.2.2.2) := by
  refine en_run (d := d + 5) (cd := cd_138) (f := (sf 11 rs_11 false 1 (some (.int)) Ls xs (d + 5))) rfl rfl (x := (0, [some (.ref 0)], [], hp none nh rh [] [] I L)) rfl rfl (Nat.le_of_ble_eq_true rfl) ?_
  unfold f_138 at hf
  refine bs_st 1 (x' := (1, [some (.ref 0)], [.ref 0], hp none nh rh [] [] I L)) rfl ?_
  obtain ⟨q0, hq0, hf⟩ := Option.bind_eq_some_iff.mp hf
  refine bs_call (o := pEN Ls xs (d + 5) 177 [.ref 0] (hp none nh rh [] [] I L)) (w := some (.int q0)) (h' := hp none nh rh [] [] I L) (pc := 4) (lo := [some (.ref 0)]) (rest := []) rfl (t_177 Ls xs (d + 4) none [] [] nh rh I L q0 hq0) ?_
  refine bs_br (t := 17) (e := 7) (lo := [some (.ref 0)]) (st := []) (h := hp none nh rh [] [] I L) rfl hf (fun hc hf => ?_) (fun hc hf => ?_)
  · refine bs_st 1 (x' := (19, [some (.ref 0)], [.int (-2 : Int32)], hp none nh rh [] [] I L)) rfl ?_
    cases hf
    exact bs_ret rfl
  · refine bs_st 1 (x' := (8, [some (.ref 0)], [.ref 0], hp none nh rh [] [] I L)) rfl ?_
    obtain ⟨q1, hq1, hf⟩ := Option.bind_eq_some_iff.mp hf
    refine bs_call (o := pEN Ls xs (d + 5) 187 [.ref 0] (hp none nh rh [] [] I L)) (w := some (.ref 114)) (h' := hp (some 114) nh rh TK (RK (some 3)) q1.1 q1.2) (pc := 11) (lo := [some (.ref 0)]) (rest := []) rfl (t_findA Ls xs (d + 2) nh rh n I L q1 hq1) ?_
    obtain ⟨q2, hq2, hf⟩ := Option.bind_eq_some_iff.mp hf
    refine bs_call (o := pEN Ls xs (d + 5) 34 [.ref 114] (hp (some 114) nh rh TK (RK (some 3)) q1.1 q1.2)) (w := some (.int q2.1)) (h' := hp (some 114) nh rh TK (RK (some 3)) q2.2.1 q2.2.2) (pc := 14) (lo := [some (.ref 0)]) (rest := []) rfl (t_34 Ls xs (d + 0) nh rh n q1.1 q1.2 q2 hq2) ?_
    refine bs_st 1 (x' := (19, [some (.ref 0)], [.int q2.1], hp (some 114) nh rh TK (RK (some 3)) q2.2.1 q2.2.2)) rfl ?_
    cases hf
    exact bs_ret rfl
/-- LampRounds.longest() on (0,) -/
def f_139 (n : Nat) (I : FI) (L : FL) : Option (Int32 × Bool × FI × FL) :=
  (f_177 I L).bind fun q0 =>
  if q0 = 0 then
    some ((-2 : Int32), false, I, L)
  else
    (f_findA n I L).bind fun q1 =>
    (f_35 n q1.1 q1.2).bind fun q2 =>
    some (q2.1, true, q2.2.1, q2.2.2)
set_option maxHeartbeats 1000000 in
set_option maxRecDepth 20000 in
theorem t_139 (Ls : Nat) (xs : Nat → Int32) (d : Nat) (nh : Option Nat) (rh : Option Nat) (n : Nat) (I : FI) (L : FL) (r : Int32 × Bool × FI × FL) (hf : f_139 n I L = some r) : pEN Ls xs (d + 6) 139 [.ref 0] (hp none nh rh [] [] I L) = some (some (.int r.1), hw r.2.1 nh rh r.2.2.1 r.2.2.2) := by
  refine en_run (d := d + 5) (cd := cd_139) (f := (sf 11 rs_11 false 1 (some (.int)) Ls xs (d + 5))) rfl rfl (x := (0, [some (.ref 0)], [], hp none nh rh [] [] I L)) rfl rfl (Nat.le_of_ble_eq_true rfl) ?_
  unfold f_139 at hf
  refine bs_st 1 (x' := (1, [some (.ref 0)], [.ref 0], hp none nh rh [] [] I L)) rfl ?_
  obtain ⟨q0, hq0, hf⟩ := Option.bind_eq_some_iff.mp hf
  refine bs_call (o := pEN Ls xs (d + 5) 177 [.ref 0] (hp none nh rh [] [] I L)) (w := some (.int q0)) (h' := hp none nh rh [] [] I L) (pc := 4) (lo := [some (.ref 0)]) (rest := []) rfl (t_177 Ls xs (d + 4) none [] [] nh rh I L q0 hq0) ?_
  refine bs_br (t := 17) (e := 7) (lo := [some (.ref 0)]) (st := []) (h := hp none nh rh [] [] I L) rfl hf (fun hc hf => ?_) (fun hc hf => ?_)
  · refine bs_st 1 (x' := (19, [some (.ref 0)], [.int (-2 : Int32)], hp none nh rh [] [] I L)) rfl ?_
    cases hf
    exact bs_ret rfl
  · refine bs_st 1 (x' := (8, [some (.ref 0)], [.ref 0], hp none nh rh [] [] I L)) rfl ?_
    obtain ⟨q1, hq1, hf⟩ := Option.bind_eq_some_iff.mp hf
    refine bs_call (o := pEN Ls xs (d + 5) 187 [.ref 0] (hp none nh rh [] [] I L)) (w := some (.ref 114)) (h' := hp (some 114) nh rh TK (RK (some 3)) q1.1 q1.2) (pc := 11) (lo := [some (.ref 0)]) (rest := []) rfl (t_findA Ls xs (d + 2) nh rh n I L q1 hq1) ?_
    obtain ⟨q2, hq2, hf⟩ := Option.bind_eq_some_iff.mp hf
    refine bs_call (o := pEN Ls xs (d + 5) 35 [.ref 114] (hp (some 114) nh rh TK (RK (some 3)) q1.1 q1.2)) (w := some (.int q2.1)) (h' := hp (some 114) nh rh TK (RK (some 3)) q2.2.1 q2.2.2) (pc := 14) (lo := [some (.ref 0)]) (rest := []) rfl (t_35 Ls xs (d + 0) nh rh n q1.1 q1.2 q2 hq2) ?_
    refine bs_st 1 (x' := (19, [some (.ref 0)], [.int q2.1], hp (some 114) nh rh TK (RK (some 3)) q2.2.1 q2.2.2)) rfl ?_
    cases hf
    exact bs_ret rfl
/-- LampRounds.bestKeptSet() on (0,) -/
def c_189_1 (n : Nat) (K0 : Int32 → Int32 → FI → FL → Option (Int32 × Bool × FI × FL)) (x1 : Int32) (x2 : Int32) (I : FI) (L : FL) : Option (Int32 × Bool × FI × FL) :=
  K0 x1 (x2 + (1 : Int32)) I L
set_option maxHeartbeats 1000000 in
set_option maxRecDepth 20000 in
theorem tc_189_1 (Ls : Nat) (xs : Nat → Int32) (d : Nat) (nh : Option Nat) (rh : Option Nat) (n : Nat) (K0 : Int32 → Int32 → FI → FL → Option (Int32 × Bool × FI × FL)) (hK0 : ∀ (x1 : Int32) (x2 : Int32) (I : FI) (L : FL) (r : Int32 × Bool × FI × FL), K0 x1 x2 I L = some r → Bs cd_189 (sf 11 rs_11 false 3 (some (.int)) Ls xs (d + 5)) (4, [some (.ref 0), some (.int x1), some (.int x2)], [], hp none nh rh [] [] I L) (some (.int r.1), hw r.2.1 nh rh r.2.2.1 r.2.2.2)) (x1 : Int32) (x2 : Int32) (I : FI) (L : FL) (r : Int32 × Bool × FI × FL) (hf : c_189_1 n K0 x1 x2 I L = some r) : Bs cd_189 (sf 11 rs_11 false 3 (some (.int)) Ls xs (d + 5)) (57, [some (.ref 0), some (.int x1), some (.int x2)], [], hp none nh rh [] [] I L) (some (.int r.1), hw r.2.1 nh rh r.2.2.1 r.2.2.2) := by
  unfold c_189_1 at hf
  refine bs_st 2 (x' := (4, [some (.ref 0), some (.int x1), some (.int (x2 + (1 : Int32)))], [], hp none nh rh [] [] I L)) rfl ?_
  exact hK0 x1 (x2 + (1 : Int32)) I L r hf
def c_189_3 (n : Nat) (K2 : Int32 → Int32 → FI → FL → Option (Int32 × Bool × FI × FL)) (x1 : Int32) (x2 : Int32) (I : FI) (L : FL) : Option (Int32 × Bool × FI × FL) :=
  (f_24 I L).bind fun q7 =>
  if q7 < x2 then
    some (x1, true, I, L)
  else
    (f_25_1 n x2 I L).bind fun q8 =>
    (f_25_1 n x1 I L).bind fun q9 =>
    if q8 ≤ q9 then
      K2 x1 x2 I L
    else
      (f_23 I L).bind fun q10 =>
      (f_187 I L).bind fun q11 =>
      (f_32 n x2 q11.1 q11.2).bind fun q12 =>
      (f_188 q10 q12.1 q12.2.1 q12.2.2).bind fun q13 =>
      if q13 = 0 then
        K2 x1 x2 q12.2.1 q12.2.2
      else
        K2 x2 x2 q12.2.1 q12.2.2
set_option maxHeartbeats 1000000 in
set_option maxRecDepth 20000 in
theorem tc_189_3 (Ls : Nat) (xs : Nat → Int32) (d : Nat) (nh : Option Nat) (rh : Option Nat) (n : Nat) (K2 : Int32 → Int32 → FI → FL → Option (Int32 × Bool × FI × FL)) (hK2 : ∀ (x1 : Int32) (x2 : Int32) (I : FI) (L : FL) (r : Int32 × Bool × FI × FL), K2 x1 x2 I L = some r → Bs cd_189 (sf 11 rs_11 false 3 (some (.int)) Ls xs (d + 5)) (57, [some (.ref 0), some (.int x1), some (.int x2)], [], hp (some 114) nh rh TK (RK (some 3)) I L) (some (.int r.1), hw r.2.1 nh rh r.2.2.1 r.2.2.2)) (x1 : Int32) (x2 : Int32) (I : FI) (L : FL) (r : Int32 × Bool × FI × FL) (hf : c_189_3 n K2 x1 x2 I L = some r) : Bs cd_189 (sf 11 rs_11 false 3 (some (.int)) Ls xs (d + 5)) (4, [some (.ref 0), some (.int x1), some (.int x2)], [], hp (some 114) nh rh TK (RK (some 3)) I L) (some (.int r.1), hw r.2.1 nh rh r.2.2.1 r.2.2.2) := by
  unfold c_189_3 at hf
  refine bs_st 3 (x' := (9, [some (.ref 0), some (.int x1), some (.int x2)], [.ref 3, .int x2], hp (some 114) nh rh TK (RK (some 3)) I L)) rfl ?_
  obtain ⟨q7, hq7, hf⟩ := Option.bind_eq_some_iff.mp hf
  refine bs_call (o := pEN Ls xs (d + 5) 24 [.ref 3] (hp (some 114) nh rh TK (RK (some 3)) I L)) (w := some (.int q7)) (h' := hp (some 114) nh rh TK (RK (some 3)) I L) (pc := 12) (lo := [some (.ref 0), some (.int x1), some (.int x2)]) (rest := [.int x2]) rfl (t_24 Ls xs (d + 4) (some 114) TK (RK (some 3)) nh rh I L q7 hq7) ?_
  refine bs_br (t := 63) (e := 15) (lo := [some (.ref 0), some (.int x1), some (.int x2)]) (st := []) (h := hp (some 114) nh rh TK (RK (some 3)) I L) rfl hf (fun hc hf => ?_) (fun hc hf => ?_)
  · refine bs_st 1 (x' := (64, [some (.ref 0), some (.int x1), some (.int x2)], [.int x1], hp (some 114) nh rh TK (RK (some 3)) I L)) rfl ?_
    cases hf
    exact bs_ret rfl
  · refine bs_st 3 (x' := (20, [some (.ref 0), some (.int x1), some (.int x2)], [.int x2, .ref 3], hp (some 114) nh rh TK (RK (some 3)) I L)) rfl ?_
    obtain ⟨q8, hq8, hf⟩ := Option.bind_eq_some_iff.mp hf
    refine bs_call (o := pEN Ls xs (d + 5) 25 [.ref 3, .int x2] (hp (some 114) nh rh TK (RK (some 3)) I L)) (w := some (.int q8)) (h' := hp (some 114) nh rh TK (RK (some 3)) I L) (pc := 23) (lo := [some (.ref 0), some (.int x1), some (.int x2)]) (rest := []) rfl (t_25_1 Ls xs (d + 4) (some 114) TK (RK (some 3)) nh rh n x2 I L q8 hq8) ?_
    refine bs_st 3 (x' := (28, [some (.ref 0), some (.int x1), some (.int x2)], [.int x1, .ref 3, .int q8], hp (some 114) nh rh TK (RK (some 3)) I L)) rfl ?_
    obtain ⟨q9, hq9, hf⟩ := Option.bind_eq_some_iff.mp hf
    refine bs_call (o := pEN Ls xs (d + 5) 25 [.ref 3, .int x1] (hp (some 114) nh rh TK (RK (some 3)) I L)) (w := some (.int q9)) (h' := hp (some 114) nh rh TK (RK (some 3)) I L) (pc := 31) (lo := [some (.ref 0), some (.int x1), some (.int x2)]) (rest := [.int q8]) rfl (t_25_1 Ls xs (d + 4) (some 114) TK (RK (some 3)) nh rh n x1 I L q9 hq9) ?_
    refine bs_br (t := 57) (e := 34) (lo := [some (.ref 0), some (.int x1), some (.int x2)]) (st := []) (h := hp (some 114) nh rh TK (RK (some 3)) I L) rfl hf (fun hc hf => ?_) (fun hc hf => ?_)
    · exact hK2 x1 x2 I L r hf
    · refine bs_st 2 (x' := (38, [some (.ref 0), some (.int x1), some (.int x2)], [.ref 3], hp (some 114) nh rh TK (RK (some 3)) I L)) rfl ?_
      obtain ⟨q10, hq10, hf⟩ := Option.bind_eq_some_iff.mp hf
      refine bs_call (o := pEN Ls xs (d + 5) 23 [.ref 3] (hp (some 114) nh rh TK (RK (some 3)) I L)) (w := some (.int q10)) (h' := hp (some 114) nh rh TK (RK (some 3)) I L) (pc := 41) (lo := [some (.ref 0), some (.int x1), some (.int x2)]) (rest := []) rfl (t_23 Ls xs (d + 4) (some 114) TK (RK (some 3)) nh rh I L q10 hq10) ?_
      refine bs_st 1 (x' := (42, [some (.ref 0), some (.int x1), some (.int x2)], [.ref 0, .int q10], hp (some 114) nh rh TK (RK (some 3)) I L)) rfl ?_
      obtain ⟨q11, hq11, hf⟩ := Option.bind_eq_some_iff.mp hf
      refine bs_call (o := pEN Ls xs (d + 5) 187 [.ref 0] (hp (some 114) nh rh TK (RK (some 3)) I L)) (w := some (.ref 114)) (h' := hp (some 114) nh rh TK (RK (some 3)) q11.1 q11.2) (pc := 45) (lo := [some (.ref 0), some (.int x1), some (.int x2)]) (rest := [.int q10]) rfl (t_187 Ls xs (d + 4) nh rh I L q11 hq11) ?_
      refine bs_st 1 (x' := (46, [some (.ref 0), some (.int x1), some (.int x2)], [.int x2, .ref 114, .int q10], hp (some 114) nh rh TK (RK (some 3)) q11.1 q11.2)) rfl ?_
      obtain ⟨q12, hq12, hf⟩ := Option.bind_eq_some_iff.mp hf
      refine bs_call (o := pEN Ls xs (d + 5) 32 [.ref 114, .int x2] (hp (some 114) nh rh TK (RK (some 3)) q11.1 q11.2)) (w := some (.int q12.1)) (h' := hp (some 114) nh rh TK (RK (some 3)) q12.2.1 q12.2.2) (pc := 49) (lo := [some (.ref 0), some (.int x1), some (.int x2)]) (rest := [.int q10]) rfl (t_32 Ls xs (d + 0) nh rh n x2 q11.1 q11.2 q12 hq12) ?_
      obtain ⟨q13, hq13, hf⟩ := Option.bind_eq_some_iff.mp hf
      refine bs_call (o := pEN Ls xs (d + 5) 188 [.int q10, .int q12.1] (hp (some 114) nh rh TK (RK (some 3)) q12.2.1 q12.2.2)) (w := some (.int q13)) (h' := hp (some 114) nh rh TK (RK (some 3)) q12.2.1 q12.2.2) (pc := 52) (lo := [some (.ref 0), some (.int x1), some (.int x2)]) (rest := []) rfl (t_188 Ls xs (d + 4) (some 114) TK (RK (some 3)) nh rh q10 q12.1 q12.2.1 q12.2.2 q13 hq13) ?_
      refine bs_br (t := 57) (e := 55) (lo := [some (.ref 0), some (.int x1), some (.int x2)]) (st := []) (h := hp (some 114) nh rh TK (RK (some 3)) q12.2.1 q12.2.2) rfl hf (fun hc hf => ?_) (fun hc hf => ?_)
      · exact hK2 x1 x2 q12.2.1 q12.2.2 r hf
      · refine bs_st 2 (x' := (57, [some (.ref 0), some (.int x2), some (.int x2)], [], hp (some 114) nh rh TK (RK (some 3)) q12.2.1 q12.2.2)) rfl ?_
        exact hK2 x2 x2 q12.2.1 q12.2.2 r hf
def b_189_2 (n : Nat) (K2 : Int32 → Int32 → FI → FL → Option (Int32 × Bool × FI × FL)) (x1 : Int32) (x2 : Int32) (I : FI) (L : FL) : Option (Int32 × Bool × FI × FL) :=
  c_189_3 n K2 x1 (x2 + (1 : Int32)) I L
def c_189_2 (n : Nat) : Nat → Int32 → Int32 → FI → FL → Option (Int32 × Bool × FI × FL)
  | 0, _, _, _, _ => none
  | m + 1, x1, x2, I, L => b_189_2 n (c_189_2 n m) x1 x2 I L
set_option maxHeartbeats 1000000 in
set_option maxRecDepth 20000 in
theorem tc_189_2 (Ls : Nat) (xs : Nat → Int32) (d : Nat) (nh : Option Nat) (rh : Option Nat) (n : Nat) : ∀ (m : Nat) (x1 : Int32) (x2 : Int32) (I : FI) (L : FL) (r : Int32 × Bool × FI × FL), c_189_2 n m x1 x2 I L = some r → Bs cd_189 (sf 11 rs_11 false 3 (some (.int)) Ls xs (d + 5)) (57, [some (.ref 0), some (.int x1), some (.int x2)], [], hp (some 114) nh rh TK (RK (some 3)) I L) (some (.int r.1), hw r.2.1 nh rh r.2.2.1 r.2.2.2)
  | 0, x1, x2, I, L, r, hf => by cases hf
  | m + 1, x1, x2, I, L, r, hf => by
    unfold c_189_2 b_189_2 at hf
    have hK2 := tc_189_2 Ls xs d nh rh n m
    refine bs_st 2 (x' := (4, [some (.ref 0), some (.int x1), some (.int (x2 + (1 : Int32)))], [], hp (some 114) nh rh TK (RK (some 3)) I L)) rfl ?_
    exact tc_189_3 Ls xs d nh rh n _ hK2 x1 (x2 + (1 : Int32)) I L r hf
def b_189_0 (n : Nat) (K0 : Int32 → Int32 → FI → FL → Option (Int32 × Bool × FI × FL)) (x1 : Int32) (x2 : Int32) (I : FI) (L : FL) : Option (Int32 × Bool × FI × FL) :=
  (f_24 I L).bind fun q0 =>
  if q0 < x2 then
    some (x1, false, I, L)
  else
    (f_25_1 n x2 I L).bind fun q1 =>
    (f_25_1 n x1 I L).bind fun q2 =>
    if q1 ≤ q2 then
      c_189_1 n K0 x1 x2 I L
    else
      (f_23 I L).bind fun q3 =>
      (f_findA n I L).bind fun q4 =>
      (f_32 n x2 q4.1 q4.2).bind fun q5 =>
      (f_188 q3 q5.1 q5.2.1 q5.2.2).bind fun q6 =>
      if q6 = 0 then
        c_189_2 n n x1 x2 q5.2.1 q5.2.2
      else
        c_189_2 n n x2 x2 q5.2.1 q5.2.2
def c_189_0 (n : Nat) : Nat → Int32 → Int32 → FI → FL → Option (Int32 × Bool × FI × FL)
  | 0, _, _, _, _ => none
  | m + 1, x1, x2, I, L => b_189_0 n (c_189_0 n m) x1 x2 I L
set_option maxHeartbeats 1000000 in
set_option maxRecDepth 20000 in
theorem tc_189_0 (Ls : Nat) (xs : Nat → Int32) (d : Nat) (nh : Option Nat) (rh : Option Nat) (n : Nat) : ∀ (m : Nat) (x1 : Int32) (x2 : Int32) (I : FI) (L : FL) (r : Int32 × Bool × FI × FL), c_189_0 n m x1 x2 I L = some r → Bs cd_189 (sf 11 rs_11 false 3 (some (.int)) Ls xs (d + 5)) (4, [some (.ref 0), some (.int x1), some (.int x2)], [], hp none nh rh [] [] I L) (some (.int r.1), hw r.2.1 nh rh r.2.2.1 r.2.2.2)
  | 0, x1, x2, I, L, r, hf => by cases hf
  | m + 1, x1, x2, I, L, r, hf => by
    unfold c_189_0 b_189_0 at hf
    have hK0 := tc_189_0 Ls xs d nh rh n m
    refine bs_st 3 (x' := (9, [some (.ref 0), some (.int x1), some (.int x2)], [.ref 3, .int x2], hp none nh rh [] [] I L)) rfl ?_
    obtain ⟨q0, hq0, hf⟩ := Option.bind_eq_some_iff.mp hf
    refine bs_call (o := pEN Ls xs (d + 5) 24 [.ref 3] (hp none nh rh [] [] I L)) (w := some (.int q0)) (h' := hp none nh rh [] [] I L) (pc := 12) (lo := [some (.ref 0), some (.int x1), some (.int x2)]) (rest := [.int x2]) rfl (t_24 Ls xs (d + 4) none [] [] nh rh I L q0 hq0) ?_
    refine bs_br (t := 63) (e := 15) (lo := [some (.ref 0), some (.int x1), some (.int x2)]) (st := []) (h := hp none nh rh [] [] I L) rfl hf (fun hc hf => ?_) (fun hc hf => ?_)
    · refine bs_st 1 (x' := (64, [some (.ref 0), some (.int x1), some (.int x2)], [.int x1], hp none nh rh [] [] I L)) rfl ?_
      cases hf
      exact bs_ret rfl
    · refine bs_st 3 (x' := (20, [some (.ref 0), some (.int x1), some (.int x2)], [.int x2, .ref 3], hp none nh rh [] [] I L)) rfl ?_
      obtain ⟨q1, hq1, hf⟩ := Option.bind_eq_some_iff.mp hf
      refine bs_call (o := pEN Ls xs (d + 5) 25 [.ref 3, .int x2] (hp none nh rh [] [] I L)) (w := some (.int q1)) (h' := hp none nh rh [] [] I L) (pc := 23) (lo := [some (.ref 0), some (.int x1), some (.int x2)]) (rest := []) rfl (t_25_1 Ls xs (d + 4) none [] [] nh rh n x2 I L q1 hq1) ?_
      refine bs_st 3 (x' := (28, [some (.ref 0), some (.int x1), some (.int x2)], [.int x1, .ref 3, .int q1], hp none nh rh [] [] I L)) rfl ?_
      obtain ⟨q2, hq2, hf⟩ := Option.bind_eq_some_iff.mp hf
      refine bs_call (o := pEN Ls xs (d + 5) 25 [.ref 3, .int x1] (hp none nh rh [] [] I L)) (w := some (.int q2)) (h' := hp none nh rh [] [] I L) (pc := 31) (lo := [some (.ref 0), some (.int x1), some (.int x2)]) (rest := [.int q1]) rfl (t_25_1 Ls xs (d + 4) none [] [] nh rh n x1 I L q2 hq2) ?_
      refine bs_br (t := 57) (e := 34) (lo := [some (.ref 0), some (.int x1), some (.int x2)]) (st := []) (h := hp none nh rh [] [] I L) rfl hf (fun hc hf => ?_) (fun hc hf => ?_)
      · exact tc_189_1 Ls xs d nh rh n _ hK0 x1 x2 I L r hf
      · refine bs_st 2 (x' := (38, [some (.ref 0), some (.int x1), some (.int x2)], [.ref 3], hp none nh rh [] [] I L)) rfl ?_
        obtain ⟨q3, hq3, hf⟩ := Option.bind_eq_some_iff.mp hf
        refine bs_call (o := pEN Ls xs (d + 5) 23 [.ref 3] (hp none nh rh [] [] I L)) (w := some (.int q3)) (h' := hp none nh rh [] [] I L) (pc := 41) (lo := [some (.ref 0), some (.int x1), some (.int x2)]) (rest := []) rfl (t_23 Ls xs (d + 4) none [] [] nh rh I L q3 hq3) ?_
        refine bs_st 1 (x' := (42, [some (.ref 0), some (.int x1), some (.int x2)], [.ref 0, .int q3], hp none nh rh [] [] I L)) rfl ?_
        obtain ⟨q4, hq4, hf⟩ := Option.bind_eq_some_iff.mp hf
        refine bs_call (o := pEN Ls xs (d + 5) 187 [.ref 0] (hp none nh rh [] [] I L)) (w := some (.ref 114)) (h' := hp (some 114) nh rh TK (RK (some 3)) q4.1 q4.2) (pc := 45) (lo := [some (.ref 0), some (.int x1), some (.int x2)]) (rest := [.int q3]) rfl (t_findA Ls xs (d + 2) nh rh n I L q4 hq4) ?_
        refine bs_st 1 (x' := (46, [some (.ref 0), some (.int x1), some (.int x2)], [.int x2, .ref 114, .int q3], hp (some 114) nh rh TK (RK (some 3)) q4.1 q4.2)) rfl ?_
        obtain ⟨q5, hq5, hf⟩ := Option.bind_eq_some_iff.mp hf
        refine bs_call (o := pEN Ls xs (d + 5) 32 [.ref 114, .int x2] (hp (some 114) nh rh TK (RK (some 3)) q4.1 q4.2)) (w := some (.int q5.1)) (h' := hp (some 114) nh rh TK (RK (some 3)) q5.2.1 q5.2.2) (pc := 49) (lo := [some (.ref 0), some (.int x1), some (.int x2)]) (rest := [.int q3]) rfl (t_32 Ls xs (d + 0) nh rh n x2 q4.1 q4.2 q5 hq5) ?_
        obtain ⟨q6, hq6, hf⟩ := Option.bind_eq_some_iff.mp hf
        refine bs_call (o := pEN Ls xs (d + 5) 188 [.int q3, .int q5.1] (hp (some 114) nh rh TK (RK (some 3)) q5.2.1 q5.2.2)) (w := some (.int q6)) (h' := hp (some 114) nh rh TK (RK (some 3)) q5.2.1 q5.2.2) (pc := 52) (lo := [some (.ref 0), some (.int x1), some (.int x2)]) (rest := []) rfl (t_188 Ls xs (d + 4) (some 114) TK (RK (some 3)) nh rh q3 q5.1 q5.2.1 q5.2.2 q6 hq6) ?_
        refine bs_br (t := 57) (e := 55) (lo := [some (.ref 0), some (.int x1), some (.int x2)]) (st := []) (h := hp (some 114) nh rh TK (RK (some 3)) q5.2.1 q5.2.2) rfl hf (fun hc hf => ?_) (fun hc hf => ?_)
        · exact tc_189_2 Ls xs d nh rh n n x1 x2 q5.2.1 q5.2.2 r hf
        · refine bs_st 2 (x' := (57, [some (.ref 0), some (.int x2), some (.int x2)], [], hp (some 114) nh rh TK (RK (some 3)) q5.2.1 q5.2.2)) rfl ?_
          exact tc_189_2 Ls xs d nh rh n n x2 x2 q5.2.1 q5.2.2 r hf
def f_189 (n : Nat) (I : FI) (L : FL) : Option (Int32 × Bool × FI × FL) :=
  c_189_0 n n (0 : Int32) (1 : Int32) I L
set_option maxHeartbeats 1000000 in
set_option maxRecDepth 20000 in
theorem t_189 (Ls : Nat) (xs : Nat → Int32) (d : Nat) (nh : Option Nat) (rh : Option Nat) (n : Nat) (I : FI) (L : FL) (r : Int32 × Bool × FI × FL) (hf : f_189 n I L = some r) : pEN Ls xs (d + 6) 189 [.ref 0] (hp none nh rh [] [] I L) = some (some (.int r.1), hw r.2.1 nh rh r.2.2.1 r.2.2.2) := by
  refine en_run (d := d + 5) (cd := cd_189) (f := (sf 11 rs_11 false 3 (some (.int)) Ls xs (d + 5))) rfl rfl (x := (0, [some (.ref 0), none, none], [], hp none nh rh [] [] I L)) rfl rfl (Nat.le_of_ble_eq_true rfl) ?_
  unfold f_189 at hf
  refine bs_st 4 (x' := (4, [some (.ref 0), some (.int (0 : Int32)), some (.int (1 : Int32))], [], hp none nh rh [] [] I L)) rfl ?_
  exact tc_189_0 Ls xs d nh rh n n (0 : Int32) (1 : Int32) I L r hf
/-- LampRounds.most() on (0,) -/
def f_144 (n : Nat) (I : FI) (L : FL) : Option (Int32 × Bool × FI × FL) :=
  (f_177 I L).bind fun q0 =>
  if q0 = 0 then
    some ((-2 : Int32), false, I, L)
  else
    (f_189 n I L).bind fun q1 =>
    if q1.2.1 = true then
      (f_25_1 n q1.1 q1.2.2.1 q1.2.2.2).bind fun q2 =>
      some (q2, true, q1.2.2.1, q1.2.2.2)
    else
      (f_25_1 n q1.1 q1.2.2.1 q1.2.2.2).bind fun q3 =>
      some (q3, false, q1.2.2.1, q1.2.2.2)
set_option maxHeartbeats 1000000 in
set_option maxRecDepth 20000 in
theorem t_144 (Ls : Nat) (xs : Nat → Int32) (d : Nat) (nh : Option Nat) (rh : Option Nat) (n : Nat) (I : FI) (L : FL) (r : Int32 × Bool × FI × FL) (hf : f_144 n I L = some r) : pEN Ls xs (d + 7) 144 [.ref 0] (hp none nh rh [] [] I L) = some (some (.int r.1), hw r.2.1 nh rh r.2.2.1 r.2.2.2) := by
  refine en_run (d := d + 6) (cd := cd_144) (f := (sf 11 rs_11 false 1 (some (.int)) Ls xs (d + 6))) rfl rfl (x := (0, [some (.ref 0)], [], hp none nh rh [] [] I L)) rfl rfl (Nat.le_of_ble_eq_true rfl) ?_
  unfold f_144 at hf
  refine bs_st 1 (x' := (1, [some (.ref 0)], [.ref 0], hp none nh rh [] [] I L)) rfl ?_
  obtain ⟨q0, hq0, hf⟩ := Option.bind_eq_some_iff.mp hf
  refine bs_call (o := pEN Ls xs (d + 6) 177 [.ref 0] (hp none nh rh [] [] I L)) (w := some (.int q0)) (h' := hp none nh rh [] [] I L) (pc := 4) (lo := [some (.ref 0)]) (rest := []) rfl (t_177 Ls xs (d + 5) none [] [] nh rh I L q0 hq0) ?_
  refine bs_br (t := 21) (e := 7) (lo := [some (.ref 0)]) (st := []) (h := hp none nh rh [] [] I L) rfl hf (fun hc hf => ?_) (fun hc hf => ?_)
  · refine bs_st 1 (x' := (23, [some (.ref 0)], [.int (-2 : Int32)], hp none nh rh [] [] I L)) rfl ?_
    cases hf
    exact bs_ret rfl
  · refine bs_st 3 (x' := (12, [some (.ref 0)], [.ref 0, .ref 3], hp none nh rh [] [] I L)) rfl ?_
    obtain ⟨q1, hq1, hf⟩ := Option.bind_eq_some_iff.mp hf
    refine bs_cs hf (fun hb hf => ?_) (fun hb hf => ?_)
    · refine bs_call (o := pEN Ls xs (d + 6) 189 [.ref 0] (hp none nh rh [] [] I L)) (w := some (.int q1.1)) (h' := hp (some 114) nh rh TK (RK (some 3)) q1.2.2.1 q1.2.2.2) (pc := 15) (lo := [some (.ref 0)]) (rest := [.ref 3]) rfl ((t_189 Ls xs (d + 0) nh rh n I L q1 hq1).trans (by rw [hb]; rfl)) ?_
      obtain ⟨q2, hq2, hf⟩ := Option.bind_eq_some_iff.mp hf
      refine bs_call (o := pEN Ls xs (d + 6) 25 [.ref 3, .int q1.1] (hp (some 114) nh rh TK (RK (some 3)) q1.2.2.1 q1.2.2.2)) (w := some (.int q2)) (h' := hp (some 114) nh rh TK (RK (some 3)) q1.2.2.1 q1.2.2.2) (pc := 18) (lo := [some (.ref 0)]) (rest := []) rfl (t_25_1 Ls xs (d + 5) (some 114) TK (RK (some 3)) nh rh n q1.1 q1.2.2.1 q1.2.2.2 q2 hq2) ?_
      refine bs_st 1 (x' := (23, [some (.ref 0)], [.int q2], hp (some 114) nh rh TK (RK (some 3)) q1.2.2.1 q1.2.2.2)) rfl ?_
      cases hf
      exact bs_ret rfl
    · refine bs_call (o := pEN Ls xs (d + 6) 189 [.ref 0] (hp none nh rh [] [] I L)) (w := some (.int q1.1)) (h' := hp none nh rh [] [] q1.2.2.1 q1.2.2.2) (pc := 15) (lo := [some (.ref 0)]) (rest := [.ref 3]) rfl ((t_189 Ls xs (d + 0) nh rh n I L q1 hq1).trans (by rw [Bool.not_eq_true] at hb; rw [hb]; rfl)) ?_
      obtain ⟨q3, hq3, hf⟩ := Option.bind_eq_some_iff.mp hf
      refine bs_call (o := pEN Ls xs (d + 6) 25 [.ref 3, .int q1.1] (hp none nh rh [] [] q1.2.2.1 q1.2.2.2)) (w := some (.int q3)) (h' := hp none nh rh [] [] q1.2.2.1 q1.2.2.2) (pc := 18) (lo := [some (.ref 0)]) (rest := []) rfl (t_25_1 Ls xs (d + 5) none [] [] nh rh n q1.1 q1.2.2.1 q1.2.2.2 q3 hq3) ?_
      refine bs_st 1 (x' := (23, [some (.ref 0)], [.int q3], hp none nh rh [] [] q1.2.2.1 q1.2.2.2)) rfl ?_
      cases hf
      exact bs_ret rfl
/-- LampRounds.saved() on (0,) -/
def f_145 (n : Nat) (I : FI) (L : FL) : Option (Int32 × Bool × FI × FL) :=
  (f_177 I L).bind fun q0 =>
  if q0 = 0 then
    some ((-2 : Int32), false, I, L)
  else
    (f_189 n I L).bind fun q1 =>
    if q1.2.1 = true then
      some (q1.1, true, q1.2.2.1, q1.2.2.2)
    else
      some (q1.1, false, q1.2.2.1, q1.2.2.2)
set_option maxHeartbeats 1000000 in
set_option maxRecDepth 20000 in
theorem t_145 (Ls : Nat) (xs : Nat → Int32) (d : Nat) (nh : Option Nat) (rh : Option Nat) (n : Nat) (I : FI) (L : FL) (r : Int32 × Bool × FI × FL) (hf : f_145 n I L = some r) : pEN Ls xs (d + 7) 145 [.ref 0] (hp none nh rh [] [] I L) = some (some (.int r.1), hw r.2.1 nh rh r.2.2.1 r.2.2.2) := by
  refine en_run (d := d + 6) (cd := cd_145) (f := (sf 11 rs_11 false 1 (some (.int)) Ls xs (d + 6))) rfl rfl (x := (0, [some (.ref 0)], [], hp none nh rh [] [] I L)) rfl rfl (Nat.le_of_ble_eq_true rfl) ?_
  unfold f_145 at hf
  refine bs_st 1 (x' := (1, [some (.ref 0)], [.ref 0], hp none nh rh [] [] I L)) rfl ?_
  obtain ⟨q0, hq0, hf⟩ := Option.bind_eq_some_iff.mp hf
  refine bs_call (o := pEN Ls xs (d + 6) 177 [.ref 0] (hp none nh rh [] [] I L)) (w := some (.int q0)) (h' := hp none nh rh [] [] I L) (pc := 4) (lo := [some (.ref 0)]) (rest := []) rfl (t_177 Ls xs (d + 5) none [] [] nh rh I L q0 hq0) ?_
  refine bs_br (t := 14) (e := 7) (lo := [some (.ref 0)]) (st := []) (h := hp none nh rh [] [] I L) rfl hf (fun hc hf => ?_) (fun hc hf => ?_)
  · refine bs_st 1 (x' := (16, [some (.ref 0)], [.int (-2 : Int32)], hp none nh rh [] [] I L)) rfl ?_
    cases hf
    exact bs_ret rfl
  · refine bs_st 1 (x' := (8, [some (.ref 0)], [.ref 0], hp none nh rh [] [] I L)) rfl ?_
    obtain ⟨q1, hq1, hf⟩ := Option.bind_eq_some_iff.mp hf
    refine bs_cs hf (fun hb hf => ?_) (fun hb hf => ?_)
    · refine bs_call (o := pEN Ls xs (d + 6) 189 [.ref 0] (hp none nh rh [] [] I L)) (w := some (.int q1.1)) (h' := hp (some 114) nh rh TK (RK (some 3)) q1.2.2.1 q1.2.2.2) (pc := 11) (lo := [some (.ref 0)]) (rest := []) rfl ((t_189 Ls xs (d + 0) nh rh n I L q1 hq1).trans (by rw [hb]; rfl)) ?_
      refine bs_st 1 (x' := (16, [some (.ref 0)], [.int q1.1], hp (some 114) nh rh TK (RK (some 3)) q1.2.2.1 q1.2.2.2)) rfl ?_
      cases hf
      exact bs_ret rfl
    · refine bs_call (o := pEN Ls xs (d + 6) 189 [.ref 0] (hp none nh rh [] [] I L)) (w := some (.int q1.1)) (h' := hp none nh rh [] [] q1.2.2.1 q1.2.2.2) (pc := 11) (lo := [some (.ref 0)]) (rest := []) rfl ((t_189 Ls xs (d + 0) nh rh n I L q1 hq1).trans (by rw [Bool.not_eq_true] at hb; rw [hb]; rfl)) ?_
      refine bs_st 1 (x' := (16, [some (.ref 0)], [.int q1.1], hp none nh rh [] [] q1.2.2.1 q1.2.2.2)) rfl ?_
      cases hf
      exact bs_ret rfl
/-- LampRounds.given() on (0,) -/
def c_146_2 (n : Nat) (K0 : Int32 → Int32 → Int32 → FI → FL → Option (Int32 × Bool × FI × FL)) (x1 : Int32) (x2 : Int32) (x3 : Int32) (I : FI) (L : FL) : Option (Int32 × Bool × FI × FL) :=
  K0 x1 x2 (x3 + (1 : Int32)) I L
set_option maxHeartbeats 1000000 in
set_option maxRecDepth 20000 in
theorem tc_146_2 (Ls : Nat) (xs : Nat → Int32) (d : Nat) (nh : Option Nat) (rh : Option Nat) (n : Nat) (K0 : Int32 → Int32 → Int32 → FI → FL → Option (Int32 × Bool × FI × FL)) (hK0 : ∀ (w4 : Option Value) (x1 : Int32) (x2 : Int32) (x3 : Int32) (I : FI) (L : FL) (r : Int32 × Bool × FI × FL), K0 x1 x2 x3 I L = some r → Bs cd_146 (sf 11 rs_11 false 5 (some (.int)) Ls xs (d + 5)) (22, [some (.ref 0), some (.int x1), some (.int x2), some (.int x3), w4], [], hp none nh rh [] [] I L) (some (.int r.1), hw r.2.1 nh rh r.2.2.1 r.2.2.2)) (w4 : Option Value) (x1 : Int32) (x2 : Int32) (x3 : Int32) (I : FI) (L : FL) (r : Int32 × Bool × FI × FL) (hf : c_146_2 n K0 x1 x2 x3 I L = some r) : Bs cd_146 (sf 11 rs_11 false 5 (some (.int)) Ls xs (d + 5)) (77, [some (.ref 0), some (.int x1), some (.int x2), some (.int x3), w4], [], hp none nh rh [] [] I L) (some (.int r.1), hw r.2.1 nh rh r.2.2.1 r.2.2.2) := by
  unfold c_146_2 at hf
  refine bs_st 2 (x' := (22, [some (.ref 0), some (.int x1), some (.int x2), some (.int (x3 + (1 : Int32))), w4], [], hp none nh rh [] [] I L)) rfl ?_
  exact hK0 w4 x1 x2 (x3 + (1 : Int32)) I L r hf
def c_146_5 (n : Nat) (K3 : Int32 → Int32 → Int32 → FI → FL → Option (Int32 × Bool × FI × FL)) (x1 : Int32) (x2 : Int32) (x3 : Int32) (s0 : Int32) (I : FI) (L : FL) : Option (Int32 × Bool × FI × FL) :=
  if s0 = 0 then
    K3 x1 x2 x3 I L
  else
    (f_23 I L).bind fun q10 =>
    (f_187 I L).bind fun q11 =>
    (f_32 n (x1 &&& (x3 ^^^ (-1 : Int32))) q11.1 q11.2).bind fun q12 =>
    (f_188 q10 q12.1 q12.2.1 q12.2.2).bind fun q13 =>
    if q13 = 0 then
      K3 x1 x2 x3 q12.2.1 q12.2.2
    else
      K3 x1 x3 x3 q12.2.1 q12.2.2
set_option maxHeartbeats 1000000 in
set_option maxRecDepth 20000 in
theorem tc_146_5 (Ls : Nat) (xs : Nat → Int32) (d : Nat) (nh : Option Nat) (rh : Option Nat) (n : Nat) (K3 : Int32 → Int32 → Int32 → FI → FL → Option (Int32 × Bool × FI × FL)) (hK3 : ∀ (w4 : Option Value) (x1 : Int32) (x2 : Int32) (x3 : Int32) (I : FI) (L : FL) (r : Int32 × Bool × FI × FL), K3 x1 x2 x3 I L = some r → Bs cd_146 (sf 11 rs_11 false 5 (some (.int)) Ls xs (d + 5)) (77, [some (.ref 0), some (.int x1), some (.int x2), some (.int x3), w4], [], hp (some 114) nh rh TK (RK (some 3)) I L) (some (.int r.1), hw r.2.1 nh rh r.2.2.1 r.2.2.2)) (w4 : Option Value) (x1 : Int32) (x2 : Int32) (x3 : Int32) (s0 : Int32) (I : FI) (L : FL) (r : Int32 × Bool × FI × FL) (hf : c_146_5 n K3 x1 x2 x3 s0 I L = some r) : Bs cd_146 (sf 11 rs_11 false 5 (some (.int)) Ls xs (d + 5)) (43, [some (.ref 0), some (.int x1), some (.int x2), some (.int x3), w4], [.int s0], hp (some 114) nh rh TK (RK (some 3)) I L) (some (.int r.1), hw r.2.1 nh rh r.2.2.1 r.2.2.2) := by
  unfold c_146_5 at hf
  refine bs_st 2 (x' := (47, [some (.ref 0), some (.int x1), some (.int x2), some (.int x3), some (.int s0)], [.int s0], hp (some 114) nh rh TK (RK (some 3)) I L)) rfl ?_
  refine bs_br (t := 77) (e := 50) (lo := [some (.ref 0), some (.int x1), some (.int x2), some (.int x3), some (.int s0)]) (st := []) (h := hp (some 114) nh rh TK (RK (some 3)) I L) rfl hf (fun hc hf => ?_) (fun hc hf => ?_)
  · exact hK3 (some (.int s0)) x1 x2 x3 I L r hf
  · refine bs_st 2 (x' := (54, [some (.ref 0), some (.int x1), some (.int x2), some (.int x3), some (.int s0)], [.ref 3], hp (some 114) nh rh TK (RK (some 3)) I L)) rfl ?_
    obtain ⟨q10, hq10, hf⟩ := Option.bind_eq_some_iff.mp hf
    refine bs_call (o := pEN Ls xs (d + 5) 23 [.ref 3] (hp (some 114) nh rh TK (RK (some 3)) I L)) (w := some (.int q10)) (h' := hp (some 114) nh rh TK (RK (some 3)) I L) (pc := 57) (lo := [some (.ref 0), some (.int x1), some (.int x2), some (.int x3), some (.int s0)]) (rest := []) rfl (t_23 Ls xs (d + 4) (some 114) TK (RK (some 3)) nh rh I L q10 hq10) ?_
    refine bs_st 1 (x' := (58, [some (.ref 0), some (.int x1), some (.int x2), some (.int x3), some (.int s0)], [.ref 0, .int q10], hp (some 114) nh rh TK (RK (some 3)) I L)) rfl ?_
    obtain ⟨q11, hq11, hf⟩ := Option.bind_eq_some_iff.mp hf
    refine bs_call (o := pEN Ls xs (d + 5) 187 [.ref 0] (hp (some 114) nh rh TK (RK (some 3)) I L)) (w := some (.ref 114)) (h' := hp (some 114) nh rh TK (RK (some 3)) q11.1 q11.2) (pc := 61) (lo := [some (.ref 0), some (.int x1), some (.int x2), some (.int x3), some (.int s0)]) (rest := [.int q10]) rfl (t_187 Ls xs (d + 4) nh rh I L q11 hq11) ?_
    refine bs_st 5 (x' := (66, [some (.ref 0), some (.int x1), some (.int x2), some (.int x3), some (.int s0)], [.int (x1 &&& (x3 ^^^ (-1 : Int32))), .ref 114, .int q10], hp (some 114) nh rh TK (RK (some 3)) q11.1 q11.2)) rfl ?_
    obtain ⟨q12, hq12, hf⟩ := Option.bind_eq_some_iff.mp hf
    refine bs_call (o := pEN Ls xs (d + 5) 32 [.ref 114, .int (x1 &&& (x3 ^^^ (-1 : Int32)))] (hp (some 114) nh rh TK (RK (some 3)) q11.1 q11.2)) (w := some (.int q12.1)) (h' := hp (some 114) nh rh TK (RK (some 3)) q12.2.1 q12.2.2) (pc := 69) (lo := [some (.ref 0), some (.int x1), some (.int x2), some (.int x3), some (.int s0)]) (rest := [.int q10]) rfl (t_32 Ls xs (d + 0) nh rh n (x1 &&& (x3 ^^^ (-1 : Int32))) q11.1 q11.2 q12 hq12) ?_
    obtain ⟨q13, hq13, hf⟩ := Option.bind_eq_some_iff.mp hf
    refine bs_call (o := pEN Ls xs (d + 5) 188 [.int q10, .int q12.1] (hp (some 114) nh rh TK (RK (some 3)) q12.2.1 q12.2.2)) (w := some (.int q13)) (h' := hp (some 114) nh rh TK (RK (some 3)) q12.2.1 q12.2.2) (pc := 72) (lo := [some (.ref 0), some (.int x1), some (.int x2), some (.int x3), some (.int s0)]) (rest := []) rfl (t_188 Ls xs (d + 4) (some 114) TK (RK (some 3)) nh rh q10 q12.1 q12.2.1 q12.2.2 q13 hq13) ?_
    refine bs_br (t := 77) (e := 75) (lo := [some (.ref 0), some (.int x1), some (.int x2), some (.int x3), some (.int s0)]) (st := []) (h := hp (some 114) nh rh TK (RK (some 3)) q12.2.1 q12.2.2) rfl hf (fun hc hf => ?_) (fun hc hf => ?_)
    · exact hK3 (some (.int s0)) x1 x2 x3 q12.2.1 q12.2.2 r hf
    · refine bs_st 2 (x' := (77, [some (.ref 0), some (.int x1), some (.int x3), some (.int x3), some (.int s0)], [], hp (some 114) nh rh TK (RK (some 3)) q12.2.1 q12.2.2)) rfl ?_
      exact hK3 (some (.int s0)) x1 x3 x3 q12.2.1 q12.2.2 r hf
def c_146_4 (n : Nat) (K3 : Int32 → Int32 → Int32 → FI → FL → Option (Int32 × Bool × FI × FL)) (x1 : Int32) (x2 : Int32) (x3 : Int32) (I : FI) (L : FL) : Option (Int32 × Bool × FI × FL) :=
  if x1 < x3 then
    some (x2, true, I, L)
  else
    (f_360 x3 I L).bind fun q8 =>
    (f_360 x2 I L).bind fun q9 =>
    if q9 ≤ q8 then
      c_146_5 n K3 x1 x2 x3 (0 : Int32) I L
    else
      c_146_5 n K3 x1 x2 x3 (1 : Int32) I L
set_option maxHeartbeats 1000000 in
set_option maxRecDepth 20000 in
theorem tc_146_4 (Ls : Nat) (xs : Nat → Int32) (d : Nat) (nh : Option Nat) (rh : Option Nat) (n : Nat) (K3 : Int32 → Int32 → Int32 → FI → FL → Option (Int32 × Bool × FI × FL)) (hK3 : ∀ (w4 : Option Value) (x1 : Int32) (x2 : Int32) (x3 : Int32) (I : FI) (L : FL) (r : Int32 × Bool × FI × FL), K3 x1 x2 x3 I L = some r → Bs cd_146 (sf 11 rs_11 false 5 (some (.int)) Ls xs (d + 5)) (77, [some (.ref 0), some (.int x1), some (.int x2), some (.int x3), w4], [], hp (some 114) nh rh TK (RK (some 3)) I L) (some (.int r.1), hw r.2.1 nh rh r.2.2.1 r.2.2.2)) (w4 : Option Value) (x1 : Int32) (x2 : Int32) (x3 : Int32) (I : FI) (L : FL) (r : Int32 × Bool × FI × FL) (hf : c_146_4 n K3 x1 x2 x3 I L = some r) : Bs cd_146 (sf 11 rs_11 false 5 (some (.int)) Ls xs (d + 5)) (22, [some (.ref 0), some (.int x1), some (.int x2), some (.int x3), w4], [], hp (some 114) nh rh TK (RK (some 3)) I L) (some (.int r.1), hw r.2.1 nh rh r.2.2.1 r.2.2.2) := by
  unfold c_146_4 at hf
  refine bs_st 2 (x' := (24, [some (.ref 0), some (.int x1), some (.int x2), some (.int x3), w4], [.int x1, .int x3], hp (some 114) nh rh TK (RK (some 3)) I L)) rfl ?_
  refine bs_br (t := 83) (e := 27) (lo := [some (.ref 0), some (.int x1), some (.int x2), some (.int x3), w4]) (st := []) (h := hp (some 114) nh rh TK (RK (some 3)) I L) rfl hf (fun hc hf => ?_) (fun hc hf => ?_)
  · refine bs_st 1 (x' := (84, [some (.ref 0), some (.int x1), some (.int x2), some (.int x3), w4], [.int x2], hp (some 114) nh rh TK (RK (some 3)) I L)) rfl ?_
    cases hf
    exact bs_ret rfl
  · refine bs_st 1 (x' := (28, [some (.ref 0), some (.int x1), some (.int x2), some (.int x3), w4], [.int x3], hp (some 114) nh rh TK (RK (some 3)) I L)) rfl ?_
    obtain ⟨q8, hq8, hf⟩ := Option.bind_eq_some_iff.mp hf
    refine bs_call (o := pEN Ls xs (d + 5) 360 [.int x3] (hp (some 114) nh rh TK (RK (some 3)) I L)) (w := some (.int q8)) (h' := hp (some 114) nh rh TK (RK (some 3)) I L) (pc := 31) (lo := [some (.ref 0), some (.int x1), some (.int x2), some (.int x3), w4]) (rest := []) rfl (t_360 Ls xs (d + 4) (some 114) TK (RK (some 3)) nh rh x3 I L q8 hq8) ?_
    refine bs_st 1 (x' := (32, [some (.ref 0), some (.int x1), some (.int x2), some (.int x3), w4], [.int x2, .int q8], hp (some 114) nh rh TK (RK (some 3)) I L)) rfl ?_
    obtain ⟨q9, hq9, hf⟩ := Option.bind_eq_some_iff.mp hf
    refine bs_call (o := pEN Ls xs (d + 5) 360 [.int x2] (hp (some 114) nh rh TK (RK (some 3)) I L)) (w := some (.int q9)) (h' := hp (some 114) nh rh TK (RK (some 3)) I L) (pc := 35) (lo := [some (.ref 0), some (.int x1), some (.int x2), some (.int x3), w4]) (rest := [.int q8]) rfl (t_360 Ls xs (d + 4) (some 114) TK (RK (some 3)) nh rh x2 I L q9 hq9) ?_
    refine bs_br (t := 42) (e := 38) (lo := [some (.ref 0), some (.int x1), some (.int x2), some (.int x3), w4]) (st := []) (h := hp (some 114) nh rh TK (RK (some 3)) I L) rfl hf (fun hc hf => ?_) (fun hc hf => ?_)
    · refine bs_st 1 (x' := (43, [some (.ref 0), some (.int x1), some (.int x2), some (.int x3), w4], [.int (0 : Int32)], hp (some 114) nh rh TK (RK (some 3)) I L)) rfl ?_
      exact tc_146_5 Ls xs d nh rh n _ hK3 w4 x1 x2 x3 (0 : Int32) I L r hf
    · refine bs_st 2 (x' := (43, [some (.ref 0), some (.int x1), some (.int x2), some (.int x3), w4], [.int (1 : Int32)], hp (some 114) nh rh TK (RK (some 3)) I L)) rfl ?_
      exact tc_146_5 Ls xs d nh rh n _ hK3 w4 x1 x2 x3 (1 : Int32) I L r hf
def b_146_3 (n : Nat) (K3 : Int32 → Int32 → Int32 → FI → FL → Option (Int32 × Bool × FI × FL)) (x1 : Int32) (x2 : Int32) (x3 : Int32) (I : FI) (L : FL) : Option (Int32 × Bool × FI × FL) :=
  c_146_4 n K3 x1 x2 (x3 + (1 : Int32)) I L
def c_146_3 (n : Nat) : Nat → Int32 → Int32 → Int32 → FI → FL → Option (Int32 × Bool × FI × FL)
  | 0, _, _, _, _, _ => none
  | m + 1, x1, x2, x3, I, L => b_146_3 n (c_146_3 n m) x1 x2 x3 I L
set_option maxHeartbeats 1000000 in
set_option maxRecDepth 20000 in
theorem tc_146_3 (Ls : Nat) (xs : Nat → Int32) (d : Nat) (nh : Option Nat) (rh : Option Nat) (n : Nat) : ∀ (m : Nat) (w4 : Option Value) (x1 : Int32) (x2 : Int32) (x3 : Int32) (I : FI) (L : FL) (r : Int32 × Bool × FI × FL), c_146_3 n m x1 x2 x3 I L = some r → Bs cd_146 (sf 11 rs_11 false 5 (some (.int)) Ls xs (d + 5)) (77, [some (.ref 0), some (.int x1), some (.int x2), some (.int x3), w4], [], hp (some 114) nh rh TK (RK (some 3)) I L) (some (.int r.1), hw r.2.1 nh rh r.2.2.1 r.2.2.2)
  | 0, w4, x1, x2, x3, I, L, r, hf => by cases hf
  | m + 1, w4, x1, x2, x3, I, L, r, hf => by
    unfold c_146_3 b_146_3 at hf
    have hK3 := tc_146_3 Ls xs d nh rh n m
    refine bs_st 2 (x' := (22, [some (.ref 0), some (.int x1), some (.int x2), some (.int (x3 + (1 : Int32))), w4], [], hp (some 114) nh rh TK (RK (some 3)) I L)) rfl ?_
    exact tc_146_4 Ls xs d nh rh n _ hK3 w4 x1 x2 (x3 + (1 : Int32)) I L r hf
def c_146_1 (n : Nat) (K0 : Int32 → Int32 → Int32 → FI → FL → Option (Int32 × Bool × FI × FL)) (x1 : Int32) (x2 : Int32) (x3 : Int32) (s0 : Int32) (I : FI) (L : FL) : Option (Int32 × Bool × FI × FL) :=
  if s0 = 0 then
    c_146_2 n K0 x1 x2 x3 I L
  else
    (f_23 I L).bind fun q4 =>
    (f_findA n I L).bind fun q5 =>
    (f_32 n (x1 &&& (x3 ^^^ (-1 : Int32))) q5.1 q5.2).bind fun q6 =>
    (f_188 q4 q6.1 q6.2.1 q6.2.2).bind fun q7 =>
    if q7 = 0 then
      c_146_3 n n x1 x2 x3 q6.2.1 q6.2.2
    else
      c_146_3 n n x1 x3 x3 q6.2.1 q6.2.2
set_option maxHeartbeats 1000000 in
set_option maxRecDepth 20000 in
theorem tc_146_1 (Ls : Nat) (xs : Nat → Int32) (d : Nat) (nh : Option Nat) (rh : Option Nat) (n : Nat) (K0 : Int32 → Int32 → Int32 → FI → FL → Option (Int32 × Bool × FI × FL)) (hK0 : ∀ (w4 : Option Value) (x1 : Int32) (x2 : Int32) (x3 : Int32) (I : FI) (L : FL) (r : Int32 × Bool × FI × FL), K0 x1 x2 x3 I L = some r → Bs cd_146 (sf 11 rs_11 false 5 (some (.int)) Ls xs (d + 5)) (22, [some (.ref 0), some (.int x1), some (.int x2), some (.int x3), w4], [], hp none nh rh [] [] I L) (some (.int r.1), hw r.2.1 nh rh r.2.2.1 r.2.2.2)) (w4 : Option Value) (x1 : Int32) (x2 : Int32) (x3 : Int32) (s0 : Int32) (I : FI) (L : FL) (r : Int32 × Bool × FI × FL) (hf : c_146_1 n K0 x1 x2 x3 s0 I L = some r) : Bs cd_146 (sf 11 rs_11 false 5 (some (.int)) Ls xs (d + 5)) (43, [some (.ref 0), some (.int x1), some (.int x2), some (.int x3), w4], [.int s0], hp none nh rh [] [] I L) (some (.int r.1), hw r.2.1 nh rh r.2.2.1 r.2.2.2) := by
  unfold c_146_1 at hf
  refine bs_st 2 (x' := (47, [some (.ref 0), some (.int x1), some (.int x2), some (.int x3), some (.int s0)], [.int s0], hp none nh rh [] [] I L)) rfl ?_
  refine bs_br (t := 77) (e := 50) (lo := [some (.ref 0), some (.int x1), some (.int x2), some (.int x3), some (.int s0)]) (st := []) (h := hp none nh rh [] [] I L) rfl hf (fun hc hf => ?_) (fun hc hf => ?_)
  · exact tc_146_2 Ls xs d nh rh n _ hK0 (some (.int s0)) x1 x2 x3 I L r hf
  · refine bs_st 2 (x' := (54, [some (.ref 0), some (.int x1), some (.int x2), some (.int x3), some (.int s0)], [.ref 3], hp none nh rh [] [] I L)) rfl ?_
    obtain ⟨q4, hq4, hf⟩ := Option.bind_eq_some_iff.mp hf
    refine bs_call (o := pEN Ls xs (d + 5) 23 [.ref 3] (hp none nh rh [] [] I L)) (w := some (.int q4)) (h' := hp none nh rh [] [] I L) (pc := 57) (lo := [some (.ref 0), some (.int x1), some (.int x2), some (.int x3), some (.int s0)]) (rest := []) rfl (t_23 Ls xs (d + 4) none [] [] nh rh I L q4 hq4) ?_
    refine bs_st 1 (x' := (58, [some (.ref 0), some (.int x1), some (.int x2), some (.int x3), some (.int s0)], [.ref 0, .int q4], hp none nh rh [] [] I L)) rfl ?_
    obtain ⟨q5, hq5, hf⟩ := Option.bind_eq_some_iff.mp hf
    refine bs_call (o := pEN Ls xs (d + 5) 187 [.ref 0] (hp none nh rh [] [] I L)) (w := some (.ref 114)) (h' := hp (some 114) nh rh TK (RK (some 3)) q5.1 q5.2) (pc := 61) (lo := [some (.ref 0), some (.int x1), some (.int x2), some (.int x3), some (.int s0)]) (rest := [.int q4]) rfl (t_findA Ls xs (d + 2) nh rh n I L q5 hq5) ?_
    refine bs_st 5 (x' := (66, [some (.ref 0), some (.int x1), some (.int x2), some (.int x3), some (.int s0)], [.int (x1 &&& (x3 ^^^ (-1 : Int32))), .ref 114, .int q4], hp (some 114) nh rh TK (RK (some 3)) q5.1 q5.2)) rfl ?_
    obtain ⟨q6, hq6, hf⟩ := Option.bind_eq_some_iff.mp hf
    refine bs_call (o := pEN Ls xs (d + 5) 32 [.ref 114, .int (x1 &&& (x3 ^^^ (-1 : Int32)))] (hp (some 114) nh rh TK (RK (some 3)) q5.1 q5.2)) (w := some (.int q6.1)) (h' := hp (some 114) nh rh TK (RK (some 3)) q6.2.1 q6.2.2) (pc := 69) (lo := [some (.ref 0), some (.int x1), some (.int x2), some (.int x3), some (.int s0)]) (rest := [.int q4]) rfl (t_32 Ls xs (d + 0) nh rh n (x1 &&& (x3 ^^^ (-1 : Int32))) q5.1 q5.2 q6 hq6) ?_
    obtain ⟨q7, hq7, hf⟩ := Option.bind_eq_some_iff.mp hf
    refine bs_call (o := pEN Ls xs (d + 5) 188 [.int q4, .int q6.1] (hp (some 114) nh rh TK (RK (some 3)) q6.2.1 q6.2.2)) (w := some (.int q7)) (h' := hp (some 114) nh rh TK (RK (some 3)) q6.2.1 q6.2.2) (pc := 72) (lo := [some (.ref 0), some (.int x1), some (.int x2), some (.int x3), some (.int s0)]) (rest := []) rfl (t_188 Ls xs (d + 4) (some 114) TK (RK (some 3)) nh rh q4 q6.1 q6.2.1 q6.2.2 q7 hq7) ?_
    refine bs_br (t := 77) (e := 75) (lo := [some (.ref 0), some (.int x1), some (.int x2), some (.int x3), some (.int s0)]) (st := []) (h := hp (some 114) nh rh TK (RK (some 3)) q6.2.1 q6.2.2) rfl hf (fun hc hf => ?_) (fun hc hf => ?_)
    · exact tc_146_3 Ls xs d nh rh n n (some (.int s0)) x1 x2 x3 q6.2.1 q6.2.2 r hf
    · refine bs_st 2 (x' := (77, [some (.ref 0), some (.int x1), some (.int x3), some (.int x3), some (.int s0)], [], hp (some 114) nh rh TK (RK (some 3)) q6.2.1 q6.2.2)) rfl ?_
      exact tc_146_3 Ls xs d nh rh n n (some (.int s0)) x1 x3 x3 q6.2.1 q6.2.2 r hf
def b_146_0 (n : Nat) (K0 : Int32 → Int32 → Int32 → FI → FL → Option (Int32 × Bool × FI × FL)) (x1 : Int32) (x2 : Int32) (x3 : Int32) (I : FI) (L : FL) : Option (Int32 × Bool × FI × FL) :=
  if x1 < x3 then
    some (x2, false, I, L)
  else
    (f_360 x3 I L).bind fun q2 =>
    (f_360 x2 I L).bind fun q3 =>
    if q3 ≤ q2 then
      c_146_1 n K0 x1 x2 x3 (0 : Int32) I L
    else
      c_146_1 n K0 x1 x2 x3 (1 : Int32) I L
def c_146_0 (n : Nat) : Nat → Int32 → Int32 → Int32 → FI → FL → Option (Int32 × Bool × FI × FL)
  | 0, _, _, _, _, _ => none
  | m + 1, x1, x2, x3, I, L => b_146_0 n (c_146_0 n m) x1 x2 x3 I L
set_option maxHeartbeats 1000000 in
set_option maxRecDepth 20000 in
theorem tc_146_0 (Ls : Nat) (xs : Nat → Int32) (d : Nat) (nh : Option Nat) (rh : Option Nat) (n : Nat) : ∀ (m : Nat) (w4 : Option Value) (x1 : Int32) (x2 : Int32) (x3 : Int32) (I : FI) (L : FL) (r : Int32 × Bool × FI × FL), c_146_0 n m x1 x2 x3 I L = some r → Bs cd_146 (sf 11 rs_11 false 5 (some (.int)) Ls xs (d + 5)) (22, [some (.ref 0), some (.int x1), some (.int x2), some (.int x3), w4], [], hp none nh rh [] [] I L) (some (.int r.1), hw r.2.1 nh rh r.2.2.1 r.2.2.2)
  | 0, w4, x1, x2, x3, I, L, r, hf => by cases hf
  | m + 1, w4, x1, x2, x3, I, L, r, hf => by
    unfold c_146_0 b_146_0 at hf
    have hK0 := tc_146_0 Ls xs d nh rh n m
    refine bs_st 2 (x' := (24, [some (.ref 0), some (.int x1), some (.int x2), some (.int x3), w4], [.int x1, .int x3], hp none nh rh [] [] I L)) rfl ?_
    refine bs_br (t := 83) (e := 27) (lo := [some (.ref 0), some (.int x1), some (.int x2), some (.int x3), w4]) (st := []) (h := hp none nh rh [] [] I L) rfl hf (fun hc hf => ?_) (fun hc hf => ?_)
    · refine bs_st 1 (x' := (84, [some (.ref 0), some (.int x1), some (.int x2), some (.int x3), w4], [.int x2], hp none nh rh [] [] I L)) rfl ?_
      cases hf
      exact bs_ret rfl
    · refine bs_st 1 (x' := (28, [some (.ref 0), some (.int x1), some (.int x2), some (.int x3), w4], [.int x3], hp none nh rh [] [] I L)) rfl ?_
      obtain ⟨q2, hq2, hf⟩ := Option.bind_eq_some_iff.mp hf
      refine bs_call (o := pEN Ls xs (d + 5) 360 [.int x3] (hp none nh rh [] [] I L)) (w := some (.int q2)) (h' := hp none nh rh [] [] I L) (pc := 31) (lo := [some (.ref 0), some (.int x1), some (.int x2), some (.int x3), w4]) (rest := []) rfl (t_360 Ls xs (d + 4) none [] [] nh rh x3 I L q2 hq2) ?_
      refine bs_st 1 (x' := (32, [some (.ref 0), some (.int x1), some (.int x2), some (.int x3), w4], [.int x2, .int q2], hp none nh rh [] [] I L)) rfl ?_
      obtain ⟨q3, hq3, hf⟩ := Option.bind_eq_some_iff.mp hf
      refine bs_call (o := pEN Ls xs (d + 5) 360 [.int x2] (hp none nh rh [] [] I L)) (w := some (.int q3)) (h' := hp none nh rh [] [] I L) (pc := 35) (lo := [some (.ref 0), some (.int x1), some (.int x2), some (.int x3), w4]) (rest := [.int q2]) rfl (t_360 Ls xs (d + 4) none [] [] nh rh x2 I L q3 hq3) ?_
      refine bs_br (t := 42) (e := 38) (lo := [some (.ref 0), some (.int x1), some (.int x2), some (.int x3), w4]) (st := []) (h := hp none nh rh [] [] I L) rfl hf (fun hc hf => ?_) (fun hc hf => ?_)
      · refine bs_st 1 (x' := (43, [some (.ref 0), some (.int x1), some (.int x2), some (.int x3), w4], [.int (0 : Int32)], hp none nh rh [] [] I L)) rfl ?_
        exact tc_146_1 Ls xs d nh rh n _ hK0 w4 x1 x2 x3 (0 : Int32) I L r hf
      · refine bs_st 2 (x' := (43, [some (.ref 0), some (.int x1), some (.int x2), some (.int x3), w4], [.int (1 : Int32)], hp none nh rh [] [] I L)) rfl ?_
        exact tc_146_1 Ls xs d nh rh n _ hK0 w4 x1 x2 x3 (1 : Int32) I L r hf
def f_146 (n : Nat) (I : FI) (L : FL) : Option (Int32 × Bool × FI × FL) :=
  (f_177 I L).bind fun q0 =>
  if ¬ q0 = 0 then
    (f_24 I L).bind fun q1 =>
    c_146_0 n n q1 q1 (0 : Int32) I L
  else
    some ((-2 : Int32), false, I, L)
set_option maxHeartbeats 1000000 in
set_option maxRecDepth 20000 in
theorem t_146 (Ls : Nat) (xs : Nat → Int32) (d : Nat) (nh : Option Nat) (rh : Option Nat) (n : Nat) (I : FI) (L : FL) (r : Int32 × Bool × FI × FL) (hf : f_146 n I L = some r) : pEN Ls xs (d + 6) 146 [.ref 0] (hp none nh rh [] [] I L) = some (some (.int r.1), hw r.2.1 nh rh r.2.2.1 r.2.2.2) := by
  refine en_run (d := d + 5) (cd := cd_146) (f := (sf 11 rs_11 false 5 (some (.int)) Ls xs (d + 5))) rfl rfl (x := (0, [some (.ref 0), none, none, none, none], [], hp none nh rh [] [] I L)) rfl rfl (Nat.le_of_ble_eq_true rfl) ?_
  unfold f_146 at hf
  refine bs_st 1 (x' := (1, [some (.ref 0), none, none, none, none], [.ref 0], hp none nh rh [] [] I L)) rfl ?_
  obtain ⟨q0, hq0, hf⟩ := Option.bind_eq_some_iff.mp hf
  refine bs_call (o := pEN Ls xs (d + 5) 177 [.ref 0] (hp none nh rh [] [] I L)) (w := some (.int q0)) (h' := hp none nh rh [] [] I L) (pc := 4) (lo := [some (.ref 0), none, none, none, none]) (rest := []) rfl (t_177 Ls xs (d + 4) none [] [] nh rh I L q0 hq0) ?_
  refine bs_br (t := 10) (e := 7) (lo := [some (.ref 0), none, none, none, none]) (st := []) (h := hp none nh rh [] [] I L) rfl hf (fun hc hf => ?_) (fun hc hf => ?_)
  · refine bs_st 2 (x' := (14, [some (.ref 0), none, none, none, none], [.ref 3], hp none nh rh [] [] I L)) rfl ?_
    obtain ⟨q1, hq1, hf⟩ := Option.bind_eq_some_iff.mp hf
    refine bs_call (o := pEN Ls xs (d + 5) 24 [.ref 3] (hp none nh rh [] [] I L)) (w := some (.int q1)) (h' := hp none nh rh [] [] I L) (pc := 17) (lo := [some (.ref 0), none, none, none, none]) (rest := []) rfl (t_24 Ls xs (d + 4) none [] [] nh rh I L q1 hq1) ?_
    refine bs_st 5 (x' := (22, [some (.ref 0), some (.int q1), some (.int q1), some (.int (0 : Int32)), none], [], hp none nh rh [] [] I L)) rfl ?_
    exact tc_146_0 Ls xs d nh rh n n none q1 q1 (0 : Int32) I L r hf
  · refine bs_st 1 (x' := (9, [some (.ref 0), none, none, none, none], [.int (-2 : Int32)], hp none nh rh [] [] I L)) rfl ?_
    cases hf
    exact bs_ret rfl
/-- LampRounds.longer(I) on (0,) -/
def f_147 (n : Nat) (x1 : Int32) (I : FI) (L : FL) : Option (Int32 × Bool × FI × FL) :=
  (f_178 x1 I L).bind fun q0 =>
  if q0 = 0 then
    some ((-2 : Int32), false, I, L)
  else
    (f_findA n I L).bind fun q1 =>
    (f_36 n x1 q1.1 q1.2).bind fun q2 =>
    some (q2.1, true, q2.2.1, q2.2.2)
set_option maxHeartbeats 1000000 in
set_option maxRecDepth 20000 in
theorem t_147 (Ls : Nat) (xs : Nat → Int32) (d : Nat) (nh : Option Nat) (rh : Option Nat) (n : Nat) (x1 : Int32) (I : FI) (L : FL) (r : Int32 × Bool × FI × FL) (hf : f_147 n x1 I L = some r) : pEN Ls xs (d + 7) 147 [.ref 0, .int x1] (hp none nh rh [] [] I L) = some (some (.int r.1), hw r.2.1 nh rh r.2.2.1 r.2.2.2) := by
  refine en_run (d := d + 6) (cd := cd_147) (f := (sf 11 rs_11 false 2 (some (.int)) Ls xs (d + 6))) rfl rfl (x := (0, [some (.ref 0), some (.int x1)], [], hp none nh rh [] [] I L)) rfl rfl (Nat.le_of_ble_eq_true rfl) ?_
  unfold f_147 at hf
  refine bs_st 2 (x' := (2, [some (.ref 0), some (.int x1)], [.int x1, .ref 0], hp none nh rh [] [] I L)) rfl ?_
  obtain ⟨q0, hq0, hf⟩ := Option.bind_eq_some_iff.mp hf
  refine bs_call (o := pEN Ls xs (d + 6) 178 [.ref 0, .int x1] (hp none nh rh [] [] I L)) (w := some (.int q0)) (h' := hp none nh rh [] [] I L) (pc := 5) (lo := [some (.ref 0), some (.int x1)]) (rest := []) rfl (t_178 Ls xs (d + 5) none [] [] nh rh x1 I L q0 hq0) ?_
  refine bs_br (t := 19) (e := 8) (lo := [some (.ref 0), some (.int x1)]) (st := []) (h := hp none nh rh [] [] I L) rfl hf (fun hc hf => ?_) (fun hc hf => ?_)
  · refine bs_st 1 (x' := (21, [some (.ref 0), some (.int x1)], [.int (-2 : Int32)], hp none nh rh [] [] I L)) rfl ?_
    cases hf
    exact bs_ret rfl
  · refine bs_st 1 (x' := (9, [some (.ref 0), some (.int x1)], [.ref 0], hp none nh rh [] [] I L)) rfl ?_
    obtain ⟨q1, hq1, hf⟩ := Option.bind_eq_some_iff.mp hf
    refine bs_call (o := pEN Ls xs (d + 6) 187 [.ref 0] (hp none nh rh [] [] I L)) (w := some (.ref 114)) (h' := hp (some 114) nh rh TK (RK (some 3)) q1.1 q1.2) (pc := 12) (lo := [some (.ref 0), some (.int x1)]) (rest := []) rfl (t_findA Ls xs (d + 3) nh rh n I L q1 hq1) ?_
    refine bs_st 1 (x' := (13, [some (.ref 0), some (.int x1)], [.int x1, .ref 114], hp (some 114) nh rh TK (RK (some 3)) q1.1 q1.2)) rfl ?_
    obtain ⟨q2, hq2, hf⟩ := Option.bind_eq_some_iff.mp hf
    refine bs_call (o := pEN Ls xs (d + 6) 36 [.ref 114, .int x1] (hp (some 114) nh rh TK (RK (some 3)) q1.1 q1.2)) (w := some (.int q2.1)) (h' := hp (some 114) nh rh TK (RK (some 3)) q2.2.1 q2.2.2) (pc := 16) (lo := [some (.ref 0), some (.int x1)]) (rest := []) rfl (t_36 Ls xs (d + 0) nh rh n x1 q1.1 q1.2 q2 hq2) ?_
    refine bs_st 1 (x' := (21, [some (.ref 0), some (.int x1)], [.int q2.1], hp (some 114) nh rh TK (RK (some 3)) q2.2.1 q2.2.2)) rfl ?_
    cases hf
    exact bs_ret rfl
/-- LampRounds.leastShare(I) on (0,) -/
def c_190_2 (n : Nat) (K1 : Int32 → Int32 → Int32 → FI → FL → Option (Int32 × Bool × FI × FL)) (x1 : Int32) (x2 : Int32) (x3 : Int32) (I : FI) (L : FL) : Option (Int32 × Bool × FI × FL) :=
  if x2 < x3 then
    some ((-1 : Int32), true, I, L)
  else
    (f_23 I L).bind fun q5 =>
    (f_187 I L).bind fun q6 =>
    (f_32 n x3 q6.1 q6.2).bind fun q7 =>
    (f_188 q5 q7.1 q7.2.1 q7.2.2).bind fun q8 =>
    if q8 = 0 then
      K1 x1 x2 x3 q7.2.1 q7.2.2
    else
      (f_187 q7.2.1 q7.2.2).bind fun q9 =>
      (f_32 n (x2 &&& (x3 ^^^ (-1 : Int32))) q9.1 q9.2).bind fun q10 =>
      (f_188 x1 q10.1 q10.2.1 q10.2.2).bind fun q11 =>
      if q11 = 0 then
        K1 x1 x2 x3 q10.2.1 q10.2.2
      else
        some (x3, true, q10.2.1, q10.2.2)
set_option maxHeartbeats 1000000 in
set_option maxRecDepth 20000 in
theorem tc_190_2 (Ls : Nat) (xs : Nat → Int32) (d : Nat) (nh : Option Nat) (rh : Option Nat) (n : Nat) (K1 : Int32 → Int32 → Int32 → FI → FL → Option (Int32 × Bool × FI × FL)) (hK1 : ∀ (w4 : Option Value) (x1 : Int32) (x2 : Int32) (x3 : Int32) (I : FI) (L : FL) (r : Int32 × Bool × FI × FL), K1 x1 x2 x3 I L = some r → Bs cd_190 (sf 11 rs_11 false 5 (some (.int)) Ls xs (d + 5)) (61, [some (.ref 0), some (.int x1), some (.int x2), some (.int x3), w4], [], hp (some 114) nh rh TK (RK (some 3)) I L) (some (.int r.1), hw r.2.1 nh rh r.2.2.1 r.2.2.2)) (w4 : Option Value) (x1 : Int32) (x2 : Int32) (x3 : Int32) (I : FI) (L : FL) (r : Int32 × Bool × FI × FL) (hf : c_190_2 n K1 x1 x2 x3 I L = some r) : Bs cd_190 (sf 11 rs_11 false 5 (some (.int)) Ls xs (d + 5)) (10, [some (.ref 0), some (.int x1), some (.int x2), some (.int x3), w4], [], hp (some 114) nh rh TK (RK (some 3)) I L) (some (.int r.1), hw r.2.1 nh rh r.2.2.1 r.2.2.2) := by
  unfold c_190_2 at hf
  refine bs_st 2 (x' := (12, [some (.ref 0), some (.int x1), some (.int x2), some (.int x3), w4], [.int x2, .int x3], hp (some 114) nh rh TK (RK (some 3)) I L)) rfl ?_
  refine bs_br (t := 67) (e := 15) (lo := [some (.ref 0), some (.int x1), some (.int x2), some (.int x3), w4]) (st := []) (h := hp (some 114) nh rh TK (RK (some 3)) I L) rfl hf (fun hc hf => ?_) (fun hc hf => ?_)
  · refine bs_st 1 (x' := (68, [some (.ref 0), some (.int x1), some (.int x2), some (.int x3), w4], [.int (-1 : Int32)], hp (some 114) nh rh TK (RK (some 3)) I L)) rfl ?_
    cases hf
    exact bs_ret rfl
  · refine bs_st 2 (x' := (19, [some (.ref 0), some (.int x1), some (.int x2), some (.int x3), w4], [.ref 3], hp (some 114) nh rh TK (RK (some 3)) I L)) rfl ?_
    obtain ⟨q5, hq5, hf⟩ := Option.bind_eq_some_iff.mp hf
    refine bs_call (o := pEN Ls xs (d + 5) 23 [.ref 3] (hp (some 114) nh rh TK (RK (some 3)) I L)) (w := some (.int q5)) (h' := hp (some 114) nh rh TK (RK (some 3)) I L) (pc := 22) (lo := [some (.ref 0), some (.int x1), some (.int x2), some (.int x3), w4]) (rest := []) rfl (t_23 Ls xs (d + 4) (some 114) TK (RK (some 3)) nh rh I L q5 hq5) ?_
    refine bs_st 1 (x' := (23, [some (.ref 0), some (.int x1), some (.int x2), some (.int x3), w4], [.ref 0, .int q5], hp (some 114) nh rh TK (RK (some 3)) I L)) rfl ?_
    obtain ⟨q6, hq6, hf⟩ := Option.bind_eq_some_iff.mp hf
    refine bs_call (o := pEN Ls xs (d + 5) 187 [.ref 0] (hp (some 114) nh rh TK (RK (some 3)) I L)) (w := some (.ref 114)) (h' := hp (some 114) nh rh TK (RK (some 3)) q6.1 q6.2) (pc := 26) (lo := [some (.ref 0), some (.int x1), some (.int x2), some (.int x3), w4]) (rest := [.int q5]) rfl (t_187 Ls xs (d + 4) nh rh I L q6 hq6) ?_
    refine bs_st 1 (x' := (27, [some (.ref 0), some (.int x1), some (.int x2), some (.int x3), w4], [.int x3, .ref 114, .int q5], hp (some 114) nh rh TK (RK (some 3)) q6.1 q6.2)) rfl ?_
    obtain ⟨q7, hq7, hf⟩ := Option.bind_eq_some_iff.mp hf
    refine bs_call (o := pEN Ls xs (d + 5) 32 [.ref 114, .int x3] (hp (some 114) nh rh TK (RK (some 3)) q6.1 q6.2)) (w := some (.int q7.1)) (h' := hp (some 114) nh rh TK (RK (some 3)) q7.2.1 q7.2.2) (pc := 30) (lo := [some (.ref 0), some (.int x1), some (.int x2), some (.int x3), w4]) (rest := [.int q5]) rfl (t_32 Ls xs (d + 0) nh rh n x3 q6.1 q6.2 q7 hq7) ?_
    obtain ⟨q8, hq8, hf⟩ := Option.bind_eq_some_iff.mp hf
    refine bs_call (o := pEN Ls xs (d + 5) 188 [.int q5, .int q7.1] (hp (some 114) nh rh TK (RK (some 3)) q7.2.1 q7.2.2)) (w := some (.int q8)) (h' := hp (some 114) nh rh TK (RK (some 3)) q7.2.1 q7.2.2) (pc := 33) (lo := [some (.ref 0), some (.int x1), some (.int x2), some (.int x3), w4]) (rest := []) rfl (t_188 Ls xs (d + 4) (some 114) TK (RK (some 3)) nh rh q5 q7.1 q7.2.1 q7.2.2 q8 hq8) ?_
    refine bs_st 2 (x' := (37, [some (.ref 0), some (.int x1), some (.int x2), some (.int x3), some (.int q8)], [.int q8], hp (some 114) nh rh TK (RK (some 3)) q7.2.1 q7.2.2)) rfl ?_
    refine bs_br (t := 61) (e := 40) (lo := [some (.ref 0), some (.int x1), some (.int x2), some (.int x3), some (.int q8)]) (st := []) (h := hp (some 114) nh rh TK (RK (some 3)) q7.2.1 q7.2.2) rfl hf (fun hc hf => ?_) (fun hc hf => ?_)
    · exact hK1 (some (.int q8)) x1 x2 x3 q7.2.1 q7.2.2 r hf
    · refine bs_st 2 (x' := (42, [some (.ref 0), some (.int x1), some (.int x2), some (.int x3), some (.int q8)], [.ref 0, .int x1], hp (some 114) nh rh TK (RK (some 3)) q7.2.1 q7.2.2)) rfl ?_
      obtain ⟨q9, hq9, hf⟩ := Option.bind_eq_some_iff.mp hf
      refine bs_call (o := pEN Ls xs (d + 5) 187 [.ref 0] (hp (some 114) nh rh TK (RK (some 3)) q7.2.1 q7.2.2)) (w := some (.ref 114)) (h' := hp (some 114) nh rh TK (RK (some 3)) q9.1 q9.2) (pc := 45) (lo := [some (.ref 0), some (.int x1), some (.int x2), some (.int x3), some (.int q8)]) (rest := [.int x1]) rfl (t_187 Ls xs (d + 4) nh rh q7.2.1 q7.2.2 q9 hq9) ?_
      refine bs_st 5 (x' := (50, [some (.ref 0), some (.int x1), some (.int x2), some (.int x3), some (.int q8)], [.int (x2 &&& (x3 ^^^ (-1 : Int32))), .ref 114, .int x1], hp (some 114) nh rh TK (RK (some 3)) q9.1 q9.2)) rfl ?_
      obtain ⟨q10, hq10, hf⟩ := Option.bind_eq_some_iff.mp hf
      refine bs_call (o := pEN Ls xs (d + 5) 32 [.ref 114, .int (x2 &&& (x3 ^^^ (-1 : Int32)))] (hp (some 114) nh rh TK (RK (some 3)) q9.1 q9.2)) (w := some (.int q10.1)) (h' := hp (some 114) nh rh TK (RK (some 3)) q10.2.1 q10.2.2) (pc := 53) (lo := [some (.ref 0), some (.int x1), some (.int x2), some (.int x3), some (.int q8)]) (rest := [.int x1]) rfl (t_32 Ls xs (d + 0) nh rh n (x2 &&& (x3 ^^^ (-1 : Int32))) q9.1 q9.2 q10 hq10) ?_
      obtain ⟨q11, hq11, hf⟩ := Option.bind_eq_some_iff.mp hf
      refine bs_call (o := pEN Ls xs (d + 5) 188 [.int x1, .int q10.1] (hp (some 114) nh rh TK (RK (some 3)) q10.2.1 q10.2.2)) (w := some (.int q11)) (h' := hp (some 114) nh rh TK (RK (some 3)) q10.2.1 q10.2.2) (pc := 56) (lo := [some (.ref 0), some (.int x1), some (.int x2), some (.int x3), some (.int q8)]) (rest := []) rfl (t_188 Ls xs (d + 4) (some 114) TK (RK (some 3)) nh rh x1 q10.1 q10.2.1 q10.2.2 q11 hq11) ?_
      refine bs_br (t := 61) (e := 59) (lo := [some (.ref 0), some (.int x1), some (.int x2), some (.int x3), some (.int q8)]) (st := []) (h := hp (some 114) nh rh TK (RK (some 3)) q10.2.1 q10.2.2) rfl hf (fun hc hf => ?_) (fun hc hf => ?_)
      · exact hK1 (some (.int q8)) x1 x2 x3 q10.2.1 q10.2.2 r hf
      · refine bs_st 1 (x' := (60, [some (.ref 0), some (.int x1), some (.int x2), some (.int x3), some (.int q8)], [.int x3], hp (some 114) nh rh TK (RK (some 3)) q10.2.1 q10.2.2)) rfl ?_
        cases hf
        exact bs_ret rfl
def b_190_1 (n : Nat) (K1 : Int32 → Int32 → Int32 → FI → FL → Option (Int32 × Bool × FI × FL)) (x1 : Int32) (x2 : Int32) (x3 : Int32) (I : FI) (L : FL) : Option (Int32 × Bool × FI × FL) :=
  c_190_2 n K1 x1 x2 (x3 + (1 : Int32)) I L
def c_190_1 (n : Nat) : Nat → Int32 → Int32 → Int32 → FI → FL → Option (Int32 × Bool × FI × FL)
  | 0, _, _, _, _, _ => none
  | m + 1, x1, x2, x3, I, L => b_190_1 n (c_190_1 n m) x1 x2 x3 I L
set_option maxHeartbeats 1000000 in
set_option maxRecDepth 20000 in
theorem tc_190_1 (Ls : Nat) (xs : Nat → Int32) (d : Nat) (nh : Option Nat) (rh : Option Nat) (n : Nat) : ∀ (m : Nat) (w4 : Option Value) (x1 : Int32) (x2 : Int32) (x3 : Int32) (I : FI) (L : FL) (r : Int32 × Bool × FI × FL), c_190_1 n m x1 x2 x3 I L = some r → Bs cd_190 (sf 11 rs_11 false 5 (some (.int)) Ls xs (d + 5)) (61, [some (.ref 0), some (.int x1), some (.int x2), some (.int x3), w4], [], hp (some 114) nh rh TK (RK (some 3)) I L) (some (.int r.1), hw r.2.1 nh rh r.2.2.1 r.2.2.2)
  | 0, w4, x1, x2, x3, I, L, r, hf => by cases hf
  | m + 1, w4, x1, x2, x3, I, L, r, hf => by
    unfold c_190_1 b_190_1 at hf
    have hK1 := tc_190_1 Ls xs d nh rh n m
    refine bs_st 2 (x' := (10, [some (.ref 0), some (.int x1), some (.int x2), some (.int (x3 + (1 : Int32))), w4], [], hp (some 114) nh rh TK (RK (some 3)) I L)) rfl ?_
    exact tc_190_2 Ls xs d nh rh n _ hK1 w4 x1 x2 (x3 + (1 : Int32)) I L r hf
def c_190_0 (n : Nat) (x1 : Int32) (x2 : Int32) (x3 : Int32) (I : FI) (L : FL) : Option (Int32 × Bool × FI × FL) :=
  if x2 < x3 then
    some ((-1 : Int32), false, I, L)
  else
    (f_23 I L).bind fun q1 =>
    (f_findA n I L).bind fun q2 =>
    (f_32 n x3 q2.1 q2.2).bind fun q3 =>
    (f_188 q1 q3.1 q3.2.1 q3.2.2).bind fun q4 =>
    if q4 = 0 then
      c_190_1 n n x1 x2 x3 q3.2.1 q3.2.2
    else
      (f_187 q3.2.1 q3.2.2).bind fun q12 =>
      (f_32 n (x2 &&& (x3 ^^^ (-1 : Int32))) q12.1 q12.2).bind fun q13 =>
      (f_188 x1 q13.1 q13.2.1 q13.2.2).bind fun q14 =>
      if q14 = 0 then
        c_190_1 n n x1 x2 x3 q13.2.1 q13.2.2
      else
        some (x3, true, q13.2.1, q13.2.2)
set_option maxHeartbeats 1000000 in
set_option maxRecDepth 20000 in
theorem tc_190_0 (Ls : Nat) (xs : Nat → Int32) (d : Nat) (nh : Option Nat) (rh : Option Nat) (n : Nat) (w4 : Option Value) (x1 : Int32) (x2 : Int32) (x3 : Int32) (I : FI) (L : FL) (r : Int32 × Bool × FI × FL) (hf : c_190_0 n x1 x2 x3 I L = some r) : Bs cd_190 (sf 11 rs_11 false 5 (some (.int)) Ls xs (d + 5)) (10, [some (.ref 0), some (.int x1), some (.int x2), some (.int x3), w4], [], hp none nh rh [] [] I L) (some (.int r.1), hw r.2.1 nh rh r.2.2.1 r.2.2.2) := by
  unfold c_190_0 at hf
  refine bs_st 2 (x' := (12, [some (.ref 0), some (.int x1), some (.int x2), some (.int x3), w4], [.int x2, .int x3], hp none nh rh [] [] I L)) rfl ?_
  refine bs_br (t := 67) (e := 15) (lo := [some (.ref 0), some (.int x1), some (.int x2), some (.int x3), w4]) (st := []) (h := hp none nh rh [] [] I L) rfl hf (fun hc hf => ?_) (fun hc hf => ?_)
  · refine bs_st 1 (x' := (68, [some (.ref 0), some (.int x1), some (.int x2), some (.int x3), w4], [.int (-1 : Int32)], hp none nh rh [] [] I L)) rfl ?_
    cases hf
    exact bs_ret rfl
  · refine bs_st 2 (x' := (19, [some (.ref 0), some (.int x1), some (.int x2), some (.int x3), w4], [.ref 3], hp none nh rh [] [] I L)) rfl ?_
    obtain ⟨q1, hq1, hf⟩ := Option.bind_eq_some_iff.mp hf
    refine bs_call (o := pEN Ls xs (d + 5) 23 [.ref 3] (hp none nh rh [] [] I L)) (w := some (.int q1)) (h' := hp none nh rh [] [] I L) (pc := 22) (lo := [some (.ref 0), some (.int x1), some (.int x2), some (.int x3), w4]) (rest := []) rfl (t_23 Ls xs (d + 4) none [] [] nh rh I L q1 hq1) ?_
    refine bs_st 1 (x' := (23, [some (.ref 0), some (.int x1), some (.int x2), some (.int x3), w4], [.ref 0, .int q1], hp none nh rh [] [] I L)) rfl ?_
    obtain ⟨q2, hq2, hf⟩ := Option.bind_eq_some_iff.mp hf
    refine bs_call (o := pEN Ls xs (d + 5) 187 [.ref 0] (hp none nh rh [] [] I L)) (w := some (.ref 114)) (h' := hp (some 114) nh rh TK (RK (some 3)) q2.1 q2.2) (pc := 26) (lo := [some (.ref 0), some (.int x1), some (.int x2), some (.int x3), w4]) (rest := [.int q1]) rfl (t_findA Ls xs (d + 2) nh rh n I L q2 hq2) ?_
    refine bs_st 1 (x' := (27, [some (.ref 0), some (.int x1), some (.int x2), some (.int x3), w4], [.int x3, .ref 114, .int q1], hp (some 114) nh rh TK (RK (some 3)) q2.1 q2.2)) rfl ?_
    obtain ⟨q3, hq3, hf⟩ := Option.bind_eq_some_iff.mp hf
    refine bs_call (o := pEN Ls xs (d + 5) 32 [.ref 114, .int x3] (hp (some 114) nh rh TK (RK (some 3)) q2.1 q2.2)) (w := some (.int q3.1)) (h' := hp (some 114) nh rh TK (RK (some 3)) q3.2.1 q3.2.2) (pc := 30) (lo := [some (.ref 0), some (.int x1), some (.int x2), some (.int x3), w4]) (rest := [.int q1]) rfl (t_32 Ls xs (d + 0) nh rh n x3 q2.1 q2.2 q3 hq3) ?_
    obtain ⟨q4, hq4, hf⟩ := Option.bind_eq_some_iff.mp hf
    refine bs_call (o := pEN Ls xs (d + 5) 188 [.int q1, .int q3.1] (hp (some 114) nh rh TK (RK (some 3)) q3.2.1 q3.2.2)) (w := some (.int q4)) (h' := hp (some 114) nh rh TK (RK (some 3)) q3.2.1 q3.2.2) (pc := 33) (lo := [some (.ref 0), some (.int x1), some (.int x2), some (.int x3), w4]) (rest := []) rfl (t_188 Ls xs (d + 4) (some 114) TK (RK (some 3)) nh rh q1 q3.1 q3.2.1 q3.2.2 q4 hq4) ?_
    refine bs_st 2 (x' := (37, [some (.ref 0), some (.int x1), some (.int x2), some (.int x3), some (.int q4)], [.int q4], hp (some 114) nh rh TK (RK (some 3)) q3.2.1 q3.2.2)) rfl ?_
    refine bs_br (t := 61) (e := 40) (lo := [some (.ref 0), some (.int x1), some (.int x2), some (.int x3), some (.int q4)]) (st := []) (h := hp (some 114) nh rh TK (RK (some 3)) q3.2.1 q3.2.2) rfl hf (fun hc hf => ?_) (fun hc hf => ?_)
    · exact tc_190_1 Ls xs d nh rh n n (some (.int q4)) x1 x2 x3 q3.2.1 q3.2.2 r hf
    · refine bs_st 2 (x' := (42, [some (.ref 0), some (.int x1), some (.int x2), some (.int x3), some (.int q4)], [.ref 0, .int x1], hp (some 114) nh rh TK (RK (some 3)) q3.2.1 q3.2.2)) rfl ?_
      obtain ⟨q12, hq12, hf⟩ := Option.bind_eq_some_iff.mp hf
      refine bs_call (o := pEN Ls xs (d + 5) 187 [.ref 0] (hp (some 114) nh rh TK (RK (some 3)) q3.2.1 q3.2.2)) (w := some (.ref 114)) (h' := hp (some 114) nh rh TK (RK (some 3)) q12.1 q12.2) (pc := 45) (lo := [some (.ref 0), some (.int x1), some (.int x2), some (.int x3), some (.int q4)]) (rest := [.int x1]) rfl (t_187 Ls xs (d + 4) nh rh q3.2.1 q3.2.2 q12 hq12) ?_
      refine bs_st 5 (x' := (50, [some (.ref 0), some (.int x1), some (.int x2), some (.int x3), some (.int q4)], [.int (x2 &&& (x3 ^^^ (-1 : Int32))), .ref 114, .int x1], hp (some 114) nh rh TK (RK (some 3)) q12.1 q12.2)) rfl ?_
      obtain ⟨q13, hq13, hf⟩ := Option.bind_eq_some_iff.mp hf
      refine bs_call (o := pEN Ls xs (d + 5) 32 [.ref 114, .int (x2 &&& (x3 ^^^ (-1 : Int32)))] (hp (some 114) nh rh TK (RK (some 3)) q12.1 q12.2)) (w := some (.int q13.1)) (h' := hp (some 114) nh rh TK (RK (some 3)) q13.2.1 q13.2.2) (pc := 53) (lo := [some (.ref 0), some (.int x1), some (.int x2), some (.int x3), some (.int q4)]) (rest := [.int x1]) rfl (t_32 Ls xs (d + 0) nh rh n (x2 &&& (x3 ^^^ (-1 : Int32))) q12.1 q12.2 q13 hq13) ?_
      obtain ⟨q14, hq14, hf⟩ := Option.bind_eq_some_iff.mp hf
      refine bs_call (o := pEN Ls xs (d + 5) 188 [.int x1, .int q13.1] (hp (some 114) nh rh TK (RK (some 3)) q13.2.1 q13.2.2)) (w := some (.int q14)) (h' := hp (some 114) nh rh TK (RK (some 3)) q13.2.1 q13.2.2) (pc := 56) (lo := [some (.ref 0), some (.int x1), some (.int x2), some (.int x3), some (.int q4)]) (rest := []) rfl (t_188 Ls xs (d + 4) (some 114) TK (RK (some 3)) nh rh x1 q13.1 q13.2.1 q13.2.2 q14 hq14) ?_
      refine bs_br (t := 61) (e := 59) (lo := [some (.ref 0), some (.int x1), some (.int x2), some (.int x3), some (.int q4)]) (st := []) (h := hp (some 114) nh rh TK (RK (some 3)) q13.2.1 q13.2.2) rfl hf (fun hc hf => ?_) (fun hc hf => ?_)
      · exact tc_190_1 Ls xs d nh rh n n (some (.int q4)) x1 x2 x3 q13.2.1 q13.2.2 r hf
      · refine bs_st 1 (x' := (60, [some (.ref 0), some (.int x1), some (.int x2), some (.int x3), some (.int q4)], [.int x3], hp (some 114) nh rh TK (RK (some 3)) q13.2.1 q13.2.2)) rfl ?_
        cases hf
        exact bs_ret rfl
def f_190 (n : Nat) (x1 : Int32) (I : FI) (L : FL) : Option (Int32 × Bool × FI × FL) :=
  (f_24 I L).bind fun q0 =>
  c_190_0 n x1 q0 (0 : Int32) I L
set_option maxHeartbeats 1000000 in
set_option maxRecDepth 20000 in
theorem t_190 (Ls : Nat) (xs : Nat → Int32) (d : Nat) (nh : Option Nat) (rh : Option Nat) (n : Nat) (x1 : Int32) (I : FI) (L : FL) (r : Int32 × Bool × FI × FL) (hf : f_190 n x1 I L = some r) : pEN Ls xs (d + 6) 190 [.ref 0, .int x1] (hp none nh rh [] [] I L) = some (some (.int r.1), hw r.2.1 nh rh r.2.2.1 r.2.2.2) := by
  refine en_run (d := d + 5) (cd := cd_190) (f := (sf 11 rs_11 false 5 (some (.int)) Ls xs (d + 5))) rfl rfl (x := (0, [some (.ref 0), some (.int x1), none, none, none], [], hp none nh rh [] [] I L)) rfl rfl (Nat.le_of_ble_eq_true rfl) ?_
  unfold f_190 at hf
  refine bs_st 2 (x' := (4, [some (.ref 0), some (.int x1), none, none, none], [.ref 3], hp none nh rh [] [] I L)) rfl ?_
  obtain ⟨q0, hq0, hf⟩ := Option.bind_eq_some_iff.mp hf
  refine bs_call (o := pEN Ls xs (d + 5) 24 [.ref 3] (hp none nh rh [] [] I L)) (w := some (.int q0)) (h' := hp none nh rh [] [] I L) (pc := 7) (lo := [some (.ref 0), some (.int x1), none, none, none]) (rest := []) rfl (t_24 Ls xs (d + 4) none [] [] nh rh I L q0 hq0) ?_
  refine bs_st 3 (x' := (10, [some (.ref 0), some (.int x1), some (.int q0), some (.int (0 : Int32)), none], [], hp none nh rh [] [] I L)) rfl ?_
  exact tc_190_0 Ls xs d nh rh n none x1 q0 (0 : Int32) I L r hf
/-- LampRounds.shares(I) on (0,) -/
def f_150 (n : Nat) (x1 : Int32) (I : FI) (L : FL) : Option (Int32 × Bool × FI × FL) :=
  (f_178 x1 I L).bind fun q0 =>
  if q0 = 0 then
    some ((-2 : Int32), false, I, L)
  else
    (f_190 n x1 I L).bind fun q1 =>
    if q1.2.1 = true then
      some (q1.1, true, q1.2.2.1, q1.2.2.2)
    else
      some (q1.1, false, q1.2.2.1, q1.2.2.2)
set_option maxHeartbeats 1000000 in
set_option maxRecDepth 20000 in
theorem t_150 (Ls : Nat) (xs : Nat → Int32) (d : Nat) (nh : Option Nat) (rh : Option Nat) (n : Nat) (x1 : Int32) (I : FI) (L : FL) (r : Int32 × Bool × FI × FL) (hf : f_150 n x1 I L = some r) : pEN Ls xs (d + 7) 150 [.ref 0, .int x1] (hp none nh rh [] [] I L) = some (some (.int r.1), hw r.2.1 nh rh r.2.2.1 r.2.2.2) := by
  refine en_run (d := d + 6) (cd := cd_150) (f := (sf 11 rs_11 false 2 (some (.int)) Ls xs (d + 6))) rfl rfl (x := (0, [some (.ref 0), some (.int x1)], [], hp none nh rh [] [] I L)) rfl rfl (Nat.le_of_ble_eq_true rfl) ?_
  unfold f_150 at hf
  refine bs_st 2 (x' := (2, [some (.ref 0), some (.int x1)], [.int x1, .ref 0], hp none nh rh [] [] I L)) rfl ?_
  obtain ⟨q0, hq0, hf⟩ := Option.bind_eq_some_iff.mp hf
  refine bs_call (o := pEN Ls xs (d + 6) 178 [.ref 0, .int x1] (hp none nh rh [] [] I L)) (w := some (.int q0)) (h' := hp none nh rh [] [] I L) (pc := 5) (lo := [some (.ref 0), some (.int x1)]) (rest := []) rfl (t_178 Ls xs (d + 5) none [] [] nh rh x1 I L q0 hq0) ?_
  refine bs_br (t := 16) (e := 8) (lo := [some (.ref 0), some (.int x1)]) (st := []) (h := hp none nh rh [] [] I L) rfl hf (fun hc hf => ?_) (fun hc hf => ?_)
  · refine bs_st 1 (x' := (18, [some (.ref 0), some (.int x1)], [.int (-2 : Int32)], hp none nh rh [] [] I L)) rfl ?_
    cases hf
    exact bs_ret rfl
  · refine bs_st 2 (x' := (10, [some (.ref 0), some (.int x1)], [.int x1, .ref 0], hp none nh rh [] [] I L)) rfl ?_
    obtain ⟨q1, hq1, hf⟩ := Option.bind_eq_some_iff.mp hf
    refine bs_cs hf (fun hb hf => ?_) (fun hb hf => ?_)
    · refine bs_call (o := pEN Ls xs (d + 6) 190 [.ref 0, .int x1] (hp none nh rh [] [] I L)) (w := some (.int q1.1)) (h' := hp (some 114) nh rh TK (RK (some 3)) q1.2.2.1 q1.2.2.2) (pc := 13) (lo := [some (.ref 0), some (.int x1)]) (rest := []) rfl ((t_190 Ls xs (d + 0) nh rh n x1 I L q1 hq1).trans (by rw [hb]; rfl)) ?_
      refine bs_st 1 (x' := (18, [some (.ref 0), some (.int x1)], [.int q1.1], hp (some 114) nh rh TK (RK (some 3)) q1.2.2.1 q1.2.2.2)) rfl ?_
      cases hf
      exact bs_ret rfl
    · refine bs_call (o := pEN Ls xs (d + 6) 190 [.ref 0, .int x1] (hp none nh rh [] [] I L)) (w := some (.int q1.1)) (h' := hp none nh rh [] [] q1.2.2.1 q1.2.2.2) (pc := 13) (lo := [some (.ref 0), some (.int x1)]) (rest := []) rfl ((t_190 Ls xs (d + 0) nh rh n x1 I L q1 hq1).trans (by rw [Bool.not_eq_true] at hb; rw [hb]; rfl)) ?_
      refine bs_st 1 (x' := (18, [some (.ref 0), some (.int x1)], [.int q1.1], hp none nh rh [] [] q1.2.2.1 q1.2.2.2)) rfl ?_
      cases hf
      exact bs_ret rfl
/-- LampRounds.second() on (0,) -/
def b_151_1 (n : Nat) (K1 : Int32 → FI → FL → Option (Int32 × Bool × FI × FL)) (x1 : Int32) (I : FI) (L : FL) : Option (Int32 × Bool × FI × FL) :=
  if I 3 4 ≤ x1 then
    some ((-1 : Int32), true, I, L)
  else
    (f_190_1 n x1 I L).bind fun q2 =>
    if q2.1 = (-1 : Int32) then
      K1 (x1 + (1 : Int32)) q2.2.1 q2.2.2
    else
      some (x1, true, q2.2.1, q2.2.2)
def c_151_1 (n : Nat) : Nat → Int32 → FI → FL → Option (Int32 × Bool × FI × FL)
  | 0, _, _, _ => none
  | m + 1, x1, I, L => b_151_1 n (c_151_1 n m) x1 I L
set_option maxHeartbeats 1000000 in
set_option maxRecDepth 20000 in
theorem tc_151_1 (Ls : Nat) (xs : Nat → Int32) (d : Nat) (nh : Option Nat) (rh : Option Nat) (n : Nat) : ∀ (m : Nat) (x1 : Int32) (I : FI) (L : FL) (r : Int32 × Bool × FI × FL), c_151_1 n m x1 I L = some r → Bs cd_151 (sf 11 rs_11 false 2 (some (.int)) Ls xs (d + 6)) (12, [some (.ref 0), some (.int x1)], [], hp (some 114) nh rh TK (RK (some 3)) I L) (some (.int r.1), hw r.2.1 nh rh r.2.2.1 r.2.2.2)
  | 0, x1, I, L, r, hf => by cases hf
  | m + 1, x1, I, L, r, hf => by
    unfold c_151_1 b_151_1 at hf
    have hK1 := tc_151_1 Ls xs d nh rh n m
    refine bs_st 4 (x' := (20, [some (.ref 0), some (.int x1)], [.int (I 3 4), .int x1], hp (some 114) nh rh TK (RK (some 3)) I L)) rfl ?_
    refine bs_br (t := 40) (e := 23) (lo := [some (.ref 0), some (.int x1)]) (st := []) (h := hp (some 114) nh rh TK (RK (some 3)) I L) rfl hf (fun hc hf => ?_) (fun hc hf => ?_)
    · refine bs_st 1 (x' := (41, [some (.ref 0), some (.int x1)], [.int (-1 : Int32)], hp (some 114) nh rh TK (RK (some 3)) I L)) rfl ?_
      cases hf
      exact bs_ret rfl
    · refine bs_st 2 (x' := (25, [some (.ref 0), some (.int x1)], [.int x1, .ref 0], hp (some 114) nh rh TK (RK (some 3)) I L)) rfl ?_
      obtain ⟨q2, hq2, hf⟩ := Option.bind_eq_some_iff.mp hf
      refine bs_call (o := pEN Ls xs (d + 6) 190 [.ref 0, .int x1] (hp (some 114) nh rh TK (RK (some 3)) I L)) (w := some (.int q2.1)) (h' := hp (some 114) nh rh TK (RK (some 3)) q2.2.1 q2.2.2) (pc := 28) (lo := [some (.ref 0), some (.int x1)]) (rest := []) rfl (t_190_1 Ls xs (d + 0) nh rh n x1 I L q2 hq2) ?_
      refine bs_st 1 (x' := (29, [some (.ref 0), some (.int x1)], [.int (-1 : Int32), .int q2.1], hp (some 114) nh rh TK (RK (some 3)) q2.2.1 q2.2.2)) rfl ?_
      refine bs_br (t := 34) (e := 32) (lo := [some (.ref 0), some (.int x1)]) (st := []) (h := hp (some 114) nh rh TK (RK (some 3)) q2.2.1 q2.2.2) rfl hf (fun hc hf => ?_) (fun hc hf => ?_)
      · refine bs_st 2 (x' := (12, [some (.ref 0), some (.int (x1 + (1 : Int32)))], [], hp (some 114) nh rh TK (RK (some 3)) q2.2.1 q2.2.2)) rfl ?_
        exact hK1 (x1 + (1 : Int32)) q2.2.1 q2.2.2 r hf
      · refine bs_st 1 (x' := (33, [some (.ref 0), some (.int x1)], [.int x1], hp (some 114) nh rh TK (RK (some 3)) q2.2.1 q2.2.2)) rfl ?_
        cases hf
        exact bs_ret rfl
def b_151_0 (n : Nat) (K0 : Int32 → FI → FL → Option (Int32 × Bool × FI × FL)) (x1 : Int32) (I : FI) (L : FL) : Option (Int32 × Bool × FI × FL) :=
  if I 3 4 ≤ x1 then
    some ((-1 : Int32), false, I, L)
  else
    (f_190 n x1 I L).bind fun q1 =>
    if q1.2.1 = true then
      if q1.1 = (-1 : Int32) then
        c_151_1 n n (x1 + (1 : Int32)) q1.2.2.1 q1.2.2.2
      else
        some (x1, true, q1.2.2.1, q1.2.2.2)
    else
      if q1.1 = (-1 : Int32) then
        K0 (x1 + (1 : Int32)) q1.2.2.1 q1.2.2.2
      else
        some (x1, false, q1.2.2.1, q1.2.2.2)
def c_151_0 (n : Nat) : Nat → Int32 → FI → FL → Option (Int32 × Bool × FI × FL)
  | 0, _, _, _ => none
  | m + 1, x1, I, L => b_151_0 n (c_151_0 n m) x1 I L
set_option maxHeartbeats 1000000 in
set_option maxRecDepth 20000 in
theorem tc_151_0 (Ls : Nat) (xs : Nat → Int32) (d : Nat) (nh : Option Nat) (rh : Option Nat) (n : Nat) : ∀ (m : Nat) (x1 : Int32) (I : FI) (L : FL) (r : Int32 × Bool × FI × FL), c_151_0 n m x1 I L = some r → Bs cd_151 (sf 11 rs_11 false 2 (some (.int)) Ls xs (d + 6)) (12, [some (.ref 0), some (.int x1)], [], hp none nh rh [] [] I L) (some (.int r.1), hw r.2.1 nh rh r.2.2.1 r.2.2.2)
  | 0, x1, I, L, r, hf => by cases hf
  | m + 1, x1, I, L, r, hf => by
    unfold c_151_0 b_151_0 at hf
    have hK0 := tc_151_0 Ls xs d nh rh n m
    refine bs_st 4 (x' := (20, [some (.ref 0), some (.int x1)], [.int (I 3 4), .int x1], hp none nh rh [] [] I L)) rfl ?_
    refine bs_br (t := 40) (e := 23) (lo := [some (.ref 0), some (.int x1)]) (st := []) (h := hp none nh rh [] [] I L) rfl hf (fun hc hf => ?_) (fun hc hf => ?_)
    · refine bs_st 1 (x' := (41, [some (.ref 0), some (.int x1)], [.int (-1 : Int32)], hp none nh rh [] [] I L)) rfl ?_
      cases hf
      exact bs_ret rfl
    · refine bs_st 2 (x' := (25, [some (.ref 0), some (.int x1)], [.int x1, .ref 0], hp none nh rh [] [] I L)) rfl ?_
      obtain ⟨q1, hq1, hf⟩ := Option.bind_eq_some_iff.mp hf
      refine bs_cs hf (fun hb hf => ?_) (fun hb hf => ?_)
      · refine bs_call (o := pEN Ls xs (d + 6) 190 [.ref 0, .int x1] (hp none nh rh [] [] I L)) (w := some (.int q1.1)) (h' := hp (some 114) nh rh TK (RK (some 3)) q1.2.2.1 q1.2.2.2) (pc := 28) (lo := [some (.ref 0), some (.int x1)]) (rest := []) rfl ((t_190 Ls xs (d + 0) nh rh n x1 I L q1 hq1).trans (by rw [hb]; rfl)) ?_
        refine bs_st 1 (x' := (29, [some (.ref 0), some (.int x1)], [.int (-1 : Int32), .int q1.1], hp (some 114) nh rh TK (RK (some 3)) q1.2.2.1 q1.2.2.2)) rfl ?_
        refine bs_br (t := 34) (e := 32) (lo := [some (.ref 0), some (.int x1)]) (st := []) (h := hp (some 114) nh rh TK (RK (some 3)) q1.2.2.1 q1.2.2.2) rfl hf (fun hc hf => ?_) (fun hc hf => ?_)
        · refine bs_st 2 (x' := (12, [some (.ref 0), some (.int (x1 + (1 : Int32)))], [], hp (some 114) nh rh TK (RK (some 3)) q1.2.2.1 q1.2.2.2)) rfl ?_
          exact tc_151_1 Ls xs d nh rh n n (x1 + (1 : Int32)) q1.2.2.1 q1.2.2.2 r hf
        · refine bs_st 1 (x' := (33, [some (.ref 0), some (.int x1)], [.int x1], hp (some 114) nh rh TK (RK (some 3)) q1.2.2.1 q1.2.2.2)) rfl ?_
          cases hf
          exact bs_ret rfl
      · refine bs_call (o := pEN Ls xs (d + 6) 190 [.ref 0, .int x1] (hp none nh rh [] [] I L)) (w := some (.int q1.1)) (h' := hp none nh rh [] [] q1.2.2.1 q1.2.2.2) (pc := 28) (lo := [some (.ref 0), some (.int x1)]) (rest := []) rfl ((t_190 Ls xs (d + 0) nh rh n x1 I L q1 hq1).trans (by rw [Bool.not_eq_true] at hb; rw [hb]; rfl)) ?_
        refine bs_st 1 (x' := (29, [some (.ref 0), some (.int x1)], [.int (-1 : Int32), .int q1.1], hp none nh rh [] [] q1.2.2.1 q1.2.2.2)) rfl ?_
        refine bs_br (t := 34) (e := 32) (lo := [some (.ref 0), some (.int x1)]) (st := []) (h := hp none nh rh [] [] q1.2.2.1 q1.2.2.2) rfl hf (fun hc hf => ?_) (fun hc hf => ?_)
        · refine bs_st 2 (x' := (12, [some (.ref 0), some (.int (x1 + (1 : Int32)))], [], hp none nh rh [] [] q1.2.2.1 q1.2.2.2)) rfl ?_
          exact hK0 (x1 + (1 : Int32)) q1.2.2.1 q1.2.2.2 r hf
        · refine bs_st 1 (x' := (33, [some (.ref 0), some (.int x1)], [.int x1], hp none nh rh [] [] q1.2.2.1 q1.2.2.2)) rfl ?_
          cases hf
          exact bs_ret rfl
def f_151 (n : Nat) (I : FI) (L : FL) : Option (Int32 × Bool × FI × FL) :=
  (f_177 I L).bind fun q0 =>
  if ¬ q0 = 0 then
    c_151_0 n n (0 : Int32) I L
  else
    some ((-2 : Int32), false, I, L)
set_option maxHeartbeats 1000000 in
set_option maxRecDepth 20000 in
theorem t_151 (Ls : Nat) (xs : Nat → Int32) (d : Nat) (nh : Option Nat) (rh : Option Nat) (n : Nat) (I : FI) (L : FL) (r : Int32 × Bool × FI × FL) (hf : f_151 n I L = some r) : pEN Ls xs (d + 7) 151 [.ref 0] (hp none nh rh [] [] I L) = some (some (.int r.1), hw r.2.1 nh rh r.2.2.1 r.2.2.2) := by
  refine en_run (d := d + 6) (cd := cd_151) (f := (sf 11 rs_11 false 2 (some (.int)) Ls xs (d + 6))) rfl rfl (x := (0, [some (.ref 0), none], [], hp none nh rh [] [] I L)) rfl rfl (Nat.le_of_ble_eq_true rfl) ?_
  unfold f_151 at hf
  refine bs_st 1 (x' := (1, [some (.ref 0), none], [.ref 0], hp none nh rh [] [] I L)) rfl ?_
  obtain ⟨q0, hq0, hf⟩ := Option.bind_eq_some_iff.mp hf
  refine bs_call (o := pEN Ls xs (d + 6) 177 [.ref 0] (hp none nh rh [] [] I L)) (w := some (.int q0)) (h' := hp none nh rh [] [] I L) (pc := 4) (lo := [some (.ref 0), none]) (rest := []) rfl (t_177 Ls xs (d + 5) none [] [] nh rh I L q0 hq0) ?_
  refine bs_br (t := 10) (e := 7) (lo := [some (.ref 0), none]) (st := []) (h := hp none nh rh [] [] I L) rfl hf (fun hc hf => ?_) (fun hc hf => ?_)
  · refine bs_st 2 (x' := (12, [some (.ref 0), some (.int (0 : Int32))], [], hp none nh rh [] [] I L)) rfl ?_
    exact tc_151_0 Ls xs d nh rh n n (0 : Int32) I L r hf
  · refine bs_st 1 (x' := (9, [some (.ref 0), none], [.int (-2 : Int32)], hp none nh rh [] [] I L)) rfl ?_
    cases hf
    exact bs_ret rfl
/-- LampRounds.back(I) on (0,) -/
def f_173 (n : Nat) (rh : Option Nat) (x1 : Int32) (I : FI) (L : FL) : Option (Int32 × Option Nat × FI × FL) :=
  if x1 < 0 then
    some ((-2 : Int32), rh, I, L)
  else
    if x1 < (3 : Int32) then
      if x1 = 0 then (if ¬ I 45 2 = 0 then
          (f_17_4 I L).bind fun q0 =>
          (f_2_3 q0.1 q0.2).bind fun q1 =>
          (f_186 n q1.1 q1.2).bind fun q2 =>
          some ((0 : Int32), (some 3), q2.1, q2.2)
        else
          some ((-6 : Int32), rh, I, L)) else if x1 = 1 then (if ¬ I 57 2 = 0 then
          (f_17_5 I L).bind fun q3 =>
          (f_2_4 q3.1 q3.2).bind fun q4 =>
          (f_186 n q4.1 q4.2).bind fun q5 =>
          some ((0 : Int32), (some 3), q5.1, q5.2)
        else
          some ((-6 : Int32), rh, I, L)) else if x1 = 2 then (if ¬ I 69 2 = 0 then
          (f_17_6 I L).bind fun q6 =>
          (f_2_5 q6.1 q6.2).bind fun q7 =>
          (f_186 n q7.1 q7.2).bind fun q8 =>
          some ((0 : Int32), (some 3), q8.1, q8.2)
        else
          some ((-6 : Int32), rh, I, L)) else none
    else
      some ((-2 : Int32), rh, I, L)
set_option maxHeartbeats 1000000 in
set_option maxRecDepth 20000 in
theorem t_173 (Ls : Nat) (xs : Nat → Int32) (d : Nat) (nh : Option Nat) (rh : Option Nat) (n : Nat) (x1 : Int32) (I : FI) (L : FL) (r : Int32 × Option Nat × FI × FL) (hf : f_173 n rh x1 I L = some r) : pEN Ls xs (d + 3) 173 [.ref 0, .int x1] (hp none nh rh [] [] I L) = some (some (.int r.1), hp none nh r.2.1 [] [] r.2.2.1 r.2.2.2) := by
  refine en_run (d := d + 2) (cd := cd_173) (f := (sf 11 rs_11 false 2 (some (.int)) Ls xs (d + 2))) rfl rfl (x := (0, [some (.ref 0), some (.int x1)], [], hp none nh rh [] [] I L)) rfl rfl (Nat.le_of_ble_eq_true rfl) ?_
  unfold f_173 at hf
  refine bs_st 1 (x' := (1, [some (.ref 0), some (.int x1)], [.int x1], hp none nh rh [] [] I L)) rfl ?_
  refine bs_br (t := 9) (e := 4) (lo := [some (.ref 0), some (.int x1)]) (st := []) (h := hp none nh rh [] [] I L) rfl hf (fun hc hf => ?_) (fun hc hf => ?_)
  · refine bs_st 1 (x' := (11, [some (.ref 0), some (.int x1)], [.int (-2 : Int32)], hp none nh rh [] [] I L)) rfl ?_
    cases hf
    exact bs_ret rfl
  · refine bs_st 2 (x' := (6, [some (.ref 0), some (.int x1)], [.int (3 : Int32), .int x1], hp none nh rh [] [] I L)) rfl ?_
    refine bs_br (t := 12) (e := 9) (lo := [some (.ref 0), some (.int x1)]) (st := []) (h := hp none nh rh [] [] I L) rfl hf (fun hc hf => ?_) (fun hc hf => ?_)
    · refine bs_st 3 (x' := (17, [some (.ref 0), some (.int x1)], [.int x1, .ref 43], hp none nh rh [] [] I L)) rfl ?_
      refine bs_cs hf (fun hc hf1_0 => ?_) (fun hc hf1_0 => ?_)
      · subst hc
        refine bs_st 2 (x' := (21, [some (.ref 0), some (.int (0 : Int32))], [.int (I 45 2)], hp none nh rh [] [] I L)) rfl ?_
        refine bs_br (t := 27) (e := 24) (lo := [some (.ref 0), some (.int (0 : Int32))]) (st := []) (h := hp none nh rh [] [] I L) rfl hf1_0 (fun hc hf1_0 => ?_) (fun hc hf1_0 => ?_)
        · refine bs_st 7 (x' := (40, [some (.ref 0), some (.int (0 : Int32))], [.ref 46, .ref 3], hp none nh rh [] [] I L)) rfl ?_
          obtain ⟨q0, hq0, hf1_0⟩ := Option.bind_eq_some_iff.mp hf1_0
          refine bs_call (o := pEN Ls xs (d + 2) 17 [.ref 3, .ref 46] (hp none nh rh [] [] I L)) (w := none) (h' := hp none nh rh [] [] q0.1 q0.2) (pc := 43) (lo := [some (.ref 0), some (.int (0 : Int32))]) (rest := []) rfl (t_17_4 Ls xs (d + 1) none [] [] nh rh I L q0 hq0) ?_
          refine bs_st 7 (x' := (56, [some (.ref 0), some (.int (0 : Int32))], [.ref 54, .ref 11], hp none nh rh [] [] q0.1 q0.2)) rfl ?_
          obtain ⟨q1, hq1, hf1_0⟩ := Option.bind_eq_some_iff.mp hf1_0
          refine bs_call (o := pEN Ls xs (d + 2) 2 [.ref 11, .ref 54] (hp none nh rh [] [] q0.1 q0.2)) (w := none) (h' := hp none nh rh [] [] q1.1 q1.2) (pc := 59) (lo := [some (.ref 0), some (.int (0 : Int32))]) (rest := []) rfl (t_2_3 Ls xs (d + 1) none [] [] nh rh q0.1 q0.2 q1 hq1) ?_
          refine bs_st 1 (x' := (60, [some (.ref 0), some (.int (0 : Int32))], [.ref 0], hp none nh rh [] [] q1.1 q1.2)) rfl ?_
          obtain ⟨q2, hq2, hf1_0⟩ := Option.bind_eq_some_iff.mp hf1_0
          refine bs_call (o := pEN Ls xs (d + 2) 186 [.ref 0] (hp none nh rh [] [] q1.1 q1.2)) (w := none) (h' := hp none nh (some 3) [] [] q2.1 q2.2) (pc := 63) (lo := [some (.ref 0), some (.int (0 : Int32))]) (rest := []) rfl (t_186 Ls xs (d + 0) nh rh n q1.1 q1.2 q2 hq2) ?_
          refine bs_st 1 (x' := (64, [some (.ref 0), some (.int (0 : Int32))], [.int (0 : Int32)], hp none nh (some 3) [] [] q2.1 q2.2)) rfl ?_
          cases hf1_0
          exact bs_ret rfl
        · refine bs_st 1 (x' := (26, [some (.ref 0), some (.int (0 : Int32))], [.int (-6 : Int32)], hp none nh rh [] [] I L)) rfl ?_
          cases hf1_0
          exact bs_ret rfl
      refine bs_cs hf1_0 (fun hc hf1_1 => ?_) (fun hc hf1_1 => ?_)
      · subst hc
        refine bs_st 2 (x' := (21, [some (.ref 0), some (.int (1 : Int32))], [.int (I 57 2)], hp none nh rh [] [] I L)) rfl ?_
        refine bs_br (t := 27) (e := 24) (lo := [some (.ref 0), some (.int (1 : Int32))]) (st := []) (h := hp none nh rh [] [] I L) rfl hf1_1 (fun hc hf1_1 => ?_) (fun hc hf1_1 => ?_)
        · refine bs_st 7 (x' := (40, [some (.ref 0), some (.int (1 : Int32))], [.ref 58, .ref 3], hp none nh rh [] [] I L)) rfl ?_
          obtain ⟨q3, hq3, hf1_1⟩ := Option.bind_eq_some_iff.mp hf1_1
          refine bs_call (o := pEN Ls xs (d + 2) 17 [.ref 3, .ref 58] (hp none nh rh [] [] I L)) (w := none) (h' := hp none nh rh [] [] q3.1 q3.2) (pc := 43) (lo := [some (.ref 0), some (.int (1 : Int32))]) (rest := []) rfl (t_17_5 Ls xs (d + 1) none [] [] nh rh I L q3 hq3) ?_
          refine bs_st 7 (x' := (56, [some (.ref 0), some (.int (1 : Int32))], [.ref 66, .ref 11], hp none nh rh [] [] q3.1 q3.2)) rfl ?_
          obtain ⟨q4, hq4, hf1_1⟩ := Option.bind_eq_some_iff.mp hf1_1
          refine bs_call (o := pEN Ls xs (d + 2) 2 [.ref 11, .ref 66] (hp none nh rh [] [] q3.1 q3.2)) (w := none) (h' := hp none nh rh [] [] q4.1 q4.2) (pc := 59) (lo := [some (.ref 0), some (.int (1 : Int32))]) (rest := []) rfl (t_2_4 Ls xs (d + 1) none [] [] nh rh q3.1 q3.2 q4 hq4) ?_
          refine bs_st 1 (x' := (60, [some (.ref 0), some (.int (1 : Int32))], [.ref 0], hp none nh rh [] [] q4.1 q4.2)) rfl ?_
          obtain ⟨q5, hq5, hf1_1⟩ := Option.bind_eq_some_iff.mp hf1_1
          refine bs_call (o := pEN Ls xs (d + 2) 186 [.ref 0] (hp none nh rh [] [] q4.1 q4.2)) (w := none) (h' := hp none nh (some 3) [] [] q5.1 q5.2) (pc := 63) (lo := [some (.ref 0), some (.int (1 : Int32))]) (rest := []) rfl (t_186 Ls xs (d + 0) nh rh n q4.1 q4.2 q5 hq5) ?_
          refine bs_st 1 (x' := (64, [some (.ref 0), some (.int (1 : Int32))], [.int (0 : Int32)], hp none nh (some 3) [] [] q5.1 q5.2)) rfl ?_
          cases hf1_1
          exact bs_ret rfl
        · refine bs_st 1 (x' := (26, [some (.ref 0), some (.int (1 : Int32))], [.int (-6 : Int32)], hp none nh rh [] [] I L)) rfl ?_
          cases hf1_1
          exact bs_ret rfl
      refine bs_cs hf1_1 (fun hc hf1_2 => ?_) (fun hc hf1_2 => ?_)
      · subst hc
        refine bs_st 2 (x' := (21, [some (.ref 0), some (.int (2 : Int32))], [.int (I 69 2)], hp none nh rh [] [] I L)) rfl ?_
        refine bs_br (t := 27) (e := 24) (lo := [some (.ref 0), some (.int (2 : Int32))]) (st := []) (h := hp none nh rh [] [] I L) rfl hf1_2 (fun hc hf1_2 => ?_) (fun hc hf1_2 => ?_)
        · refine bs_st 7 (x' := (40, [some (.ref 0), some (.int (2 : Int32))], [.ref 70, .ref 3], hp none nh rh [] [] I L)) rfl ?_
          obtain ⟨q6, hq6, hf1_2⟩ := Option.bind_eq_some_iff.mp hf1_2
          refine bs_call (o := pEN Ls xs (d + 2) 17 [.ref 3, .ref 70] (hp none nh rh [] [] I L)) (w := none) (h' := hp none nh rh [] [] q6.1 q6.2) (pc := 43) (lo := [some (.ref 0), some (.int (2 : Int32))]) (rest := []) rfl (t_17_6 Ls xs (d + 1) none [] [] nh rh I L q6 hq6) ?_
          refine bs_st 7 (x' := (56, [some (.ref 0), some (.int (2 : Int32))], [.ref 78, .ref 11], hp none nh rh [] [] q6.1 q6.2)) rfl ?_
          obtain ⟨q7, hq7, hf1_2⟩ := Option.bind_eq_some_iff.mp hf1_2
          refine bs_call (o := pEN Ls xs (d + 2) 2 [.ref 11, .ref 78] (hp none nh rh [] [] q6.1 q6.2)) (w := none) (h' := hp none nh rh [] [] q7.1 q7.2) (pc := 59) (lo := [some (.ref 0), some (.int (2 : Int32))]) (rest := []) rfl (t_2_5 Ls xs (d + 1) none [] [] nh rh q6.1 q6.2 q7 hq7) ?_
          refine bs_st 1 (x' := (60, [some (.ref 0), some (.int (2 : Int32))], [.ref 0], hp none nh rh [] [] q7.1 q7.2)) rfl ?_
          obtain ⟨q8, hq8, hf1_2⟩ := Option.bind_eq_some_iff.mp hf1_2
          refine bs_call (o := pEN Ls xs (d + 2) 186 [.ref 0] (hp none nh rh [] [] q7.1 q7.2)) (w := none) (h' := hp none nh (some 3) [] [] q8.1 q8.2) (pc := 63) (lo := [some (.ref 0), some (.int (2 : Int32))]) (rest := []) rfl (t_186 Ls xs (d + 0) nh rh n q7.1 q7.2 q8 hq8) ?_
          refine bs_st 1 (x' := (64, [some (.ref 0), some (.int (2 : Int32))], [.int (0 : Int32)], hp none nh (some 3) [] [] q8.1 q8.2)) rfl ?_
          cases hf1_2
          exact bs_ret rfl
        · refine bs_st 1 (x' := (26, [some (.ref 0), some (.int (2 : Int32))], [.int (-6 : Int32)], hp none nh rh [] [] I L)) rfl ?_
          cases hf1_2
          exact bs_ret rfl
      cases hf1_2
    · refine bs_st 1 (x' := (11, [some (.ref 0), some (.int x1)], [.int (-2 : Int32)], hp none nh rh [] [] I L)) rfl ?_
      cases hf
      exact bs_ret rfl
