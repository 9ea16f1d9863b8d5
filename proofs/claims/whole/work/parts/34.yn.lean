/-! LAYER 3: tests of arguments, where they hold and where not -/
section YN
variable {I : FI} {L : FL} {R r : Nat} {x : Int32}
theorem e178y (h : I 3 4 = nI R) (hR : R ≤ 4) (hr : r < R) : f_178 (nI r) I L = some 1 := by rw [e178 h hR, bI_p (by rw [nI_toInt (by omega)]; omega)]
theorem e178n (h : I 3 4 = nI R) (hR : R ≤ 4) (hx : x.toInt < 0 ∨ (R : Int) ≤ x.toInt) : f_178 x I L = some 0 := by rw [e178 h hR, bI_n (by omega)]
theorem e180y (h : I 3 3 = nI R) (hR : R ≤ 30) (hr : r < R) : f_180 (nI r) I L = some 1 := by rw [e180 h hR, bI_p (by rw [nI_toInt (by omega)]; omega)]
theorem e180n (h : I 3 3 = nI R) (hR : R ≤ 30) (hx : x.toInt < 0 ∨ (R : Int) ≤ x.toInt) : f_180 x I L = some 0 := by rw [e180 h hR, bI_n (by omega)]
theorem e182y (hr : r < 2) : f_182 (nI r) I L = some 1 := by rw [e182, bI_p (by rw [nI_toInt (by omega)]; omega)]
theorem e182n (hx : x.toInt < 0 ∨ 2 ≤ x.toInt) : f_182 x I L = some 0 := by rw [e182, bI_n (by omega)]
theorem e184y (hr : r < 4) : f_184 (nI r) I L = some 1 := by rw [e184, bI_p (by rw [nI_toInt (by omega)]; omega)]
theorem e184n (hx : x.toInt < 0 ∨ 4 ≤ x.toInt) : f_184 x I L = some 0 := by rw [e184, bI_n (by omega)]
theorem e183y (hr : r ≤ 2000000000) : f_183 (nI r) I L = some 1 := by rw [e183, bI_p (by rw [nI_toInt (by omega)]; omega)]
theorem e183n (hx : x.toInt < 0 ∨ 2000000001 ≤ x.toInt) : f_183 x I L = some 0 := by rw [e183, bI_n (by omega)]
theorem e177y (h : I 3 0 = nI R) (hR : R ≤ 1000) (h0 : 0 < R) : f_177 I L = some 1 := by rw [e177 h hR, bI_p h0]
theorem e177n (h : I 3 0 = nI R) (hR : R ≤ 1000) (h0 : R = 0) : f_177 I L = some 0 := by rw [e177 h hR, bI_n (by omega)]
theorem e236y (h : I 95 0 = nI R) (hR : R ≤ 1000) (h0 : 0 < R) : f_236 I L = some 1 := by rw [e236 h hR, bI_p h0]
theorem e236n (h : I 95 0 = nI R) (hR : R ≤ 1000) (h0 : R = 0) : f_236 I L = some 0 := by rw [e236 h hR, bI_n (by omega)]
theorem e181y (h : I 3 0 = nI R) (hR : R ≤ 1000) (h0 : 0 < R) (hr : r < 2) : f_181 (nI r) I L = some 1 := by
  unfold f_181; rw [e182y hr, q_bs, q_11, e177y h hR h0, q_bs, q_11]
theorem e181n (h : I 3 0 = nI R) (hR : R ≤ 1000) (hx : R = 0 ∨ x.toInt < 0 ∨ 2 ≤ x.toInt) : f_181 x I L = some 0 := by
  unfold f_181
  rw [e182, q_bs, q_b1, e177 h hR, q_bs, q_b1]
  by_cases h1 : 0 ≤ x.toInt ∧ x.toInt ≤ 1
  · rw [if_pos h1, if_neg (by omega)]
  · rw [if_neg h1]
theorem e239y (h : I 96 3 = nI R) (hR : R ≤ 4) (hr : r < R) : f_239 (nI r).toInt64 I L = some 1 := by rw [e239 h hR, bI_p (by rw [Int32.toInt_toInt64, nI_toInt (by omega)]; omega)]
theorem e239n (h : I 96 3 = nI R) (hR : R ≤ 4) (hx : x.toInt < 0 ∨ (R : Int) ≤ x.toInt) : f_239 x.toInt64 I L = some 0 := by rw [e239 h hR, bI_n (by rw [Int32.toInt_toInt64]; omega)]
theorem e241y (h : I 96 2 = nI R) (hR : R ≤ 30) (hr : r < R) : f_241 (nI r).toInt64 I L = some 1 := by rw [e241 h hR, bI_p (by rw [Int32.toInt_toInt64, nI_toInt (by omega)]; omega)]
theorem e241n (h : I 96 2 = nI R) (hR : R ≤ 30) (hx : x.toInt < 0 ∨ (R : Int) ≤ x.toInt) : f_241 x.toInt64 I L = some 0 := by rw [e241 h hR, bI_n (by rw [Int32.toInt_toInt64]; omega)]
theorem e242y (hr : r < 2) : f_242 (nI r) I L = some 1 := by rw [e242, bI_p (by rw [nI_toInt (by omega)]; omega)]
theorem e242n (hx : x.toInt < 0 ∨ 2 ≤ x.toInt) : f_242 x I L = some 0 := by rw [e242, bI_n (by omega)]
theorem e202y (hr : r < 4) : f_202 (nI r) I L = some 1 := by rw [e202, bI_p (by rw [nI_toInt (by omega)]; omega)]
theorem e202n (hx : x.toInt < 0 ∨ 4 ≤ x.toInt) : f_202 x I L = some 0 := by rw [e202, bI_n (by omega)]
theorem e201y {b : Nat} (hb : b < 2 ^ 31) (hr : r ≤ b) : f_201 (nI r).toInt64 0 (nI b).toInt64 I L = some 1 := by rw [e201, bI_p (by rw [Int32.toInt_toInt64, Int32.toInt_toInt64, nI_toInt (by omega), nI_toInt hb, l0]; omega)]
theorem e201n {b : Nat} (hb : b < 2 ^ 31) (hx : x.toInt < 0 ∨ (b : Int) < x.toInt) : f_201 x.toInt64 0 (nI b).toInt64 I L = some 0 := by rw [e201, bI_n (by rw [Int32.toInt_toInt64, Int32.toInt_toInt64, nI_toInt hb, l0]; omega)]
theorem e243y (h : I 96 2 = nI R) (hR : R ≤ 30) {k : Nat} (hk : k < 2) (hr : r < R) : f_243 (nI k) (nI r) I L = some 1 := by
  unfold f_243; rw [e242y hk, q_bs, q_11, e241y h hR hr, q_bs, q_11]
theorem e243n (h : I 96 2 = nI R) (hR : R ≤ 30) {y : Int32} (hx : (x.toInt < 0 ∨ 2 ≤ x.toInt) ∨ (y.toInt < 0 ∨ (R : Int) ≤ y.toInt)) : f_243 x y I L = some 0 := by
  unfold f_243
  rw [e242, q_bs, q_b1, e241 h hR, q_bs, q_b1, Int32.toInt_toInt64]
  by_cases h1 : 0 ≤ x.toInt ∧ x.toInt ≤ 1
  · rw [if_pos h1, if_neg (by omega)]
  · rw [if_neg h1]
theorem e244y (h : I 96 3 = nI R) (hR : R ≤ 4) {k : Nat} (hk : k < 2) (hr : r < R) : f_244 (nI k) (nI r) I L = some 1 := by
  unfold f_244; rw [e242y hk, q_bs, q_11, e239y h hR hr, q_bs, q_11]
theorem e244n (h : I 96 3 = nI R) (hR : R ≤ 4) {y : Int32} (hx : (x.toInt < 0 ∨ 2 ≤ x.toInt) ∨ (y.toInt < 0 ∨ (R : Int) ≤ y.toInt)) : f_244 x y I L = some 0 := by
  unfold f_244
  rw [e242, q_bs, q_b1, e239 h hR, q_bs, q_b1, Int32.toInt_toInt64]
  by_cases h1 : 0 ≤ x.toInt ∧ x.toInt ≤ 1
  · rw [if_pos h1, if_neg (by omega)]
  · rw [if_neg h1]
theorem e245y (h : I 95 0 = nI R) (hR : R ≤ 1000) (h0 : 0 < R) (hr : r < 2) : f_245 (nI r) I L = some 1 := by
  unfold f_245; rw [e236y h hR h0, q_bs, q_11, e242y hr, q_bs, q_11]
theorem e245n (h : I 95 0 = nI R) (hR : R ≤ 1000) (hx : R = 0 ∨ x.toInt < 0 ∨ 2 ≤ x.toInt) : f_245 x I L = some 0 := by
  unfold f_245
  rw [e236 h hR, q_bs, q_b1, e242, q_bs, q_b1]
  by_cases h1 : 0 < R
  · rw [if_pos h1, if_neg (by omega)]
  · rw [if_neg h1]
end YN
