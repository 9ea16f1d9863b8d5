/-! LAYER 3, the ground: ints as numbers; the first rows are those of kit/laws/NUMBERS.to-paste -/
theorem fa_lt (a b : Int32) : a < b ↔ a.toInt < b.toInt := Int32.lt_iff_toInt_lt
theorem fa_le (a b : Int32) : a ≤ b ↔ a.toInt ≤ b.toInt := Int32.le_iff_toInt_le
theorem fa_eq (a b : Int32) : a = b ↔ a.toInt = b.toInt := Int32.toInt_inj.symm
theorem fa_lt64 (a b : Int64) : a < b ↔ a.toInt < b.toInt := Int64.lt_iff_toInt_lt
theorem fa_le64 (a b : Int64) : a ≤ b ↔ a.toInt ≤ b.toInt := Int64.le_iff_toInt_le
theorem fa_eq64 (a b : Int64) : a = b ↔ a.toInt = b.toInt := Int64.toInt_inj.symm
/-- a comparison of two ints taken as longs -/
theorem fa_wide_lt (a b : Int32) : a.toInt64 < b.toInt64 ↔ a < b := by rw [fa_lt64, fa_lt, Int32.toInt_toInt64, Int32.toInt_toInt64]
theorem fa_wide_le (a b : Int32) : a.toInt64 ≤ b.toInt64 ↔ a ≤ b := by rw [fa_le64, fa_le, Int32.toInt_toInt64, Int32.toInt_toInt64]
theorem fa_wide_eq (a b : Int32) : a.toInt64 = b.toInt64 ↔ a = b := by rw [fa_eq64, fa_eq, Int32.toInt_toInt64, Int32.toInt_toInt64]
/-- one strict comparison gives all the others -/
theorem fa_of_lt {a b : Int32} (h : a < b) : a ≤ b ∧ ¬ b ≤ a ∧ ¬ b < a ∧ a ≠ b ∧ b ≠ a := by
  rw [fa_lt] at h
  refine ⟨?_, ?_, ?_, ?_, ?_⟩
  · rw [fa_le]; omega
  · rw [fa_le]; omega
  · rw [fa_lt]; omega
  · intro e; rw [fa_eq] at e; omega
  · intro e; rw [fa_eq] at e; omega
theorem fa_of_nlt {a b : Int32} (h : ¬ a < b) : b ≤ a := by
  rw [fa_lt] at h
  rw [fa_le]
  omega
theorem fa_of_nle {a b : Int32} (h : ¬ a ≤ b) : b < a := by
  rw [fa_le] at h
  rw [fa_lt]
  omega
theorem fa_le_ne {a b : Int32} (h : a ≤ b) (h2 : a ≠ b) : a < b := by
  rw [fa_le] at h
  rw [fa_lt]
  have h3 : a.toInt ≠ b.toInt := fun e => h2 ((fa_eq a b).mpr e)
  omega
theorem fa_three (a b : Int32) : a < b ∨ a = b ∨ b < a := by
  rw [fa_lt, fa_lt, fa_eq]
  omega
theorem fa_trans {a b c : Int32} (h : a < b) (h2 : b ≤ c) : a < c := by
  rw [fa_lt] at *
  rw [fa_le] at h2
  omega
/-! ===== small literals as numbers ===== -/
theorem fa_lit (n : Nat) : (OfNat.ofNat n : Int32) = nI n := rfl
theorem fa_litL (n : Nat) : (OfNat.ofNat n : Int64) = lN n := rfl
/-! ===== bits of a number: 'or', masks, one bit ===== -/
theorem fa_and (a b : Nat) : nI a &&& nI b = nI (a &&& b) := by
  apply Int32.toBitVec_inj.1
  show BitVec.ofNat 32 a &&& BitVec.ofNat 32 b = BitVec.ofNat 32 (a &&& b)
  apply BitVec.eq_of_getLsbD_eq
  intro i hi
  simp [hi]
theorem fa_or (a b : Nat) : nI a ||| nI b = nI (a ||| b) := by
  apply Int32.toBitVec_inj.1
  show BitVec.ofNat 32 a ||| BitVec.ofNat 32 b = BitVec.ofNat 32 (a ||| b)
  apply BitVec.eq_of_getLsbD_eq
  intro i hi
  simp [hi]
/-- a remainder by a power of two, as a mask -/
theorem fa_mask (n k : Nat) : nI n &&& nI (2 ^ k - 1) = nI (n % 2 ^ k) := by rw [fa_and, Nat.and_two_pow_sub_one_eq_mod]
/-- 'or' of a high part and a low one that don't meet is their sum -/
theorem fa_or_sum {a k : Nat} (b : Nat) (h : a < 2 ^ k) : nI (2 ^ k * b) ||| nI a = nI (2 ^ k * b + a) := by rw [fa_or, Nat.two_pow_add_eq_or_of_lt h]
/-! ===== LAYER 3: ints as numbers ===== -/
def oI (a : Nat) : Int32 := nI a - 1
def bI (p : Prop) [Decidable p] : Int32 := if p then 1 else 0
theorem oI_0 : oI 0 = -1 := by decide +kernel
theorem oI_s (a : Nat) : oI (a + 1) = nI a := nI_pred a
theorem oI_toInt {a : Nat} (h : a < 2 ^ 31) : (oI a).toInt = (a : Int) - 1 := by
  cases a with
  | zero => decide +kernel
  | succ a => rw [oI_s, nI_toInt (by omega)]; omega
theorem oI_eq {a b : Nat} (ha : a < 2 ^ 31) (hb : b < 2 ^ 31) : oI a = oI b ↔ a = b := by
  rw [fa_eq, oI_toInt ha, oI_toInt hb]; omega
theorem oI_m1 {a : Nat} (ha : a < 2 ^ 31) : oI a = -1 ↔ a = 0 := by rw [← oI_0, oI_eq ha (by omega)]
theorem oI_nI {a b : Nat} (ha : a < 2 ^ 31) (hb : b < 2 ^ 31) : oI a = nI b ↔ a = b + 1 := by
  rw [fa_eq, oI_toInt ha, nI_toInt hb]; omega
theorem bI_p {p : Prop} [Decidable p] (h : p) : bI p = 1 := if_pos h
theorem bI_n {p : Prop} [Decidable p] (h : ¬ p) : bI p = 0 := if_neg h
theorem bI_0 {p : Prop} [Decidable p] : bI p = 0 ↔ ¬ p := by
  by_cases h : p
  · rw [bI_p h]; exact ⟨fun e => absurd e (by decide), fun e => absurd h e⟩
  · rw [bI_n h]; exact ⟨fun _ => h, fun _ => rfl⟩
theorem bI_nar {p : Prop} [Decidable p] : narrow .boolean (.int (bI p)) = .int (bI p) := by
  by_cases h : p
  · rw [bI_p h]; rfl
  · rw [bI_n h]; rfl
theorem bI_cong {p q : Prop} [Decidable p] [Decidable q] (h : p ↔ q) : bI p = bI q := by
  by_cases hp : p
  · rw [bI_p hp, bI_p (h.mp hp)]
  · rw [bI_n hp, bI_n (fun e => hp (h.mpr e))]
theorem q_z0 : (0 : Int32) = nI 0 := rfl
theorem q_pin (x : Int32) (n : Nat) : pin x n = true ↔ 0 ≤ x.toInt ∧ x.toInt < n := by
  have h0 : (0 : Int32).toInt = 0 := rfl
  unfold pin
  simp only [Bool.not_eq_true', Bool.or_eq_false_iff, decide_eq_false_iff_not, fa_lt, h0, Int32.toNatClampNeg]
  omega
theorem q_pinN {k n : Nat} (h : k < n) (hn : n < 2 ^ 31) : pin (nI k) n = true := by
  rw [q_pin, nI_toInt (by omega)]; omega
/-- an argument: below 0, too large, or a number -/
theorem q_arg (x : Int32) {n : Nat} (hn : n < 2 ^ 31) : (x.toInt < 0 ∨ (n : Int) ≤ x.toInt) ∨ ∃ j : Nat, j < n ∧ x = nI j := by
  by_cases h : x.toInt < 0 ∨ (n : Int) ≤ x.toInt
  · exact Or.inl h
  · refine Or.inr ⟨x.toInt.toNat, by omega, ?_⟩
    rw [fa_eq, nI_toInt (by omega)]; omega
theorem q_cmp_lt (a b : Int64) : lg_cmp a b < 0 ↔ a.toInt < b.toInt := (lg_cmp_lt a b).trans (fa_lt64 a b)
theorem q_cmp_gt (a b : Int64) : 0 < lg_cmp a b ↔ b.toInt < a.toInt := (lg_cmp_gt a b).trans (fa_lt64 b a)
theorem q_cmp_le (a b : Int64) : lg_cmp a b ≤ 0 ↔ a.toInt ≤ b.toInt := (lg_cmp_le a b).trans (fa_le64 a b)
theorem q_cmp_ge (a b : Int64) : 0 ≤ lg_cmp a b ↔ b.toInt ≤ a.toInt := (lg_cmp_ge a b).trans (fa_le64 b a)
theorem e201 (y a b : Int64) (I : FI) (L : FL) : f_201 y a b I L = some (bI (a.toInt ≤ y.toInt ∧ y.toInt ≤ b.toInt)) := by
  unfold f_201
  simp only [q_cmp_lt, q_cmp_gt]
  by_cases h1 : y.toInt < a.toInt
  · rw [if_pos h1, bI_n (by omega)]
  · rw [if_neg h1]
    by_cases h2 : b.toInt < y.toInt
    · rw [if_pos h2, bI_n (by omega)]
    · rw [if_neg h2, bI_p (by omega)]
theorem q_b1 {p : Prop} [Decidable p] {α : Type} {A B : α} : (if bI p = 0 then A else B) = if p then B else A := by
  by_cases h : p
  · rw [if_pos h, bI_p h, if_neg (by decide)]
  · rw [if_neg h, bI_n h, if_pos rfl]
theorem q_b2 {p : Prop} [Decidable p] {α : Type} {A B : α} : (if ¬ bI p = 0 then A else B) = if p then A else B := by
  by_cases h : p
  · rw [if_pos h, bI_p h, if_pos (by decide)]
  · rw [if_neg h, bI_n h, if_neg (by decide)]
theorem q_b3 {p : Prop} [Decidable p] {α : Type} {A B : α} : (if narrow .boolean (.int (bI p)) = .int (bI p) then A else B) = A := if_pos bI_nar
theorem q_11 {α : Type} {A B : α} : (if (1 : Int32) = 0 then A else B) = B := rfl
theorem q_00 {α : Type} {A B : α} : (if (0 : Int32) = 0 then A else B) = A := rfl
theorem q_n11 {α : Type} {A B : α} : (if ¬ (1 : Int32) = 0 then A else B) = A := rfl
theorem q_n00 {α : Type} {A B : α} : (if ¬ (0 : Int32) = 0 then A else B) = B := rfl
theorem q_bs {α β : Type} (x : α) (f : α → Option β) : (some x).bind f = f x := rfl
theorem e202 (x : Int32) (I : FI) (L : FL) : f_202 x I L = some (bI (0 ≤ x.toInt ∧ x.toInt ≤ 3)) := by
  unfold f_202
  rw [e201, q_bs, q_b3, Int32.toInt_toInt64]; rfl
theorem e242 (x : Int32) (I : FI) (L : FL) : f_242 x I L = some (bI (0 ≤ x.toInt ∧ x.toInt ≤ 1)) := by
  unfold f_242
  rw [e201, q_bs, q_b3, Int32.toInt_toInt64]; rfl
theorem q_sub1 {R : Nat} (h : R < 2 ^ 31) : ((nI R).toInt64 - (1 : Int64)).toInt = (R : Int) - 1 := by
  rw [Int64.toInt_sub, Int32.toInt_toInt64, nI_toInt h]
  show ((R : Int) - 1).bmod (2 ^ 64) = _
  rw [Int.bmod_eq_of_le] <;> omega
theorem e239 {R : Nat} {I : FI} (h : I 96 3 = nI R) (hR : R ≤ 4) (y : Int64) (L : FL) : f_239 y I L = some (bI (0 ≤ y.toInt ∧ y.toInt < R)) := by
  unfold f_239 f_237
  rw [q_bs, e201, q_bs, q_b3, h, q_sub1 (by omega)]
  exact congrArg some (bI_cong ⟨fun q => ⟨q.1, by have := q.2; omega⟩, fun q => ⟨q.1, by have := q.2; omega⟩⟩)
theorem e241 {R : Nat} {I : FI} (h : I 96 2 = nI R) (hR : R ≤ 30) (y : Int64) (L : FL) : f_241 y I L = some (bI (0 ≤ y.toInt ∧ y.toInt < R)) := by
  unfold f_241 f_238
  rw [q_bs, e201, q_bs, q_b3, h, q_sub1 (by omega)]
  exact congrArg some (bI_cong ⟨fun q => ⟨q.1, by have := q.2; omega⟩, fun q => ⟨q.1, by have := q.2; omega⟩⟩)
theorem e178 {R : Nat} {I : FI} (h : I 3 4 = nI R) (hR : R ≤ 4) (x : Int32) (L : FL) : f_178 x I L = some (bI (0 ≤ x.toInt ∧ x.toInt < R)) := by
  have h0 : (0 : Int32).toInt = 0 := rfl
  unfold f_178
  simp only [h, fa_lt, fa_le, h0, nI_toInt (show R < 2 ^ 31 by omega)]
  by_cases h1 : x.toInt < 0
  · rw [if_pos h1, bI_n (by omega)]
  · rw [if_neg h1]
    by_cases h2 : (R : Int) ≤ x.toInt
    · rw [if_pos h2, bI_n (by omega)]
    · rw [if_neg h2, bI_p (by omega)]
theorem e180 {R : Nat} {I : FI} (h : I 3 3 = nI R) (hR : R ≤ 30) (x : Int32) (L : FL) : f_180 x I L = some (bI (0 ≤ x.toInt ∧ x.toInt < R)) := by
  have h0 : (0 : Int32).toInt = 0 := rfl
  unfold f_180
  simp only [h, fa_lt, fa_le, h0, nI_toInt (show R < 2 ^ 31 by omega)]
  by_cases h1 : x.toInt < 0
  · rw [if_pos h1, bI_n (by omega)]
  · rw [if_neg h1]
    by_cases h2 : (R : Int) ≤ x.toInt
    · rw [if_pos h2, bI_n (by omega)]
    · rw [if_neg h2, bI_p (by omega)]
theorem e184 (x : Int32) (I : FI) (L : FL) : f_184 x I L = some (bI (0 ≤ x.toInt ∧ x.toInt ≤ 3)) := by
  have h0 : (0 : Int32).toInt = 0 := rfl
  have h4 : (4 : Int32).toInt = 4 := rfl
  unfold f_184
  simp only [fa_lt, fa_le, h0, h4]
  by_cases h1 : x.toInt < 0
  · rw [if_pos h1, bI_n (by omega)]
  · rw [if_neg h1]
    by_cases h2 : (4 : Int) ≤ x.toInt
    · rw [if_pos h2, bI_n (by omega)]
    · rw [if_neg h2, bI_p (by omega)]
theorem e182 (x : Int32) (I : FI) (L : FL) : f_182 x I L = some (bI (0 ≤ x.toInt ∧ x.toInt ≤ 1)) := by
  have h0 : (0 : Int32).toInt = 0 := rfl
  have h4 : (1 : Int32).toInt = 1 := rfl
  unfold f_182
  simp only [fa_eq, h0, h4]
  by_cases h1 : x.toInt = 0
  · rw [if_pos h1, bI_p (by omega)]
  · rw [if_neg h1]
    by_cases h2 : x.toInt = 1
    · rw [if_neg (by omega), bI_p (by omega)]
    · rw [if_pos h2, bI_n (by omega)]
theorem e183 (x : Int32) (I : FI) (L : FL) : f_183 x I L = some (bI (0 ≤ x.toInt ∧ x.toInt ≤ 2000000000)) := by
  have h0 : (0 : Int32).toInt = 0 := rfl
  have h4 : (2000000000 : Int32).toInt = 2000000000 := rfl
  unfold f_183
  simp only [fa_lt, h0, h4]
  by_cases h1 : x.toInt < 0
  · rw [if_pos h1, bI_n (by omega)]
  · rw [if_neg h1]
    by_cases h2 : (2000000000 : Int) < x.toInt
    · rw [if_pos h2, bI_n (by omega)]
    · rw [if_neg h2, bI_p (by omega)]
theorem e177 {R : Nat} {I : FI} (h : I 3 0 = nI R) (hR : R ≤ 1000) (L : FL) : f_177 I L = some (bI (0 < R)) := by
  have h0 : (0 : Int32).toInt = 0 := rfl
  unfold f_177
  simp only [h, fa_le, h0, nI_toInt (show R < 2 ^ 31 by omega)]
  by_cases h1 : (R : Int) ≤ 0
  · rw [if_pos h1, bI_n (by omega)]
  · rw [if_neg h1, bI_p (by omega)]
theorem e236 {R : Nat} {I : FI} (h : I 95 0 = nI R) (hR : R ≤ 1000) (L : FL) : f_236 I L = some (bI (0 < R)) := by
  have h0 : (0 : Int32).toInt = 0 := rfl
  unfold f_236
  simp only [h, fa_le, h0, nI_toInt (show R < 2 ^ 31 by omega)]
  by_cases h1 : (R : Int) ≤ 0
  · rw [if_pos h1, bI_n (by omega)]
  · rw [if_neg h1, bI_p (by omega)]
