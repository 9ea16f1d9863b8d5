/-! LAYER 3: marks of states, two bits each; states packed -/
def bt6 (x : Int64) (i : Nat) : Bool := x.toBitVec.getLsbD i
def bn (b : Bool) : Nat := if b then 1 else 0
def shw (j : Nat) : Int64 := ((2 : Int32) * (nI j &&& 31)).toInt64 &&& 63
theorem shw_s : ∀ j, j < 32 → (shw j).toBitVec.smod 64 = BitVec.ofNat 64 (2 * j) := by decide +kernel
theorem shw_n {j : Nat} (h : j < 32) : (BitVec.ofNat 64 (2 * j)).toNat = 2 * j := by
  rw [BitVec.toNat_ofNat]; exact Nat.mod_eq_of_lt (by omega)
theorem g3_32 (i : Nat) : (3#32).getLsbD i = decide (i < 2) := by
  rcases (show i = 0 ∨ i = 1 ∨ 2 ≤ i by omega) with rfl | rfl | h
  · rfl
  · rfl
  · rw [show (3#32).getLsbD i = false from by
      rw [show (3#32) = BitVec.ofNat 32 3 from rfl, BitVec.getLsbD_ofNat]
      have : (3 : Nat).testBit i = false := Nat.testBit_lt_two_pow (by
        have : 2 ^ 2 ≤ 2 ^ i := Nat.pow_le_pow_right (by omega) h
        omega)
      rw [this, Bool.and_false]]
    simp; omega
theorem g3_64 (i : Nat) : (3#64).getLsbD i = decide (i < 2) := by
  rcases (show i = 0 ∨ i = 1 ∨ 2 ≤ i by omega) with rfl | rfl | h
  · rfl
  · rfl
  · rw [show (3#64).getLsbD i = false from by
      rw [show (3#64) = BitVec.ofNat 64 3 from rfl, BitVec.getLsbD_ofNat]
      have : (3 : Nat).testBit i = false := Nat.testBit_lt_two_pow (by
        have : 2 ^ 2 ≤ 2 ^ i := Nat.pow_le_pow_right (by omega) h
        omega)
      rw [this, Bool.and_false]]
    simp; omega
theorem mk_get (x : Int64) {j : Nat} (hj : j < 32) : (x >>> shw j).toInt32 &&& 3 = nI (bn (bt6 x (2 * j)) + 2 * bn (bt6 x (2 * j + 1))) := by
  apply Int32.toBitVec_inj.1
  rw [Int32.toBitVec_and, Int64.toBitVec_toInt32, Int64.toBitVec_shiftRight, shw_s j hj, BitVec.sshiftRight_eq', shw_n hj]
  apply BitVec.eq_of_getLsbD_eq
  intro i hi
  rw [BitVec.getLsbD_and, show (3 : Int32).toBitVec = 3#32 from rfl, g3_32]
  have hr : (nI (bn (bt6 x (2 * j)) + 2 * bn (bt6 x (2 * j + 1)))).toBitVec.getLsbD i = (decide (i = 0) && bt6 x (2 * j) || decide (i = 1) && bt6 x (2 * j + 1)) := by
    have : ∀ a b : Bool, ∀ i, i < 32 → (nI (bn a + 2 * bn b)).toBitVec.getLsbD i = (decide (i = 0) && a || decide (i = 1) && b) := by decide +kernel
    exact this _ _ i hi
  rw [hr]
  rcases (show i = 0 ∨ i = 1 ∨ 2 ≤ i by omega) with rfl | rfl | h
  · rw [BitVec.getLsbD_signExtend, BitVec.getLsbD_sshiftRight]
    simp [bt6]; omega
  · rw [BitVec.getLsbD_signExtend, BitVec.getLsbD_sshiftRight]
    simp [bt6]; omega
  · rw [show decide (i < 2) = false by simpa using h, Bool.and_false, show decide (i = 0) = false by simp; omega, show decide (i = 1) = false by simp; omega]; rfl
def mkw (x : Int64) (j k : Nat) : Int64 := (x &&& (((3 : Int64) <<< shw j) ^^^ (-1 : Int64))) ||| ((nI k).toInt64 <<< shw j)
theorem mk_set (x : Int64) {j k : Nat} (hj : j < 32) (hk : k < 4) {i : Nat} (hi : i < 64) : bt6 (mkw x j k) i = if i = 2 * j then k.testBit 0 else if i = 2 * j + 1 then k.testBit 1 else bt6 x i := by
  have hkb : ∀ k, k < 4 → ∀ i, i < 64 → ((nI k).toInt64).toBitVec.getLsbD i = (decide (i < 2) && k.testBit i) := by decide +kernel
  have hm1 : ∀ i, i < 64 → (-1 : Int64).toBitVec.getLsbD i = true := by decide +kernel
  have e3 : ((3 : Int64) <<< shw j).toBitVec.getLsbD i = (decide (2 * j ≤ i) && decide (i < 2 * j + 2)) := by
    rw [Int64.toBitVec_shiftLeft, shw_s j hj, BitVec.shiftLeft_eq', shw_n hj, BitVec.getLsbD_shiftLeft, show (3 : Int64).toBitVec = 3#64 from rfl, g3_64]
    rw [show decide (i < 64) = true from decide_eq_true hi, Bool.true_and]
    by_cases h : i < 2 * j
    · rw [show decide (i < 2 * j) = true from decide_eq_true h, show decide (2 * j ≤ i) = false by simp; omega]; rfl
    · rw [show decide (i < 2 * j) = false by simpa using h, show decide (2 * j ≤ i) = true by simp; omega]
      have : (i - 2 * j < 2) = (i < 2 * j + 2) := propext ⟨fun q => by omega, fun q => by omega⟩
      simp [this]
  have ek : ((nI k).toInt64 <<< shw j).toBitVec.getLsbD i = (decide (2 * j ≤ i) && (decide (i < 2 * j + 2) && k.testBit (i - 2 * j))) := by
    rw [Int64.toBitVec_shiftLeft, shw_s j hj, BitVec.shiftLeft_eq', shw_n hj, BitVec.getLsbD_shiftLeft, hkb k hk _ (by omega)]
    rw [show decide (i < 64) = true from decide_eq_true hi, Bool.true_and]
    by_cases h : i < 2 * j
    · rw [show decide (i < 2 * j) = true from decide_eq_true h, show decide (2 * j ≤ i) = false by simp; omega]; rfl
    · rw [show decide (i < 2 * j) = false by simpa using h, show decide (2 * j ≤ i) = true by simp; omega]
      have : (i - 2 * j < 2) = (i < 2 * j + 2) := propext ⟨fun q => by omega, fun q => by omega⟩
      simp [this]
  unfold bt6 mkw
  rw [Int64.toBitVec_or, BitVec.getLsbD_or, Int64.toBitVec_and, BitVec.getLsbD_and, Int64.toBitVec_xor, BitVec.getLsbD_xor, e3, ek, hm1 i hi]
  by_cases h0 : i = 2 * j
  · subst h0
    rw [if_pos rfl, Nat.sub_self]
    simp
  · rw [if_neg h0]
    by_cases h1 : i = 2 * j + 1
    · subst h1
      rw [if_pos rfl, show 2 * j + 1 - 2 * j = 1 by omega]
      simp
    · rw [if_neg h1]
      by_cases h2 : 2 * j ≤ i
      · rw [show decide (i < 2 * j + 2) = false by simp; omega]
        simp
      · rw [show decide (2 * j ≤ i) = false by simpa using h2]
        simp
/-- the mark of a state, as the longs tell it -/
def mko (L : FL) (s : Nat) : Nat := bn (bt6 (L 117 (s / 32)) (2 * (s % 32))) + 2 * bn (bt6 (L 117 (s / 32)) (2 * (s % 32) + 1))
theorem mko_lt (L : FL) (s : Nat) : mko L s < 4 := by
  unfold mko bn
  split <;> split <;> omega
theorem sh5 {s : Nat} (hs : s < 16384) : nI s >>> ((5 : Int32) &&& 31) = nI (s / 32) := by
  rw [show (5 : Int32) &&& 31 = nI 5 by decide, ku_shr (by omega) (by omega)]
theorem an31 {s : Nat} (hs : s < 16384) : nI s &&& 31 = nI (s % 32) := by
  rw [show (31 : Int32) = nI (2 ^ 5 - 1) from rfl, fa_mask]
theorem shw_e {s : Nat} (hs : s < 16384) : ((2 : Int32) * (nI s &&& 31)).toInt64 &&& 63 = shw (s % 32) := by
  unfold shw
  rw [an31 hs, show nI (s % 32) &&& 31 = nI (s % 32) from by rw [ku_31]; exact ku_31k (by omega)]
theorem e50 {I : FI} {L : FL} {s : Nat} (hs : s < 16384) : f_50 (nI s) I L = some (nI (mko L s)) := by
  unfold f_50
  rw [sh5 hs, ku_if (by omega) (by omega), nI_clamp (by omega), shw_e hs, mk_get _ (by omega)]; rfl
/-- a mark is set -/
def mkS (L : FL) (s k : Nat) : FL := u2 L 117 (s / 32) (mkw (L 117 (s / 32)) (s % 32) k)
theorem e51 {I : FI} {L : FL} {s k : Nat} (hs : s < 16384) : f_51 (nI s) (nI k) I L = some (I, mkS L s k) := by
  unfold f_51
  rw [sh5 hs, ku_if (by omega) (by omega), ku_if (by omega) (by omega), nI_clamp (by omega), shw_e hs]; rfl
theorem mko_S {L : FL} {s k : Nat} (hk : k < 4) (t : Nat) : mko (mkS L s k) t = if t = s then k else mko L t := by
  unfold mko mkS
  by_cases hw : t / 32 = s / 32
  · rw [hw, u2_s]
    have ht := Nat.div_add_mod t 32
    have hs := Nat.div_add_mod s 32
    rw [mk_set _ (Nat.mod_lt _ (by omega)) hk (by omega), mk_set _ (Nat.mod_lt _ (by omega)) hk (by omega)]
    by_cases hm : t % 32 = s % 32
    · have : t = s := by omega
      rw [if_pos this, hm, if_pos rfl, if_neg (by omega), if_pos rfl]
      exact (show ∀ k, k < 4 → bn (k.testBit 0) + 2 * bn (k.testBit 1) = k by decide) k hk
    · rw [if_neg (show ¬ t = s by intro e; exact hm (by rw [e])), if_neg (by omega), if_neg (by omega), if_neg (by omega), if_neg (by omega)]
  · rw [if_neg (by intro e; exact hw (by rw [e])), u2_o hw]
/-! states packed -/
def pks (s : Nat) : Nat := 65536 * (s / 4096) + pa (dg s)
theorem dg_sid {he : Nat} {a : Nat → Nat} (ha : ∀ r, r < 4 → a r < 8) {r : Nat} (hr : r < 4) : dg (sid he a) r = a r := by
  have h0 := ha 0 (by omega)
  have h1 := ha 1 (by omega)
  have h2 := ha 2 (by omega)
  have h3 := ha 3 (by omega)
  unfold dg sid
  rcases (show r = 0 ∨ r = 1 ∨ r = 2 ∨ r = 3 by omega) with rfl | rfl | rfl | rfl
  · show (4096 * he + (a 0 + 8 * a 1 + 64 * a 2 + 512 * a 3)) / 1 % 8 = a 0; omega
  · show (4096 * he + (a 0 + 8 * a 1 + 64 * a 2 + 512 * a 3)) / 8 % 8 = a 1; omega
  · show (4096 * he + (a 0 + 8 * a 1 + 64 * a 2 + 512 * a 3)) / 64 % 8 = a 2; omega
  · show (4096 * he + (a 0 + 8 * a 1 + 64 * a 2 + 512 * a 3)) / 512 % 8 = a 3; omega
theorem he_sid {he : Nat} {a : Nat → Nat} (ha : ∀ r, r < 4 → a r < 8) : sid he a / 4096 = he := by
  have h0 := ha 0 (by omega)
  have h1 := ha 1 (by omega)
  have h2 := ha 2 (by omega)
  have h3 := ha 3 (by omega)
  unfold sid; omega
theorem dg_lt (s r : Nat) : dg s r < 8 := Nat.mod_lt _ (by omega)
theorem sid_dg (s : Nat) : sid (s / 4096) (dg s) = s := by
  unfold sid dg
  show 4096 * (s / 4096) + (s / 1 % 8 + 8 * (s / 8 % 8) + 64 * (s / 64 % 8) + 512 * (s / 512 % 8)) = s
  omega
theorem pks_sid {he : Nat} {a : Nat → Nat} (ha : ∀ r, r < 4 → a r < 8) : pks (sid he a) = 65536 * he + pa a := by
  unfold pks
  rw [he_sid ha]
  unfold pa
  rw [dg_sid ha (by omega), dg_sid ha (by omega), dg_sid ha (by omega), dg_sid ha (by omega)]
theorem pks_lt {s : Nat} (hs : s < 16384) : pks s < 65536 * 4 := by
  have := pa_lt (fun r _ => by have := dg_lt s r; omega : ∀ r, r < 4 → dg s r < 16)
  unfold pks; omega
def ixN (x : Nat) : Nat := x / 65536 * 4096 ||| ((x &&& 7 ||| (x / 2 &&& 56)) ||| (x / 4 &&& 448) ||| (x / 8 &&& 3584))
def stN (x : Nat) : Nat := x / 4096 * 65536 ||| ((x &&& 7 ||| (x &&& 56) * 2) ||| (x &&& 448) * 4 ||| (x &&& 3584) * 8)
theorem ix_all : ∀ h, h < 4 → ∀ a, a < 8 → ∀ b, b < 8 → ∀ c, c < 8 → ∀ d, d < 8 → ixN (65536 * h + (a + 16 * b + 256 * c + 4096 * d)) = 4096 * h + (a + 8 * b + 64 * c + 512 * d) ∧ stN (4096 * h + (a + 8 * b + 64 * c + 512 * d)) = 65536 * h + (a + 16 * b + 256 * c + 4096 * d) := by decide +kernel
theorem ix_pks {s : Nat} (hs : s < 16384) : ixN (pks s) = s ∧ stN s = pks s := by
  have h := ix_all (s / 4096) (by omega) (dg s 0) (dg_lt ..) (dg s 1) (dg_lt ..) (dg s 2) (dg_lt ..) (dg s 3) (dg_lt ..)
  have e := sid_dg s
  unfold sid at e
  rw [e] at h
  exact h
theorem e48 {I : FI} {L : FL} {s : Nat} (hs : s < 16384) : f_48 (nI (pks s)) I L = some (nI s) := by
  have hp := pks_lt hs
  have hd : pks s / 65536 ≤ 3 := by omega
  unfold f_48
  rw [show (16 : Int32) &&& 31 = nI 16 by decide, show (12 : Int32) &&& 31 = nI 12 by decide, show (1 : Int32) &&& 31 = nI 1 by decide, show (2 : Int32) &&& 31 = nI 2 by decide, show (3 : Int32) &&& 31 = nI 3 by decide, ku_shr (by omega) (by omega), ku_shr (by omega) (by omega), ku_shr (by omega) (by omega), ku_shr (by omega) (by omega), ku_shl (by omega) (by show pks s / 65536 * 4096 < _; omega), show (7 : Int32) = nI 7 from rfl, show (56 : Int32) = nI 56 from rfl, show (448 : Int32) = nI 448 from rfl, show (3584 : Int32) = nI 3584 from rfl, fa_and, fa_and, fa_and, fa_and, fa_or, fa_or, fa_or, fa_or]
  exact congrArg (fun z => some (nI z)) (ix_pks hs).1
theorem e49 {I : FI} {L : FL} {s : Nat} (hs : s < 16384) : f_49 (nI s) I L = some (nI (pks s)) := by
  have h1 : s &&& 56 ≤ 56 := Nat.and_le_right
  have h2 : s &&& 448 ≤ 448 := Nat.and_le_right
  have h3 : s &&& 3584 ≤ 3584 := Nat.and_le_right
  unfold f_49
  rw [show (16 : Int32) &&& 31 = nI 16 by decide, show (12 : Int32) &&& 31 = nI 12 by decide, show (1 : Int32) &&& 31 = nI 1 by decide, show (2 : Int32) &&& 31 = nI 2 by decide, show (3 : Int32) &&& 31 = nI 3 by decide, ku_shr (by omega) (by omega), show (7 : Int32) = nI 7 from rfl, show (56 : Int32) = nI 56 from rfl, show (448 : Int32) = nI 448 from rfl, show (3584 : Int32) = nI 3584 from rfl, fa_and, fa_and, fa_and, fa_and, ku_shl (by omega) (by show s / 4096 * 65536 < _; omega), ku_shl (by omega) (by omega), ku_shl (by omega) (by omega), ku_shl (by omega) (by omega), fa_or, fa_or, fa_or, fa_or]
  exact congrArg (fun z => some (nI z)) (ix_pks hs).2
