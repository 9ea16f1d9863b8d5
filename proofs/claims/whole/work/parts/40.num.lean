/-! LAYER 3: the number kit: literals, bits, comparisons; first finds -/
theorem ku_0 : (0 : Int32) = nI 0 := rfl
theorem ku_1 : (1 : Int32) = nI 1 := rfl
theorem ku_2 : (2 : Int32) = nI 2 := rfl
theorem ku_3 : (3 : Int32) = nI 3 := rfl
theorem ku_4 : (4 : Int32) = nI 4 := rfl
theorem ku_5 : (5 : Int32) = nI 5 := rfl
theorem ku_7 : (7 : Int32) = nI 7 := rfl
theorem ku_8 : (8 : Int32) = nI 8 := rfl
theorem ku_9 : (9 : Int32) = nI 9 := rfl
theorem ku_10 : (10 : Int32) = nI 10 := rfl
theorem ku_12 : (12 : Int32) = nI 12 := rfl
theorem ku_15 : (15 : Int32) = nI 15 := rfl
theorem ku_16 : (16 : Int32) = nI 16 := rfl
theorem ku_30 : (30 : Int32) = nI 30 := rfl
theorem ku_31 : (31 : Int32) = nI 31 := rfl
theorem ku_60 : (60 : Int32) = nI 60 := rfl
theorem ku_99 : (99 : Int32) = nI 99 := rfl
theorem ku_100 : (100 : Int32) = nI 100 := rfl
theorem ku_120 : (120 : Int32) = nI 120 := rfl
theorem ku_1000 : (1000 : Int32) = nI 1000 := rfl
theorem ku_1200 : (1200 : Int32) = nI 1200 := rfl
theorem ku_100k : (100000 : Int32) = nI 100000 := rfl
theorem ku_m : (-1 : Int32) = oI 0 := by decide +kernel
theorem ku_pin {k n : Nat} (hk : k < 2 ^ 31) : (pin (nI k) n = true) ↔ k < n := by
  rw [q_pin, nI_toInt hk]; omega
theorem ku_if {k n : Nat} {α : Type} {A B : α} (h : k < n) (hk : k < 2 ^ 31) : (if pin (nI k) n = true then A else B) = A := if_pos ((ku_pin hk).mpr h)
theorem ku_on {a b : Nat} (ha : a < 2 ^ 31) (hb : b < 2 ^ 31) : nI b = oI a ↔ a = b + 1 := ⟨fun h => (oI_nI ha hb).mp h.symm, fun h => ((oI_nI ha hb).mpr h).symm⟩
theorem ku_p1 (k : Nat) : nI (k + 1) - nI 1 = nI k := nI_pred k
theorem ku_o1 {a : Nat} (h : 0 < a) : oI a = nI (a - 1) := by
  cases a with
  | zero => omega
  | succ a => rw [oI_s]; rfl
theorem ku_31k {k : Nat} (h : k < 32) : nI k &&& nI 31 = nI k := by
  rw [fa_and, show (31 : Nat) = 2 ^ 5 - 1 from rfl, Nat.and_two_pow_sub_one_eq_mod, Nat.mod_eq_of_lt h]
theorem ku_sm : ∀ k, k < 32 → ((nI k).toBitVec.smod 32).toNat = k := by decide +kernel
theorem ku_shl {a k : Nat} (hk : k < 32) (h : a * 2 ^ k < 2 ^ 32) : nI a <<< nI k = nI (a * 2 ^ k) := pk_shlN _ k (ku_sm k hk) h
theorem ku_shr {a k : Nat} (hk : k < 32) (h : a < 2 ^ 31) : nI a >>> nI k = nI (a / 2 ^ k) := pk_shrN h _ k (ku_sm k hk)
theorem ku_pw : ∀ k, k < 31 → 2 ^ k < 2 ^ 31 := by decide +kernel
theorem ku_one {k : Nat} (hk : k < 31) : nI 1 <<< nI k = nI (2 ^ k) := by
  rw [ku_shl (by omega) (by have := ku_pw k hk; omega), Nat.one_mul]
theorem ku_tb (a k : Nat) : a / 2 ^ k % 2 = if a.testBit k = true then 1 else 0 := by
  have : a.testBit k = (a / 2 ^ k % 2 == 1) := by
    rw [Nat.testBit, Nat.shiftRight_eq_div_pow, Nat.one_and_eq_mod_two]
    rcases Nat.mod_two_eq_zero_or_one (a / 2 ^ k) with h | h <;> rw [h] <;> rfl
  rw [this]
  rcases Nat.mod_two_eq_zero_or_one (a / 2 ^ k) with h | h <;> rw [h] <;> rfl
/-- a bit, as the code tests it -/
theorem ku_bit {a k : Nat} (hk : k < 32) (h : a < 2 ^ 31) : (nI a >>> nI k) &&& nI 1 = bI (a.testBit k = true) := by
  rw [ku_shr hk h, fa_and, Nat.and_one_is_mod, ku_tb]
  by_cases hb : a.testBit k = true
  · rw [if_pos hb, bI_p hb]; rfl
  · rw [if_neg hb, bI_n hb]; rfl
theorem ku_bit2 {a k : Nat} (hk : k < 32) (h : a < 2 ^ 31) : (nI a >>> (nI k &&& 31)) &&& 1 = bI (a.testBit k = true) := by
  rw [ku_31, ku_31k hk, ku_1, ku_bit hk h]
theorem ku_set {k : Nat} (hk : k < 31) : (1 : Int32) <<< (nI k &&& 31) = nI (2 ^ k) := by
  rw [ku_31, ku_31k (by omega), ku_1, ku_one hk]
theorem ku_or {a k : Nat} (hk : k < 31) : nI a ||| ((1 : Int32) <<< (nI k &&& 31)) = nI (a ||| 2 ^ k) := by
  rw [ku_set hk, fa_or]
theorem bI_e0 {p : Prop} [Decidable p] : bI p = nI 0 ↔ ¬ p := bI_0
theorem bI_1 {p : Prop} [Decidable p] : bI p = 1 ↔ p := by
  by_cases h : p
  · rw [bI_p h]; exact ⟨fun _ => h, fun _ => rfl⟩
  · rw [bI_n h]; exact ⟨fun e => absurd e (by decide), fun e => absurd e h⟩
theorem bI_e1 {p : Prop} [Decidable p] : bI p = nI 1 ↔ p := bI_1
theorem pw4 : ∀ r, r < 4 → 2 ^ r < 16 := by decide
theorem pw5 : ∀ r, r < 5 → 2 ^ r < 32 := by decide
theorem pw12 : ∀ r, r < 12 → 2 ^ r < 4096 := by decide
theorem or16 {a b : Nat} (ha : a < 16) (hb : b < 16) : a ||| b < 16 := Nat.or_lt_two_pow (n := 4) ha hb
theorem or30 {a b : Nat} (ha : a < 2 ^ 30) (hb : b < 2 ^ 30) : a ||| b < 2 ^ 30 := Nat.or_lt_two_pow ha hb
theorem tb_or (a b k : Nat) : (a ||| b).testBit k = (a.testBit k || b.testBit k) := Nat.testBit_or a b k
theorem tb_pw (j k : Nat) : (2 ^ j).testBit k = decide (j = k) := by
  rw [Nat.testBit_two_pow]
/-- the least k below n with p, and 1; 0 if there is none -/
def fnd (p : Nat → Bool) : Nat → Nat
  | 0 => 0
  | k + 1 => if fnd p k = 0 then (if p k = true then k + 1 else 0) else fnd p k
theorem fnd_0 {p : Nat → Bool} : ∀ {n : Nat}, fnd p n = 0 ↔ ∀ k, k < n → p k = false
  | 0 => ⟨fun _ k hk => absurd hk (by omega), fun _ => rfl⟩
  | n + 1 => by
    unfold fnd
    by_cases h : fnd p n = 0
    · rw [if_pos h]
      have h2 := fnd_0.mp h
      by_cases hp : p n = true
      · rw [if_pos hp]
        exact ⟨fun e => absurd e (by omega), fun e => by rw [e n (by omega)] at hp; exact absurd hp (by decide)⟩
      · rw [if_neg hp]
        refine ⟨fun _ k hk => ?_, fun _ => rfl⟩
        rcases (show k < n ∨ k = n by omega) with h3 | rfl
        · exact h2 k h3
        · simpa using hp
    · rw [if_neg h]
      exact ⟨fun e => absurd e h, fun e => absurd (fnd_0.mpr (fun k hk => e k (by omega))) h⟩
theorem fnd_s {p : Nat → Bool} : ∀ {n j : Nat}, fnd p n = j + 1 ↔ j < n ∧ p j = true ∧ ∀ k, k < j → p k = false
  | 0, j => ⟨fun e => absurd e (by unfold fnd; omega), fun e => absurd e.1 (by omega)⟩
  | n + 1, j => by
    unfold fnd
    by_cases h : fnd p n = 0
    · rw [if_pos h]
      have h2 := fnd_0.mp h
      by_cases hp : p n = true
      · rw [if_pos hp]
        refine ⟨fun e => ?_, fun e => ?_⟩
        · have : j = n := by omega
          subst this
          exact ⟨by omega, hp, h2⟩
        · have : ¬ j < n := fun q => by rw [h2 j q] at e; exact absurd e.2.1 (by decide)
          omega
      · rw [if_neg hp]
        refine ⟨fun e => absurd e (by omega), fun e => ?_⟩
        rcases (show j < n ∨ j = n by omega) with h3 | rfl
        · rw [h2 j h3] at e; exact absurd e.2.1 (by decide)
        · exact absurd e.2.1 hp
    · rw [if_neg h, fnd_s]
      refine ⟨fun e => ⟨by omega, e.2⟩, fun e => ⟨?_, e.2⟩⟩
      rcases (show j < n ∨ j = n by omega) with h3 | rfl
      · exact h3
      · exact absurd (fnd_0.mpr e.2.2) h
theorem fnd_le (p : Nat → Bool) : ∀ n, fnd p n ≤ n
  | 0 => Nat.le_refl _
  | n + 1 => by
    have := fnd_le p n
    unfold fnd
    split
    · split <;> omega
    · omega
theorem fnd_cong {p q : Nat → Bool} : ∀ {n : Nat}, (∀ k, k < n → p k = q k) → fnd p n = fnd q n
  | 0, _ => rfl
  | n + 1, h => by unfold fnd; rw [fnd_cong (n := n) (fun k hk => h k (by omega)), h n (by omega)]
theorem fnd_st {p : Nat → Bool} {n : Nat} (h : fnd p n ≠ 0) : fnd p (n + 1) = fnd p n := by
  show (if fnd p n = 0 then _ else _) = _; rw [if_neg h]
theorem fnd_p {p : Nat → Bool} {n : Nat} (h : fnd p n = 0) (hp : p n = true) : fnd p (n + 1) = n + 1 := by
  show (if fnd p n = 0 then _ else _) = _; rw [if_pos h, if_pos hp]
theorem fnd_n {p : Nat → Bool} {n : Nat} (h : fnd p n = 0) (hp : p n = false) : fnd p (n + 1) = 0 := by
  show (if fnd p n = 0 then _ else _) = _; rw [if_pos h, if_neg (by rw [hp]; decide)]
theorem fnd_mono {p : Nat → Bool} {n m : Nat} (h : fnd p n ≠ 0) (hm : n ≤ m) : fnd p m = fnd p n := by
  obtain ⟨j, hj⟩ : ∃ j, fnd p n = j + 1 := ⟨fnd p n - 1, by omega⟩
  rw [hj]
  have := fnd_s.mp hj
  exact fnd_s.mpr ⟨by omega, this.2⟩
theorem lpEk {σ β : Type} {G : Prop} (c : Nat → Nat → σ → β) (R : Nat) (Inv : Nat → σ → Prop) (fin : σ → β) (m k : Nat) (s : σ) (hk : k ≤ R) (hm : R - k < m) (hi : Inv k s) (kf : ∀ s', Inv R s' → c m k s = fin s' → G) (h0 : ∀ m s, Inv R s → c (m + 1) R s = fin s) (h1 : ∀ m k s, k < R → Inv k s → ∃ s', Inv (k + 1) s' ∧ c (m + 1) k s = c m (k + 1) s') : G := by
  obtain ⟨s', h, e⟩ := lpE c R Inv fin h0 h1 m k s hk hm hi
  exact kf s' h e
theorem lpGk {σ β : Type} {G : Prop} (c : Nat → Nat → σ → β) (R : Nat) (Inv : Nat → σ → Prop) (fin : σ → β) (Ex : β → Prop) (m k : Nat) (s : σ) (hk : k ≤ R) (hm : R - k < m) (hi : Inv k s) (ke : Ex (c m k s) → G) (kf : ∀ s', Inv R s' → c m k s = fin s' → G) (h0 : ∀ m s, Inv R s → c (m + 1) R s = fin s) (h1 : ∀ m k s, k < R → Inv k s → Ex (c (m + 1) k s) ∨ ∃ s', Inv (k + 1) s' ∧ c (m + 1) k s = c m (k + 1) s') : G := by
  rcases lpG c R Inv fin Ex h0 h1 m k s hk hm hi with h | ⟨s', h, e⟩
  · exact ke h
  · exact kf s' h e
