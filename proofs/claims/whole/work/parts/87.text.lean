/-! LAYER 3: the text: bytes, tokens, by places -/
def ty (t : Nat → Int32) (i : Nat) : Nat := if (t i).toInt = 32 ∨ (t i).toInt = 10 then 0 else if 97 ≤ (t i).toInt ∧ (t i).toInt ≤ 122 then 1 else if 48 ≤ (t i).toInt ∧ (t i).toInt ≤ 57 then 2 else if (t i).toInt = 59 then 3 else 4
theorem ty_w {t : Nat → Int32} {i : Nat} : ty t i = 0 ↔ (t i).toInt = 32 ∨ (t i).toInt = 10 := by
  unfold ty
  split
  · simp_all
  · split
    · simp_all
    · split
      · simp_all
      · split <;> simp_all
theorem ty_l {t : Nat → Int32} {i : Nat} : ty t i = 1 ↔ 97 ≤ (t i).toInt ∧ (t i).toInt ≤ 122 := by
  unfold ty
  by_cases h1 : (t i).toInt = 32 ∨ (t i).toInt = 10
  · rw [if_pos h1]; constructor
    · intro q; omega
    · intro q; omega
  · rw [if_neg h1]
    by_cases h2 : 97 ≤ (t i).toInt ∧ (t i).toInt ≤ 122
    · rw [if_pos h2]; exact ⟨fun _ => h2, fun _ => rfl⟩
    · rw [if_neg h2]
      refine ⟨fun q => ?_, fun q => absurd q h2⟩
      split at q
      · omega
      · split at q <;> omega
theorem ty_d {t : Nat → Int32} {i : Nat} : ty t i = 2 ↔ 48 ≤ (t i).toInt ∧ (t i).toInt ≤ 57 := by
  unfold ty
  by_cases h1 : (t i).toInt = 32 ∨ (t i).toInt = 10
  · rw [if_pos h1]; constructor
    · intro q; omega
    · intro q; omega
  · rw [if_neg h1]
    by_cases h2 : 97 ≤ (t i).toInt ∧ (t i).toInt ≤ 122
    · rw [if_pos h2]; constructor
      · intro q; omega
      · intro q; omega
    · rw [if_neg h2]
      by_cases h3 : 48 ≤ (t i).toInt ∧ (t i).toInt ≤ 57
      · rw [if_pos h3]; exact ⟨fun _ => h3, fun _ => rfl⟩
      · rw [if_neg h3]
        refine ⟨fun q => ?_, fun q => absurd q h3⟩
        split at q <;> omega
theorem ty_s {t : Nat → Int32} {i : Nat} : ty t i = 3 ↔ (t i).toInt = 59 := by
  unfold ty
  by_cases h1 : (t i).toInt = 32 ∨ (t i).toInt = 10
  · rw [if_pos h1]; constructor
    · intro q; omega
    · intro q; omega
  · rw [if_neg h1]
    by_cases h2 : 97 ≤ (t i).toInt ∧ (t i).toInt ≤ 122
    · rw [if_pos h2]; constructor
      · intro q; omega
      · intro q; omega
    · rw [if_neg h2]
      by_cases h3 : 48 ≤ (t i).toInt ∧ (t i).toInt ≤ 57
      · rw [if_pos h3]; constructor
        · intro q; omega
        · intro q; omega
      · rw [if_neg h3]
        by_cases h4 : (t i).toInt = 59
        · rw [if_pos h4]; exact ⟨fun _ => h4, fun _ => rfl⟩
        · rw [if_neg h4]; exact ⟨fun q => absurd q (by omega), fun q => absurd q h4⟩
def rnf (t : Nat → Int32) (n c : Nat) : Nat → Nat → Nat
  | 0, p => p
  | k + 1, p => if p < n ∧ ty t p = c then rnf t n c k (p + 1) else p
def ru (t : Nat → Int32) (n c p : Nat) : Nat := rnf t n c (n - p) p
section TXT
variable {t : Nat → Int32} {n c p : Nat}
theorem ru_st (h1 : p < n) (h2 : ty t p = c) : ru t n c p = ru t n c (p + 1) := by
  unfold ru
  obtain ⟨k, hk⟩ : ∃ k, n - p = k + 1 := ⟨n - p - 1, by omega⟩
  rw [hk, show n - (p + 1) = k by omega]
  show (if p < n ∧ ty t p = c then rnf t n c k (p + 1) else p) = _
  rw [if_pos ⟨h1, h2⟩]
theorem ru_no (h : ¬ (p < n ∧ ty t p = c)) : ru t n c p = p := by
  unfold ru
  cases n - p with
  | zero => rfl
  | succ k => show (if p < n ∧ ty t p = c then rnf t n c k (p + 1) else p) = p; rw [if_neg h]
theorem ru_all : ∀ (d p : Nat), n - p = d → p ≤ n → p ≤ ru t n c p ∧ ru t n c p ≤ n ∧ (∀ i, p ≤ i → i < ru t n c p → ty t i = c) ∧ (ru t n c p < n → ty t (ru t n c p) ≠ c)
  | 0, p, hd, hp => by
    have : p = n := by omega
    rw [ru_no (fun q => by omega)]
    exact ⟨Nat.le_refl _, hp, fun i a b => by omega, fun q => by omega⟩
  | d + 1, p, hd, hp => by
    by_cases h : p < n ∧ ty t p = c
    · obtain ⟨a1, a2, a3, a4⟩ := ru_all d (p + 1) (by omega) (by omega)
      rw [ru_st h.1 h.2]
      refine ⟨by omega, a2, fun i x y => ?_, a4⟩
      by_cases e : i = p
      · rw [e]; exact h.2
      · exact a3 i (by omega) y
    · rw [ru_no h]
      exact ⟨Nat.le_refl _, hp, fun i a b => by omega, fun q e => h ⟨q, e⟩⟩
theorem ru_ge (hp : p ≤ n) : p ≤ ru t n c p := (ru_all _ p rfl hp).1
theorem ru_le (hp : p ≤ n) : ru t n c p ≤ n := (ru_all _ p rfl hp).2.1
theorem ru_in (hp : p ≤ n) {i : Nat} (h1 : p ≤ i) (h2 : i < ru t n c p) : ty t i = c := (ru_all _ p rfl hp).2.2.1 i h1 h2
theorem ru_en (hp : p ≤ n) (h : ru t n c p < n) : ty t (ru t n c p) ≠ c := (ru_all _ p rfl hp).2.2.2 h
end TXT
/-- behind the token at p; the next token -/
def bh (t : Nat → Int32) (n p : Nat) : Nat := if p < n then (if ty t p = 1 ∨ ty t p = 2 then ru t n (ty t p) (p + 1) else p + 1) else p
def nx (t : Nat → Int32) (n p : Nat) : Nat := ru t n 0 (bh t n p)
def splB (t : Nat → Int32) (p e k : Nat) : Bool := decide (e - p = plen.getD (k - 4) 0) && (List.range (plen.getD (k - 4) 0)).all (fun i => t (p + i) == (pbyt.getD (k - 4) []).getD i 0)
def kdw (t : Nat → Int32) (p e : Nat) : Nat := if fnd (fun i => splB t p e (i + 4)) 12 = 0 then 1 else fnd (fun i => splB t p e (i + 4)) 12 + 3
def tk (t : Nat → Int32) (n p : Nat) : Nat := if p < n then (if ty t p = 2 then 2 else if ty t p = 3 then 3 else kdw t p (bh t n p)) else 0
def dgt (t : Nat → Int32) (i : Nat) : Nat := ((t i).toInt - 48).toNat
def vl (t : Nat → Int32) (p : Nat) : Nat → Nat
  | 0 => 0
  | k + 1 => min 1000000 (vl t p k * 10 + dgt t (p + k))
def va (t : Nat → Int32) (n p : Nat) : Nat := if tk t n p = 2 then vl t p (bh t n p - p) else 0
section TX2
variable {t : Nat → Int32} {n c p : Nat}
theorem bh_gt (hp : p < n) : p < bh t n p ∧ bh t n p ≤ n := by
  unfold bh
  rw [if_pos hp]
  by_cases h : ty t p = 1 ∨ ty t p = 2
  · rw [if_pos h]
    have := ru_ge (t := t) (c := ty t p) (show p + 1 ≤ n by omega)
    have := ru_le (t := t) (c := ty t p) (show p + 1 ≤ n by omega)
    omega
  · rw [if_neg h]; omega
theorem bh_le (hp : p ≤ n) : p ≤ bh t n p ∧ bh t n p ≤ n := by
  by_cases h : p < n
  · have := bh_gt (t := t) h; omega
  · unfold bh; rw [if_neg h]; omega
theorem nx_le (hp : p ≤ n) : p ≤ nx t n p ∧ nx t n p ≤ n := by
  have := bh_le (t := t) hp
  unfold nx
  have h1 := ru_ge (t := t) (c := 0) (show bh t n p ≤ n by omega)
  have h2 := ru_le (t := t) (c := 0) (show bh t n p ≤ n by omega)
  omega
theorem nx_gt (hp : p < n) : p < nx t n p := by
  have := bh_gt (t := t) hp
  unfold nx
  have h1 := ru_ge (t := t) (c := 0) (show bh t n p ≤ n by omega)
  omega
theorem nx_n : nx t n n = n := by
  have h : bh t n n = n := by unfold bh; rw [if_neg (by omega)]
  unfold nx
  rw [h, ru_no (fun q => by omega)]
theorem kdw_c {e : Nat} : kdw t p e = 1 ∨ ∃ k, 4 ≤ k ∧ k ≤ 15 ∧ kdw t p e = k ∧ splB t p e k = true := by
  unfold kdw
  by_cases h : fnd (fun i => splB t p e (i + 4)) 12 = 0
  · rw [if_pos h]; exact Or.inl rfl
  · rw [if_neg h]
    right
    obtain ⟨j, hj⟩ : ∃ j, fnd (fun i => splB t p e (i + 4)) 12 = j + 1 := ⟨fnd (fun i => splB t p e (i + 4)) 12 - 1, by omega⟩
    have := fnd_s.mp hj
    exact ⟨j + 4, by omega, by omega, by rw [hj], this.2.1⟩
theorem tk_le : tk t n p ≤ 15 := by
  unfold tk
  split
  · split
    · omega
    · split
      · omega
      · rcases kdw_c (t := t) (p := p) (e := bh t n p) with h | ⟨k, _, h2, h3, _⟩ <;> omega
  · omega
theorem tk_0 : tk t n p = 0 ↔ n ≤ p := by
  unfold tk
  by_cases h : p < n
  · rw [if_pos h]
    refine ⟨fun q => ?_, fun q => by omega⟩
    split at q
    · omega
    · split at q
      · omega
      · rcases kdw_c (t := t) (p := p) (e := bh t n p) with h | ⟨k, h1, _, h3, _⟩ <;> omega
  · rw [if_neg h]; exact ⟨fun _ => by omega, fun _ => rfl⟩
theorem tk_2 : tk t n p = 2 ↔ p < n ∧ ty t p = 2 := by
  unfold tk
  by_cases h : p < n
  · rw [if_pos h]
    by_cases h2 : ty t p = 2
    · rw [if_pos h2]; exact ⟨fun _ => ⟨h, h2⟩, fun _ => rfl⟩
    · rw [if_neg h2]
      refine ⟨fun q => ?_, fun q => absurd q.2 h2⟩
      split at q
      · omega
      · rcases kdw_c (t := t) (p := p) (e := bh t n p) with h | ⟨k, h1, _, h3, _⟩ <;> omega
  · rw [if_neg h]; exact ⟨fun q => by omega, fun q => absurd q.1 h⟩
theorem tk_3 : tk t n p = 3 ↔ p < n ∧ ty t p = 3 := by
  unfold tk
  by_cases h : p < n
  · rw [if_pos h]
    by_cases h2 : ty t p = 2
    · rw [if_pos h2]; exact ⟨fun q => by omega, fun q => by omega⟩
    · rw [if_neg h2]
      by_cases h3 : ty t p = 3
      · rw [if_pos h3]; exact ⟨fun _ => ⟨h, h3⟩, fun _ => rfl⟩
      · rw [if_neg h3]
        refine ⟨fun q => ?_, fun q => absurd q.2 h3⟩
        rcases kdw_c (t := t) (p := p) (e := bh t n p) with h | ⟨k, h1, _, h3, _⟩ <;> omega
  · rw [if_neg h]; exact ⟨fun q => by omega, fun q => absurd q.1 h⟩
theorem dgt_le {i : Nat} (h : ty t i = 2) : dgt t i ≤ 9 ∧ t i = nI (48 + dgt t i) := by
  have h1 := ty_d.mp h
  unfold dgt
  refine ⟨by omega, ?_⟩
  rw [fa_eq, nI_toInt (by omega)]; omega
theorem vl_le : ∀ k, vl t p k ≤ 1000000
  | 0 => by show 0 ≤ 1000000; omega
  | k + 1 => Nat.min_le_left _ _
/-- places of tokens, one by one -/
def tP (t : Nat → Int32) (n : Nat) : Nat → Nat
  | 0 => ru t n 0 0
  | j + 1 => nx t n (tP t n j)
theorem tP_le : ∀ j, tP t n j ≤ n
  | 0 => ru_le (Nat.zero_le _)
  | j + 1 => (nx_le (tP_le j)).2
end TX2
