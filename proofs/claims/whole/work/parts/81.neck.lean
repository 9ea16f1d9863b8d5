/-! LAYER 3: rings: rows that may be least among their rotations -/
def PER (w : Nat → Nat) (m q : Nat) : Prop := ∀ i, q + i < m → w (q + i) = w i
def GTR (w : Nat → Nat) (m q : Nat) : Prop := ∃ i, q + i < m ∧ (∀ j, j < i → w (q + j) = w j) ∧ w i < w (q + i)
def PNK (w : Nat → Nat) (m : Nat) : Prop := ∀ q, 1 ≤ q → q < m → PER w m q ∨ GTR w m q
def LPD (w : Nat → Nat) (m p : Nat) : Prop := 1 ≤ p ∧ p ≤ m ∧ PER w m p ∧ ∀ q, 1 ≤ q → q < p → ¬ PER w m q
theorem PNK_q {w : Nat → Nat} {m p q : Nat} (h : PNK w m) (hp : LPD w m p) (hq : PER w m q) (hq1 : p < q) (hq2 : q < m) : w (m - q) ≤ w (m - p) := by
  have hp1 := hp.1
  have e : ∀ j, q + j < m → w (q - p + j) = w j := fun j hj => by
    have h1 := hp.2.2.1 (q - p + j) (by omega)
    rw [show p + (q - p + j) = q + j by omega] at h1
    rw [← h1]; exact hq j hj
  rcases h (q - p) (by omega) (by omega) with h1 | ⟨i, i1, i2, i3⟩
  · have := h1 (m - q) (by omega)
    rw [show q - p + (m - q) = m - p by omega] at this
    omega
  · rcases Nat.lt_trichotomy i (m - q) with h2 | h2 | h2
    · have := e i (by omega); omega
    · subst h2
      rw [show q - p + (m - q) = m - p by omega] at i3
      omega
    · have := i2 (m - q) h2
      rw [show q - p + (m - q) = m - p by omega] at this
      omega
/-- a letter more -/
theorem PNK_s {w : Nat → Nat} {m p : Nat} (h : PNK w m) (hp : LPD w m p) (hge : w (m - p) ≤ w m) : PNK w (m + 1) := by
  intro q hq1 hq2
  by_cases hqm : q = m
  · subst hqm
    have h0 : w 0 ≤ w q := by
      rcases Nat.lt_or_ge p q with hl | hl
      · have hpp := hp.1
        rcases h (q - p) (by omega) (by omega) with h1 | ⟨i, i1, i2, i3⟩
        · have := h1 0 (by have := hp.1; omega)
          rw [Nat.add_zero] at this; omega
        · rcases Nat.eq_zero_or_pos i with rfl | hi
          · rw [Nat.add_zero] at i3; omega
          · have := i2 0 hi
            rw [Nat.add_zero] at this; omega
      · have : p = q := by have := hp.2.1; omega
        rw [this, Nat.sub_self] at hge; exact hge
    rcases Nat.lt_or_ge (w 0) (w q) with h1 | h1
    · exact Or.inr ⟨0, by omega, fun j hj => absurd hj (by omega), by rw [Nat.add_zero]; exact h1⟩
    · refine Or.inl (fun i hi => ?_)
      rw [show i = 0 by omega, Nat.add_zero]; omega
  · rcases h q hq1 (by omega) with h1 | ⟨i, i1, i2, i3⟩
    · have hle : w (m - q) ≤ w m := by
        rcases Nat.lt_trichotomy q p with hl | hl | hl
        · exact absurd h1 (hp.2.2.2 q hq1 hl)
        · rw [hl]; exact hge
        · exact Nat.le_trans (PNK_q h hp h1 hl (by omega)) hge
      rcases Nat.lt_or_ge (w (m - q)) (w m) with h2 | h2
      · exact Or.inr ⟨m - q, by omega, fun j hj => h1 j (by omega), by rw [show q + (m - q) = m by omega]; exact h2⟩
      · refine Or.inl (fun i hi => ?_)
        rcases (show q + i < m ∨ q + i = m by omega) with h3 | h3
        · exact h1 i h3
        · rw [h3, show i = m - q by omega]; omega
    · exact Or.inr ⟨i, by omega, i2, i3⟩
