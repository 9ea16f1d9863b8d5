/-! LAYER 3: rings: ages in an endless repetition -/
section RG1
variable {H : HD} {l set : Nat}
theorem agc_mono {he was v r a b : Nat} (h : a ≤ b) : agc H l he was v r a ≤ agc H l he was v r b := by
  unfold agc
  split
  · split
    · omega
    · split <;> omega
  · split <;> omega
theorem kst_mono {f to : Nat} {a b : Nat → Nat} (h : ∀ r, a r ≤ b r) (r : Nat) : kst H l set f to a r ≤ kst H l set f to b r := by
  unfold kst
  split
  · exact agc_mono (h r)
  · omega
theorem kst_0f {f f' to : Nat} : kst H l set f to (fun _ => 0) = kst H l set f' to (fun _ => 0) := by
  funext r
  unfold kst
  rw [agc_0 (was := f) (was' := f')]
/-- the ages behind k minutes of a round w -/
def rag (H : HD) (l set : Nat) (w : Nat → Nat) : Nat → Nat → Nat
  | 0 => fun _ => 0
  | k + 1 => kst H l set (if k = 0 then 0 else w (k - 1) + 1) (w k) (rag H l set w k)
/-- a later start lies under the run -/
theorem rag_sh (w : Nat → Nat) : ∀ k r, rag H l set (fun i => w (i + 1)) k r ≤ rag H l set w (k + 1) r
  | 0, r => Nat.zero_le _
  | k + 1, r => by
    have ih := rag_sh w k
    show kst H l set (if k = 0 then 0 else w (k - 1 + 1) + 1) (w (k + 1)) (rag H l set (fun i => w (i + 1)) k) r ≤ kst H l set (if k + 1 = 0 then 0 else w (k + 1 - 1) + 1) (w (k + 1)) (rag H l set w (k + 1)) r
    by_cases hk : k = 0
    · subst hk
      rw [if_pos rfl, if_neg (by omega)]
      show kst H l set 0 (w (0 + 1)) (fun _ => 0) r ≤ _
      rw [kst_0f (f := 0) (f' := w (0 + 1 - 1) + 1)]
      exact kst_mono (fun _ => Nat.zero_le _) r
    · rw [if_neg hk, if_neg (by omega), show k - 1 + 1 = k + 1 - 1 by omega]
      exact kst_mono ih r
theorem rag_shn (w : Nat → Nat) : ∀ n k r, rag H l set (fun i => w (i + n)) k r ≤ rag H l set w (k + n) r
  | 0, k, r => Nat.le_refl _
  | n + 1, k, r => by
    have h1 := rag_sh (H := H) (l := l) (set := set) (fun i => w (i + n)) k r
    have h2 := rag_shn w n (k + 1) r
    have e : (fun i => w (i + (n + 1))) = fun i => (fun i => w (i + n)) (i + 1) := by
      funext i
      show w (i + (n + 1)) = w (i + 1 + n)
      congr 1; omega
    rw [e, show k + (n + 1) = k + 1 + n by omega]
    exact Nat.le_trans h1 h2
/-- no flame ever goes out -/
def BRN (H : HD) (l set : Nat) (wt w : Nat → Nat) : Prop := ∀ k r, r < 4 → set.testBit r = true → rag H l set w k r ≤ wt r
theorem BRN_n {wt w : Nat → Nat} (n : Nat) (h : BRN H l set wt w) : BRN H l set wt (fun i => w (i + n)) := fun k r hr hs => Nat.le_trans (rag_shn w n k r) (h (k + n) r hr hs)
/-- by rounds the ages rise -/
theorem rag_up {w : Nat → Nat} {n : Nat} (hp : ∀ i, w (i + n) = w i) (k r : Nat) : rag H l set w k r ≤ rag H l set w (k + n) r := by
  have h := rag_shn (H := H) (l := l) (set := set) w n k r
  rwa [show (fun i => w (i + n)) = w from funext hp] at h
/-- a rotation and the row -/
theorem BRN_rot {wt w : Nat → Nat} {n : Nat} (hp : ∀ i, w (i + n) = w i) {j : Nat} (hj : j ≤ n) : BRN H l set wt (fun i => w (i + j)) ↔ BRN H l set wt w := by
  constructor
  · intro h
    have h2 := BRN_n (n - j) h
    have e : (fun i => (fun i => w (i + j)) (i + (n - j))) = w := by
      funext i
      show w (i + (n - j) + j) = w i
      rw [show i + (n - j) + j = i + n by omega, hp]
    rwa [e] at h2
  · exact BRN_n j
/-- as a round before: so for ever -/
theorem rag_per {w : Nat → Nat} {n k : Nat} (hp : ∀ i, w (i + n) = w i) (hk : 1 ≤ k) (h : rag H l set w (k + n) = rag H l set w k) : ∀ j, k ≤ j → rag H l set w (j + n) = rag H l set w j := by
  intro j hj
  obtain ⟨d, rfl⟩ : ∃ d, j = k + d := ⟨j - k, by omega⟩
  induction d with
  | zero => exact h
  | succ d ih =>
    have ih := ih (by omega)
    show rag H l set w (k + d + 1 + n) = rag H l set w (k + d + 1)
    rw [show k + d + 1 + n = k + d + n + 1 by omega]
    show kst H l set (if k + d + n = 0 then 0 else w (k + d + n - 1) + 1) (w (k + d + n)) (rag H l set w (k + d + n)) = kst H l set (if k + d = 0 then 0 else w (k + d - 1) + 1) (w (k + d)) (rag H l set w (k + d))
    rw [if_neg (by omega), if_neg (by omega), ih, hp (k + d), show k + d + n - 1 = k + d - 1 + n by omega, hp]
theorem BRN_per {wt w : Nat → Nat} {n k : Nat} (hp : ∀ i, w (i + n) = w i) (hn : 1 ≤ n) (hk : 1 ≤ k) (h : rag H l set w (k + n) = rag H l set w k) (hb : ∀ j, j < k + n → ∀ r, r < 4 → set.testBit r = true → rag H l set w j r ≤ wt r) : BRN H l set wt w := by
  have key : ∀ m j, j < m → ∀ r, r < 4 → set.testBit r = true → rag H l set w j r ≤ wt r := fun m => by
    induction m with
    | zero => intro j hj; exact absurd hj (by omega)
    | succ m ih =>
      intro j hj r hr hs
      by_cases hjk : j < k + n
      · exact hb j hjk r hr hs
      · obtain ⟨d, rfl⟩ : ∃ d, j = d + n := ⟨j - n, by omega⟩
        rw [rag_per hp hk h d (by omega)]
        exact ih d (by omega) r hr hs
  exact fun j r hr hs => key (j + 1) j (by omega) r hr hs
/-- the ages of all rooms at once -/
def rsm (H : HD) (l set : Nat) (w : Nat → Nat) (k : Nat) : Nat := sma (rag H l set w k) 4
theorem sma_mn {F G : Nat → Nat} : ∀ {N : Nat}, (∀ r, r < N → F r ≤ G r) → sma F N ≤ sma G N ∧ (sma F N = sma G N → ∀ r, r < N → F r = G r)
  | 0, _ => ⟨Nat.le_refl _, fun _ r hr => absurd hr (by omega)⟩
  | N + 1, h => by
    obtain ⟨h1, h2⟩ := sma_mn (fun r hr => h r (by omega) : ∀ r, r < N → F r ≤ G r)
    have h3 := h N (by omega)
    refine ⟨by show sma F N + F N ≤ sma G N + G N; omega, fun e r hr => ?_⟩
    have e' : sma F N + F N = sma G N + G N := e
    rcases (show r < N ∨ r = N by omega) with q | rfl
    · exact h2 (by omega) r q
    · omega
theorem rag_z (w : Nat → Nat) : ∀ k r, ¬ set.testBit r = true → rag H l set w k r = 0
  | 0, _, _ => rfl
  | k + 1, r, h => by
    show kst H l set _ _ _ r = 0
    unfold kst
    rw [if_neg h]
theorem rag_eq {w : Nat → Nat} {j k : Nat} (hs : ∀ r, set.testBit r = true → r < 4) (h : ∀ r, r < 4 → rag H l set w j r = rag H l set w k r) : rag H l set w j = rag H l set w k := by
  funext r
  by_cases hb : set.testBit r = true
  · exact h r (hs r hb)
  · rw [rag_z w j r hb, rag_z w k r hb]
/-- so many rounds, or the ages come back -/
theorem rag_stb {w : Nat → Nat} {n k : Nat} (hp : ∀ i, w (i + n) = w i) (hs : ∀ r, set.testBit r = true → r < 4) : ∀ m, (∃ i, i < m ∧ rag H l set w (k + i * n + n) = rag H l set w (k + i * n)) ∨ m ≤ rsm H l set w (k + m * n)
  | 0 => Or.inr (Nat.zero_le _)
  | m + 1 => by
    rcases rag_stb hp hs m with ⟨i, h1, h2⟩ | h
    · exact Or.inl ⟨i, by omega, h2⟩
    · obtain ⟨h1, h2⟩ := sma_mn (F := rag H l set w (k + m * n)) (G := rag H l set w (k + m * n + n)) (N := 4) (fun r _ => rag_up hp _ r)
      by_cases e : sma (rag H l set w (k + m * n)) 4 = sma (rag H l set w (k + m * n + n)) 4
      · exact Or.inl ⟨m, by omega, rag_eq hs (fun r hr => (h2 e r hr).symm)⟩
      · right
        unfold rsm at h ⊢
        rw [Nat.succ_mul, ← Nat.add_assoc]
        omega
theorem rsm_le {wt w : Nat → Nat} {k : Nat} (hw : ∀ r, r < 4 → set.testBit r = true → wt r ≤ 7) (hb : ∀ r, r < 4 → set.testBit r = true → rag H l set w k r ≤ wt r) : rsm H l set w k ≤ 28 := by
  have : ∀ r, r < 4 → rag H l set w k r ≤ 7 := fun r hr => by
    by_cases h : set.testBit r = true
    · have := hb r hr h; have := hw r hr h; omega
    · rw [rag_z w k r h]; omega
  have := sma_b2 (F := rag H l set w k) (b := 7) (N := 4) this
  unfold rsm; omega
end RG1
