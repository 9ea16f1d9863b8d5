/-! LAYER 3: a night, as numbers. A night g: ((law, mode, turn, naps), waits, guests); rooms are told and 1, 0: none -/
abbrev NG : Type := (Nat × Nat × Nat × Nat) × (Nat → Nat) × (Nat → Nat)
def urg (wt a : Nat → Nat) : Nat → Nat
  | 0 => 0
  | k + 1 => if a k = 99 then urg wt a k else if urg wt a k = 0 then k + 1 else if wt (urg wt a k - 1) - a (urg wt a k - 1) ≤ wt k - a k then urg wt a k else k + 1
def twp (H : HD) (a b r : Nat) : Bool := dor H a r && (dst (dor H) r b + 1 == dst (dor H) a b)
def twd (H : HD) (a b : Nat) : Nat := if dst (dor H) a b ≤ 1 then a + 1 else if fnd (twp H a b) (H.1 4) = 0 then a + 1 else fnd (twp H a b) (H.1 4)
def wd0 (H : HD) (g : NG) : Nat := if H.1 4 = 0 then 0 else if H.1 7 = 0 then 1 else H.2 3 g.1.2.2.1 + 1
def plc (H : HD) (g : NG) (n : Nat) : Nat := H.2 3 ((g.1.2.2.1 + n) % H.1 7)
def wdn (H : HD) (g : NG) (n w : Nat) (a : Nat → Nat) : Nat :=
  if H.1 4 = 0 then 0 else
  if g.1.2.1 = 1 then (if urg g.2.1 a (H.1 4) = 0 then w else twd H (w - 1) (urg g.2.1 a (H.1 4) - 1))
  else if H.1 7 = 0 then w else if w - 1 = plc H g (n + 1) ∨ dor H (w - 1) (plc H g (n + 1)) = true then plc H g (n + 1) + 1 else w
def eyn (g : NG) (n w : Nat) : Nat := if g.1.2.2.2.testBit n = true then 0 else w
def lok (g : NG) (n w : Nat) : Nat := g.2.2 n ||| (if eyn g n w = 0 then 0 else 2 ^ (eyn g n w - 1))
def agb (H : HD) (g : NG) (n w e r a : Nat) : Nat :=
  if (lok g n w).testBit r = true then (if g.1.1 = 1 then a / 2 else if g.1.1 = 2 ∧ (g.2.2 n).testBit r = false ∧ e ≠ r + 1 then a else 0)
  else if g.1.1 = 3 ∧ eyn g n w ≠ 0 ∧ dor H (eyn g n w - 1) r = true then a else a + 1
def agn (H : HD) (g : NG) (n w e r a : Nat) : Nat := if a = 99 then 99 else if g.2.1 r < agb H g n w e r a then 99 else agb H g n w e r a
def nst (H : HD) (g : NG) : Nat → Nat × (Nat → Nat)
  | 0 => (wd0 H g, fun r => agn H g 0 (wd0 H g) 0 r 0)
  | n + 1 => (wdn H g n (nst H g n).1 (nst H g n).2, fun r => agn H g (n + 1) (wdn H g n (nst H g n).1 (nst H g n).2) (eyn g n (nst H g n).1) r ((nst H g n).2 r))
def nw (H : HD) (g : NG) (n : Nat) : Nat := (nst H g n).1
def na (H : HD) (g : NG) (n r : Nat) : Nat := (nst H g n).2 r
def nlk (H : HD) (g : NG) (n : Nat) : Nat := lok g n (nw H g n)
/-- the minute at which a flame goes out, and 1 -/
def nou (H : HD) (g : NG) (m r : Nat) : Nat := fnd (fun n => na H g n r == 99) m
def GOK (H : HD) (g : NG) : Prop := g.1.1 ≤ 3 ∧ g.1.2.1 ≤ 1 ∧ (H.1 7 = 0 ∨ g.1.2.2.1 < H.1 7) ∧ g.1.2.2.2 < 2 ^ 30 ∧ (∀ r, r < H.1 4 → 1 ≤ g.2.1 r ∧ g.2.1 r ≤ 7) ∧ (∀ n, n < 30 → g.2.2 n < 16)
theorem dmk_lt {H : HD} {W : Nat → Nat} {A : AD} (ho : HOK H W A) (r : Nat) : ∀ k, k ≤ H.1 5 → dmk H k r < 16
  | 0, _ => by unfold dmk; omega
  | k + 1, hk => by
    have ih := dmk_lt ho r k (by omega)
    have o4 : H.1 4 ≤ 4 := ho.1.2.2.2.2.1
    have hw := ho.2.2.2.2.1 k (by omega)
    unfold dmk
    split
    · exact or16 ih (pw4 _ (by omega))
    · split
      · exact or16 ih (pw4 _ (by omega))
      · exact ih
theorem dms_lt {H : HD} {W : Nat → Nat} {A : AD} (ho : HOK H W A) (r : Nat) : dms H r < 16 := dmk_lt ho r _ (Nat.le_refl _)
theorem dmk_tb {H : HD} {W : Nat → Nat} {A : AD} (ho : HOK H W A) (a b : Nat) : ∀ k, k ≤ H.1 5 → ((dmk H k a).testBit b = true ↔ ∃ j, j < k ∧ ((H.2 4 j = a ∧ H.2 5 j = b) ∨ (H.2 4 j = b ∧ H.2 5 j = a)))
  | 0, _ => by unfold dmk; simp
  | k + 1, hk => by
    have ih := dmk_tb ho a b k (by omega)
    have hw := ho.2.2.2.2.1 k (by omega)
    have split1 : (∃ j, j < k + 1 ∧ ((H.2 4 j = a ∧ H.2 5 j = b) ∨ (H.2 4 j = b ∧ H.2 5 j = a))) ↔ ((∃ j, j < k ∧ ((H.2 4 j = a ∧ H.2 5 j = b) ∨ (H.2 4 j = b ∧ H.2 5 j = a))) ∨ ((H.2 4 k = a ∧ H.2 5 k = b) ∨ (H.2 4 k = b ∧ H.2 5 k = a))) := by
      constructor
      · rintro ⟨j, hj, h⟩
        rcases (show j < k ∨ j = k by omega) with h3 | rfl
        · exact Or.inl ⟨j, h3, h⟩
        · exact Or.inr h
      · rintro (⟨j, hj, h⟩ | h)
        · exact ⟨j, by omega, h⟩
        · exact ⟨k, by omega, h⟩
    rw [split1]
    unfold dmk
    by_cases h1 : H.2 4 k = a
    · rw [if_pos h1, tb_or, tb_pw, Bool.or_eq_true, ih, decide_eq_true_eq]
      refine or_congr Iff.rfl ⟨fun e => Or.inl ⟨h1, e⟩, fun e => ?_⟩
      rcases e with e | e
      · exact e.2
      · omega
    · rw [if_neg h1]
      by_cases h2 : H.2 5 k = a
      · rw [if_pos h2, tb_or, tb_pw, Bool.or_eq_true, ih, decide_eq_true_eq]
        refine or_congr Iff.rfl ⟨fun e => Or.inr ⟨e, h2⟩, fun e => ?_⟩
        rcases e with e | e
        · exact absurd e.1 h1
        · exact e.1
      · rw [if_neg h2, ih]
        refine ⟨fun e => Or.inl e, fun e => ?_⟩
        rcases e with e | e | e
        · exact e
        · exact absurd e.1 h1
        · exact absurd e.2 h2
theorem dor_iff {H : HD} {W : Nat → Nat} {A : AD} (ho : HOK H W A) (a b : Nat) : dor H a b = true ↔ ∃ j, j < H.1 5 ∧ ((H.2 4 j = a ∧ H.2 5 j = b) ∨ (H.2 4 j = b ∧ H.2 5 j = a)) := dmk_tb ho a b _ (Nat.le_refl _)
theorem dor_sym {H : HD} {W : Nat → Nat} {A : AD} (ho : HOK H W A) (a b : Nat) : dor H a b = dor H b a := by
  have h1 := dor_iff ho a b
  have h2 := dor_iff ho b a
  rw [Bool.eq_iff_iff, h1, h2]
  exact ⟨fun ⟨j, hj, h⟩ => ⟨j, hj, h.symm⟩, fun ⟨j, hj, h⟩ => ⟨j, hj, h.symm⟩⟩
theorem dor_lt {H : HD} {W : Nat → Nat} {A : AD} (ho : HOK H W A) {a b : Nat} (h : dor H a b = true) : a < H.1 4 ∧ b < H.1 4 ∧ a ≠ b := by
  obtain ⟨j, hj, h⟩ := (dor_iff ho a b).mp h
  have := ho.2.2.2.2.1 j hj
  omega
theorem urg_le (wt a : Nat → Nat) : ∀ k, urg wt a k ≤ k
  | 0 => Nat.le_refl _
  | k + 1 => by
    have := urg_le wt a k
    unfold urg
    split
    · omega
    · split
      · omega
      · split <;> omega
theorem urg_b (wt a : Nat → Nat) : ∀ k, urg wt a k ≠ 0 → a (urg wt a k - 1) ≠ 99
  | 0, h => absurd rfl h
  | k + 1, h => by
    have ih := urg_b wt a k
    have e : urg wt a (k + 1) = if a k = 99 then urg wt a k else if urg wt a k = 0 then k + 1 else if wt (urg wt a k - 1) - a (urg wt a k - 1) ≤ wt k - a k then urg wt a k else k + 1 := rfl
    rw [e] at h ⊢
    by_cases h1 : a k = 99
    · rw [if_pos h1] at h ⊢; exact ih h
    · rw [if_neg h1] at h ⊢
      by_cases h2 : urg wt a k = 0
      · rw [if_pos h2] at h ⊢; exact h1
      · rw [if_neg h2] at h ⊢
        by_cases h3 : wt (urg wt a k - 1) - a (urg wt a k - 1) ≤ wt k - a k
        · rw [if_pos h3] at h ⊢; exact ih h2
        · rw [if_neg h3] at h ⊢; exact h1
theorem dst_le (g : Nat → Nat → Bool) (a b : Nat) : dst g a b ≤ 4 := by
  unfold dst
  split <;> (try omega)
  split <;> (try omega)
  split <;> (try omega)
  split <;> omega
theorem twd_le {H : HD} {a b : Nat} (ha : a < H.1 4) : twd H a b ≤ H.1 4 ∧ 1 ≤ twd H a b := by
  have := fnd_le (twp H a b) (H.1 4)
  unfold twd
  split
  · omega
  · split <;> omega
theorem wd0_le {H : HD} {W : Nat → Nat} {A : AD} {g : NG} (ho : HOK H W A) (hg : GOK H g) : wd0 H g ≤ H.1 4 ∧ (0 < H.1 4 → 1 ≤ wd0 H g) := by
  have h3 := ho.2.2.2.1
  unfold wd0
  split
  · omega
  · split
    · omega
    · have := h3 g.1.2.2.1 (by rcases hg.2.2.1 with h | h <;> omega)
      omega
theorem plc_lt {H : HD} {W : Nat → Nat} {A : AD} (g : NG) (ho : HOK H W A) (h7 : H.1 7 ≠ 0) (n : Nat) : plc H g n < H.1 4 := ho.2.2.2.1 _ (Nat.mod_lt _ (by omega))
theorem wdn_le {H : HD} {W : Nat → Nat} {A : AD} {g : NG} (ho : HOK H W A) {n w : Nat} (a : Nat → Nat) (hw : w ≤ H.1 4 ∧ (0 < H.1 4 → 1 ≤ w)) : wdn H g n w a ≤ H.1 4 ∧ (0 < H.1 4 → 1 ≤ wdn H g n w a) := by
  unfold wdn
  split
  · omega
  · split
    · split
      · exact hw
      · have := twd_le (H := H) (a := w - 1) (b := urg g.2.1 a (H.1 4) - 1) (by omega)
        omega
    · split
      · exact hw
      · rename_i h7
        have := plc_lt g ho h7 (n + 1)
        split <;> omega
theorem nw_le {H : HD} {W : Nat → Nat} {A : AD} {g : NG} (ho : HOK H W A) (hg : GOK H g) : ∀ n, nw H g n ≤ H.1 4 ∧ (0 < H.1 4 → 1 ≤ nw H g n)
  | 0 => wd0_le ho hg
  | n + 1 => wdn_le ho _ (nw_le ho hg n)
theorem agn_b {H : HD} (g : NG) (n w e r a : Nat) : agn H g n w e r a = 99 ∨ agn H g n w e r a ≤ g.2.1 r := by
  unfold agn
  split
  · exact Or.inl rfl
  · split
    · exact Or.inl rfl
    · exact Or.inr (by omega)
theorem na_b (H : HD) (g : NG) (r : Nat) : ∀ n, na H g n r = 99 ∨ na H g n r ≤ g.2.1 r
  | 0 => agn_b (H := H) g 0 (wd0 H g) 0 r 0
  | n + 1 => agn_b (H := H) g (n + 1) (nw H g (n + 1)) (eyn g n (nw H g n)) r (na H g n r)
theorem na_99 (H : HD) (g : NG) (r n : Nat) (h : na H g n r = 99) : na H g (n + 1) r = 99 := by
  show agn H g (n + 1) _ _ r (na H g n r) = 99
  unfold agn; rw [if_pos h]
theorem na_99m (H : HD) (g : NG) (r n : Nat) (h : na H g n r = 99) : ∀ m, na H g (n + m) r = 99
  | 0 => h
  | m + 1 => na_99 H g r (n + m) (na_99m H g r n h m)
theorem na_s (H : HD) (g : NG) (n r : Nat) : na H g (n + 1) r = agn H g (n + 1) (nw H g (n + 1)) (eyn g n (nw H g n)) r (na H g n r) := rfl
theorem na_z (H : HD) (g : NG) (r : Nat) : na H g 0 r = agn H g 0 (nw H g 0) 0 r 0 := rfl
theorem nw_s (H : HD) (g : NG) (n : Nat) : nw H g (n + 1) = wdn H g n (nw H g n) (na H g n) := rfl
theorem lok_lt {g : NG} {n w : Nat} (hg : g.2.2 n < 16) (hw : w ≤ 4) : lok g n w < 16 := by
  unfold lok
  refine or16 hg ?_
  split
  · omega
  · refine pw4 _ ?_
    have : eyn g n w ≤ w := by unfold eyn; split <;> omega
    omega
theorem eyn_le (g : NG) (n w : Nat) : eyn g n w ≤ w := by unfold eyn; split <;> omega
/-- guests: the visitors told that come, then acts; naps -/
def gvs (H : HD) (cm : Nat → Bool) : Nat → Nat → Nat
  | 0, _ => 0
  | k + 1, n => if cm k = true ∧ H.2 2 k = n then gvs H cm k n ||| 2 ^ (H.2 1 k) else gvs H cm k n
def gal (A : AD) (b : Nat → Nat) : Nat → Nat → Nat
  | 0, n => b n
  | k + 1, n => if A.2.1 k ≠ 0 ∧ A.2.2 k = n then gal A b k n ||| 2 ^ (A.2.1 k - 1) else gal A b k n
def npN (A : AD) : Nat → Nat
  | 0 => 0
  | k + 1 => if A.2.1 k = 0 then npN A k ||| 2 ^ (A.2.2 k) else npN A k
def gst (H : HD) (A : AD) (cm : Nat → Bool) : Nat → Nat := gal A (gvs H cm (H.1 6)) A.1
theorem gvs_lt {H : HD} {W : Nat → Nat} {A : AD} (ho : HOK H W A) (cm : Nat → Bool) (n : Nat) : ∀ k, k ≤ H.1 6 → gvs H cm k n < 16
  | 0, _ => by unfold gvs; omega
  | k + 1, hk => by
    have ih := gvs_lt ho cm n k (by omega)
    have o4 : H.1 4 ≤ 4 := ho.1.2.2.2.2.1
    have := ho.2.2.1 k (by omega)
    unfold gvs
    split
    · exact or16 ih (pw4 _ (by omega))
    · exact ih
theorem gal_lt {H : HD} {W : Nat → Nat} {A : AD} (ho : HOK H W A) {b : Nat → Nat} {n : Nat} (hb : b n < 16) : ∀ k, k ≤ A.1 → gal A b k n < 16
  | 0, _ => hb
  | k + 1, hk => by
    have ih := gal_lt ho hb k (by omega)
    have o4 : H.1 4 ≤ 4 := ho.1.2.2.2.2.1
    have := ho.2.2.2.2.2.1 k (by omega)
    unfold gal
    split
    · exact or16 ih (pw4 _ (by omega))
    · exact ih
theorem gst_lt {H : HD} {W : Nat → Nat} {A : AD} (ho : HOK H W A) (cm : Nat → Bool) (n : Nat) : gst H A cm n < 16 := gal_lt ho (gvs_lt ho cm n _ (Nat.le_refl _)) _ (Nat.le_refl _)
theorem npN_lt {H : HD} {W : Nat → Nat} {A : AD} (ho : HOK H W A) : ∀ k, k ≤ A.1 → npN A k < 2 ^ 30
  | 0, _ => by unfold npN; omega
  | k + 1, hk => by
    have ih := npN_lt ho k (by omega)
    have o3 : H.1 3 ≤ 30 := ho.1.2.2.2.1
    have := ho.2.2.2.2.2.1 k (by omega)
    unfold npN
    split
    · exact or30 ih ((show ∀ j, j < 30 → 2 ^ j < 2 ^ 30 by decide) _ (by omega))
    · exact ih
theorem npN_tb (A : AD) (n : Nat) : ∀ k, (npN A k).testBit n = true ↔ ∃ j, j < k ∧ A.2.1 j = 0 ∧ A.2.2 j = n
  | 0 => by unfold npN; simp
  | k + 1 => by
    have ih := npN_tb A n k
    have sp : (∃ j, j < k + 1 ∧ A.2.1 j = 0 ∧ A.2.2 j = n) ↔ ((∃ j, j < k ∧ A.2.1 j = 0 ∧ A.2.2 j = n) ∨ (A.2.1 k = 0 ∧ A.2.2 k = n)) := by
      constructor
      · rintro ⟨j, hj, h⟩
        rcases (show j < k ∨ j = k by omega) with h3 | rfl
        · exact Or.inl ⟨j, h3, h⟩
        · exact Or.inr h
      · rintro (⟨j, hj, h⟩ | h)
        · exact ⟨j, by omega, h⟩
        · exact ⟨k, by omega, h⟩
    rw [sp]
    unfold npN
    by_cases h : A.2.1 k = 0
    · rw [if_pos h, tb_or, tb_pw, Bool.or_eq_true, ih, decide_eq_true_eq]
      exact or_congr Iff.rfl ⟨fun e => ⟨h, e⟩, fun e => e.2⟩
    · rw [if_neg h, ih]
      exact ⟨fun e => Or.inl e, fun e => e.elim id (fun q => absurd q.1 h)⟩
theorem gal_or (A : AD) (b : Nat → Nat) (x n : Nat) : ∀ k, gal A (fun m => b m ||| x) k n = gal A b k n ||| x
  | 0 => rfl
  | k + 1 => by
    unfold gal
    rw [gal_or A b x n k]
    split
    · rw [Nat.or_assoc, Nat.or_comm x, ← Nat.or_assoc]
    · rfl
theorem gal_cg (A : AD) {b c : Nat → Nat} {n : Nat} (h : b n = c n) : ∀ k, gal A b k n = gal A c k n
  | 0 => h
  | k + 1 => by unfold gal; rw [gal_cg A h k]
theorem gvs_cg {H : HD} {cm cm' : Nat → Bool} (n : Nat) : ∀ k, (∀ j, j < k → cm j = cm' j) → gvs H cm k n = gvs H cm' k n
  | 0, _ => rfl
  | k + 1, h => by unfold gvs; rw [gvs_cg n k (fun j hj => h j (by omega)), h k (by omega)]
