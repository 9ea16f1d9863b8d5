/-! LAYER 3: image, back. Printed by wip/whole/gen62.py -/
section IMG
variable {I : FI} {L : FL} {H : HD} {W : Nat → Nat} {A : AD} {n : Nat}
/-- a house copied, acts copied: cells -/
def cpF (I : FI) (h d : Nat) : FI := c2 (c2 (c2 (c2 (c2 (c2 (c2 (u2 (u2 (u2 (u2 (u2 (u2 (u2 (u2 I d 0 (I h 0)) d 1 (I h 1)) d 2 (I h 2)) d 3 (I h 3)) d 4 (I h 4)) d 5 (I h 5)) d 6 (I h 6)) d 7 (I h 7)) (h + 1) (d + 1) 0 0 4) (h + 2) (d + 2) 0 0 4) (h + 3) (d + 3) 0 0 4) (h + 4) (d + 4) 0 0 16) (h + 5) (d + 5) 0 0 5) (h + 6) (d + 6) 0 0 5) (h + 7) (d + 7) 0 0 12
def cpA (I : FI) (a d : Nat) : FI := c2 (c2 (u2 I d 2 (I a 2)) (a + 1) (d + 1) 0 0 30) (a + 2) (d + 2) 0 0 30
theorem c2_o {I : FI} {k0 k m c i : Nat} (h : c ≠ k) : c2 I k0 k 0 0 m c i = I c i := by rw [c2_ne h]
theorem c2_i {I : FI} {k0 k m i : Nat} (hi : i < m) : c2 I k0 k 0 0 m k i = I k0 i := by
  rw [c2_eq, pk_cpy_in (by omega) (by omega), show 0 + (i - 0) = i by omega]
theorem cpF_o {h d c i : Nat} (hc : c < d ∨ d + 7 < c) : cpF I h d c i = I c i := by
  unfold cpF
  rw [c2_o (by omega), c2_o (by omega), c2_o (by omega), c2_o (by omega), c2_o (by omega), c2_o (by omega), c2_o (by omega), u2_c (by omega), u2_c (by omega), u2_c (by omega), u2_c (by omega), u2_c (by omega), u2_c (by omega), u2_c (by omega), u2_c (by omega)]
theorem cpA_o {a d c i : Nat} (hc : c < d ∨ d + 2 < c) : cpA I a d c i = I c i := by
  unfold cpA
  rw [c2_o (by omega), c2_o (by omega), u2_c (by omega)]
theorem cpF_0 {h d j : Nat} (hj : j < 8) : cpF I h d d j = I h j := by
  unfold cpF
  rw [c2_o (by omega), c2_o (by omega), c2_o (by omega), c2_o (by omega), c2_o (by omega), c2_o (by omega), c2_o (by omega)]
  rcases (show j = 0 ∨ j = 1 ∨ j = 2 ∨ j = 3 ∨ j = 4 ∨ j = 5 ∨ j = 6 ∨ j = 7 by omega) with rfl | rfl | rfl | rfl | rfl | rfl | rfl | rfl
  · rw [u2_o (by decide), u2_o (by decide), u2_o (by decide), u2_o (by decide), u2_o (by decide), u2_o (by decide), u2_o (by decide), u2_s]
  · rw [u2_o (by decide), u2_o (by decide), u2_o (by decide), u2_o (by decide), u2_o (by decide), u2_o (by decide), u2_s]
  · rw [u2_o (by decide), u2_o (by decide), u2_o (by decide), u2_o (by decide), u2_o (by decide), u2_s]
  · rw [u2_o (by decide), u2_o (by decide), u2_o (by decide), u2_o (by decide), u2_s]
  · rw [u2_o (by decide), u2_o (by decide), u2_o (by decide), u2_s]
  · rw [u2_o (by decide), u2_o (by decide), u2_s]
  · rw [u2_o (by decide), u2_s]
  · rw [u2_s]
theorem cpF_1 {h d i : Nat} (hd : h + 7 < d ∨ d + 7 < h) (hi : i < 4) : cpF I h d (d + 1) i = I (h + 1) i := by
  unfold cpF
  rw [c2_o (by omega), c2_o (by omega), c2_o (by omega), c2_o (by omega), c2_o (by omega), c2_o (by omega), c2_i hi, u2_c (by omega), u2_c (by omega), u2_c (by omega), u2_c (by omega), u2_c (by omega), u2_c (by omega), u2_c (by omega), u2_c (by omega)]
theorem cpF_2 {h d i : Nat} (hd : h + 7 < d ∨ d + 7 < h) (hi : i < 4) : cpF I h d (d + 2) i = I (h + 2) i := by
  unfold cpF
  rw [c2_o (by omega), c2_o (by omega), c2_o (by omega), c2_o (by omega), c2_o (by omega), c2_i hi, c2_o (by omega), u2_c (by omega), u2_c (by omega), u2_c (by omega), u2_c (by omega), u2_c (by omega), u2_c (by omega), u2_c (by omega), u2_c (by omega)]
theorem cpF_3 {h d i : Nat} (hd : h + 7 < d ∨ d + 7 < h) (hi : i < 4) : cpF I h d (d + 3) i = I (h + 3) i := by
  unfold cpF
  rw [c2_o (by omega), c2_o (by omega), c2_o (by omega), c2_o (by omega), c2_i hi, c2_o (by omega), c2_o (by omega), u2_c (by omega), u2_c (by omega), u2_c (by omega), u2_c (by omega), u2_c (by omega), u2_c (by omega), u2_c (by omega), u2_c (by omega)]
theorem cpF_4 {h d i : Nat} (hd : h + 7 < d ∨ d + 7 < h) (hi : i < 16) : cpF I h d (d + 4) i = I (h + 4) i := by
  unfold cpF
  rw [c2_o (by omega), c2_o (by omega), c2_o (by omega), c2_i hi, c2_o (by omega), c2_o (by omega), c2_o (by omega), u2_c (by omega), u2_c (by omega), u2_c (by omega), u2_c (by omega), u2_c (by omega), u2_c (by omega), u2_c (by omega), u2_c (by omega)]
theorem cpF_5 {h d i : Nat} (hd : h + 7 < d ∨ d + 7 < h) (hi : i < 5) : cpF I h d (d + 5) i = I (h + 5) i := by
  unfold cpF
  rw [c2_o (by omega), c2_o (by omega), c2_i hi, c2_o (by omega), c2_o (by omega), c2_o (by omega), c2_o (by omega), u2_c (by omega), u2_c (by omega), u2_c (by omega), u2_c (by omega), u2_c (by omega), u2_c (by omega), u2_c (by omega), u2_c (by omega)]
theorem cpF_6 {h d i : Nat} (hd : h + 7 < d ∨ d + 7 < h) (hi : i < 5) : cpF I h d (d + 6) i = I (h + 6) i := by
  unfold cpF
  rw [c2_o (by omega), c2_i hi, c2_o (by omega), c2_o (by omega), c2_o (by omega), c2_o (by omega), c2_o (by omega), u2_c (by omega), u2_c (by omega), u2_c (by omega), u2_c (by omega), u2_c (by omega), u2_c (by omega), u2_c (by omega), u2_c (by omega)]
theorem cpF_7 {h d i : Nat} (hd : h + 7 < d ∨ d + 7 < h) (hi : i < 12) : cpF I h d (d + 7) i = I (h + 7) i := by
  unfold cpF
  rw [c2_i hi, c2_o (by omega), c2_o (by omega), c2_o (by omega), c2_o (by omega), c2_o (by omega), c2_o (by omega), u2_c (by omega), u2_c (by omega), u2_c (by omega), u2_c (by omega), u2_c (by omega), u2_c (by omega), u2_c (by omega), u2_c (by omega)]
theorem CH_cp {h a d e : Nat} (hC : CH I h a H W A) (ho : HOK H W A) (hd : h + 7 < d ∨ d + 7 < h) (he : a + 2 < e ∨ e + 2 < a) (x1 : h + 7 < e ∨ e + 2 < h) (x2 : d + 7 < e ∨ e + 2 < d) (x3 : d + 7 < a ∨ a + 2 < d) : CH (cpA (cpF I h d) a e) d e H W A := by
  have o4 : H.1 4 ≤ 4 := ho.1.2.2.2.2.1
  have o6 : H.1 6 ≤ 5 := ho.1.2.2.2.2.2.2.1
  have o7 : H.1 7 ≤ 12 := ho.1.2.2.2.2.2.2.2.1
  have oA : A.1 ≤ 30 := ho.1.2.2.2.2.2.2.2.2
  obtain ⟨h1, h2, h3, h4, h5, h6, h7, h8, h9, h10, h11⟩ := hC
  refine ⟨fun j hj => ?_, fun j hj => ?_, fun j hj => ?_, fun j hj => ?_, fun j q hj hq => ?_, fun j hj => ?_, fun j hj => ?_, fun j hj => ?_, ?_, fun j hj => ?_, fun j hj => ?_⟩
  · rw [cpA_o (by omega), cpF_0 hj]; exact h1 j hj
  · rw [cpA_o (by omega), cpF_1 hd (by omega)]; exact h2 j hj
  · rw [cpA_o (by omega), cpF_2 hd (by omega)]; exact h3 j hj
  · rw [cpA_o (by omega), cpF_3 hd (by omega)]; exact h4 j hj
  · rw [cpA_o (by omega), cpF_4 hd (by omega)]; exact h5 j q hj hq
  · rw [cpA_o (by omega), cpF_5 hd (by omega)]; exact h6 j hj
  · rw [cpA_o (by omega), cpF_6 hd (by omega)]; exact h7 j hj
  · rw [cpA_o (by omega), cpF_7 hd (by omega)]; exact h8 j hj
  · unfold cpA
    rw [c2_o (by omega), c2_o (by omega), u2_s, cpF_o (by omega)]; exact h9
  · unfold cpA
    rw [c2_o (by omega), c2_i (by omega), u2_c (by omega), cpF_o (by omega)]; exact h10 j hj
  · unfold cpA
    rw [c2_i (by omega), c2_o (by omega), u2_c (by omega), cpF_o (by omega)]; exact h11 j hj
/-- a row copied -/
def cpR (I J : FI) (c w a b : Nat) : Prop := (∀ k, k < w → J c (w * b + k) = I c (w * a + k)) ∧ (∀ i, (i < w * b ∨ w * b + w ≤ i) → J c i = I c i) ∧ ∀ d i, d ≠ c → J d i = I d i
theorem e234 {a b : Nat} (ha : a < 5) (hb : b < 5) (hab : a ≠ b) (hn : 1000 ≤ n) : ∃ J, f_234 n (nI 1) (nI a) (nI b) I L = some (J, L) ∧ cpR I J 95 1 a b := by
  obtain ⟨J, ⟨j1, j2, j3⟩, e⟩ := lpE (fun m k (s : FI) => c_234_0 n m (nI 1) (nI a) (nI b) (nI k) s L) 1 (fun k s => (∀ j, j < k → s 95 (1 * b + j) = I 95 (1 * a + j)) ∧ (∀ i, (i < 1 * b ∨ 1 * b + 1 ≤ i) → s 95 i = I 95 i) ∧ ∀ d i, d ≠ 95 → s d i = I d i) (fun s => some (s, L)) (fun m s hs => by
      show b_234_0 n (c_234_0 n m) (nI 1) (nI a) (nI b) (nI 1) s L = _
      unfold b_234_0
      rw [if_pos (nI_le (Nat.le_refl _) (by omega))]) (fun m k s hk hs => by
      obtain ⟨s1, s2, s3⟩ := hs
      refine ⟨u2 s 95 (1 * b + k) (I 95 (1 * a + k)), ⟨fun j hj => ?_, fun i hi => ?_, fun d i hd => ?_⟩, ?_⟩
      · by_cases e : j = k
        · subst e; exact u2_s
        · rw [u2_o (by omega)]; exact s1 j (by omega)
      · rw [u2_o (by omega)]; exact s2 i hi
      · rw [u2_c hd]; exact s3 d i hd
      · show b_234_0 n (c_234_0 n m) (nI 1) (nI a) (nI b) (nI k) s L = _
        unfold b_234_0
        rw [if_neg (nI_ge hk (by omega)), pk_mul, pk_mul, nI_add, nI_add, ku_if (by omega) (by omega), ku_if (by omega) (by omega), nI_clamp (by omega), nI_clamp (by omega), s2 (1 * a + k) (by omega), nI_1]) n 0 I (by omega) (by omega) ⟨fun j hj => absurd hj (by omega), fun _ _ => rfl, fun _ _ _ => rfl⟩
  exact ⟨J, e, j1, j2, j3⟩
theorem e234_1 {a b : Nat} (ha : a < 5) (hb : b < 5) (hab : a ≠ b) (hn : 1000 ≤ n) : ∃ J, f_234_1 n (nI 9) (nI a) (nI b) I L = some (J, L) ∧ cpR I J 96 9 a b := by
  obtain ⟨J, ⟨j1, j2, j3⟩, e⟩ := lpE (fun m k (s : FI) => c_234_1_0 n m (nI 9) (nI a) (nI b) (nI k) s L) 9 (fun k s => (∀ j, j < k → s 96 (9 * b + j) = I 96 (9 * a + j)) ∧ (∀ i, (i < 9 * b ∨ 9 * b + 9 ≤ i) → s 96 i = I 96 i) ∧ ∀ d i, d ≠ 96 → s d i = I d i) (fun s => some (s, L)) (fun m s hs => by
      show b_234_1_0 n (c_234_1_0 n m) (nI 9) (nI a) (nI b) (nI 9) s L = _
      unfold b_234_1_0
      rw [if_pos (nI_le (Nat.le_refl _) (by omega))]) (fun m k s hk hs => by
      obtain ⟨s1, s2, s3⟩ := hs
      refine ⟨u2 s 96 (9 * b + k) (I 96 (9 * a + k)), ⟨fun j hj => ?_, fun i hi => ?_, fun d i hd => ?_⟩, ?_⟩
      · by_cases e : j = k
        · subst e; exact u2_s
        · rw [u2_o (by omega)]; exact s1 j (by omega)
      · rw [u2_o (by omega)]; exact s2 i hi
      · rw [u2_c hd]; exact s3 d i hd
      · show b_234_1_0 n (c_234_1_0 n m) (nI 9) (nI a) (nI b) (nI k) s L = _
        unfold b_234_1_0
        rw [if_neg (nI_ge hk (by omega)), pk_mul, pk_mul, nI_add, nI_add, ku_if (by omega) (by omega), ku_if (by omega) (by omega), nI_clamp (by omega), nI_clamp (by omega), s2 (9 * a + k) (by omega), nI_1]) n 0 I (by omega) (by omega) ⟨fun j hj => absurd hj (by omega), fun _ _ => rfl, fun _ _ _ => rfl⟩
  exact ⟨J, e, j1, j2, j3⟩
theorem e234_2 {a b : Nat} (ha : a < 5) (hb : b < 5) (hab : a ≠ b) (hn : 1000 ≤ n) : ∃ J, f_234_2 n (nI 8) (nI a) (nI b) I L = some (J, L) ∧ cpR I J 97 8 a b := by
  obtain ⟨J, ⟨j1, j2, j3⟩, e⟩ := lpE (fun m k (s : FI) => c_234_2_0 n m (nI 8) (nI a) (nI b) (nI k) s L) 8 (fun k s => (∀ j, j < k → s 97 (8 * b + j) = I 97 (8 * a + j)) ∧ (∀ i, (i < 8 * b ∨ 8 * b + 8 ≤ i) → s 97 i = I 97 i) ∧ ∀ d i, d ≠ 97 → s d i = I d i) (fun s => some (s, L)) (fun m s hs => by
      show b_234_2_0 n (c_234_2_0 n m) (nI 8) (nI a) (nI b) (nI 8) s L = _
      unfold b_234_2_0
      rw [if_pos (nI_le (Nat.le_refl _) (by omega))]) (fun m k s hk hs => by
      obtain ⟨s1, s2, s3⟩ := hs
      refine ⟨u2 s 97 (8 * b + k) (I 97 (8 * a + k)), ⟨fun j hj => ?_, fun i hi => ?_, fun d i hd => ?_⟩, ?_⟩
      · by_cases e : j = k
        · subst e; exact u2_s
        · rw [u2_o (by omega)]; exact s1 j (by omega)
      · rw [u2_o (by omega)]; exact s2 i hi
      · rw [u2_c hd]; exact s3 d i hd
      · show b_234_2_0 n (c_234_2_0 n m) (nI 8) (nI a) (nI b) (nI k) s L = _
        unfold b_234_2_0
        rw [if_neg (nI_ge hk (by omega)), pk_mul, pk_mul, nI_add, nI_add, ku_if (by omega) (by omega), ku_if (by omega) (by omega), nI_clamp (by omega), nI_clamp (by omega), s2 (8 * a + k) (by omega), nI_1]) n 0 I (by omega) (by omega) ⟨fun j hj => absurd hj (by omega), fun _ _ => rfl, fun _ _ _ => rfl⟩
  exact ⟨J, e, j1, j2, j3⟩
theorem e234_3 {a b : Nat} (ha : a < 5) (hb : b < 5) (hab : a ≠ b) (hn : 1000 ≤ n) : ∃ J, f_234_3 n (nI 12) (nI a) (nI b) I L = some (J, L) ∧ cpR I J 98 12 a b := by
  obtain ⟨J, ⟨j1, j2, j3⟩, e⟩ := lpE (fun m k (s : FI) => c_234_3_0 n m (nI 12) (nI a) (nI b) (nI k) s L) 12 (fun k s => (∀ j, j < k → s 98 (12 * b + j) = I 98 (12 * a + j)) ∧ (∀ i, (i < 12 * b ∨ 12 * b + 12 ≤ i) → s 98 i = I 98 i) ∧ ∀ d i, d ≠ 98 → s d i = I d i) (fun s => some (s, L)) (fun m s hs => by
      show b_234_3_0 n (c_234_3_0 n m) (nI 12) (nI a) (nI b) (nI 12) s L = _
      unfold b_234_3_0
      rw [if_pos (nI_le (Nat.le_refl _) (by omega))]) (fun m k s hk hs => by
      obtain ⟨s1, s2, s3⟩ := hs
      refine ⟨u2 s 98 (12 * b + k) (I 98 (12 * a + k)), ⟨fun j hj => ?_, fun i hi => ?_, fun d i hd => ?_⟩, ?_⟩
      · by_cases e : j = k
        · subst e; exact u2_s
        · rw [u2_o (by omega)]; exact s1 j (by omega)
      · rw [u2_o (by omega)]; exact s2 i hi
      · rw [u2_c hd]; exact s3 d i hd
      · show b_234_3_0 n (c_234_3_0 n m) (nI 12) (nI a) (nI b) (nI k) s L = _
        unfold b_234_3_0
        rw [if_neg (nI_ge hk (by omega)), pk_mul, pk_mul, nI_add, nI_add, ku_if (by omega) (by omega), ku_if (by omega) (by omega), nI_clamp (by omega), nI_clamp (by omega), s2 (12 * a + k) (by omega), nI_1]) n 0 I (by omega) (by omega) ⟨fun j hj => absurd hj (by omega), fun _ _ => rfl, fun _ _ _ => rfl⟩
  exact ⟨J, e, j1, j2, j3⟩
theorem e234_4 {a b : Nat} (ha : a < 5) (hb : b < 5) (hab : a ≠ b) (hn : 1000 ≤ n) : ∃ J, f_234_4 n (nI 10) (nI a) (nI b) I L = some (J, L) ∧ cpR I J 99 10 a b := by
  obtain ⟨J, ⟨j1, j2, j3⟩, e⟩ := lpE (fun m k (s : FI) => c_234_4_0 n m (nI 10) (nI a) (nI b) (nI k) s L) 10 (fun k s => (∀ j, j < k → s 99 (10 * b + j) = I 99 (10 * a + j)) ∧ (∀ i, (i < 10 * b ∨ 10 * b + 10 ≤ i) → s 99 i = I 99 i) ∧ ∀ d i, d ≠ 99 → s d i = I d i) (fun s => some (s, L)) (fun m s hs => by
      show b_234_4_0 n (c_234_4_0 n m) (nI 10) (nI a) (nI b) (nI 10) s L = _
      unfold b_234_4_0
      rw [if_pos (nI_le (Nat.le_refl _) (by omega))]) (fun m k s hk hs => by
      obtain ⟨s1, s2, s3⟩ := hs
      refine ⟨u2 s 99 (10 * b + k) (I 99 (10 * a + k)), ⟨fun j hj => ?_, fun i hi => ?_, fun d i hd => ?_⟩, ?_⟩
      · by_cases e : j = k
        · subst e; exact u2_s
        · rw [u2_o (by omega)]; exact s1 j (by omega)
      · rw [u2_o (by omega)]; exact s2 i hi
      · rw [u2_c hd]; exact s3 d i hd
      · show b_234_4_0 n (c_234_4_0 n m) (nI 10) (nI a) (nI b) (nI k) s L = _
        unfold b_234_4_0
        rw [if_neg (nI_ge hk (by omega)), pk_mul, pk_mul, nI_add, nI_add, ku_if (by omega) (by omega), ku_if (by omega) (by omega), nI_clamp (by omega), nI_clamp (by omega), s2 (10 * a + k) (by omega), nI_1]) n 0 I (by omega) (by omega) ⟨fun j hj => absurd hj (by omega), fun _ _ => rfl, fun _ _ _ => rfl⟩
  exact ⟨J, e, j1, j2, j3⟩
theorem e234_5 {a b : Nat} (ha : a < 5) (hb : b < 5) (hab : a ≠ b) (hn : 1000 ≤ n) : ∃ J, f_234_5 n (nI 12) (nI a) (nI b) I L = some (J, L) ∧ cpR I J 100 12 a b := by
  obtain ⟨J, ⟨j1, j2, j3⟩, e⟩ := lpE (fun m k (s : FI) => c_234_5_0 n m (nI 12) (nI a) (nI b) (nI k) s L) 12 (fun k s => (∀ j, j < k → s 100 (12 * b + j) = I 100 (12 * a + j)) ∧ (∀ i, (i < 12 * b ∨ 12 * b + 12 ≤ i) → s 100 i = I 100 i) ∧ ∀ d i, d ≠ 100 → s d i = I d i) (fun s => some (s, L)) (fun m s hs => by
      show b_234_5_0 n (c_234_5_0 n m) (nI 12) (nI a) (nI b) (nI 12) s L = _
      unfold b_234_5_0
      rw [if_pos (nI_le (Nat.le_refl _) (by omega))]) (fun m k s hk hs => by
      obtain ⟨s1, s2, s3⟩ := hs
      refine ⟨u2 s 100 (12 * b + k) (I 100 (12 * a + k)), ⟨fun j hj => ?_, fun i hi => ?_, fun d i hd => ?_⟩, ?_⟩
      · by_cases e : j = k
        · subst e; exact u2_s
        · rw [u2_o (by omega)]; exact s1 j (by omega)
      · rw [u2_o (by omega)]; exact s2 i hi
      · rw [u2_c hd]; exact s3 d i hd
      · show b_234_5_0 n (c_234_5_0 n m) (nI 12) (nI a) (nI b) (nI k) s L = _
        unfold b_234_5_0
        rw [if_neg (nI_ge hk (by omega)), pk_mul, pk_mul, nI_add, nI_add, ku_if (by omega) (by omega), ku_if (by omega) (by omega), nI_clamp (by omega), nI_clamp (by omega), s2 (12 * a + k) (by omega), nI_1]) n 0 I (by omega) (by omega) ⟨fun j hj => absurd hj (by omega), fun _ _ => rfl, fun _ _ _ => rfl⟩
  exact ⟨J, e, j1, j2, j3⟩
theorem e234_6 {a b : Nat} (ha : a < 5) (hb : b < 5) (hab : a ≠ b) (hn : 1000 ≤ n) : ∃ J, f_234_6 n (nI 60) (nI a) (nI b) I L = some (J, L) ∧ cpR I J 101 60 a b := by
  obtain ⟨J, ⟨j1, j2, j3⟩, e⟩ := lpE (fun m k (s : FI) => c_234_6_0 n m (nI 60) (nI a) (nI b) (nI k) s L) 60 (fun k s => (∀ j, j < k → s 101 (60 * b + j) = I 101 (60 * a + j)) ∧ (∀ i, (i < 60 * b ∨ 60 * b + 60 ≤ i) → s 101 i = I 101 i) ∧ ∀ d i, d ≠ 101 → s d i = I d i) (fun s => some (s, L)) (fun m s hs => by
      show b_234_6_0 n (c_234_6_0 n m) (nI 60) (nI a) (nI b) (nI 60) s L = _
      unfold b_234_6_0
      rw [if_pos (nI_le (Nat.le_refl _) (by omega))]) (fun m k s hk hs => by
      obtain ⟨s1, s2, s3⟩ := hs
      refine ⟨u2 s 101 (60 * b + k) (I 101 (60 * a + k)), ⟨fun j hj => ?_, fun i hi => ?_, fun d i hd => ?_⟩, ?_⟩
      · by_cases e : j = k
        · subst e; exact u2_s
        · rw [u2_o (by omega)]; exact s1 j (by omega)
      · rw [u2_o (by omega)]; exact s2 i hi
      · rw [u2_c hd]; exact s3 d i hd
      · show b_234_6_0 n (c_234_6_0 n m) (nI 60) (nI a) (nI b) (nI k) s L = _
        unfold b_234_6_0
        rw [if_neg (nI_ge hk (by omega)), pk_mul, pk_mul, nI_add, nI_add, ku_if (by omega) (by omega), ku_if (by omega) (by omega), nI_clamp (by omega), nI_clamp (by omega), s2 (60 * a + k) (by omega), nI_1]) n 0 I (by omega) (by omega) ⟨fun j hj => absurd hj (by omega), fun _ _ => rfl, fun _ _ _ => rfl⟩
  exact ⟨J, e, j1, j2, j3⟩
/-- the model's house copied from a to b -/
theorem e235 (ho : HOK H W A) {a b : Nat} (hM : MH I a H W A) (ha : a < 5) (hb : b < 5) (hab : a ≠ b) (hn : 1000 ≤ n) : ∃ J, f_235 n (nI a) (nI b) I L = some (J, L) ∧ MH J b H W A ∧ (∀ s, s ≠ b → MSm s I J) ∧ ∀ c i, (c < 95 ∨ 101 < c) → J c i = I c i := by
  have o4 : H.1 4 ≤ 4 := ho.1.2.2.2.2.1
  have o5 : H.1 5 ≤ 6 := ho.1.2.2.2.2.2.1
  have o6 : H.1 6 ≤ 5 := ho.1.2.2.2.2.2.2.1
  have o7 : H.1 7 ≤ 12 := ho.1.2.2.2.2.2.2.2.1
  have oA : A.1 ≤ 30 := ho.1.2.2.2.2.2.2.2.2
  obtain ⟨J0, a0, b0, c0, d0⟩ := e234 (n := n) (L := L) (I := I) ha hb hab hn
  obtain ⟨J1, a1, b1, c1, d1⟩ := e234_1 (n := n) (L := L) (I := J0) ha hb hab hn
  obtain ⟨J2, a2, b2, c2, d2⟩ := e234_2 (n := n) (L := L) (I := J1) ha hb hab hn
  obtain ⟨J3, a3, b3, c3, d3⟩ := e234_3 (n := n) (L := L) (I := J2) ha hb hab hn
  obtain ⟨J4, a4, b4, c4, d4⟩ := e234_4 (n := n) (L := L) (I := J3) ha hb hab hn
  obtain ⟨J5, a5, b5, c5, d5⟩ := e234_5 (n := n) (L := L) (I := J4) ha hb hab hn
  obtain ⟨J6, a6, b6, c6, d6⟩ := e234_6 (n := n) (L := L) (I := J5) ha hb hab hn
  obtain ⟨h1, h2, h3, h4, h5, h6, h7, h8, h9, h10, h11, h12⟩ := hM
  refine ⟨J6, ?_, ⟨?_, fun j hj => ?_, ?_, fun j hj => ?_, fun j hj => ?_, fun j hj => ?_, fun j hj => ?_, fun j hj => ?_, fun j hj => ?_, fun j hj => ?_, fun j hj => ?_, fun j hj => ?_⟩, fun s hs => ?_, fun c i hc => ?_⟩
  · unfold f_235
    rw [show (1 : Int32) = nI 1 from rfl, show (9 : Int32) = nI 9 from rfl, show (8 : Int32) = nI 8 from rfl, show (12 : Int32) = nI 12 from rfl, show (10 : Int32) = nI 10 from rfl, show (60 : Int32) = nI 60 from rfl, a0, q_bs, a1, q_bs, a2, q_bs, a3, q_bs, a4, q_bs, a5, q_bs, a6, q_bs]
  · have e := b0 0 (by omega)
    rw [Nat.one_mul, Nat.one_mul, Nat.add_zero, Nat.add_zero] at e
    rw [d6 _ _ (by decide), d5 _ _ (by decide), d4 _ _ (by decide), d3 _ _ (by decide), d2 _ _ (by decide), d1 _ _ (by decide), e]; exact h1
  · rw [d6 _ _ (by decide), d5 _ _ (by decide), d4 _ _ (by decide), d3 _ _ (by decide), d2 _ _ (by decide), b1 (j) (by omega), d0 _ _ (by decide)]; exact h2 j hj
  · rw [d6 _ _ (by decide), d5 _ _ (by decide), d4 _ _ (by decide), d3 _ _ (by decide), d2 _ _ (by decide), b1 (7) (by omega), d0 _ _ (by decide)]; exact h3
  · rw [d6 _ _ (by decide), d5 _ _ (by decide), d4 _ _ (by decide), d3 _ _ (by decide), b2 (2 * j) (by omega), d1 _ _ (by decide), d0 _ _ (by decide)]; exact h4 j hj
  · rw [d6 _ _ (by decide), d5 _ _ (by decide), d4 _ _ (by decide), d3 _ _ (by decide), Nat.add_assoc, b2 (2 * j + 1) (by omega), d1 _ _ (by decide), d0 _ _ (by decide), ← Nat.add_assoc]
    exact h5 j hj
  · rw [d6 _ _ (by decide), d5 _ _ (by decide), d4 _ _ (by decide), b3 (2 * j) (by omega), d2 _ _ (by decide), d1 _ _ (by decide), d0 _ _ (by decide)]; exact h6 j hj
  · rw [d6 _ _ (by decide), d5 _ _ (by decide), d4 _ _ (by decide), Nat.add_assoc, b3 (2 * j + 1) (by omega), d2 _ _ (by decide), d1 _ _ (by decide), d0 _ _ (by decide), ← Nat.add_assoc]
    exact h7 j hj
  · rw [d6 _ _ (by decide), d5 _ _ (by decide), b4 (2 * j) (by omega), d3 _ _ (by decide), d2 _ _ (by decide), d1 _ _ (by decide), d0 _ _ (by decide)]; exact h8 j hj
  · rw [d6 _ _ (by decide), d5 _ _ (by decide), Nat.add_assoc, b4 (2 * j + 1) (by omega), d3 _ _ (by decide), d2 _ _ (by decide), d1 _ _ (by decide), d0 _ _ (by decide), ← Nat.add_assoc]
    exact h9 j hj
  · rw [d6 _ _ (by decide), b5 (j) (by omega), d4 _ _ (by decide), d3 _ _ (by decide), d2 _ _ (by decide), d1 _ _ (by decide), d0 _ _ (by decide)]; exact h10 j hj
  · rw [b6 (2 * j) (by omega), d5 _ _ (by decide), d4 _ _ (by decide), d3 _ _ (by decide), d2 _ _ (by decide), d1 _ _ (by decide), d0 _ _ (by decide)]; exact h11 j hj
  · rw [Nat.add_assoc, b6 (2 * j + 1) (by omega), d5 _ _ (by decide), d4 _ _ (by decide), d3 _ _ (by decide), d2 _ _ (by decide), d1 _ _ (by decide), d0 _ _ (by decide), ← Nat.add_assoc]
    exact h12 j hj
  · refine ⟨?_, fun i x y => ?_, fun i x y => ?_, fun i x y => ?_, fun i x y => ?_, fun i x y => ?_, fun i x y => ?_⟩
    · rw [d6 _ _ (by decide), d5 _ _ (by decide), d4 _ _ (by decide), d3 _ _ (by decide), d2 _ _ (by decide), d1 _ _ (by decide), c0 _ (by omega)]
    · rw [d6 _ _ (by decide), d5 _ _ (by decide), d4 _ _ (by decide), d3 _ _ (by decide), d2 _ _ (by decide), c1 _ (by omega), d0 _ _ (by decide)]
    · rw [d6 _ _ (by decide), d5 _ _ (by decide), d4 _ _ (by decide), d3 _ _ (by decide), c2 _ (by omega), d1 _ _ (by decide), d0 _ _ (by decide)]
    · rw [d6 _ _ (by decide), d5 _ _ (by decide), d4 _ _ (by decide), c3 _ (by omega), d2 _ _ (by decide), d1 _ _ (by decide), d0 _ _ (by decide)]
    · rw [d6 _ _ (by decide), d5 _ _ (by decide), c4 _ (by omega), d3 _ _ (by decide), d2 _ _ (by decide), d1 _ _ (by decide), d0 _ _ (by decide)]
    · rw [d6 _ _ (by decide), c5 _ (by omega), d4 _ _ (by decide), d3 _ _ (by decide), d2 _ _ (by decide), d1 _ _ (by decide), d0 _ _ (by decide)]
    · rw [c6 _ (by omega), d5 _ _ (by decide), d4 _ _ (by decide), d3 _ _ (by decide), d2 _ _ (by decide), d1 _ _ (by decide), d0 _ _ (by decide)]
  · rw [d6 _ _ (by omega), d5 _ _ (by omega), d4 _ _ (by omega), d3 _ _ (by omega), d2 _ _ (by omega), d1 _ _ (by omega), d0 _ _ (by omega)]
/-- nothing is known of a house -/
def KPf (KP : KPT) : Prop := ∀ (H : HD) (I : FI) (L : FL), I 114 7 = -1 → I 114 8 = -3 → (∀ i, i < 16 → I 120 i = -3) → (∀ i, i < 4 → I 121 i = -3) → KP H I L
def RPf (RP : RPT) : Prop := ∀ (H : HD) (I : FI), I 35 7 = -3 → (∀ i, i < 11 → I 39 i = -3) → RP H I
theorem e95 (hn : 1000 ≤ n) : ∃ J, f_95 n I L = some (J, L) ∧ J 35 7 = -3 ∧ (∀ i, i < 11 → J 39 i = -3) ∧ ∀ c i, c ≠ 35 → c ≠ 39 → J c i = I c i := by
  obtain ⟨J, ⟨j1, j2⟩, e⟩ := lpE (fun m k (s : FI) => c_95_0 n m (nI k) s L) 11 (fun k s => (∀ i, i < k → s 39 i = -3) ∧ ∀ c i, c ≠ 39 → s c i = u2 I 35 7 (-3) c i) (fun s => some (s, L)) (fun m s hs => by
      show b_95_0 n (c_95_0 n m) (nI 11) s L = _
      unfold b_95_0
      rw [if_pos (by decide)]) (fun m k s hk hs => by
      refine ⟨u2 s 39 k (-3), ⟨fun i hi => ?_, fun c i hc => by rw [u2_c hc]; exact hs.2 c i hc⟩, ?_⟩
      · by_cases e : i = k
        · subst e; exact u2_s
        · rw [u2_o e]; exact hs.1 i (by omega)
      · show b_95_0 n (c_95_0 n m) (nI k) s L = _
        unfold b_95_0
        rw [ku_10, if_neg (nI_nlt (by omega) (by omega)), ku_if hk (by omega), nI_clamp (by omega), nI_1]) n 0 _ (by omega) (by omega) ⟨fun i hi => absurd hi (by omega), fun _ _ _ => rfl⟩
  exact ⟨J, e, by rw [j2 35 7 (by decide)]; exact u2_s, j1, fun c i h1 h2 => by rw [j2 c i h2, u2_c h1]⟩
theorem e31 (hn : 1000 ≤ n) : ∃ J, f_31 n I L = some (J, L) ∧ J 114 7 = -1 ∧ J 114 8 = -3 ∧ (∀ i, i < 16 → J 120 i = -3) ∧ (∀ i, i < 4 → J 121 i = -3) ∧ ∀ c i, c ≠ 114 → c ≠ 120 → c ≠ 121 → J c i = I c i := by
  obtain ⟨J, ⟨j1, j2⟩, e⟩ := lpE (fun m k (s : FI) => c_31_0 n m (nI k) s L) 16 (fun k s => (∀ i, i < k → s 120 i = -3) ∧ ∀ c i, c ≠ 120 → s c i = u2 (u2 I 114 7 (-1)) 114 8 (-3) c i) (fun s => c_31_1 n n (nI 0) s L) (fun m s hs => by
      show b_31_0 n (c_31_0 n m) (nI 16) s L = _
      unfold b_31_0
      rw [if_pos (by decide)]; rfl) (fun m k s hk hs => by
      refine ⟨u2 s 120 k (-3), ⟨fun i hi => ?_, fun c i hc => by rw [u2_c hc]; exact hs.2 c i hc⟩, ?_⟩
      · by_cases e : i = k
        · subst e; exact u2_s
        · rw [u2_o e]; exact hs.1 i (by omega)
      · show b_31_0 n (c_31_0 n m) (nI k) s L = _
        unfold b_31_0
        rw [ku_16, if_neg (nI_ge hk (by omega)), ku_if hk (by omega), nI_clamp (by omega), nI_1]) n 0 _ (by omega) (by omega) ⟨fun i hi => absurd hi (by omega), fun _ _ _ => rfl⟩
  obtain ⟨K, ⟨k1, k2⟩, e2⟩ := lpE (fun m k (s : FI) => c_31_1 n m (nI k) s L) 4 (fun k s => (∀ i, i < k → s 121 i = -3) ∧ ∀ c i, c ≠ 121 → s c i = J c i) (fun s => some (s, L)) (fun m s hs => by
      show b_31_1 n (c_31_1 n m) (nI 4) s L = _
      unfold b_31_1
      rw [if_pos (by decide)]) (fun m k s hk hs => by
      refine ⟨u2 s 121 k (-3), ⟨fun i hi => ?_, fun c i hc => by rw [u2_c hc]; exact hs.2 c i hc⟩, ?_⟩
      · by_cases e : i = k
        · subst e; exact u2_s
        · rw [u2_o e]; exact hs.1 i (by omega)
      · show b_31_1 n (c_31_1 n m) (nI k) s L = _
        unfold b_31_1
        rw [ku_4, if_neg (nI_ge hk (by omega)), ku_if hk (by omega), nI_clamp (by omega), nI_1]) n 0 J (by omega) (by omega) ⟨fun i hi => absurd hi (by omega), fun _ _ _ => rfl⟩
  refine ⟨K, ?_, ?_, ?_, fun i hi => by rw [k2 120 i (by decide)]; exact j1 i hi, k1, fun c i h1 h2 h3 => by rw [k2 c i h3, j2 c i h2, u2_c h1, u2_c h1]⟩
  · unfold f_31
    rw [show (0 : Int32) = nI 0 from rfl]
    exact e.trans e2
  · rw [k2 114 7 (by decide), j2 114 7 (by decide), u2_o (by decide), u2_s]
  · rw [k2 114 8 (by decide), j2 114 8 (by decide), u2_s]
theorem rgI_i {lo hi : Nat} {f : FI} {c i : Nat} (h : lo ≤ c ∧ c ≤ hi) : rgI lo hi f c i = f c i := by unfold rgI; rw [if_pos h]
end IMG
section IMG2
variable {KP : KPT} {RP : RPT} {Ls : Nat} {xs : Nat → Int32} {a1 a2 a3 a4 a5 : Int32}
theorem sk_image : SOK Ls xs (VV KP RP) 172 356 [.int a1] := by
  intro kp nh rh tl rl I L hV
  have hV0 := hV
  obtain ⟨H, W, A, hB, hR, hW⟩ := hV
  have hB0 := hB
  obtain ⟨hT, hF, ho, hC, hM, hIm, hRw⟩ := hB
  have o0 : H.1 0 ≤ 1000 := ho.1.1
  have o3 : H.1 3 ≤ 30 := ho.1.2.2.2.1
  have o4 : H.1 4 ≤ 4 := ho.1.2.2.2.2.1
  have c0 : I 3 0 = nI (H.1 0) := chs hC (by decide)
  have c3 : I 3 3 = nI (H.1 3) := chs hC (by decide)
  have c4 : I 3 4 = nI (H.1 4) := chs hC (by decide)
  have m0 : u2 I 89 0 0 95 0 = nI (H.1 0) := (u2_c (by decide)).trans hM.1
  have m3 : u2 I 89 0 0 96 2 = nI (H.1 3) := (u2_c (by decide)).trans (mh96 hM (by decide))
  have m4 : u2 I 89 0 0 96 3 = nI (H.1 4) := (u2_c (by decide)).trans (mh96 hM (by decide))
  rcases q_arg a1 (n := 3) (by omega) with h1 | ⟨k, hk, rfl⟩
  · have hc : f_172 a1 I L = some (-2, I, L) := by
      unfold f_172
      by_cases h2 : a1 < 0
      · rw [if_pos h2]
      · rw [if_neg h2, if_neg (by rw [fa_lt, i0] at h2; rw [fa_lt, show (3 : Int32).toInt = 3 from rfl]; omega)]
    exact ⟨-2, kp, nh, rh, tl, rl, I, L, u2 I 89 0 0, L, (t_172 Ls xs 998 kp tl rl nh rh a1 I L (-2, I, L) hc), (t_356 Ls xs 997 kp tl rl nh rh 2000 a1 I L (-2, u2 I 89 0 0, L) (by unfold f_356; rw [e201, bI_n (by rw [Int32.toInt_toInt64, l0, show (2 : Int64).toInt = 2 from rfl]; omega), q_bs, q_n00])), VV_th hV0⟩
  · -- the class
    have hcl : f_172 (nI k) I L = some (0, u2 (cpA (cpF I 3 (46 + 12 * k)) 11 (54 + 12 * k)) (45 + 12 * k) 2 1, L) := by
      rcases (show k = 0 ∨ k = 1 ∨ k = 2 by omega) with rfl | rfl | rfl
      · rfl
      · rfl
      · rfl
    have hJ : ∀ c i, (c < 45 + 12 * k ∨ 56 + 12 * k < c) → u2 (cpA (cpF I 3 (46 + 12 * k)) 11 (54 + 12 * k)) (45 + 12 * k) 2 1 c i = I c i := fun c i hc => by rw [u2_c (by omega), cpA_o (by omega), cpF_o (by omega)]
    have hCJ : CH (u2 (cpA (cpF I 3 (46 + 12 * k)) 11 (54 + 12 * k)) (45 + 12 * k) 2 1) (46 + 12 * k) (54 + 12 * k) H W A := CH_fr (CH_cp hC ho (by omega) (by omega) (by omega) (by omega) (by omega)) (fun c hc i => u2_c (by omega))
    generalize hJe : u2 (cpA (cpF I 3 (46 + 12 * k)) 11 (54 + 12 * k)) (45 + 12 * k) 2 1 = J at hcl hJ hCJ
    have hJ2 : J (45 + 12 * k) 2 = 1 := by rw [← hJe]; exact u2_s
    have hMJ : MH (u2 J 89 0 0) 0 H W A := MH_th (MH_fr ho hM (fun c hc i => hJ c i (by omega)))
    obtain ⟨K, k1, k2, k3, k4⟩ := e235 (n := 2000) (L := L) (a := 0) (b := 1 + k) ho hMJ (by omega) (by omega) (by omega) (by omega)
    have hK : ∀ c i, c ≠ 89 → (c < 95 ∨ 102 < c) → u2 K 102 k 1 c i = J c i := fun c i h1 h2 => by rw [u2_c (by omega), k4 c i (by omega), u2_c h1]
    have hMS : ∀ s, s ≠ 1 + k → MSm s J (u2 K 102 k 1) := fun s hs => MSm_t (MSm_of (fun c hc i => u2_c (by omega))) (MSm_t (k3 s hs) (MSm_of (fun c hc i => u2_c (by omega))))
    have hMI : ∀ s, s ≠ 1 + k → MSm s I (u2 K 102 k 1) := fun s hs => MSm_t (MSm_of (fun c hc i => hJ c i (by omega))) (hMS s hs)
    refine ⟨0, kp, nh, rh, tl, rl, J, L, u2 K 102 k 1, L, (t_172 Ls xs 998 kp tl rl nh rh (nI k) I L (0, J, L) hcl), (t_356 Ls xs 997 kp tl rl nh rh 2000 (nI k) J L (0, u2 K 102 k 1, L) ?_), H, W, A, ⟨?_, ?_, ho, ?_, MH_fs ho hM (hMI 0 (by omega)), fun j hj => ?_, fun j hj => ?_⟩, ?_, ?_⟩
    · unfold f_356
      rw [e201, bI_p (by rw [Int32.toInt_toInt64, nI_toInt (by omega), l0, show (2 : Int64).toInt = 2 from rfl]; omega), q_bs, q_n11, ku_1, nI_add, show f_235 2000 0 (nI (1 + k)) (u2 J 89 0 0) L = some (K, L) from k1, q_bs, ku_if hk (by omega), nI_clamp (by omega)]
      rfl
    · obtain ⟨t, t1, t2, t3, t4⟩ := hT
      exact ⟨t, t1, by rw [hK 1 1 (by decide) (by omega), hJ 1 1 (by omega)]; exact t2, by rw [u2_c (by decide), k4 89 6 (by omega), u2_o (by decide), hJ 89 6 (by omega)]; exact t3, fun i hi => by rw [hK 2 i (by decide) (by omega), hJ 2 i (by omega), hK 94 i (by decide) (by omega), hJ 94 i (by omega)]; exact t4 i hi⟩
    · exact ⟨by rw [hK 14 1 (by decide) (by omega), hJ 14 1 (by omega), u2_c (by decide), k4 89 14 (by omega), u2_o (by decide), hJ 89 14 (by omega)]; exact hF.1, by rw [hK 14 2 (by decide) (by omega), hJ 14 2 (by omega), u2_c (by decide), k4 89 15 (by omega), u2_o (by decide), hJ 89 15 (by omega)]; exact hF.2⟩
    · exact CH_fr hC (fun c hc i => by rw [hK c i (by omega) (by omega), hJ c i (by omega)])
    · by_cases e : j = k
      · subst e
        have e102 : u2 K 102 j 1 102 j = 1 := u2_s
        refine ⟨by rw [e102, hK _ _ (by omega) (by omega)]; exact hJ2, Or.inr ⟨e102, H, W, A, ho, CH_fr hCJ (fun c hc i => hK c i (by omega) (by omega)), ?_⟩⟩
        rw [Nat.add_comm 1 j] at k2
        exact MH_fs ho k2 (MSm_of (fun c hc i => u2_c (by omega)))
      · exact VIm_fs hj (hIm j hj) (fun c hc i => by rw [hK c i (by omega) (by omega), hJ c i (by omega)]) (by rw [u2_o e, k4 102 j (by omega), u2_c (by decide), hJ 102 j (by omega)]) (hMI (j + 1) (by omega))
    · exact VRw_fr (hRw j hj) (fun c hc i => by rw [hK c i (by omega) (by omega), hJ c i (by omega)]) (fun _ _ _ => rfl)
    · intro h0
      rw [rgI_eq (f := I) (fun c hc i => by rw [hK c i (by omega) (by omega), hJ c i (by omega)])]
      exact hR h0
    · unfold VWd at *
      rw [rgI_eq (f := I) (g := u2 K 102 k 1) (fun c hc i => by rw [hK c i (by omega) (by omega), hJ c i (by omega)])]
      exact hW
theorem sk_back (hKf : KPf KP) (hRf : RPf RP) : SOK Ls xs (VV KP RP) 173 357 [.int a1] := by
  intro kp nh rh tl rl I L hV
  have hV0 := hV
  obtain ⟨H, W, A, hB, hR, hW⟩ := hV
  have hB0 := hB
  obtain ⟨hT, hF, ho, hC, hM, hIm, hRw⟩ := hB
  have o0 : H.1 0 ≤ 1000 := ho.1.1
  have o3 : H.1 3 ≤ 30 := ho.1.2.2.2.1
  have o4 : H.1 4 ≤ 4 := ho.1.2.2.2.2.1
  have c0 : I 3 0 = nI (H.1 0) := chs hC (by decide)
  have c3 : I 3 3 = nI (H.1 3) := chs hC (by decide)
  have c4 : I 3 4 = nI (H.1 4) := chs hC (by decide)
  have m0 : u2 I 89 0 0 95 0 = nI (H.1 0) := (u2_c (by decide)).trans hM.1
  have m3 : u2 I 89 0 0 96 2 = nI (H.1 3) := (u2_c (by decide)).trans (mh96 hM (by decide))
  have m4 : u2 I 89 0 0 96 3 = nI (H.1 4) := (u2_c (by decide)).trans (mh96 hM (by decide))
  -- what the keeper is
  have hkk : (kp = none ∧ tl = [] ∧ rl = []) ∨ (kp = some 114 ∧ tl = TK ∧ rl = RK (some 3)) := by
    rcases hW with h | h
    · exact Or.inl h
    · exact Or.inr ⟨h.1, h.2.1, h.2.2.1⟩
  have stay : ∀ v : Int32, f_173 2000 rh a1 I L = some (v, rh, I, L) → f_173_1 2000 rh a1 I L = some (v, rh, I, L) → f_357 2000 a1 I L = some (v, u2 I 89 0 0, L) → ∃ v kp1 nh1 rh1 tl1 rl1 I1 L1 I2 L2, pEN Ls xs 1000 173 (.ref 0 :: [.int a1]) (hp kp nh rh tl rl I L) = some (some (.int v), hp kp1 nh1 rh1 tl1 rl1 I1 L1) ∧ pEN Ls xs 1000 357 (.ref 89 :: [.int a1]) (hp kp1 nh1 rh1 tl1 rl1 I1 L1) = some (some (.int v), hp kp1 nh1 rh1 tl1 rl1 I2 L2) ∧ VV KP RP kp1 nh1 rh1 tl1 rl1 I2 L2 := fun v x1 x2 x3 => by
    refine ⟨v, kp, nh, rh, tl, rl, I, L, u2 I 89 0 0, L, ?_, (t_357 Ls xs 997 kp tl rl nh rh 2000 a1 I L (v, u2 I 89 0 0, L) x3), VV_th hV0⟩
    rcases hkk with ⟨rfl, rfl, rfl⟩ | ⟨rfl, rfl, rfl⟩
    · exact (t_173 Ls xs 997 nh rh 2000 a1 I L (v, rh, I, L) x1)
    · exact (t_173_1 Ls xs 997 nh rh 2000 a1 I L (v, rh, I, L) x2)
  rcases q_arg a1 (n := 3) (by omega) with h1 | ⟨k, hk, rfl⟩
  · refine stay (-2) ?_ ?_ ?_
    · unfold f_173
      by_cases h2 : a1 < 0
      · rw [if_pos h2]
      · rw [if_neg h2, if_neg (by rw [fa_lt, i0] at h2; rw [fa_lt, show (3 : Int32).toInt = 3 from rfl]; omega)]
    · unfold f_173_1
      by_cases h2 : a1 < 0
      · rw [if_pos h2]
      · rw [if_neg h2, if_neg (by rw [fa_lt, i0] at h2; rw [fa_lt, show (3 : Int32).toInt = 3 from rfl]; omega)]
    · unfold f_357
      rw [e201, bI_n (by rw [Int32.toInt_toInt64, l0, show (2 : Int64).toInt = 2 from rfl]; omega), q_bs, q_n00]
  · have hc0 : ∀ (F : FI → FL → Option (FI × FL)), (if ¬ I (45 + 12 * k) 2 = 0 then (F (cpA (cpF I (46 + 12 * k) 3) (54 + 12 * k) 11) L).bind fun q2 => some ((0 : Int32), some 3, q2.1, q2.2) else some (-6, rh, I, L)) = (if ¬ I (45 + 12 * k) 2 = 0 then (F (cpA (cpF I (46 + 12 * k) 3) (54 + 12 * k) 11) L).bind fun q2 => some ((0 : Int32), some 3, q2.1, q2.2) else some (-6, rh, I, L)) := fun _ => rfl
    have hc1 : f_173 2000 rh (nI k) I L = (if ¬ I (45 + 12 * k) 2 = 0 then (f_186 2000 (cpA (cpF I (46 + 12 * k) 3) (54 + 12 * k) 11) L).bind fun q2 => some ((0 : Int32), some 3, q2.1, q2.2) else some (-6, rh, I, L)) := by
      rcases (show k = 0 ∨ k = 1 ∨ k = 2 by omega) with rfl | rfl | rfl
      · rfl
      · rfl
      · rfl
    have hc2 : f_173_1 2000 rh (nI k) I L = (if ¬ I (45 + 12 * k) 2 = 0 then (f_186_1 2000 (cpA (cpF I (46 + 12 * k) 3) (54 + 12 * k) 11) L).bind fun q2 => some ((0 : Int32), some 3, q2.1, q2.2) else some (-6, rh, I, L)) := by
      rcases (show k = 0 ∨ k = 1 ∨ k = 2 by omega) with rfl | rfl | rfl
      · rfl
      · rfl
      · rfl
    have hm : ∀ J : FI, f_357 2000 (nI k) J L = (if ¬ J 102 k = 0 then (f_235 2000 (nI (1 + k)) (nI 0) (u2 J 89 0 0) L).bind fun q1 => some ((0 : Int32), q1.1, q1.2) else some (-6, u2 J 89 0 0, L)) := fun J => by
      unfold f_357
      rw [e201, bI_p (by rw [Int32.toInt_toInt64, nI_toInt (by omega), l0, show (2 : Int64).toInt = 2 from rfl]; omega), q_bs, q_n11, ku_if hk (by omega), nI_clamp (by omega), ku_1, nI_add]; rfl
    obtain ⟨i1, i2⟩ := hIm k hk
    rcases i2 with i2 | ⟨i2, H', W', A', ho', hC', hM'⟩
    · refine stay (-6) ?_ ?_ ?_
      · rw [hc1, if_neg (by rw [i1, i2]; exact fun q => q rfl)]
      · rw [hc2, if_neg (by rw [i1, i2]; exact fun q => q rfl)]
      · rw [hm, if_neg (by rw [i2]; exact fun q => q rfl)]
    · have hkc : ¬ I (45 + 12 * k) 2 = 0 := by rw [i1, i2]; decide
      -- the copy
      have hC3 : CH (cpA (cpF I (46 + 12 * k) 3) (54 + 12 * k) 11) 3 11 H' W' A' := CH_cp hC' ho' (by omega) (by omega) (by omega) (by omega) (by omega)
      have hJ3 : ∀ c i, (c < 3 ∨ 13 < c) → cpA (cpF I (46 + 12 * k) 3) (54 + 12 * k) 11 c i = I c i := fun c i hc => by rw [cpA_o (by omega), cpF_o (by omega)]
      -- findings forgotten
      obtain ⟨F, f1, f2, f3, f4⟩ := e95 (n := 2000) (L := L) (I := cpA (cpF I (46 + 12 * k) 3) (54 + 12 * k) 11) (by omega)
      -- in general: J behind the class
      have fin : ∀ (J : FI) (kp1 : Option Nat) (tl1 : List (Nat × Nat)) (rl1 : List (List (Option Nat))), (∀ c i, c < 114 ∨ 121 < c → J c i = F c i) → pEN Ls xs 1000 173 (.ref 0 :: [.int (nI k)]) (hp kp1 nh rh tl1 rl1 I L) = some (some (.int 0), hp kp1 nh (some 3) tl1 rl1 J L) → (∀ K : FI, (∀ c, 114 ≤ c ∧ c ≤ 121 → ∀ i, K c i = J c i) → VWd KP kp1 tl1 rl1 K L H') → ∃ v kp2 nh1 rh1 tl2 rl2 I1 L1 I2 L2, pEN Ls xs 1000 173 (.ref 0 :: [.int (nI k)]) (hp kp1 nh rh tl1 rl1 I L) = some (some (.int v), hp kp2 nh1 rh1 tl2 rl2 I1 L1) ∧ pEN Ls xs 1000 357 (.ref 89 :: [.int (nI k)]) (hp kp2 nh1 rh1 tl2 rl2 I1 L1) = some (some (.int v), hp kp2 nh1 rh1 tl2 rl2 I2 L2) ∧ VV KP RP kp2 nh1 rh1 tl2 rl2 I2 L2 := fun J kp1 tl1 rl1 hJF hrun hWd => by
        have hJ : ∀ c i, (c < 3 ∨ 13 < c) → c ≠ 35 → c ≠ 39 → (c < 114 ∨ 121 < c) → J c i = I c i := fun c i h1 h2 h3 h4 => by rw [hJF c i h4, f4 c i h2 h3, hJ3 c i h1]
        have hMJ : MH (u2 J 89 0 0) (1 + k) H' W' A' := by
          rw [Nat.add_comm 1 k]
          exact MH_fs ho' hM' (MSm_of (fun c hc i => by rw [u2_c (by omega), hJ c i (by omega) (by omega) (by omega) (by omega)]))
        obtain ⟨K, k1, k2, k3, k4⟩ := e235 (n := 2000) (L := L) (a := 1 + k) (b := 0) ho' hMJ (by omega) (by omega) (by omega) (by omega)
        have hK : ∀ c i, c ≠ 89 → (c < 95 ∨ 101 < c) → K c i = J c i := fun c i h1 h2 => by rw [k4 c i h2, u2_c h1]
        have hK2 : ∀ c i, (c < 3 ∨ 13 < c) → c ≠ 35 → c ≠ 39 → c ≠ 89 → (c < 95 ∨ (101 < c ∧ c < 114) ∨ 121 < c) → K c i = I c i := fun c i h1 h2 h3 h4 h5 => by rw [hK c i h4 (by omega), hJ c i h1 h2 h3 (by omega)]
        have hMI : ∀ s, s ≠ 0 → MSm s I K := fun s hs => MSm_t (I' := J) (MSm_of (fun c hc i => hJ c i (by omega) (by omega) (by omega) (by omega))) (MSm_t (MSm_of (fun c hc i => u2_c (by omega))) (k3 s hs))
        have hK9 : ∀ i, i ≠ 0 → K 89 i = I 89 i := fun i hi => by rw [k4 89 i (by omega), u2_o hi, hJ 89 i (by omega) (by omega) (by omega) (by omega)]
        refine ⟨0, kp1, nh, some 3, tl1, rl1, J, L, K, L, hrun, (t_357 Ls xs 997 kp1 tl1 rl1 nh (some 3) 2000 (nI k) J L (0, K, L) ?_), H', W', A', ⟨?_, ?_, ho', ?_, k2, fun j hj => ?_, fun j hj => ?_⟩, ?_, ?_⟩
        · rw [hm J, if_pos (by rw [hJ 102 k (by omega) (by omega) (by omega) (by omega), i2]; decide), k1, q_bs]
        · obtain ⟨t, t1, t2, t3, t4⟩ := hT
          exact ⟨t, t1, by rw [hK2 1 1 (by omega) (by omega) (by omega) (by omega) (by omega)]; exact t2, by rw [hK9 6 (by omega)]; exact t3, fun i hi => by rw [hK2 2 i (by omega) (by omega) (by omega) (by omega) (by omega), hK2 94 i (by omega) (by omega) (by omega) (by omega) (by omega)]; exact t4 i hi⟩
        · exact ⟨by rw [hK2 14 1 (by omega) (by omega) (by omega) (by omega) (by omega), hK9 14 (by omega)]; exact hF.1, by rw [hK2 14 2 (by omega) (by omega) (by omega) (by omega) (by omega), hK9 15 (by omega)]; exact hF.2⟩
        · exact CH_fr hC3 (fun c hc i => by rw [hK c i (by omega) (by omega), hJF c i (by omega), f4 c i (by omega) (by omega)])
        · exact VIm_fs hj (hIm j hj) (fun c hc i => by rw [hK2 c i (by omega) (by omega) (by omega) (by omega) (by omega)]) (by rw [hK2 102 j (by omega) (by omega) (by omega) (by omega) (by omega)]) (hMI (j + 1) (by omega))
        · exact VRw_fr (hRw j hj) (fun c hc i => by rw [hK2 c i (by omega) (by omega) (by omega) (by omega) (by omega)]) (fun _ _ _ => rfl)
        · intro _
          refine ⟨rfl, hRf H' _ ?_ (fun i hi => ?_)⟩
          · rw [rgI_i (by omega), hK 35 7 (by omega) (by omega), hJF 35 7 (by omega)]; exact f2
          · rw [rgI_i (by omega), hK 39 i (by omega) (by omega), hJF 39 i (by omega)]; exact f3 i hi
        · exact hWd K (fun c hc i => hK c i (by omega) (by omega))
      rcases hkk with ⟨rfl, rfl, rfl⟩ | ⟨rfl, rfl, rfl⟩
      · refine fin F none [] [] (fun _ _ _ => rfl) ?_ (fun K _ => Or.inl ⟨rfl, rfl, rfl⟩)
        refine (t_173 Ls xs 997 nh rh 2000 (nI k) I L (0, some 3, F, L) ?_)
        rw [hc1, if_pos hkc]
        unfold f_186
        rw [f1, q_bs, q_bs]
      · obtain ⟨G, g1, g2, g3, g4, g5, g6⟩ := e31 (n := 2000) (L := L) (I := F) (by omega)
        refine fin G (some 114) TK (RK (some 3)) (fun c i hc => g6 c i (by omega) (by omega) (by omega)) ?_ (fun K hK => Or.inr ⟨rfl, rfl, rfl, hKf H' _ _ ?_ ?_ (fun i hi => ?_) (fun i hi => ?_)⟩)
        · refine (t_173_1 Ls xs 997 nh rh 2000 (nI k) I L (0, some 3, G, L) ?_)
          rw [hc2, if_pos hkc]
          unfold f_186_1
          rw [f1, q_bs]
          dsimp only
          rw [g1, q_bs, q_bs]
        · rw [rgI_i (by omega), hK 114 (by omega)]; exact g2
        · rw [rgI_i (by omega), hK 114 (by omega)]; exact g3
        · rw [rgI_i (by omega), hK 120 (by omega)]; exact g4 i hi
        · rw [rgI_i (by omega), hK 121 (by omega)]; exact g5 i hi
end IMG2
