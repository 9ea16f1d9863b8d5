/-! LAYER 3: begins, begun, window, leaves: the class. Printed by wip/whole/gen60.py -/
section SEEN2
variable {I : FI} {L : FL} {H : HD} {W : Nat → Nat} {A : AD} {n q : Nat} {rr tt aa : Nat → Nat}
/-- a place of the round fits -/
def ftB (H : HD) (A : AD) (q : Nat) (rr tt aa : Nat → Nat) (p : Nat) : Bool := decide (p < H.1 7) && agB H (gT H A p) q rr tt aa
/-- bits of the places that fit, of those below k -/
def bts (f : Nat → Bool) : Nat → Nat
  | 0 => 0
  | k + 1 => if f k = true then bts f k ||| 2 ^ k else bts f k
theorem bts_tb (f : Nat → Bool) (p : Nat) : ∀ k, (bts f k).testBit p = (decide (p < k) && f p)
  | 0 => by unfold bts; simp
  | k + 1 => by
    have ih := bts_tb f p k
    unfold bts
    by_cases h : f k = true
    · rw [if_pos h, tb_or, tb_pw, ih]
      by_cases e : k = p
      · subst e; rw [h]; simp
      · have : (p < k + 1) = (p < k) := propext ⟨fun q => by omega, fun q => by omega⟩
        simp [e, this]
    · rw [if_neg h, ih]
      by_cases e : k = p
      · subst e
        rw [show f k = false by simpa using h]; simp
      · have : (p < k + 1) = (p < k) := propext ⟨fun q => by omega, fun q => by omega⟩
        simp [this]
theorem bts_lt (f : Nat → Bool) : ∀ k, k ≤ 12 → bts f k < 4096
  | 0, _ => by unfold bts; omega
  | k + 1, h => by
    have := bts_lt f k (by omega)
    unfold bts
    split
    · exact Nat.or_lt_two_pow (n := 12) this (pw12 k (by omega))
    · exact this
theorem bts_st (f : Nat → Bool) {m : Nat} (h : ∀ p, m ≤ p → f p = false) : ∀ k, bts f (m + k) = bts f m
  | 0 => rfl
  | k + 1 => by
    show (if f (m + k) = true then _ else _) = _
    rw [h (m + k) (by omega), if_neg (by decide)]
    exact bts_st f h k
/-- how many places below k -/
def cnt (f : Nat → Bool) : Nat → Nat
  | 0 => 0
  | k + 1 => if f k = true then cnt f k + 1 else cnt f k
theorem cnt_le (f : Nat → Bool) : ∀ k, cnt f k ≤ k
  | 0 => Nat.le_refl _
  | k + 1 => by
    have := cnt_le f k
    unfold cnt
    split <;> omega
theorem cnt_st (f : Nat → Bool) {m : Nat} (h : ∀ p, m ≤ p → f p = false) : ∀ k, cnt f (m + k) = cnt f m
  | 0 => rfl
  | k + 1 => by
    show (if f (m + k) = true then _ else _) = _
    rw [h (m + k) (by omega), if_neg (by decide)]
    exact cnt_st f h k
theorem cnt_cg {f g : Nat → Bool} : ∀ {k : Nat}, (∀ p, p < k → f p = g p) → cnt f k = cnt g k
  | 0, _ => rfl
  | k + 1, h => by unfold cnt; rw [cnt_cg (k := k) (fun p hp => h p (by omega)), h k (by omega)]
theorem cnt_pck (s : Nat) : ∀ k, pck s k = cnt (fun p => s.testBit p) k
  | 0 => rfl
  | k + 1 => by unfold pck cnt; rw [cnt_pck s k]
theorem cnt_pos {f : Nat → Bool} : ∀ {k : Nat}, 0 < cnt f k → ∃ p, p < k ∧ f p = true
  | 0, h => absurd h (by unfold cnt; omega)
  | k + 1, h => by
    by_cases hk : f k = true
    · exact ⟨k, by omega, hk⟩
    · unfold cnt at h
      rw [if_neg hk] at h
      obtain ⟨p, hp, e⟩ := cnt_pos h
      exact ⟨p, by omega, e⟩
/-- of those that fit, at how many a flame has an age -/
def alF (H : HD) (A : AD) (q : Nat) (rr tt aa : Nat → Nat) (t r a p : Nat) : Bool := ftB H A q rr tt aa p && (na H (gT H A p) t r == a)
def alk (H : HD) (A : AD) (q : Nat) (rr tt aa : Nat → Nat) (t r a : Nat) : Nat := cnt (alF H A q rr tt aa t r a) 12
/-- the largest class -/
def lcc (H : HD) (A : AD) (q : Nat) (rr tt aa : Nat → Nat) (t r : Nat) : Nat → Nat
  | 0 => 0
  | p + 1 => if ftB H A q rr tt aa p = true then (if lcc H A q rr tt aa t r p < alk H A q rr tt aa t r (na H (gT H A p) t r) then alk H A q rr tt aa t r (na H (gT H A p) t r) else lcc H A q rr tt aa t r p) else lcc H A q rr tt aa t r p
theorem lcc_le (t r : Nat) : ∀ p, lcc H A q rr tt aa t r p ≤ 12
  | 0 => by unfold lcc; omega
  | p + 1 => by
    have := lcc_le t r p
    have := cnt_le (alF H A q rr tt aa t r (na H (gT H A p) t r)) 12
    unfold lcc
    split
    · split
      · exact this
      · assumption
    · assumption
/-- the best window: (100 times a room and the minute, and 1; what it leaves) -/
def cdi (H : HD) (A : AD) (q : Nat) (rr tt aa : Nat → Nat) (r : Nat) (s : Nat × Nat) : Nat → Nat × Nat
  | 0 => s
  | k + 1 => if lcc H A q rr tt aa k r 12 < (cdi H A q rr tt aa r s k).2 then (100 * r + k + 1, lcc H A q rr tt aa k r 12) else cdi H A q rr tt aa r s k
def cdo (H : HD) (A : AD) (q : Nat) (rr tt aa : Nat → Nat) : Nat → Nat × Nat
  | 0 => (0, cnt (ftB H A q rr tt aa) 12)
  | k + 1 => cdi H A q rr tt aa k (cdo H A q rr tt aa k) (H.1 3)
theorem cdi_le (r : Nat) {s : Nat × Nat} (h : s.2 ≤ 12) : ∀ k, (cdi H A q rr tt aa r s k).2 ≤ 12
  | 0 => h
  | k + 1 => by
    have := cdi_le r h k
    have := lcc_le (H := H) (A := A) (q := q) (rr := rr) (tt := tt) (aa := aa) k r 12
    unfold cdi
    split <;> assumption
theorem cdo_le : ∀ k, (cdo H A q rr tt aa k).2 ≤ 12
  | 0 => cnt_le ..
  | k + 1 => cdi_le k (cdo_le k) _
theorem ftB_no (p : Nat) (h : H.1 7 ≤ p) : ftB H A q rr tt aa p = false := by
  unfold ftB
  rw [show decide (p < H.1 7) = false by simpa using h]; rfl
theorem pc4096 : ∀ a, a < 64 → ∀ b, b < 64 → f_360 (nI (64 * a + b)) (fun _ _ => 0) (fun _ _ => 0) = some (nI (pck (64 * a + b) 12)) := by decide +kernel
theorem e360b {s : Nat} (hs : s < 4096) : f_360 (nI s) I L = some (nI (pck s 12)) := by
  have := pc4096 (s / 64) (by omega) (s % 64) (by omega)
  rw [show 64 * (s / 64) + s % 64 = s by omega] at this
  exact this
theorem ntC (ho : HOK H W A) (hC : CH I 3 11 H W A) {p : Nat} (hp : p < H.1 7) (hn : 1000 ≤ n) : ∃ Jp J, f_53 n 31 I L = some (Jp, L) ∧ f_55 n (u2 Jp 26 7 (nI p)) L = some (J, L) ∧ NDn J H (gT H A p) ∧ FrC I J := by
  obtain ⟨J, j1, j2, j3⟩ := prep31 (n := n) (L := L) ho hC hn
  have hr : NRd (u2 J 26 7 (nI p)) H (gT H A p) := NRd_u j2 (fun a i _ _ h => by
    by_cases e : a = 26
    · subst e
      rcases h with h | h
      · exact absurd rfl h
      · exact u2_o h.2.1
    · exact u2_c e) ((u2_o (by decide)).trans j2.2.2.1) u2_s ((u2_o (by decide)).trans j2.2.2.2.2.1)
  have hC1 : CH (u2 J 26 7 (nI p)) 3 11 H W A := CH_u hC (fun a i h => by rw [u2_c (by omega), j3 a i (by omega) (by omega) (by omega)])
  obtain ⟨K, k1, k2, k3⟩ := e55 (n := n) (L := L) ho hC1 (gT_ok ho hp) hr hn
  exact ⟨J, K, j1, k1, k2, fun a i h => by rw [k3 a i (by omega), u2_c (by omega), j3 a i (by omega) (by omega) (by omega)]⟩
theorem nar99 : ∀ a, a < 100 → (nI a).toInt8.toInt32 = nI a := by decide +kernel
theorem e10 (ho : HOK H W A) {g : NG} (hg : GOK H g) (hN : NDn I H g) {p F : Nat} (hp : p < 12) (h1 : I 33 1 = nI F) (h5 : I 33 5 = nI (H.1 3)) (hn : 1000 ≤ n) : ∃ K, f_10 n (nI p) I L = some (K, L) ∧ K 33 1 = nI (F ||| 2 ^ p) ∧ (∀ t r, t < H.1 3 → r < H.1 4 → K 34 (120 * p + 4 * t + r) = nI (na H g t r)) ∧ (∀ i, i < 120 * p → K 34 i = I 34 i) ∧ (∀ c i, c ≠ 33 → c ≠ 34 → K c i = I c i) ∧ ∀ i, i ≠ 1 → K 33 i = I 33 i := by
  have o3 : H.1 3 ≤ 30 := ho.1.2.2.2.1
  have o4 : H.1 4 ≤ 4 := ho.1.2.2.2.2.1
  obtain ⟨K, ⟨k1, k2, k3, k4⟩, e⟩ := lpE (fun m k (s : FI) => c_10_0 n m (nI p) (nI k) s L) (4 * H.1 3) (fun k s => (∀ j, j < k → s 34 (120 * p + j) = (I 31 j).toInt8.toInt32) ∧ (∀ i, i < 120 * p → s 34 i = I 34 i) ∧ (∀ c i, c ≠ 33 → c ≠ 34 → s c i = I c i) ∧ ∀ i, s 33 i = u2 I 33 1 (nI (F ||| 2 ^ p)) 33 i) (fun s => some (s, L)) (fun m s hs => by
      show b_10_0 n (c_10_0 n m) (nI p) (nI (4 * H.1 3)) s L = _
      unfold b_10_0
      rw [hs.2.2.2 5, u2_o (by decide), h5, ku_4, pk_mul, if_pos (nI_le (by omega) (by omega))]) (fun m k s hk hs => by
      obtain ⟨s1, s2, s3, s4⟩ := hs
      refine ⟨u2 s 34 (120 * p + k) (I 31 k).toInt8.toInt32, ⟨fun j hj => ?_, fun i hi => ?_, fun c i h1 h2 => ?_, fun i => ?_⟩, ?_⟩
      · by_cases e : j = k
        · subst e; exact u2_s
        · rw [u2_o (by omega)]; exact s1 j (by omega)
      · rw [u2_o (by omega)]; exact s2 i hi
      · rw [u2_c h2]; exact s3 c i h1 h2
      · rw [u2_c (by decide)]; exact s4 i
      · show b_10_0 n (c_10_0 n m) (nI p) (nI k) s L = _
        unfold b_10_0
        rw [s4 5, u2_o (by decide), h5, ku_4, pk_mul, if_neg (nI_ge (by omega) (by omega)), ku_if (by omega) (by omega), ku_120, pk_mul, nI_add, ku_if (by omega) (by omega), nI_clamp (by omega), nI_clamp (by omega), s3 31 k (by decide) (by decide), pk_vb, nI_1, show p * 120 + k = 120 * p + k by omega]) n 0 (u2 I 33 1 (nI (F ||| 2 ^ p))) (by omega) (by omega) ⟨fun j hj => absurd hj (by omega), fun i _ => u2_c (by decide), fun c i h1 _ => u2_c h1, fun i => rfl⟩
  refine ⟨K, ?_, by rw [k4 1]; exact u2_s, fun t r ht hr => ?_, k2, k3, fun i hi => by rw [k4 i]; exact u2_o hi⟩
  · unfold f_10
    rw [h1, ku_or (by omega), show (0 : Int32) = nI 0 from rfl, e]
  · have hl := na_l hg hr t
    rw [show 120 * p + 4 * t + r = 120 * p + (4 * t + r) by omega, k1 (4 * t + r) (by omega), (hN.2.1 t ht).2.2 r hr, nar99 _ (by omega)]
/-- the class's clues of the first k places -/
def CSk (I : FI) (H : HD) (A : AD) (q : Nat) (rr tt aa : Nat → Nat) (k : Nat) (s : FI) : Prop := s 33 1 = nI (bts (ftB H A q rr tt aa) k) ∧ s 33 4 = nI (H.1 4) ∧ s 33 5 = nI (H.1 3) ∧ (∀ p, p < k → ftB H A q rr tt aa p = true → ∀ t r, t < H.1 3 → r < H.1 4 → s 34 (120 * p + 4 * t + r) = nI (na H (gT H A p) t r)) ∧ ∀ c i, (c < 26 ∨ 34 < c) → s c i = I c i
theorem CS_N {k : Nat} {s M : FI} (h : CSk I H A q rr tt aa k s) (hf : FrC s M) : CSk I H A q rr tt aa k M := by
  obtain ⟨h1, h2, h3, h4, h5⟩ := h
  exact ⟨by rw [hf 33 1 (by omega)]; exact h1, by rw [hf 33 4 (by omega)]; exact h2, by rw [hf 33 5 (by omega)]; exact h3, fun p hp e t r ht hr => by rw [hf 34 _ (by omega)]; exact h4 p hp e t r ht hr, fun c i hc => by rw [hf c i (by omega)]; exact h5 c i hc⟩
theorem CS_n {k : Nat} {s : FI} (h : CSk I H A q rr tt aa k s) (hk : ftB H A q rr tt aa k = false) : CSk I H A q rr tt aa (k + 1) s := by
  obtain ⟨h1, h2, h3, h4, h5⟩ := h
  refine ⟨?_, h2, h3, fun p hp e => ?_, h5⟩
  · rw [h1]
    show _ = nI (if ftB H A q rr tt aa k = true then _ else _)
    rw [hk, if_neg (by decide)]
  · rcases (show p < k ∨ p = k by omega) with h6 | rfl
    · exact h4 p h6 e
    · rw [hk] at e; exact absurd e (by decide)
theorem CS_y (ho : HOK H W A) {k : Nat} {s : FI} (h : CSk I H A q rr tt aa k s) (hk : ftB H A q rr tt aa k = true) (h12 : k < 12) (hk7 : k < H.1 7) (hN : NDn s H (gT H A k)) (hn : 1000 ≤ n) : ∃ K, f_10 n (nI k) s L = some (K, L) ∧ CSk I H A q rr tt aa (k + 1) K := by
  have o3 : H.1 3 ≤ 30 := ho.1.2.2.2.1
  have o4 : H.1 4 ≤ 4 := ho.1.2.2.2.2.1
  obtain ⟨h1, h2, h3, h4, h5⟩ := h
  obtain ⟨K, k1, k2, k3, k4, k5, k6⟩ := e10 (n := n) (L := L) ho (gT_ok ho hk7) hN h12 h1 h3 hn
  refine ⟨K, k1, ?_, by rw [k6 4 (by decide)]; exact h2, by rw [k6 5 (by decide)]; exact h3, fun p hp e t r ht hr => ?_, fun c i hc => by rw [k5 c i (by omega) (by omega)]; exact h5 c i hc⟩
  · rw [k2]
    show _ = nI (if ftB H A q rr tt aa k = true then _ else _)
    rw [if_pos hk]
  · rcases (show p < k ∨ p = k by omega) with h6 | rfl
    · rw [k4 _ (by omega)]; exact h4 p h6 e t r ht hr
    · exact k3 t r ht hr
/-- the choice -/
theorem c14 (ho : HOK H W A) {I0 : FI} (hS : CSk I0 H A q rr tt aa 12 I) {t r a : Nat} (ht : t < H.1 3) (hr : r < H.1 4) (ha : a ≤ 99) (hn : 1000 ≤ n) : f_14 n (nI (4 * t + r)) (nI a) I L = some (nI (alk H A q rr tt aa t r a)) := by
  have o3 : H.1 3 ≤ 30 := ho.1.2.2.2.1
  have o4 : H.1 4 ≤ 4 := ho.1.2.2.2.2.1
  obtain ⟨h1, h2, h3, h4, h5⟩ := hS
  have hF := bts_lt (ftB H A q rr tt aa) 12 (by omega)
  obtain ⟨s', hs, e⟩ := lpE (fun m k (b : Nat) => c_14_0 n I L m (nI (4 * t + r)) (nI a) (nI b) (nI k)) 12 (fun k b => b = cnt (alF H A q rr tt aa t r a) k) (fun b => some (nI b)) (fun m s hs => by
      show b_14_0 n I L (c_14_0 n I L m) (nI (4 * t + r)) (nI a) (nI s) (nI 12) = _
      unfold b_14_0
      rw [if_pos (by decide)]) (fun m k s hk hs => by
      refine ⟨cnt (alF H A q rr tt aa t r a) (k + 1), rfl, ?_⟩
      show b_14_0 n I L (c_14_0 n I L m) (nI (4 * t + r)) (nI a) (nI s) (nI k) = c_14_0 n I L m (nI (4 * t + r)) (nI a) (nI (if alF H A q rr tt aa t r a k = true then cnt (alF H A q rr tt aa t r a) k + 1 else cnt (alF H A q rr tt aa t r a) k)) (nI (k + 1))
      unfold b_14_0 c_14_1
      rw [if_neg (show ¬ (12 : Int32) ≤ nI k from nI_ge (b := 12) hk (by omega)), h1, ku_bit2 (by omega) (by omega), q_b1, bts_tb, show decide (k < 12) = true from decide_eq_true hk, Bool.true_and, nI_1, hs]
      unfold alF
      by_cases hf : ftB H A q rr tt aa k = true
      · have hk7 : k < H.1 7 := by
          rcases Nat.lt_or_ge k (H.1 7) with h | h
          · exact h
          · rw [ftB_no k h] at hf; exact absurd hf (by decide)
        have hl := na_l (gT_ok ho hk7) hr t
        rw [if_pos hf, hf, Bool.true_and, ku_120, pk_mul, nI_add, ku_if (by omega) (by omega), nI_clamp (by omega), show k * 120 + (4 * t + r) = 120 * k + 4 * t + r by omega]
        by_cases hv : na H (gT H A k) t r = a
        · rw [if_neg (by rw [h4 k hk hf t r ht hr, hv]; exact fun q => q rfl), if_pos (by simpa using hv), nI_1]
        · rw [if_pos (by rw [h4 k hk hf t r ht hr, nI_eq (by omega) (by omega)]; exact hv), if_neg (by simpa using hv)]
      · rw [if_neg hf, show ftB H A q rr tt aa k = false by simpa using hf, Bool.false_and, if_neg (by decide)]) n 0 0 (by omega) (by omega) rfl
  unfold f_14
  rw [show (0 : Int32) = nI 0 from rfl, e, hs]; rfl
theorem c13 (ho : HOK H W A) {I0 : FI} (hS : CSk I0 H A q rr tt aa 12 I) {t r : Nat} (ht : t < H.1 3) (hr : r < H.1 4) (hn : 1000 ≤ n) : f_13 n (nI (4 * t + r)) I L = some (nI (lcc H A q rr tt aa t r 12)) := by
  have o3 : H.1 3 ≤ 30 := ho.1.2.2.2.1
  have o4 : H.1 4 ≤ 4 := ho.1.2.2.2.2.1
  have hS0 := hS
  obtain ⟨h1, h2, h3, h4, h5⟩ := hS
  have hF := bts_lt (ftB H A q rr tt aa) 12 (by omega)
  obtain ⟨s', hs, e⟩ := lpE (fun m k (b : Nat) => c_13_0 n I L m (nI (4 * t + r)) (nI b) (nI k)) 12 (fun k b => b = lcc H A q rr tt aa t r k) (fun b => some (nI b)) (fun m s hs => by
      show b_13_0 n I L (c_13_0 n I L m) (nI (4 * t + r)) (nI s) (nI 12) = _
      unfold b_13_0
      rw [if_pos (by decide)]) (fun m k s hk hs => by
      refine ⟨lcc H A q rr tt aa t r (k + 1), rfl, ?_⟩
      show b_13_0 n I L (c_13_0 n I L m) (nI (4 * t + r)) (nI s) (nI k) = c_13_0 n I L m (nI (4 * t + r)) (nI (if ftB H A q rr tt aa k = true then (if lcc H A q rr tt aa t r k < alk H A q rr tt aa t r (na H (gT H A k) t r) then alk H A q rr tt aa t r (na H (gT H A k) t r) else lcc H A q rr tt aa t r k) else lcc H A q rr tt aa t r k)) (nI (k + 1))
      unfold b_13_0 c_13_1
      rw [if_neg (show ¬ (12 : Int32) ≤ nI k from nI_ge (b := 12) hk (by omega)), h1, ku_bit2 (by omega) (by omega), q_b1, bts_tb, show decide (k < 12) = true from decide_eq_true hk, Bool.true_and, nI_1, hs]
      by_cases hf : ftB H A q rr tt aa k = true
      · have hk7 : k < H.1 7 := by
          rcases Nat.lt_or_ge k (H.1 7) with h | h
          · exact h
          · rw [ftB_no k h] at hf; exact absurd hf (by decide)
        have hl := na_l (gT_ok ho hk7) hr t
        have l1 := lcc_le (H := H) (A := A) (q := q) (rr := rr) (tt := tt) (aa := aa) t r k
        have l2 := cnt_le (alF H A q rr tt aa t r (na H (gT H A k) t r)) 12
        rw [if_pos hf, if_pos hf, ku_120, pk_mul, nI_add, ku_if (by omega) (by omega), nI_clamp (by omega), show k * 120 + (4 * t + r) = 120 * k + 4 * t + r by omega, h4 k hk hf t r ht hr, c14 ho hS0 ht hr hl hn, q_bs]
        unfold f_358_1
        by_cases hv : lcc H A q rr tt aa t r k < alk H A q rr tt aa t r (na H (gT H A k) t r)
        · rw [if_pos hv, if_pos (nI_lt hv (by unfold alk; omega)), q_bs]
        · rw [if_neg hv, if_neg (nI_nlt (by omega) (by omega)), q_bs]
      · rw [if_neg hf, if_neg hf]) n 0 0 (by omega) (by omega) rfl
  unfold f_13
  rw [show (0 : Int32) = nI 0 from rfl, e, hs]
theorem CS_u {I0 : FI} {k : Nat} {s : FI} (h : CSk I0 H A q rr tt aa k s) {s' : FI} (e33 : ∀ i, i ≠ 2 → i ≠ 3 → s' 33 i = s 33 i) (e : ∀ c i, c ≠ 33 → s' c i = s c i) : CSk I0 H A q rr tt aa k s' := by
  obtain ⟨h1, h2, h3, h4, h5⟩ := h
  exact ⟨by rw [e33 1 (by decide) (by decide)]; exact h1, by rw [e33 4 (by decide) (by decide)]; exact h2, by rw [e33 5 (by decide) (by decide)]; exact h3, fun p hp f t r ht hr => by rw [e 34 _ (by decide)]; exact h4 p hp f t r ht hr, fun c i hc => by rw [e c i (by omega)]; exact h5 c i hc⟩
theorem c12 (ho : HOK H W A) {I0 : FI} (hS : CSk I0 H A q rr tt aa 12 I) (hn : 1000 ≤ n) : ∃ K, f_12 n I L = some (K, L) ∧ CSk I0 H A q rr tt aa 12 K ∧ K 33 2 = oI (cdo H A q rr tt aa (H.1 4)).1 ∧ K 33 3 = nI (cdo H A q rr tt aa (H.1 4)).2 := by
  have o3 : H.1 3 ≤ 30 := ho.1.2.2.2.1
  have o4 : H.1 4 ≤ 4 := ho.1.2.2.2.2.1
  have hF := bts_lt (ftB H A q rr tt aa) 12 (by omega)
  have hpc : pck (bts (ftB H A q rr tt aa) 12) 12 = cnt (ftB H A q rr tt aa) 12 := by
    rw [cnt_pck]
    exact cnt_cg (fun p hp => by rw [bts_tb, show decide (p < 12) = true from decide_eq_true hp, Bool.true_and])
  have hS1 : CSk I0 H A q rr tt aa 12 (u2 (u2 I 33 3 (nI (cnt (ftB H A q rr tt aa) 12))) 33 2 (oI 0)) := CS_u hS (fun i h2 h3 => by rw [u2_o h2, u2_o h3]) (fun c i hc => by rw [u2_c hc, u2_c hc])
  obtain ⟨K, ⟨k1, k2, k3⟩, e⟩ := lpE (fun m k (s : FI) => c_12_0 n m (nI k) s L) (H.1 4) (fun k s => CSk I0 H A q rr tt aa 12 s ∧ s 33 2 = oI (cdo H A q rr tt aa k).1 ∧ s 33 3 = nI (cdo H A q rr tt aa k).2) (fun s => some (s, L)) (fun m s hs => by
      show b_12_0 n (c_12_0 n m) (nI (H.1 4)) s L = _
      unfold b_12_0
      rw [hs.1.2.1, if_pos (nI_le (Nat.le_refl _) (by omega))]) (fun m r s hr hs => by
      have hso := cdo_le (H := H) (A := A) (q := q) (rr := rr) (tt := tt) (aa := aa) r
      obtain ⟨K, hK, e2⟩ := lpE (fun m' k (s : FI) => c_12_1 n (c_12_0 n m) m' (nI r) (nI k) s L) (H.1 3) (fun k s => CSk I0 H A q rr tt aa 12 s ∧ s 33 2 = oI (cdi H A q rr tt aa r (cdo H A q rr tt aa r) k).1 ∧ s 33 3 = nI (cdi H A q rr tt aa r (cdo H A q rr tt aa r) k).2) (fun s => c_12_0 n m (nI (r + 1)) s L) (fun m' s hs => by
          show b_12_1 n (c_12_0 n m) (c_12_1 n (c_12_0 n m) m') (nI r) (nI (H.1 3)) s L = _
          unfold b_12_1
          rw [hs.1.2.2.1, if_pos (nI_le (Nat.le_refl _) (by omega)), nI_1]) (fun m' k s hk hs => by
          obtain ⟨s1, s2, s3⟩ := hs
          have hsi := cdi_le (H := H) (A := A) (q := q) (rr := rr) (tt := tt) (aa := aa) r hso k
          have l1 := lcc_le (H := H) (A := A) (q := q) (rr := rr) (tt := tt) (aa := aa) k r 12
          have ek : cdi H A q rr tt aa r (cdo H A q rr tt aa r) (k + 1) = if lcc H A q rr tt aa k r 12 < (cdi H A q rr tt aa r (cdo H A q rr tt aa r) k).2 then (100 * r + k + 1, lcc H A q rr tt aa k r 12) else cdi H A q rr tt aa r (cdo H A q rr tt aa r) k := rfl
          have e0 : b_12_1 n (c_12_0 n m) (c_12_1 n (c_12_0 n m) m') (nI r) (nI k) s L = if lcc H A q rr tt aa k r 12 < (cdi H A q rr tt aa r (cdo H A q rr tt aa r) k).2 then c_12_1 n (c_12_0 n m) m' (nI r) (nI (k + 1)) (u2 (u2 s 33 3 (nI (lcc H A q rr tt aa k r 12))) 33 2 (nI (100 * r + k))) L else c_12_1 n (c_12_0 n m) m' (nI r) (nI (k + 1)) s L := by
            unfold b_12_1 c_12_2
            rw [s1.2.2.1, if_neg (nI_ge hk (by omega)), ku_4, pk_mul, nI_add, show k * 4 + r = 4 * k + r by omega, c13 ho s1 hk hr hn, q_bs, s3, nI_1, ku_100, pk_mul, nI_add]
            by_cases h : lcc H A q rr tt aa k r 12 < (cdi H A q rr tt aa r (cdo H A q rr tt aa r) k).2
            · rw [if_pos h, if_neg (nI_ge h (by omega))]
            · rw [if_neg h, if_pos (nI_le (by omega) (by omega))]
          by_cases h : lcc H A q rr tt aa k r 12 < (cdi H A q rr tt aa r (cdo H A q rr tt aa r) k).2
          · refine ⟨_, ⟨CS_u s1 (s' := u2 (u2 s 33 3 (nI (lcc H A q rr tt aa k r 12))) 33 2 (nI (100 * r + k))) (fun i h2 h3 => by rw [u2_o h2, u2_o h3]) (fun c i hc => by rw [u2_c hc, u2_c hc]), ?_, ?_⟩, e0.trans (if_pos h)⟩
            · rw [u2_s, ek, if_pos h, oI_s]
            · rw [u2_o (by decide), u2_s, ek, if_pos h]
          · exact ⟨s, ⟨s1, by rw [s2, ek, if_neg h], by rw [s3, ek, if_neg h]⟩, e0.trans (if_neg h)⟩) n 0 s (by omega) (by omega) hs
      refine ⟨K, hK, ?_⟩
      show b_12_0 n (c_12_0 n m) (nI r) s L = _
      unfold b_12_0
      rw [hs.1.2.1, if_neg (nI_ge hr (by omega))]
      exact e2) n 0 _ (by omega) (by omega) ⟨hS1, u2_s, by rw [u2_o (by decide), u2_s]; rfl⟩
  refine ⟨K, ?_, k1, k2, k3⟩
  unfold f_12
  rw [hS.1, e360b hF, q_bs, hpc, ku_m]
  exact e
theorem g14 (n : Nat) (I : FI) (L : FL) : ∀ m, c_14_1_0 n I L m = c_14_0 n I L m
  | 0 => rfl
  | m + 1 => by funext a b c d; show b_14_1_0 n I L (c_14_1_0 n I L m) a b c d = b_14_0 n I L (c_14_0 n I L m) a b c d; rw [g14 n I L m]; rfl
theorem f14_1 : f_14_1 = f_14 := by funext n x y I L; unfold f_14_1 f_14; rw [g14]
theorem g13 (n : Nat) (I : FI) (L : FL) : ∀ m, c_13_1_0 n I L m = c_13_0 n I L m
  | 0 => rfl
  | m + 1 => by funext a b c; show b_13_1_0 n I L (c_13_1_0 n I L m) a b c = b_13_0 n I L (c_13_0 n I L m) a b c; rw [g13 n I L m]; unfold b_13_1_0 b_13_0; rw [f14_1]; rfl
theorem f13_1 : f_13_1 = f_13 := by funext n x I L; unfold f_13_1 f_13; rw [g13]
theorem g12_1 (n : Nat) (K0 : Int32 → FI → FL → Option (FI × FL)) : ∀ m, c_12_1_1 n K0 m = c_12_1 n K0 m
  | 0 => rfl
  | m + 1 => by funext a b I L; show b_12_1_1 n K0 (c_12_1_1 n K0 m) a b I L = b_12_1 n K0 (c_12_1 n K0 m) a b I L; rw [g12_1 n K0 m]; unfold b_12_1_1 b_12_1; rw [f13_1]; rfl
theorem g12_0 (n : Nat) : ∀ m, c_12_1_0 n m = c_12_0 n m
  | 0 => rfl
  | m + 1 => by funext a I L; show b_12_1_0 n (c_12_1_0 n m) a I L = b_12_0 n (c_12_0 n m) a I L; rw [g12_0 n m]; unfold b_12_1_0 b_12_0; rw [g12_1]
theorem f12_1 (n : Nat) (I : FI) (L : FL) : f_12_1 n I L = f_12 n I L := by unfold f_12_1 f_12; rw [g12_0]; rfl
theorem l199_0 (ho : HOK H W A) (hC : CH I 3 11 H W A) (nh : Option Nat) (h81 : I 81 2 = nI (3 * q)) (hD : RwD L 82 0 q rr tt aa) (hB : RwB H q rr tt aa) (hn : 1000 ≤ n) : ∃ K nh', f_199 n nh (nI 0) I L = some (nh', K, L) ∧ CSk I H A q rr tt aa 12 K ∧ K 33 2 = oI (cdo H A q rr tt aa (H.1 4)).1 ∧ K 33 3 = nI (cdo H A q rr tt aa (H.1 4)).2 := by
  have o7 : H.1 7 ≤ 12 := ho.1.2.2.2.2.2.2.2.1
  have hS0 : CSk I H A q rr tt aa 0 (u2 (u2 (u2 I 33 4 (I 3 4)) 33 5 (I 3 3)) 33 1 0) := ⟨u2_s, by rw [u2_o (by decide), u2_o (by decide), u2_s]; exact chs hC (by decide), by rw [u2_o (by decide), u2_s]; exact chs hC (by decide), fun p hp => absurd hp (by omega), fun c i hc => by rw [u2_c (by omega), u2_c (by omega), u2_c (by omega)]⟩
  have hCs : ∀ {k : Nat} {s : FI}, CSk I H A q rr tt aa k s → CH s 3 11 H W A := fun h => CH_u hC (fun a i ha => h.2.2.2.2 a i (by omega))
  have hfin : ∀ {s : FI}, CSk I H A q rr tt aa (H.1 7) s → CSk I H A q rr tt aa 12 s := fun {s} h => by
    have hb := bts_st (ftB H A q rr tt aa) (m := H.1 7) (fun p hp => ftB_no p hp) (12 - H.1 7)
    rw [show H.1 7 + (12 - H.1 7) = 12 by omega] at hb
    refine ⟨by rw [hb]; exact h.1, h.2.1, h.2.2.1, fun p hp e => ?_, h.2.2.2.2⟩
    rcases Nat.lt_or_ge p (H.1 7) with h6 | h6
    · exact h.2.2.2.1 p h6 e
    · rw [ftB_no p h6] at e; exact absurd e (by decide)
  -- one place
  have hone : ∀ (k : Nat) (t : FI), k < H.1 7 → CSk I H A q rr tt aa k t → ∃ Mp M K, f_53 n 31 t L = some (Mp, L) ∧ f_55 n (u2 Mp 26 7 (nI k)) L = some (M, L) ∧ f_72 n M L = some (bI (agB H (gT H A k) q rr tt aa = true)) ∧ (agB H (gT H A k) q rr tt aa = true → f_10 n (nI k) M L = some (K, L)) ∧ (¬ agB H (gT H A k) q rr tt aa = true → K = M) ∧ CSk I H A q rr tt aa (k + 1) K := fun k t hk ht => by
    obtain ⟨Mp, M, q1, q2, q3, q4⟩ := ntC (n := n) (L := L) ho (hCs ht) hk hn
    have hSM := CS_N ht q4
    have e81 : M 81 2 = nI (3 * q) := by rw [hSM.2.2.2.2 81 2 (by omega)]; exact h81
    have h72 := (c72B (s := 0) ho q3 (gT_ok ho hk) (by omega) e81 hD hB hn).1 rfl
    by_cases h : agB H (gT H A k) q rr tt aa = true
    · have hf : ftB H A q rr tt aa k = true := by unfold ftB; rw [h, show decide (k < H.1 7) = true from decide_eq_true hk]; rfl
      obtain ⟨K, k1, k2⟩ := CS_y (n := n) (L := L) ho hSM hf (by omega) hk q3 hn
      exact ⟨Mp, M, K, q1, q2, h72, fun _ => k1, fun e => absurd h e, k2⟩
    · have hf : ftB H A q rr tt aa k = false := by unfold ftB; rw [show agB H (gT H A k) q rr tt aa = false by simpa using h, Bool.and_false]
      exact ⟨Mp, M, M, q1, q2, h72, fun e => absurd e h, fun _ => rfl, CS_n hSM hf⟩
  by_cases h7 : H.1 7 = 0
  · obtain ⟨K, k1, k2, k3, k4⟩ := c12 (n := n) (L := L) ho (hfin (s := u2 (u2 (u2 I 33 4 (I 3 4)) 33 5 (I 3 3)) 33 1 0) (by rw [h7]; exact hS0)) hn
    refine ⟨K, nh, ?_, k2, k3, k4⟩
    unfold f_199 f_9 c_199_0
    rw [q_bs]
    dsimp only
    rw [if_pos (by rw [chs (hCs hS0) (by decide), h7]; decide), k1, q_bs]
  · obtain ⟨Mp, M, K0, p1, p2, p3, p4, p5, p6⟩ := hone 0 _ (by omega) hS0
    obtain ⟨J, hJ, e⟩ := lpE (fun m k (t : FI) => c_199_1 n nh m (nI 0) (nI (k - 1)) t L) (H.1 7) (fun k t => 1 ≤ k ∧ CSk I H A q rr tt aa k t) (fun t => (f_12 n t L).bind fun q5 => some (some 3, q5.1, q5.2)) (fun m t ht => by
        show b_199_1 n nh (c_199_1 n nh m) (nI 0) (nI (H.1 7 - 1)) t L = _
        unfold b_199_1 c_199_2
        rw [nI_1, show H.1 7 - 1 + 1 = H.1 7 by omega, chs (hCs ht.2) (by decide), if_pos (nI_le (Nat.le_refl _) (by omega)), f12_1]) (fun m k t hk ht => by
        obtain ⟨k1, ht⟩ := ht
        obtain ⟨Np, N, K, q1, q2, q3, q4, q5, q6⟩ := hone k t hk ht
        refine ⟨K, ⟨by omega, q6⟩, ?_⟩
        show b_199_1 n nh (c_199_1 n nh m) (nI 0) (nI (k - 1)) t L = c_199_1 n nh m (nI 0) (nI (k + 1 - 1)) K L
        unfold b_199_1 c_199_2
        rw [nI_1, show k - 1 + 1 = k by omega, chs (hCs ht) (by decide), if_neg (nI_ge hk (by omega)), f53_1, q1, q_bs]
        dsimp only
        rw [q2, q_bs, if_pos (show nI 0 = 0 from rfl), q3, q_bs, q_b1, Nat.add_sub_cancel]
        by_cases h : agB H (gT H A k) q rr tt aa = true
        · rw [if_pos h, q4 h, q_bs]; rfl
        · rw [if_neg h, q5 h]; rfl) n 1 K0 (by omega) (by omega) ⟨by omega, p6⟩
    obtain ⟨K, k1, k2, k3, k4⟩ := c12 (n := n) (L := L) ho (hfin hJ.2) hn
    refine ⟨K, some 3, ?_, k2, k3, k4⟩
    unfold f_199 f_9 c_199_0
    rw [q_bs]
    dsimp only
    rw [if_neg (by rw [chs (hCs hS0) (by decide)]; exact nI_nle (by omega) (by omega)), p1, q_bs]
    dsimp only
    rw [show f_55 n (u2 Mp 26 7 0) L = some (M, L) from p2, q_bs, if_pos (show nI 0 = 0 from rfl), p3, q_bs, q_b1]
    have e2 : c_199_1 n nh n (nI 0) 0 K0 L = some (some 3, K, L) := by
      refine Eq.trans e ?_
      rw [k1, q_bs]
    by_cases h : agB H (gT H A 0) q rr tt aa = true
    · rw [if_pos h, show f_10 n 0 M L = some (K0, L) from p4 h, q_bs]; exact e2
    · rw [if_neg h, ← p5 h]; exact e2
theorem l199_1 (ho : HOK H W A) (hC : CH I 3 11 H W A) (nh : Option Nat) (h81 : I 83 2 = nI (3 * q)) (hD : RwD L 84 0 q rr tt aa) (hB : RwB H q rr tt aa) (hn : 1000 ≤ n) : ∃ K nh', f_199 n nh (nI 1) I L = some (nh', K, L) ∧ CSk I H A q rr tt aa 12 K ∧ K 33 2 = oI (cdo H A q rr tt aa (H.1 4)).1 ∧ K 33 3 = nI (cdo H A q rr tt aa (H.1 4)).2 := by
  have o7 : H.1 7 ≤ 12 := ho.1.2.2.2.2.2.2.2.1
  have hS0 : CSk I H A q rr tt aa 0 (u2 (u2 (u2 I 33 4 (I 3 4)) 33 5 (I 3 3)) 33 1 0) := ⟨u2_s, by rw [u2_o (by decide), u2_o (by decide), u2_s]; exact chs hC (by decide), by rw [u2_o (by decide), u2_s]; exact chs hC (by decide), fun p hp => absurd hp (by omega), fun c i hc => by rw [u2_c (by omega), u2_c (by omega), u2_c (by omega)]⟩
  have hCs : ∀ {k : Nat} {s : FI}, CSk I H A q rr tt aa k s → CH s 3 11 H W A := fun h => CH_u hC (fun a i ha => h.2.2.2.2 a i (by omega))
  have hfin : ∀ {s : FI}, CSk I H A q rr tt aa (H.1 7) s → CSk I H A q rr tt aa 12 s := fun {s} h => by
    have hb := bts_st (ftB H A q rr tt aa) (m := H.1 7) (fun p hp => ftB_no p hp) (12 - H.1 7)
    rw [show H.1 7 + (12 - H.1 7) = 12 by omega] at hb
    refine ⟨by rw [hb]; exact h.1, h.2.1, h.2.2.1, fun p hp e => ?_, h.2.2.2.2⟩
    rcases Nat.lt_or_ge p (H.1 7) with h6 | h6
    · exact h.2.2.2.1 p h6 e
    · rw [ftB_no p h6] at e; exact absurd e (by decide)
  -- one place
  have hone : ∀ (k : Nat) (t : FI), k < H.1 7 → CSk I H A q rr tt aa k t → ∃ Mp M K, f_53 n 31 t L = some (Mp, L) ∧ f_55 n (u2 Mp 26 7 (nI k)) L = some (M, L) ∧ f_72_1 n M L = some (bI (agB H (gT H A k) q rr tt aa = true)) ∧ (agB H (gT H A k) q rr tt aa = true → f_10 n (nI k) M L = some (K, L)) ∧ (¬ agB H (gT H A k) q rr tt aa = true → K = M) ∧ CSk I H A q rr tt aa (k + 1) K := fun k t hk ht => by
    obtain ⟨Mp, M, q1, q2, q3, q4⟩ := ntC (n := n) (L := L) ho (hCs ht) hk hn
    have hSM := CS_N ht q4
    have e81 : M 83 2 = nI (3 * q) := by rw [hSM.2.2.2.2 83 2 (by omega)]; exact h81
    have h72 := (c72B (s := 1) ho q3 (gT_ok ho hk) (by omega) e81 hD hB hn).2.1 rfl
    by_cases h : agB H (gT H A k) q rr tt aa = true
    · have hf : ftB H A q rr tt aa k = true := by unfold ftB; rw [h, show decide (k < H.1 7) = true from decide_eq_true hk]; rfl
      obtain ⟨K, k1, k2⟩ := CS_y (n := n) (L := L) ho hSM hf (by omega) hk q3 hn
      exact ⟨Mp, M, K, q1, q2, h72, fun _ => k1, fun e => absurd h e, k2⟩
    · have hf : ftB H A q rr tt aa k = false := by unfold ftB; rw [show agB H (gT H A k) q rr tt aa = false by simpa using h, Bool.and_false]
      exact ⟨Mp, M, M, q1, q2, h72, fun e => absurd e h, fun _ => rfl, CS_n hSM hf⟩
  by_cases h7 : H.1 7 = 0
  · obtain ⟨K, k1, k2, k3, k4⟩ := c12 (n := n) (L := L) ho (hfin (s := u2 (u2 (u2 I 33 4 (I 3 4)) 33 5 (I 3 3)) 33 1 0) (by rw [h7]; exact hS0)) hn
    refine ⟨K, nh, ?_, k2, k3, k4⟩
    unfold f_199 f_9 c_199_0
    rw [q_bs]
    dsimp only
    rw [if_pos (by rw [chs (hCs hS0) (by decide), h7]; decide), k1, q_bs]
  · obtain ⟨Mp, M, K0, p1, p2, p3, p4, p5, p6⟩ := hone 0 _ (by omega) hS0
    obtain ⟨J, hJ, e⟩ := lpE (fun m k (t : FI) => c_199_1 n nh m (nI 1) (nI (k - 1)) t L) (H.1 7) (fun k t => 1 ≤ k ∧ CSk I H A q rr tt aa k t) (fun t => (f_12 n t L).bind fun q5 => some (some 3, q5.1, q5.2)) (fun m t ht => by
        show b_199_1 n nh (c_199_1 n nh m) (nI 1) (nI (H.1 7 - 1)) t L = _
        unfold b_199_1 c_199_2
        rw [nI_1, show H.1 7 - 1 + 1 = H.1 7 by omega, chs (hCs ht.2) (by decide), if_pos (nI_le (Nat.le_refl _) (by omega)), f12_1]) (fun m k t hk ht => by
        obtain ⟨k1, ht⟩ := ht
        obtain ⟨Np, N, K, q1, q2, q3, q4, q5, q6⟩ := hone k t hk ht
        refine ⟨K, ⟨by omega, q6⟩, ?_⟩
        show b_199_1 n nh (c_199_1 n nh m) (nI 1) (nI (k - 1)) t L = c_199_1 n nh m (nI 1) (nI (k + 1 - 1)) K L
        unfold b_199_1 c_199_2
        rw [nI_1, show k - 1 + 1 = k by omega, chs (hCs ht) (by decide), if_neg (nI_ge hk (by omega)), f53_1, q1, q_bs]
        dsimp only
        rw [q2, q_bs, if_neg (show ¬ nI 1 = 0 by decide), if_pos (show nI 1 = 1 from rfl), q3, q_bs, q_b1, Nat.add_sub_cancel]
        by_cases h : agB H (gT H A k) q rr tt aa = true
        · rw [if_pos h, q4 h, q_bs]; rfl
        · rw [if_neg h, q5 h]; rfl) n 1 K0 (by omega) (by omega) ⟨by omega, p6⟩
    obtain ⟨K, k1, k2, k3, k4⟩ := c12 (n := n) (L := L) ho (hfin hJ.2) hn
    refine ⟨K, some 3, ?_, k2, k3, k4⟩
    unfold f_199 f_9 c_199_0
    rw [q_bs]
    dsimp only
    rw [if_neg (by rw [chs (hCs hS0) (by decide)]; exact nI_nle (by omega) (by omega)), p1, q_bs]
    dsimp only
    rw [show f_55 n (u2 Mp 26 7 0) L = some (M, L) from p2, q_bs, if_neg (show ¬ nI 1 = 0 by decide), if_pos (show nI 1 = 1 from rfl), p3, q_bs, q_b1]
    have e2 : c_199_1 n nh n (nI 1) 0 K0 L = some (some 3, K, L) := by
      refine Eq.trans e ?_
      rw [k1, q_bs]
    by_cases h : agB H (gT H A 0) q rr tt aa = true
    · rw [if_pos h, show f_10 n 0 M L = some (K0, L) from p4 h, q_bs]; exact e2
    · rw [if_neg h, ← p5 h]; exact e2
theorem l199_2 (ho : HOK H W A) (hC : CH I 3 11 H W A) (nh : Option Nat) (h81 : I 85 2 = nI (3 * q)) (hD : RwD L 86 0 q rr tt aa) (hB : RwB H q rr tt aa) (hn : 1000 ≤ n) : ∃ K nh', f_199 n nh (nI 2) I L = some (nh', K, L) ∧ CSk I H A q rr tt aa 12 K ∧ K 33 2 = oI (cdo H A q rr tt aa (H.1 4)).1 ∧ K 33 3 = nI (cdo H A q rr tt aa (H.1 4)).2 := by
  have o7 : H.1 7 ≤ 12 := ho.1.2.2.2.2.2.2.2.1
  have hS0 : CSk I H A q rr tt aa 0 (u2 (u2 (u2 I 33 4 (I 3 4)) 33 5 (I 3 3)) 33 1 0) := ⟨u2_s, by rw [u2_o (by decide), u2_o (by decide), u2_s]; exact chs hC (by decide), by rw [u2_o (by decide), u2_s]; exact chs hC (by decide), fun p hp => absurd hp (by omega), fun c i hc => by rw [u2_c (by omega), u2_c (by omega), u2_c (by omega)]⟩
  have hCs : ∀ {k : Nat} {s : FI}, CSk I H A q rr tt aa k s → CH s 3 11 H W A := fun h => CH_u hC (fun a i ha => h.2.2.2.2 a i (by omega))
  have hfin : ∀ {s : FI}, CSk I H A q rr tt aa (H.1 7) s → CSk I H A q rr tt aa 12 s := fun {s} h => by
    have hb := bts_st (ftB H A q rr tt aa) (m := H.1 7) (fun p hp => ftB_no p hp) (12 - H.1 7)
    rw [show H.1 7 + (12 - H.1 7) = 12 by omega] at hb
    refine ⟨by rw [hb]; exact h.1, h.2.1, h.2.2.1, fun p hp e => ?_, h.2.2.2.2⟩
    rcases Nat.lt_or_ge p (H.1 7) with h6 | h6
    · exact h.2.2.2.1 p h6 e
    · rw [ftB_no p h6] at e; exact absurd e (by decide)
  -- one place
  have hone : ∀ (k : Nat) (t : FI), k < H.1 7 → CSk I H A q rr tt aa k t → ∃ Mp M K, f_53 n 31 t L = some (Mp, L) ∧ f_55 n (u2 Mp 26 7 (nI k)) L = some (M, L) ∧ f_72_2 n M L = some (bI (agB H (gT H A k) q rr tt aa = true)) ∧ (agB H (gT H A k) q rr tt aa = true → f_10 n (nI k) M L = some (K, L)) ∧ (¬ agB H (gT H A k) q rr tt aa = true → K = M) ∧ CSk I H A q rr tt aa (k + 1) K := fun k t hk ht => by
    obtain ⟨Mp, M, q1, q2, q3, q4⟩ := ntC (n := n) (L := L) ho (hCs ht) hk hn
    have hSM := CS_N ht q4
    have e81 : M 85 2 = nI (3 * q) := by rw [hSM.2.2.2.2 85 2 (by omega)]; exact h81
    have h72 := (c72B (s := 2) ho q3 (gT_ok ho hk) (by omega) e81 hD hB hn).2.2.1 rfl
    by_cases h : agB H (gT H A k) q rr tt aa = true
    · have hf : ftB H A q rr tt aa k = true := by unfold ftB; rw [h, show decide (k < H.1 7) = true from decide_eq_true hk]; rfl
      obtain ⟨K, k1, k2⟩ := CS_y (n := n) (L := L) ho hSM hf (by omega) hk q3 hn
      exact ⟨Mp, M, K, q1, q2, h72, fun _ => k1, fun e => absurd h e, k2⟩
    · have hf : ftB H A q rr tt aa k = false := by unfold ftB; rw [show agB H (gT H A k) q rr tt aa = false by simpa using h, Bool.and_false]
      exact ⟨Mp, M, M, q1, q2, h72, fun e => absurd e h, fun _ => rfl, CS_n hSM hf⟩
  by_cases h7 : H.1 7 = 0
  · obtain ⟨K, k1, k2, k3, k4⟩ := c12 (n := n) (L := L) ho (hfin (s := u2 (u2 (u2 I 33 4 (I 3 4)) 33 5 (I 3 3)) 33 1 0) (by rw [h7]; exact hS0)) hn
    refine ⟨K, nh, ?_, k2, k3, k4⟩
    unfold f_199 f_9 c_199_0
    rw [q_bs]
    dsimp only
    rw [if_pos (by rw [chs (hCs hS0) (by decide), h7]; decide), k1, q_bs]
  · obtain ⟨Mp, M, K0, p1, p2, p3, p4, p5, p6⟩ := hone 0 _ (by omega) hS0
    obtain ⟨J, hJ, e⟩ := lpE (fun m k (t : FI) => c_199_1 n nh m (nI 2) (nI (k - 1)) t L) (H.1 7) (fun k t => 1 ≤ k ∧ CSk I H A q rr tt aa k t) (fun t => (f_12 n t L).bind fun q5 => some (some 3, q5.1, q5.2)) (fun m t ht => by
        show b_199_1 n nh (c_199_1 n nh m) (nI 2) (nI (H.1 7 - 1)) t L = _
        unfold b_199_1 c_199_2
        rw [nI_1, show H.1 7 - 1 + 1 = H.1 7 by omega, chs (hCs ht.2) (by decide), if_pos (nI_le (Nat.le_refl _) (by omega)), f12_1]) (fun m k t hk ht => by
        obtain ⟨k1, ht⟩ := ht
        obtain ⟨Np, N, K, q1, q2, q3, q4, q5, q6⟩ := hone k t hk ht
        refine ⟨K, ⟨by omega, q6⟩, ?_⟩
        show b_199_1 n nh (c_199_1 n nh m) (nI 2) (nI (k - 1)) t L = c_199_1 n nh m (nI 2) (nI (k + 1 - 1)) K L
        unfold b_199_1 c_199_2
        rw [nI_1, show k - 1 + 1 = k by omega, chs (hCs ht) (by decide), if_neg (nI_ge hk (by omega)), f53_1, q1, q_bs]
        dsimp only
        rw [q2, q_bs, if_neg (show ¬ nI 2 = 0 by decide), if_neg (show ¬ nI 2 = 1 by decide), if_pos (show nI 2 = 2 from rfl), q3, q_bs, q_b1, Nat.add_sub_cancel]
        by_cases h : agB H (gT H A k) q rr tt aa = true
        · rw [if_pos h, q4 h, q_bs]; rfl
        · rw [if_neg h, q5 h]; rfl) n 1 K0 (by omega) (by omega) ⟨by omega, p6⟩
    obtain ⟨K, k1, k2, k3, k4⟩ := c12 (n := n) (L := L) ho (hfin hJ.2) hn
    refine ⟨K, some 3, ?_, k2, k3, k4⟩
    unfold f_199 f_9 c_199_0
    rw [q_bs]
    dsimp only
    rw [if_neg (by rw [chs (hCs hS0) (by decide)]; exact nI_nle (by omega) (by omega)), p1, q_bs]
    dsimp only
    rw [show f_55 n (u2 Mp 26 7 0) L = some (M, L) from p2, q_bs, if_neg (show ¬ nI 2 = 0 by decide), if_neg (show ¬ nI 2 = 1 by decide), if_pos (show nI 2 = 2 from rfl), p3, q_bs, q_b1]
    have e2 : c_199_1 n nh n (nI 2) 0 K0 L = some (some 3, K, L) := by
      refine Eq.trans e ?_
      rw [k1, q_bs]
    by_cases h : agB H (gT H A 0) q rr tt aa = true
    · rw [if_pos h, show f_10 n 0 M L = some (K0, L) from p4 h, q_bs]; exact e2
    · rw [if_neg h, ← p5 h]; exact e2
theorem l199_3 (ho : HOK H W A) (hC : CH I 3 11 H W A) (nh : Option Nat) (h81 : I 87 2 = nI (3 * q)) (hD : RwD L 88 0 q rr tt aa) (hB : RwB H q rr tt aa) (hn : 1000 ≤ n) : ∃ K nh', f_199 n nh (nI 3) I L = some (nh', K, L) ∧ CSk I H A q rr tt aa 12 K ∧ K 33 2 = oI (cdo H A q rr tt aa (H.1 4)).1 ∧ K 33 3 = nI (cdo H A q rr tt aa (H.1 4)).2 := by
  have o7 : H.1 7 ≤ 12 := ho.1.2.2.2.2.2.2.2.1
  have hS0 : CSk I H A q rr tt aa 0 (u2 (u2 (u2 I 33 4 (I 3 4)) 33 5 (I 3 3)) 33 1 0) := ⟨u2_s, by rw [u2_o (by decide), u2_o (by decide), u2_s]; exact chs hC (by decide), by rw [u2_o (by decide), u2_s]; exact chs hC (by decide), fun p hp => absurd hp (by omega), fun c i hc => by rw [u2_c (by omega), u2_c (by omega), u2_c (by omega)]⟩
  have hCs : ∀ {k : Nat} {s : FI}, CSk I H A q rr tt aa k s → CH s 3 11 H W A := fun h => CH_u hC (fun a i ha => h.2.2.2.2 a i (by omega))
  have hfin : ∀ {s : FI}, CSk I H A q rr tt aa (H.1 7) s → CSk I H A q rr tt aa 12 s := fun {s} h => by
    have hb := bts_st (ftB H A q rr tt aa) (m := H.1 7) (fun p hp => ftB_no p hp) (12 - H.1 7)
    rw [show H.1 7 + (12 - H.1 7) = 12 by omega] at hb
    refine ⟨by rw [hb]; exact h.1, h.2.1, h.2.2.1, fun p hp e => ?_, h.2.2.2.2⟩
    rcases Nat.lt_or_ge p (H.1 7) with h6 | h6
    · exact h.2.2.2.1 p h6 e
    · rw [ftB_no p h6] at e; exact absurd e (by decide)
  -- one place
  have hone : ∀ (k : Nat) (t : FI), k < H.1 7 → CSk I H A q rr tt aa k t → ∃ Mp M K, f_53 n 31 t L = some (Mp, L) ∧ f_55 n (u2 Mp 26 7 (nI k)) L = some (M, L) ∧ f_72_3 n M L = some (bI (agB H (gT H A k) q rr tt aa = true)) ∧ (agB H (gT H A k) q rr tt aa = true → f_10 n (nI k) M L = some (K, L)) ∧ (¬ agB H (gT H A k) q rr tt aa = true → K = M) ∧ CSk I H A q rr tt aa (k + 1) K := fun k t hk ht => by
    obtain ⟨Mp, M, q1, q2, q3, q4⟩ := ntC (n := n) (L := L) ho (hCs ht) hk hn
    have hSM := CS_N ht q4
    have e81 : M 87 2 = nI (3 * q) := by rw [hSM.2.2.2.2 87 2 (by omega)]; exact h81
    have h72 := (c72B (s := 3) ho q3 (gT_ok ho hk) (by omega) e81 hD hB hn).2.2.2 rfl
    by_cases h : agB H (gT H A k) q rr tt aa = true
    · have hf : ftB H A q rr tt aa k = true := by unfold ftB; rw [h, show decide (k < H.1 7) = true from decide_eq_true hk]; rfl
      obtain ⟨K, k1, k2⟩ := CS_y (n := n) (L := L) ho hSM hf (by omega) hk q3 hn
      exact ⟨Mp, M, K, q1, q2, h72, fun _ => k1, fun e => absurd h e, k2⟩
    · have hf : ftB H A q rr tt aa k = false := by unfold ftB; rw [show agB H (gT H A k) q rr tt aa = false by simpa using h, Bool.and_false]
      exact ⟨Mp, M, M, q1, q2, h72, fun e => absurd e h, fun _ => rfl, CS_n hSM hf⟩
  by_cases h7 : H.1 7 = 0
  · obtain ⟨K, k1, k2, k3, k4⟩ := c12 (n := n) (L := L) ho (hfin (s := u2 (u2 (u2 I 33 4 (I 3 4)) 33 5 (I 3 3)) 33 1 0) (by rw [h7]; exact hS0)) hn
    refine ⟨K, nh, ?_, k2, k3, k4⟩
    unfold f_199 f_9 c_199_0
    rw [q_bs]
    dsimp only
    rw [if_pos (by rw [chs (hCs hS0) (by decide), h7]; decide), k1, q_bs]
  · obtain ⟨Mp, M, K0, p1, p2, p3, p4, p5, p6⟩ := hone 0 _ (by omega) hS0
    obtain ⟨J, hJ, e⟩ := lpE (fun m k (t : FI) => c_199_1 n nh m (nI 3) (nI (k - 1)) t L) (H.1 7) (fun k t => 1 ≤ k ∧ CSk I H A q rr tt aa k t) (fun t => (f_12 n t L).bind fun q5 => some (some 3, q5.1, q5.2)) (fun m t ht => by
        show b_199_1 n nh (c_199_1 n nh m) (nI 3) (nI (H.1 7 - 1)) t L = _
        unfold b_199_1 c_199_2
        rw [nI_1, show H.1 7 - 1 + 1 = H.1 7 by omega, chs (hCs ht.2) (by decide), if_pos (nI_le (Nat.le_refl _) (by omega)), f12_1]) (fun m k t hk ht => by
        obtain ⟨k1, ht⟩ := ht
        obtain ⟨Np, N, K, q1, q2, q3, q4, q5, q6⟩ := hone k t hk ht
        refine ⟨K, ⟨by omega, q6⟩, ?_⟩
        show b_199_1 n nh (c_199_1 n nh m) (nI 3) (nI (k - 1)) t L = c_199_1 n nh m (nI 3) (nI (k + 1 - 1)) K L
        unfold b_199_1 c_199_2
        rw [nI_1, show k - 1 + 1 = k by omega, chs (hCs ht) (by decide), if_neg (nI_ge hk (by omega)), f53_1, q1, q_bs]
        dsimp only
        rw [q2, q_bs, if_neg (show ¬ nI 3 = 0 by decide), if_neg (show ¬ nI 3 = 1 by decide), if_neg (show ¬ nI 3 = 2 by decide), if_pos (show nI 3 = 3 from rfl), q3, q_bs, q_b1, Nat.add_sub_cancel]
        by_cases h : agB H (gT H A k) q rr tt aa = true
        · rw [if_pos h, q4 h, q_bs]; rfl
        · rw [if_neg h, q5 h]; rfl) n 1 K0 (by omega) (by omega) ⟨by omega, p6⟩
    obtain ⟨K, k1, k2, k3, k4⟩ := c12 (n := n) (L := L) ho (hfin hJ.2) hn
    refine ⟨K, some 3, ?_, k2, k3, k4⟩
    unfold f_199 f_9 c_199_0
    rw [q_bs]
    dsimp only
    rw [if_neg (by rw [chs (hCs hS0) (by decide)]; exact nI_nle (by omega) (by omega)), p1, q_bs]
    dsimp only
    rw [show f_55 n (u2 Mp 26 7 0) L = some (M, L) from p2, q_bs, if_neg (show ¬ nI 3 = 0 by decide), if_neg (show ¬ nI 3 = 1 by decide), if_neg (show ¬ nI 3 = 2 by decide), if_pos (show nI 3 = 3 from rfl), p3, q_bs, q_b1]
    have e2 : c_199_1 n nh n (nI 3) 0 K0 L = some (some 3, K, L) := by
      refine Eq.trans e ?_
      rw [k1, q_bs]
    by_cases h : agB H (gT H A 0) q rr tt aa = true
    · rw [if_pos h, show f_10 n 0 M L = some (K0, L) from p4 h, q_bs]; exact e2
    · rw [if_neg h, ← p5 h]; exact e2
end SEEN2
