/-! LAYER 3: begins, begun, window, leaves: the model; the calls. Printed by wip/whole/gen61.py -/
section SEEN3
variable {I : FI} {L : FL} {H : HD} {W : Nat → Nat} {A : AD} {n q : Nat} {rr tt aa : Nat → Nat}
/-- ages told by 0 .. 9 -/
def vlj (j : Nat) : Nat := if j = 9 then 99 else j
def kya (a : Nat) : Nat := if a = 99 then 9 else a
theorem kya_vlj {a j : Nat} (ha : a = 99 ∨ a ≤ 7) (hj : j < 10) : kya a = j ↔ a = vlj j := by
  unfold kya vlj
  split <;> split <;> omega
/-- the greatest of the model's numbers -/
def mxj (F : Nat → Nat) : Nat → Nat
  | 0 => 0
  | j + 1 => if mxj F j < F j then F j else mxj F j
theorem mxj_ge (F : Nat → Nat) : ∀ {k j : Nat}, j < k → F j ≤ mxj F k
  | 0, j, h => absurd h (by omega)
  | k + 1, j, h => by
    have ih := @mxj_ge F k j
    unfold mxj
    rcases (show j < k ∨ j = k by omega) with h1 | rfl
    · have := ih h1
      split <;> omega
    · split <;> omega
theorem mxj_le {F : Nat → Nat} {B : Nat} : ∀ {k : Nat}, (∀ j, j < k → F j ≤ B) → mxj F k ≤ B
  | 0, _ => by unfold mxj; omega
  | k + 1, h => by
    have := mxj_le (k := k) (fun j hj => h j (by omega))
    have := h k (by omega)
    unfold mxj
    split <;> omega
theorem lcc_ge (t r : Nat) : ∀ {k p : Nat}, p < k → ftB H A q rr tt aa p = true → alk H A q rr tt aa t r (na H (gT H A p) t r) ≤ lcc H A q rr tt aa t r k
  | 0, p, h, _ => absurd h (by omega)
  | k + 1, p, h, hf => by
    have ih := @lcc_ge t r k p
    unfold lcc
    rcases (show p < k ∨ p = k by omega) with h1 | rfl
    · have := ih h1 hf
      split
      · split <;> omega
      · omega
    · rw [if_pos hf]
      split <;> omega
theorem lcc_lb (t r : Nat) {B : Nat} (h : ∀ p, ftB H A q rr tt aa p = true → alk H A q rr tt aa t r (na H (gT H A p) t r) ≤ B) : ∀ k, lcc H A q rr tt aa t r k ≤ B
  | 0 => by unfold lcc; omega
  | k + 1 => by
    have ih := lcc_lb t r h k
    unfold lcc
    split
    · rename_i hf
      have := h k hf
      split <;> omega
    · exact ih
/-- both find the same class the largest -/
theorem lcc_mxj (ho : HOK H W A) {t r : Nat} (hr : r < H.1 4) : mxj (fun j => alk H A q rr tt aa t r (vlj j)) 10 = lcc H A q rr tt aa t r 12 := by
  have hft : ∀ p, ftB H A q rr tt aa p = true → p < H.1 7 := fun p hf => by
    rcases Nat.lt_or_ge p (H.1 7) with h | h
    · exact h
    · rw [ftB_no p h] at hf; exact absurd hf (by decide)
  apply Nat.le_antisymm
  · refine mxj_le (fun j hj => ?_)
    by_cases h0 : alk H A q rr tt aa t r (vlj j) = 0
    · omega
    · obtain ⟨p, hp, hf⟩ := cnt_pos (k := 12) (f := alF H A q rr tt aa t r (vlj j)) (by unfold alk at h0; omega)
      unfold alF at hf
      rw [Bool.and_eq_true] at hf
      have hv : na H (gT H A p) t r = vlj j := by simpa using hf.2
      have := lcc_ge (H := H) (A := A) (q := q) (rr := rr) (tt := tt) (aa := aa) t r hp hf.1
      rw [hv] at this
      exact this
  · refine lcc_lb t r (fun p hf => ?_) 12
    have hg := gT_ok ho (hft p hf)
    have hb := na_b H (gT H A p) r t
    have h5 := hg.2.2.2.2.1 r hr
    have hk : vlj (kya (na H (gT H A p) t r)) = na H (gT H A p) t r := ((kya_vlj (by omega) (by unfold kya; split <;> omega)).mp rfl).symm
    have := mxj_ge (fun j => alk H A q rr tt aa t r (vlj j)) (k := 10) (j := kya (na H (gT H A p) t r)) (by unfold kya; split <;> omega)
    rw [hk] at this
    exact this
def FrM2 (I J : FI) : Prop := (∀ c i, c ≠ 89 → (c < 103 ∨ 113 < c) → J c i = I c i) ∧ ∀ i, i < 25 → J 89 i = I 89 i
theorem FrM2_t {I J K : FI} (h : FrM2 I J) (h2 : FrM2 J K) : FrM2 I K := ⟨fun c i a b => (h2.1 c i a b).trans (h.1 c i a b), fun i a => (h2.2 i a).trans (h.2 i a)⟩
theorem FrM2_M {I J : FI} (h : FrM I J) : FrM2 I J := ⟨fun c i a b => h.1 c i a (by omega), fun i a => h.2 i (by omega)⟩
theorem MH_M2 (ho : HOK H W A) {J : FI} (hM : MH I 0 H W A) (h : FrM2 I J) : MH J 0 H W A := MH_fr ho hM (fun c hc i => h.1 c i (by omega) (by omega))
/-- the model's numbers of the first k places -/
def MSk (I : FI) (H : HD) (A : AD) (q : Nat) (rr tt aa : Nat → Nat) (k : Nat) (s : FI) : Prop := s 89 40 = nI (cnt (ftB H A q rr tt aa) k) ∧ s 89 41 = oI (fnd (ftB H A q rr tt aa) k) ∧ (∀ t r j, t < H.1 3 → r < H.1 4 → j < 10 → s 113 (10 * (4 * t + r) + j) = nI (cnt (alF H A q rr tt aa t r (vlj j)) k)) ∧ FrM2 I s
theorem ntM (ho : HOK H W A) (hM : MH I 0 H W A) {p : Nat} (hp : p < H.1 7) (hn : 1000 ≤ n) : ∃ J K, f_252 n I L = some (J, L) ∧ f_260 n 0 (u2 J 89 27 (nI p)) L = some (K, L) ∧ NMk K H (gT H A p) (H.1 3) ∧ FrM I K := by
  obtain ⟨J, j1, j2, j3, j4, j5⟩ := e252 (n := n) (L := L) ho hM hn
  have hMj : MH (u2 J 89 27 (nI p)) 0 H W A := MH_fr ho hM (fun c hc i => by rw [u2_c (by omega), j4 c i (by omega) (by omega)])
  obtain ⟨K, k1, k2, k3⟩ := e260 (n := n) (L := L) (g := gT H A p) ho hMj (gT_ok ho hp) ⟨(u2_o (by decide)).trans j2.1, u2_s, fun r hr => (u2_c (by decide)).trans (j2.2.2 r hr)⟩ (aw := 0) (br := 0) (bm := 0) ⟨(u2_o (by decide)).trans j3.1, by decide, (u2_o (by decide)).trans j3.2.2.1, by decide, fun q => absurd rfl q⟩ rfl (fun t _ => (gsm_0 H A t).symm) hn
  exact ⟨J, K, j1, k1, k2, fun c i hc hc2 => by rw [k3 c i (by omega), u2_c hc, j4 c i hc (by omega)], fun i hi => by rw [k3 89 i (by omega), u2_o (by omega), j5 i (by omega)]⟩
/-- the numbers of one place are added -/
theorem l327_8 (ho : HOK H W A) (hM : MH I 0 H W A) {s : FI} (hs0 : FrM2 I s) {k : Nat} (hk7 : k < H.1 7) (hN : NMk s H (gT H A k) (H.1 3)) (hf : ftB H A q rr tt aa k = true) (h12 : k < 12) (h113 : ∀ t r j, t < H.1 3 → r < H.1 4 → j < 10 → s 113 (10 * (4 * t + r) + j) = nI (cnt (alF H A q rr tt aa t r (vlj j)) k)) {K1 : Int32 → Int32 → FI → FL → Option (FI × FL)} (x : Int32) (hn : 1000 ≤ n) :
    ∃ K, c_327_8 n K1 n x (nI k) (nI 0) s L = K1 x (nI (k + 1)) K L ∧ (∀ t r j, t < H.1 3 → r < H.1 4 → j < 10 → K 113 (10 * (4 * t + r) + j) = nI (cnt (alF H A q rr tt aa t r (vlj j)) (k + 1))) ∧ ∀ c i, c ≠ 113 → K c i = s c i := by
  have o3 : H.1 3 ≤ 30 := ho.1.2.2.2.1
  have o4 : H.1 4 ≤ 4 := ho.1.2.2.2.2.1
  have hg := gT_ok ho hk7
  have hMs := MH_M2 ho hM hs0
  have hinc : ∀ t r j, r < H.1 4 → j < 10 → cnt (alF H A q rr tt aa t r (vlj j)) (k + 1) = if kya (na H (gT H A k) t r) = j then cnt (alF H A q rr tt aa t r (vlj j)) k + 1 else cnt (alF H A q rr tt aa t r (vlj j)) k := fun t r j hr hj => by
    have hb := na_b H (gT H A k) r t
    have h5 := hg.2.2.2.2.1 r hr
    have hkv := kya_vlj (a := na H (gT H A k) t r) (j := j) (by omega) hj
    show (if alF H A q rr tt aa t r (vlj j) k = true then _ else _) = _
    unfold alF
    rw [hf, Bool.true_and]
    by_cases h : kya (na H (gT H A k) t r) = j
    · rw [if_pos h, if_pos (by simpa using hkv.mp h)]
    · rw [if_neg h, if_neg (by simpa using fun e => h (hkv.mpr e))]
  have hcl : ∀ t r j, cnt (alF H A q rr tt aa t r (vlj j)) k ≤ 12 := fun t r j => by have := cnt_le (alF H A q rr tt aa t r (vlj j)) k; omega
  -- of minutes below t and rooms below r
  obtain ⟨K, ⟨k1, k2⟩, e⟩ := lpE (fun m t (s' : FI) => c_327_8 n K1 m x (nI k) (nI t) s' L) (H.1 3) (fun T s' => (∀ t r j, t < H.1 3 → r < H.1 4 → j < 10 → s' 113 (10 * (4 * t + r) + j) = nI (cnt (alF H A q rr tt aa t r (vlj j)) (if t < T then k + 1 else k))) ∧ ∀ c i, c ≠ 113 → s' c i = s c i) (fun s' => K1 x (nI (k + 1)) s' L) (fun m s' hs' => by
      have hMs' : MH s' 0 H W A := MH_fr ho hMs (fun c hc i => hs'.2 c i (by omega))
      show b_327_8 n K1 (c_327_8 n K1 m) x (nI k) (nI (H.1 3)) s' L = _
      unfold b_327_8 c_327_9
      rw [e238 hMs', q_bs, if_pos (nI_le (Nat.le_refl _) (by omega)), nI_1]) (fun m T s' hT hs' => by
      obtain ⟨M, ⟨m1, m2⟩, e2⟩ := lpE (fun m' r (s2 : FI) => c_327_10 n K1 (c_327_8 n K1 m) m' x (nI k) (nI T) (nI r) s2 L) (H.1 4) (fun R s2 => (∀ t r j, t < H.1 3 → r < H.1 4 → j < 10 → s2 113 (10 * (4 * t + r) + j) = nI (cnt (alF H A q rr tt aa t r (vlj j)) (if t < T ∨ (t = T ∧ r < R) then k + 1 else k))) ∧ ∀ c i, c ≠ 113 → s2 c i = s c i) (fun s2 => c_327_8 n K1 m x (nI k) (nI (T + 1)) s2 L) (fun m' s2 hs2 => by
          have hMs2 : MH s2 0 H W A := MH_fr ho hMs (fun c hc i => hs2.2 c i (by omega))
          show b_327_10 n K1 (c_327_8 n K1 m) (c_327_10 n K1 (c_327_8 n K1 m) m') x (nI k) (nI T) (nI (H.1 4)) s2 L = _
          unfold b_327_10
          rw [e237 hMs2, q_bs, if_pos (nI_le (Nat.le_refl _) (by omega)), nI_1]) (fun m' R s2 hR hs2 => by
          obtain ⟨t1, t2⟩ := hs2
          have hMs2 : MH s2 0 H W A := MH_fr ho hMs (fun c hc i => t2 c i (by omega))
          have hb := na_b H (gT H A k) R T
          have h5 := hg.2.2.2.2.1 R hR
          have hky : kya (na H (gT H A k) T R) < 10 := by unfold kya; split <;> omega
          have hv := t1 T R _ hT hR hky
          rw [if_neg (by omega)] at hv
          have e106 : s2 106 (4 * T + R) = nI (na H (gT H A k) T R) := by rw [t2 106 _ (by decide)]; exact (hN T hT).2.2 R hR
          have e3 : b_327_10 n K1 (c_327_8 n K1 m) (c_327_10 n K1 (c_327_8 n K1 m) m') x (nI k) (nI T) (nI R) s2 L = c_327_10 n K1 (c_327_8 n K1 m) m' x (nI k) (nI T) (nI (R + 1)) (u2 s2 113 (10 * (4 * T + R) + kya (na H (gT H A k) T R)) (nI (cnt (alF H A q rr tt aa T R (vlj (kya (na H (gT H A k) T R)))) k + 1))) L := by
            have e4 : ∀ y, y = kya (na H (gT H A k) T R) → c_327_11 n K1 (c_327_8 n K1 m) (c_327_10 n K1 (c_327_8 n K1 m) m') x (nI k) (nI T) (nI R) (nI y) (nI (10 * (4 * T + R))) s2 L = c_327_10 n K1 (c_327_8 n K1 m) m' x (nI k) (nI T) (nI (R + 1)) (u2 s2 113 (10 * (4 * T + R) + kya (na H (gT H A k) T R)) (nI (cnt (alF H A q rr tt aa T R (vlj (kya (na H (gT H A k) T R)))) k + 1))) L := fun y hy => by
              unfold c_327_11
              rw [nI_add, ku_if (by omega) (by omega), ku_if (by omega) (by omega), nI_clamp (by omega), hy, hv, nI_1, nI_1]
            unfold b_327_10
            rw [e237 hMs2, q_bs, if_neg (nI_ge hR (by omega)), ku_4, pk_mul, nI_add, ku_if (by omega) (by omega), ku_if (by omega) (by omega), nI_clamp (by omega), ku_10, pk_mul]
            by_cases h : na H (gT H A k) T R = 99
            · rw [if_neg (by rw [e106, h]; decide)]
              exact e4 9 (by unfold kya; rw [if_pos h])
            · rw [if_pos (by rw [e106, ku_99, nI_eq (by omega) (by omega)]; exact h), e106]
              exact e4 _ (by unfold kya; rw [if_neg h])
          refine ⟨_, ⟨fun t r j ht hr hj => ?_, fun c i hc => by rw [u2_c hc]; exact t2 c i hc⟩, e3⟩
          by_cases hc : t = T ∧ r = R
          · obtain ⟨rfl, rfl⟩ := hc
            rw [if_pos (by omega), hinc t r j hr hj]
            by_cases hj2 : kya (na H (gT H A k) t r) = j
            · subst hj2
              rw [u2_s, if_pos rfl]
            · rw [u2_o (by omega), if_neg hj2, t1 t r j ht hr hj, if_neg (by omega)]
          · rw [u2_o (by omega), t1 t r j ht hr hj]
            by_cases hc2 : t < T ∨ (t = T ∧ r < R)
            · rw [if_pos hc2, if_pos (by omega)]
            · rw [if_neg hc2, if_neg (by omega)]) n 0 s' (by omega) (by omega) ⟨fun t r j ht hr hj => by
            rw [hs'.1 t r j ht hr hj]
            by_cases hc2 : t < T
            · rw [if_pos hc2, if_pos (by omega)]
            · rw [if_neg hc2, if_neg (by omega)], hs'.2⟩
      refine ⟨M, ⟨fun t r j ht hr hj => ?_, m2⟩, ?_⟩
      · rw [m1 t r j ht hr hj]
        by_cases hc2 : t < T ∨ (t = T ∧ r < H.1 4)
        · rw [if_pos hc2, if_pos (by omega)]
        · rw [if_neg hc2, if_neg (by omega)]
      · have hMs' : MH s' 0 H W A := MH_fr ho hMs (fun c hc i => hs'.2 c i (by omega))
        show b_327_8 n K1 (c_327_8 n K1 m) x (nI k) (nI T) s' L = _
        unfold b_327_8
        rw [e238 hMs', q_bs, if_neg (nI_ge hT (by omega))]
        exact e2) n 0 s (by omega) (by omega) ⟨fun t r j ht hr hj => by rw [h113 t r j ht hr hj, if_neg (by omega)], fun _ _ _ => rfl⟩
  exact ⟨K, e, fun t r j ht hr hj => by rw [k1 t r j ht hr hj, if_pos ht], k2⟩
theorem cnt_ge1 {f : Nat → Bool} : ∀ {k p : Nat}, p < k → f p = true → 1 ≤ cnt f k
  | 0, p, h, _ => absurd h (by omega)
  | k + 1, p, h, hf => by
    have ih := @cnt_ge1 f k p
    unfold cnt
    rcases (show p < k ∨ p = k by omega) with h1 | rfl
    · have := ih h1 hf
      split <;> omega
    · rw [if_pos hf]; omega
theorem m327 (ho : HOK H W A) (hM : MH I 0 H W A) {s : Nat} (hs : s < 4) (h91 : I 91 s = nI (3 * q)) (hD : RwD L 92 (60 * s) q rr tt aa) (hB : RwB H q rr tt aa) (hn : 2000 ≤ n) : ∃ K, f_327 n (nI s) I L = some (K, L) ∧ K 89 40 = nI (cnt (ftB H A q rr tt aa) 12) ∧ K 89 41 = oI (fnd (ftB H A q rr tt aa) 12) ∧ K 89 42 = oI (cdo H A q rr tt aa (H.1 4)).1 ∧ K 89 43 = nI (cdo H A q rr tt aa (H.1 4)).2 ∧ FrM2 I K := by
  have o3 : H.1 3 ≤ 30 := ho.1.2.2.2.1
  have o4 : H.1 4 ≤ 4 := ho.1.2.2.2.2.1
  have o7 : H.1 7 ≤ 12 := ho.1.2.2.2.2.2.2.2.1
  -- all 0
  obtain ⟨J0, ⟨j1, j2⟩, je⟩ := lpE (fun m k (t : FI) => c_327_0 n m (nI s) (nI k) t L) 1200 (fun k t => (∀ i, i < k → t 113 i = nI 0) ∧ ∀ c i, c ≠ 113 → t c i = u2 (u2 I 89 40 0) 89 41 (-1) c i) (fun t => c_327_1 n n (nI s) (nI 0) t L) (fun m t ht => by
      show b_327_0 n (c_327_0 n m) (nI s) (nI 1200) t L = _
      unfold b_327_0
      rw [if_pos (by decide)]; rfl) (fun m k t hk ht => by
      refine ⟨u2 t 113 k (nI 0), ⟨fun i hi => ?_, fun c i hc => by rw [u2_c hc]; exact ht.2 c i hc⟩, ?_⟩
      · by_cases e : i = k
        · subst e; exact u2_s
        · rw [u2_o e]; exact ht.1 i (by omega)
      · show b_327_0 n (c_327_0 n m) (nI s) (nI k) t L = _
        unfold b_327_0
        rw [ku_1200, if_neg (nI_ge hk (by omega)), ku_if hk (by omega), nI_clamp (by omega), nI_1]; rfl) n 0 (u2 (u2 I 89 40 0) 89 41 (-1)) (by omega) (by omega) ⟨fun i hi => absurd hi (by omega), fun _ _ _ => rfl⟩
  have hS0 : MSk I H A q rr tt aa 0 J0 := by
    refine ⟨?_, ?_, fun t r j ht hr hj => j1 _ (by omega), fun c i h1 h2 => ?_, fun i hi => ?_⟩
    · rw [j2 89 40 (by decide), u2_o (by decide), u2_s]; rfl
    · rw [j2 89 41 (by decide), u2_s, ku_m]; rfl
    · rw [j2 c i (by omega), u2_c h1, u2_c h1]
    · rw [j2 89 i (by decide), u2_o (by omega), u2_o (by omega)]
  -- places
  obtain ⟨J1, hS1, je1⟩ := lpE (fun m k (t : FI) => c_327_1 n m (nI s) (nI k) t L) (H.1 7) (fun k t => MSk I H A q rr tt aa k t) (fun t => c_327_2 n n (nI 0) (u2 (u2 t 89 42 (-1)) 89 43 (t 89 40)) L) (fun m t ht => by
      have hMt := MH_M2 ho hM ht.2.2.2
      show b_327_1 n (c_327_1 n m) (nI s) (nI (H.1 7)) t L = _
      unfold b_327_1
      rw [show t 96 6 = nI (H.1 7) from mh96 hMt (by decide), if_pos (nI_le (Nat.le_refl _) (by omega))]; rfl) (fun m k t hk ht => by
      obtain ⟨t1, t2, t3, t4⟩ := ht
      have hMt := MH_M2 ho hM t4
      obtain ⟨J, M, q0, q1, q2, q3⟩ := ntM (n := n) (L := L) ho hMt hk (by omega)
      have hMM := MH_M ho hMt q3
      have hf2 : FrM2 I M := FrM2_t t4 (FrM2_M q3)
      have e40 : M 89 40 = nI (cnt (ftB H A q rr tt aa) k) := by rw [q3.2 40 (by omega)]; exact t1
      have e41 : M 89 41 = oI (fnd (ftB H A q rr tt aa) k) := by rw [q3.2 41 (by omega)]; exact t2
      have e113 : ∀ t' r j, t' < H.1 3 → r < H.1 4 → j < 10 → M 113 (10 * (4 * t' + r) + j) = nI (cnt (alF H A q rr tt aa t' r (vlj j)) k) := fun t' r j a b c => by rw [q3.1 113 _ (by decide) (by omega)]; exact t3 t' r j a b c
      have e91 : M 91 s = nI (3 * q) := by rw [hf2.1 91 s (by decide) (by omega)]; exact h91
      have hso := m326B (n := n) (L := L) ho hMM q2 (gT_ok ho hk) hs e91 hD hB (by omega)
      have hcl := cnt_le (ftB H A q rr tt aa) k
      have hfe : ftB H A q rr tt aa k = agB H (gT H A k) q rr tt aa := by unfold ftB; rw [show decide (k < H.1 7) = true from decide_eq_true hk, Bool.true_and]
      by_cases h : agB H (gT H A k) q rr tt aa = true
      · have hf : ftB H A q rr tt aa k = true := hfe.trans h
        have hfn : fnd (ftB H A q rr tt aa) (k + 1) = if cnt (ftB H A q rr tt aa) k = 0 then k + 1 else fnd (ftB H A q rr tt aa) k := by
          by_cases hc : cnt (ftB H A q rr tt aa) k = 0
          · rw [if_pos hc]
            refine fnd_p (fnd_0.mpr (fun p hp => ?_)) hf
            cases e : ftB H A q rr tt aa p
            · rfl
            · exact absurd hc (by have := cnt_ge1 (f := ftB H A q rr tt aa) hp e; omega)
          · rw [if_neg hc]
            obtain ⟨p, hp, e⟩ := cnt_pos (f := ftB H A q rr tt aa) (k := k) (by omega)
            refine fnd_st (fun e0 => ?_)
            rw [fnd_0.mp e0 p hp] at e; exact absurd e (by decide)
        obtain ⟨K, k1, k2, k3⟩ := l327_8 (n := n) (L := L) (s := u2 (u2 M 89 41 (oI (fnd (ftB H A q rr tt aa) (k + 1)))) 89 40 (nI (cnt (ftB H A q rr tt aa) k + 1))) ho hM ⟨fun c i a b => by rw [u2_c a, u2_c a]; exact hf2.1 c i a b, fun i a => by rw [u2_o (by omega), u2_o (by omega)]; exact hf2.2 i a⟩ hk (fun t' ht' => by
          obtain ⟨d1, d2, d3⟩ := q2 t' ht'
          exact ⟨by rw [u2_c (by decide), u2_c (by decide)]; exact d1, by rw [u2_c (by decide), u2_c (by decide)]; exact d2, fun r hr => by rw [u2_c (by decide), u2_c (by decide)]; exact d3 r hr⟩) hf (by omega) (fun t' r j a b c => by rw [u2_c (by decide), u2_c (by decide)]; exact e113 t' r j a b c) (K1 := c_327_1 n m) (nI s) (by omega)
        refine ⟨K, ⟨?_, ?_, k2, fun c i a b => ?_, fun i a => ?_⟩, ?_⟩
        · rw [k3 89 40 (by decide), u2_s]
          show _ = nI (if ftB H A q rr tt aa k = true then _ else _)
          rw [if_pos hf]
        · rw [k3 89 41 (by decide), u2_o (by decide), u2_s]
        · rw [k3 c i (by omega), u2_c a, u2_c a]; exact hf2.1 c i a b
        · rw [k3 89 i (by decide), u2_o (by omega), u2_o (by omega)]; exact hf2.2 i a
        · show b_327_1 n (c_327_1 n m) (nI s) (nI k) t L = _
          unfold b_327_1 c_327_7
          rw [show t 96 6 = nI (H.1 7) from mh96 hMt (by decide), if_neg (nI_ge hk (by omega)), q0, q_bs]
          dsimp only
          rw [q1, q_bs]
          dsimp only
          rw [hso, q_bs, q_b2, if_pos h]
          rw [hfn] at k1
          by_cases hc : cnt (ftB H A q rr tt aa) k = 0
          · rw [if_neg (by rw [e40, hc]; decide), e40, nI_1]
            rw [if_pos hc, oI_s] at k1
            exact k1
          · rw [if_pos (by rw [e40, ku_0, nI_eq (by omega) (by omega)]; exact hc), e40, e41, nI_1]
            rw [if_neg hc] at k1
            exact k1
      · have hf : ftB H A q rr tt aa k = false := hfe.trans (by simpa using h)
        have hcn : ∀ (f : Nat → Bool), f k = false → cnt f (k + 1) = cnt f k := fun f hfk => by
          show (if f k = true then _ else _) = _
          rw [hfk, if_neg (by decide)]
        refine ⟨M, ⟨by rw [hcn _ hf]; exact e40, ?_, fun t' r j a b c => ?_, hf2⟩, ?_⟩
        · rw [e41]
          show _ = oI (if fnd (ftB H A q rr tt aa) k = 0 then (if ftB H A q rr tt aa k = true then k + 1 else 0) else fnd (ftB H A q rr tt aa) k)
          rw [hf, if_neg (show ¬ false = true by decide)]
          split
          · rename_i hz; rw [hz]
          · rfl
        · rw [hcn _ (by unfold alF; rw [hf, Bool.false_and])]; exact e113 t' r j a b c
        · show b_327_1 n (c_327_1 n m) (nI s) (nI k) t L = _
          unfold b_327_1 c_327_9
          rw [show t 96 6 = nI (H.1 7) from mh96 hMt (by decide), if_neg (nI_ge hk (by omega)), q0, q_bs]
          dsimp only
          rw [q1, q_bs]
          dsimp only
          rw [hso, q_bs, q_b2, if_neg h, nI_1]) n 0 J0 (by omega) (by omega) hS0
  -- up to twelve
  have hst : ∀ (f : Nat → Bool), (∀ p, H.1 7 ≤ p → f p = false) → cnt f 12 = cnt f (H.1 7) := fun f hf => by
    have := cnt_st f hf (12 - H.1 7)
    rwa [show H.1 7 + (12 - H.1 7) = 12 by omega] at this
  have hc12 := hst (ftB H A q rr tt aa) (fun p hp => ftB_no p hp)
  have hf12 : fnd (ftB H A q rr tt aa) 12 = fnd (ftB H A q rr tt aa) (H.1 7) := by
    by_cases h0 : fnd (ftB H A q rr tt aa) (H.1 7) = 0
    · rw [h0]
      refine fnd_0.mpr (fun p _ => ?_)
      rcases Nat.lt_or_ge p (H.1 7) with h6 | h6
      · exact fnd_0.mp h0 p h6
      · exact ftB_no p h6
    · exact fnd_mono h0 o7
  have h113 : ∀ t r j, t < H.1 3 → r < H.1 4 → j < 10 → J1 113 (10 * (4 * t + r) + j) = nI (alk H A q rr tt aa t r (vlj j)) := fun t r j a b c => by
    rw [hS1.2.2.1 t r j a b c]
    unfold alk
    rw [hst _ (fun p hp => by unfold alF; rw [ftB_no p hp, Bool.false_and])]
  -- the choice
  have hcn := cnt_le (ftB H A q rr tt aa) 12
  obtain ⟨K, ⟨k1, k2, k3⟩, ke⟩ := lpE (fun m k (t : FI) => c_327_2 n m (nI k) t L) (H.1 4) (fun k t => t 89 42 = oI (cdo H A q rr tt aa k).1 ∧ t 89 43 = nI (cdo H A q rr tt aa k).2 ∧ (∀ c i, c ≠ 89 → t c i = J1 c i) ∧ ∀ i, i ≠ 42 → i ≠ 43 → t 89 i = J1 89 i) (fun t => some (t, L)) (fun m t ht => by
      have hMt : MH t 0 H W A := MH_fr ho (MH_M2 ho hM hS1.2.2.2) (fun c hc i => ht.2.2.1 c i (by omega))
      show b_327_2 n (c_327_2 n m) (nI (H.1 4)) t L = _
      unfold b_327_2
      rw [e237 hMt, q_bs, if_pos (nI_le (Nat.le_refl _) (by omega))]) (fun m r t hr ht => by
      have hMt : MH t 0 H W A := MH_fr ho (MH_M2 ho hM hS1.2.2.2) (fun c hc i => ht.2.2.1 c i (by omega))
      have hso := cdo_le (H := H) (A := A) (q := q) (rr := rr) (tt := tt) (aa := aa) r
      obtain ⟨K, hK, e2⟩ := lpE (fun m' k (t : FI) => c_327_3 n (c_327_2 n m) m' (nI r) (nI k) t L) (H.1 3) (fun k t => t 89 42 = oI (cdi H A q rr tt aa r (cdo H A q rr tt aa r) k).1 ∧ t 89 43 = nI (cdi H A q rr tt aa r (cdo H A q rr tt aa r) k).2 ∧ (∀ c i, c ≠ 89 → t c i = J1 c i) ∧ ∀ i, i ≠ 42 → i ≠ 43 → t 89 i = J1 89 i) (fun t => c_327_2 n m (nI (r + 1)) t L) (fun m' t ht => by
          have hMt : MH t 0 H W A := MH_fr ho (MH_M2 ho hM hS1.2.2.2) (fun c hc i => ht.2.2.1 c i (by omega))
          show b_327_3 n (c_327_2 n m) (c_327_3 n (c_327_2 n m) m') (nI r) (nI (H.1 3)) t L = _
          unfold b_327_3
          rw [e238 hMt, q_bs, if_pos (nI_le (Nat.le_refl _) (by omega)), nI_1]) (fun m' k t hk ht => by
          obtain ⟨t1, t2, t3, t4⟩ := ht
          have hMt : MH t 0 H W A := MH_fr ho (MH_M2 ho hM hS1.2.2.2) (fun c hc i => t3 c i (by omega))
          have hsi := cdi_le (H := H) (A := A) (q := q) (rr := rr) (tt := tt) (aa := aa) r hso k
          have l1 := lcc_le (H := H) (A := A) (q := q) (rr := rr) (tt := tt) (aa := aa) k r 12
          have hmx := lcc_mxj (q := q) (rr := rr) (tt := tt) (aa := aa) ho (t := k) hr
          have hal : ∀ j, alk H A q rr tt aa k r (vlj j) ≤ 12 := fun j => cnt_le _ _
          have hml : ∀ j, mxj (fun j => alk H A q rr tt aa k r (vlj j)) j ≤ 12 := fun j => mxj_le (fun i _ => hal i)
          have ek : cdi H A q rr tt aa r (cdo H A q rr tt aa r) (k + 1) = if lcc H A q rr tt aa k r 12 < (cdi H A q rr tt aa r (cdo H A q rr tt aa r) k).2 then (100 * r + k + 1, lcc H A q rr tt aa k r 12) else cdi H A q rr tt aa r (cdo H A q rr tt aa r) k := rfl
          -- the worst of this
          obtain ⟨_, _, e3⟩ := lpE (fun m2 j (_ : Unit) => c_327_4 n (c_327_2 n m) (c_327_3 n (c_327_2 n m) m') m2 (nI r) (nI k) (nI (mxj (fun j => alk H A q rr tt aa k r (vlj j)) j)) (nI j) t L) 10 (fun _ _ => True) (fun _ => if lcc H A q rr tt aa k r 12 < (cdi H A q rr tt aa r (cdo H A q rr tt aa r) k).2 then c_327_3 n (c_327_2 n m) m' (nI r) (nI (k + 1)) (u2 (u2 t 89 42 (nI (100 * r + k))) 89 43 (nI (lcc H A q rr tt aa k r 12))) L else c_327_3 n (c_327_2 n m) m' (nI r) (nI (k + 1)) t L) (fun m2 _ _ => by
              show b_327_4 n (c_327_2 n m) (c_327_3 n (c_327_2 n m) m') _ (nI r) (nI k) _ (nI 10) t L = _
              unfold b_327_4 c_327_5
              rw [if_pos (show (10 : Int32) ≤ nI 10 by decide), t2, hmx, nI_1, ku_100, pk_mul, nI_add]
              by_cases h : lcc H A q rr tt aa k r 12 < (cdi H A q rr tt aa r (cdo H A q rr tt aa r) k).2
              · rw [if_pos h, if_pos (nI_lt h (by omega))]
              · rw [if_neg h, if_neg (nI_nlt (by omega) (by omega))]) (fun m2 j _ hj _ => by
              have a1 := hal j
              have a2 := hml j
              have hcell : t 113 (10 * (4 * k + r) + j) = nI (alk H A q rr tt aa k r (vlj j)) := by rw [t3 113 _ (by decide)]; exact h113 k r j hk hr hj
              refine ⟨(), trivial, ?_⟩
              show b_327_4 n (c_327_2 n m) (c_327_3 n (c_327_2 n m) m') (c_327_4 n (c_327_2 n m) (c_327_3 n (c_327_2 n m) m') m2) (nI r) (nI k) _ (nI j) t L = c_327_4 n (c_327_2 n m) (c_327_3 n (c_327_2 n m) m') m2 (nI r) (nI k) (nI (if mxj (fun j => alk H A q rr tt aa k r (vlj j)) j < alk H A q rr tt aa k r (vlj j) then alk H A q rr tt aa k r (vlj j) else mxj (fun j => alk H A q rr tt aa k r (vlj j)) j)) (nI (j + 1)) t L
              unfold b_327_4 c_327_6
              rw [if_neg (show ¬ (10 : Int32) ≤ nI j from nI_ge (b := 10) hj (by omega)), ku_4, pk_mul, nI_add, ku_10, pk_mul, nI_add, ku_if (by omega) (by omega), ku_if (by omega) (by omega), nI_clamp (by omega), hcell, nI_1]
              by_cases h : mxj (fun j => alk H A q rr tt aa k r (vlj j)) j < alk H A q rr tt aa k r (vlj j)
              · rw [if_pos h, if_neg (nI_ge h (by omega))]
              · rw [if_neg h, if_pos (nI_le (by omega) (by omega))]) n 0 () (by omega) (by omega) trivial
          have e0 : b_327_3 n (c_327_2 n m) (c_327_3 n (c_327_2 n m) m') (nI r) (nI k) t L = if lcc H A q rr tt aa k r 12 < (cdi H A q rr tt aa r (cdo H A q rr tt aa r) k).2 then c_327_3 n (c_327_2 n m) m' (nI r) (nI (k + 1)) (u2 (u2 t 89 42 (nI (100 * r + k))) 89 43 (nI (lcc H A q rr tt aa k r 12))) L else c_327_3 n (c_327_2 n m) m' (nI r) (nI (k + 1)) t L := by
            unfold b_327_3
            rw [e238 hMt, q_bs, if_neg (nI_ge hk (by omega))]
            exact e3
          by_cases h : lcc H A q rr tt aa k r 12 < (cdi H A q rr tt aa r (cdo H A q rr tt aa r) k).2
          · refine ⟨_, ⟨?_, ?_, fun c i hc => ?_, fun i h2 h3 => ?_⟩, e0.trans (if_pos h)⟩
            · rw [u2_o (by decide), u2_s, ek, if_pos h, oI_s]
            · rw [u2_s, ek, if_pos h]
            · rw [u2_c hc, u2_c hc]; exact t3 c i hc
            · rw [u2_o h3, u2_o h2]; exact t4 i h2 h3
          · exact ⟨t, ⟨by rw [t1, ek, if_neg h], by rw [t2, ek, if_neg h], t3, t4⟩, e0.trans (if_neg h)⟩) n 0 t (by omega) (by omega) ht
      refine ⟨K, hK, ?_⟩
      show b_327_2 n (c_327_2 n m) (nI r) t L = _
      unfold b_327_2
      rw [e237 hMt, q_bs, if_neg (nI_ge hr (by omega))]
      exact e2) n 0 (u2 (u2 J1 89 42 (-1)) 89 43 (J1 89 40)) (by omega) (by omega) ⟨by rw [u2_o (by decide), u2_s, ku_m]; rfl, by rw [u2_s, hS1.1, ← hc12]; rfl, fun c i hc => by rw [u2_c hc, u2_c hc], fun i h2 h3 => by rw [u2_o h3, u2_o h2]⟩
  refine ⟨K, ?_, ?_, ?_, k1, k2, fun c i a b => ?_, fun i a => ?_⟩
  · unfold f_327
    rw [show (0 : Int32) = nI 0 from rfl] at *
    exact je.trans (je1.trans ke)
  · rw [k3.2 40 (by decide) (by decide), hS1.1, hc12]
  · rw [k3.2 41 (by decide) (by decide), hS1.2.1, hf12]
  · rw [k3.1 c i a]; exact hS1.2.2.2.1 c i a b
  · rw [k3.2 i (by omega) (by omega)]; exact hS1.2.2.2.2 i a
/-- the class's answers -/
theorem c11 {I0 : FI} (hS : CSk I0 H A q rr tt aa 12 I) (hn : 1000 ≤ n) : f_11 n I L = some (oI (fnd (ftB H A q rr tt aa) 12)) := by
  have hF := bts_lt (ftB H A q rr tt aa) 12 (by omega)
  unfold f_11
  refine lpGk (fun m k (_ : Unit) => c_11_0 n I L m (nI k)) 12 (fun k _ => fnd (ftB H A q rr tt aa) k = 0) (fun _ => some (oI 0)) (fun r => r = some (oI (fnd (ftB H A q rr tt aa) 12))) n 0 () (by omega) (by omega) rfl (fun h => h) (fun _ h e => ?_) (fun m s hs => ?_) (fun m k s hk hs => ?_)
  · rw [show (0 : Int32) = nI 0 from rfl, e, h]
  · show b_11_0 n I L (c_11_0 n I L m) (nI 12) = _
    unfold b_11_0
    rw [if_pos (by decide), oI_0]
  · have e1 : c_11_0 n I L (m + 1) (nI k) = if ftB H A q rr tt aa k = true then some (nI k) else c_11_0 n I L m (nI (k + 1)) := by
      show b_11_0 n I L (c_11_0 n I L m) (nI k) = _
      unfold b_11_0
      rw [if_neg (show ¬ (12 : Int32) ≤ nI k from nI_ge (b := 12) hk (by omega)), hS.1, ku_bit2 (by omega) (by omega), q_b1, bts_tb, show decide (k < 12) = true from decide_eq_true hk, Bool.true_and, nI_1]
    by_cases h : ftB H A q rr tt aa k = true
    · refine Or.inl ?_
      show c_11_0 n I L (m + 1) (nI k) = _
      rw [e1, if_pos h, fnd_s.mpr ⟨hk, h, fnd_0.mp hs⟩, oI_s]
    · refine Or.inr ⟨(), fnd_n hs (by simpa using h), ?_⟩
      show c_11_0 n I L (m + 1) (nI k) = _
      rw [e1, if_neg h]
end SEEN3
section SEEN4
variable {KP : KPT} {RP : RPT} {Ls : Nat} {xs : Nat → Int32} {a1 a2 a3 a4 a5 : Int32}
theorem l199 {I : FI} {L : FL} {H : HD} {W : Nat → Nat} {A : AD} {n q : Nat} {rr tt aa : Nat → Nat} (ho : HOK H W A) (hC : CH I 3 11 H W A) (nh : Option Nat) {s : Nat} (hs : s < 4) (h81 : I (81 + 2 * s) 2 = nI (3 * q)) (hD : RwD L (82 + 2 * s) 0 q rr tt aa) (hB : RwB H q rr tt aa) (hn : 1000 ≤ n) : ∃ K nh', f_199 n nh (nI s) I L = some (nh', K, L) ∧ CSk I H A q rr tt aa 12 K ∧ K 33 2 = oI (cdo H A q rr tt aa (H.1 4)).1 ∧ K 33 3 = nI (cdo H A q rr tt aa (H.1 4)).2 := by
  rcases (show s = 0 ∨ s = 1 ∨ s = 2 ∨ s = 3 by omega) with rfl | rfl | rfl | rfl
  · exact l199_0 ho hC nh h81 hD hB hn
  · exact l199_1 ho hC nh h81 hD hB hn
  · exact l199_2 ho hC nh h81 hD hB hn
  · exact l199_3 ho hC nh h81 hD hB hn
theorem sk_begins : SOK Ls xs (VV KP RP) 152 328 [.int a1] := by
  intro kp nh rh tl rl I L hV
  have hV0 := hV
  obtain ⟨H, W, A, ⟨hT, hF, ho, hC, hM, hIm, hRw⟩, hR, hW⟩ := hV
  have o0 : H.1 0 ≤ 1000 := ho.1.1
  have o3 : H.1 3 ≤ 30 := ho.1.2.2.2.1
  have o4 : H.1 4 ≤ 4 := ho.1.2.2.2.2.1
  have c0 : I 3 0 = nI (H.1 0) := chs hC (by decide)
  have c3 : I 3 3 = nI (H.1 3) := chs hC (by decide)
  have c4 : I 3 4 = nI (H.1 4) := chs hC (by decide)
  have m0 : u2 I 89 0 0 95 0 = nI (H.1 0) := (u2_c (by decide)).trans hM.1
  have m3 : u2 I 89 0 0 96 2 = nI (H.1 3) := (u2_c (by decide)).trans (mh96 hM (by decide))
  have m4 : u2 I 89 0 0 96 3 = nI (H.1 4) := (u2_c (by decide)).trans (mh96 hM (by decide))
  rcases rfs (n := 2000) ho hC hM hRw a1 (by omega) with ⟨v, hv, r1, r2⟩ | ⟨r1, r2, s, q, rr, tt, aa, hs, rfl, h81, h91, hD, hD2, hB, hh⟩
  · exact ⟨v, kp, nh, rh, tl, rl, I, L, u2 I 89 0 0, L, (t_152 Ls xs 993 kp tl rl nh rh 2000 a1 I L (v, nh, I, L) (by unfold f_152; rw [r1, q_bs, if_neg hv])), (t_328 Ls xs 993 kp tl rl nh rh 2000 a1 I L (v, u2 I 89 0 0, L) (by unfold f_328; rw [r2, q_bs, if_neg hv])), VV_th hV0⟩
  · have hpc : pck (bts (ftB H A q rr tt aa) 12) 12 = cnt (ftB H A q rr tt aa) 12 := by
      rw [cnt_pck]
      exact cnt_cg (fun p hp => by rw [bts_tb, show decide (p < 12) = true from decide_eq_true hp, Bool.true_and])
    obtain ⟨J, nh', j1, j2, j3, j4⟩ := l199 (n := 2000) (L := L) ho hC nh hs h81 hD hB (by omega)
    have fJ : ∀ c i, (c < 26 ∨ 34 < c) → J c i = I c i := j2.2.2.2.2
    have hMJ : MH (u2 J 89 0 0) 0 H W A := MH_th (MH_fr ho hM (fun c hc i => fJ c i (by omega)))
    have e91 : u2 J 89 0 0 91 s = nI (3 * q) := by rw [u2_c (by decide), fJ 91 s (by omega)]; exact h91
    obtain ⟨K, k1, k2, k3, k4, k5, k6⟩ := m327 (n := 2000) (L := L) ho hMJ hs e91 hD2 hB (by omega)
    refine ⟨nI (cnt (ftB H A q rr tt aa) 12), kp, nh', rh, tl, rl, J, L, K, L, (t_152 Ls xs 993 kp tl rl nh rh 2000 (nI s) I L (nI (cnt (ftB H A q rr tt aa) 12), nh', J, L) ?_), (t_328 Ls xs 993 kp tl rl nh' rh 2000 (nI s) J L (nI (cnt (ftB H A q rr tt aa) 12), K, L) ?_), VV_q hV0 (fun c i hc => by rw [k6.1 c i (by omega) (by omega), u2_c (by omega), fJ c i (by omega)]) (fun i hi => by rw [k6.2 i (by omega), u2_o (by omega), fJ 89 i (by omega)])⟩
    · unfold f_152
      rw [r1, q_bs, q_00, j1, q_bs]
      dsimp only
      rw [j2.1, e360b (bts_lt _ 12 (by omega)), q_bs, hpc]
    · unfold f_328
      rw [r2 (u2 J 89 0 0) (fun c i hc => by rw [u2_c (by omega), fJ c i (by omega)]), q_bs, q_00, k1, q_bs]
      dsimp only
      rw [k2]
theorem sk_begun : SOK Ls xs (VV KP RP) 153 329 [.int a1] := by
  intro kp nh rh tl rl I L hV
  have hV0 := hV
  obtain ⟨H, W, A, ⟨hT, hF, ho, hC, hM, hIm, hRw⟩, hR, hW⟩ := hV
  have o0 : H.1 0 ≤ 1000 := ho.1.1
  have o3 : H.1 3 ≤ 30 := ho.1.2.2.2.1
  have o4 : H.1 4 ≤ 4 := ho.1.2.2.2.2.1
  have c0 : I 3 0 = nI (H.1 0) := chs hC (by decide)
  have c3 : I 3 3 = nI (H.1 3) := chs hC (by decide)
  have c4 : I 3 4 = nI (H.1 4) := chs hC (by decide)
  have m0 : u2 I 89 0 0 95 0 = nI (H.1 0) := (u2_c (by decide)).trans hM.1
  have m3 : u2 I 89 0 0 96 2 = nI (H.1 3) := (u2_c (by decide)).trans (mh96 hM (by decide))
  have m4 : u2 I 89 0 0 96 3 = nI (H.1 4) := (u2_c (by decide)).trans (mh96 hM (by decide))
  rcases rfs (n := 2000) ho hC hM hRw a1 (by omega) with ⟨v, hv, r1, r2⟩ | ⟨r1, r2, s, q, rr, tt, aa, hs, rfl, h81, h91, hD, hD2, hB, hh⟩
  · exact ⟨v, kp, nh, rh, tl, rl, I, L, u2 I 89 0 0, L, (t_153 Ls xs 993 kp tl rl nh rh 2000 a1 I L (v, nh, I, L) (by unfold f_153; rw [r1, q_bs, if_neg hv])), (t_329 Ls xs 993 kp tl rl nh rh 2000 a1 I L (v, u2 I 89 0 0, L) (by unfold f_329; rw [r2, q_bs, if_neg hv])), VV_th hV0⟩
  · have hpc : pck (bts (ftB H A q rr tt aa) 12) 12 = cnt (ftB H A q rr tt aa) 12 := by
      rw [cnt_pck]
      exact cnt_cg (fun p hp => by rw [bts_tb, show decide (p < 12) = true from decide_eq_true hp, Bool.true_and])
    obtain ⟨J, nh', j1, j2, j3, j4⟩ := l199 (n := 2000) (L := L) ho hC nh hs h81 hD hB (by omega)
    have fJ : ∀ c i, (c < 26 ∨ 34 < c) → J c i = I c i := j2.2.2.2.2
    have hMJ : MH (u2 J 89 0 0) 0 H W A := MH_th (MH_fr ho hM (fun c hc i => fJ c i (by omega)))
    have e91 : u2 J 89 0 0 91 s = nI (3 * q) := by rw [u2_c (by decide), fJ 91 s (by omega)]; exact h91
    obtain ⟨K, k1, k2, k3, k4, k5, k6⟩ := m327 (n := 2000) (L := L) ho hMJ hs e91 hD2 hB (by omega)
    refine ⟨oI (fnd (ftB H A q rr tt aa) 12), kp, nh', rh, tl, rl, J, L, K, L, (t_153 Ls xs 993 kp tl rl nh rh 2000 (nI s) I L (oI (fnd (ftB H A q rr tt aa) 12), nh', J, L) ?_), (t_329 Ls xs 993 kp tl rl nh' rh 2000 (nI s) J L (oI (fnd (ftB H A q rr tt aa) 12), K, L) ?_), VV_q hV0 (fun c i hc => by rw [k6.1 c i (by omega) (by omega), u2_c (by omega), fJ c i (by omega)]) (fun i hi => by rw [k6.2 i (by omega), u2_o (by omega), fJ 89 i (by omega)])⟩
    · unfold f_153
      rw [r1, q_bs, q_00, j1, q_bs]
      dsimp only
      rw [c11 j2 (by omega), q_bs]
    · unfold f_329
      rw [r2 (u2 J 89 0 0) (fun c i hc => by rw [u2_c (by omega), fJ c i (by omega)]), q_bs, q_00, k1, q_bs]
      dsimp only
      rw [k3]
theorem sk_window : SOK Ls xs (VV KP RP) 154 330 [.int a1] := by
  intro kp nh rh tl rl I L hV
  have hV0 := hV
  obtain ⟨H, W, A, ⟨hT, hF, ho, hC, hM, hIm, hRw⟩, hR, hW⟩ := hV
  have o0 : H.1 0 ≤ 1000 := ho.1.1
  have o3 : H.1 3 ≤ 30 := ho.1.2.2.2.1
  have o4 : H.1 4 ≤ 4 := ho.1.2.2.2.2.1
  have c0 : I 3 0 = nI (H.1 0) := chs hC (by decide)
  have c3 : I 3 3 = nI (H.1 3) := chs hC (by decide)
  have c4 : I 3 4 = nI (H.1 4) := chs hC (by decide)
  have m0 : u2 I 89 0 0 95 0 = nI (H.1 0) := (u2_c (by decide)).trans hM.1
  have m3 : u2 I 89 0 0 96 2 = nI (H.1 3) := (u2_c (by decide)).trans (mh96 hM (by decide))
  have m4 : u2 I 89 0 0 96 3 = nI (H.1 4) := (u2_c (by decide)).trans (mh96 hM (by decide))
  rcases rfs (n := 2000) ho hC hM hRw a1 (by omega) with ⟨v, hv, r1, r2⟩ | ⟨r1, r2, s, q, rr, tt, aa, hs, rfl, h81, h91, hD, hD2, hB, hh⟩
  · exact ⟨v, kp, nh, rh, tl, rl, I, L, u2 I 89 0 0, L, (t_154 Ls xs 993 kp tl rl nh rh 2000 a1 I L (v, nh, I, L) (by unfold f_154; rw [r1, q_bs, if_neg hv])), (t_330 Ls xs 993 kp tl rl nh rh 2000 a1 I L (v, u2 I 89 0 0, L) (by unfold f_330; rw [r2, q_bs, if_neg hv])), VV_th hV0⟩
  · have hpc : pck (bts (ftB H A q rr tt aa) 12) 12 = cnt (ftB H A q rr tt aa) 12 := by
      rw [cnt_pck]
      exact cnt_cg (fun p hp => by rw [bts_tb, show decide (p < 12) = true from decide_eq_true hp, Bool.true_and])
    obtain ⟨J, nh', j1, j2, j3, j4⟩ := l199 (n := 2000) (L := L) ho hC nh hs h81 hD hB (by omega)
    have fJ : ∀ c i, (c < 26 ∨ 34 < c) → J c i = I c i := j2.2.2.2.2
    have hMJ : MH (u2 J 89 0 0) 0 H W A := MH_th (MH_fr ho hM (fun c hc i => fJ c i (by omega)))
    have e91 : u2 J 89 0 0 91 s = nI (3 * q) := by rw [u2_c (by decide), fJ 91 s (by omega)]; exact h91
    obtain ⟨K, k1, k2, k3, k4, k5, k6⟩ := m327 (n := 2000) (L := L) ho hMJ hs e91 hD2 hB (by omega)
    refine ⟨oI (cdo H A q rr tt aa (H.1 4)).1, kp, nh', rh, tl, rl, J, L, K, L, (t_154 Ls xs 993 kp tl rl nh rh 2000 (nI s) I L (oI (cdo H A q rr tt aa (H.1 4)).1, nh', J, L) ?_), (t_330 Ls xs 993 kp tl rl nh' rh 2000 (nI s) J L (oI (cdo H A q rr tt aa (H.1 4)).1, K, L) ?_), VV_q hV0 (fun c i hc => by rw [k6.1 c i (by omega) (by omega), u2_c (by omega), fJ c i (by omega)]) (fun i hi => by rw [k6.2 i (by omega), u2_o (by omega), fJ 89 i (by omega)])⟩
    · unfold f_154
      rw [r1, q_bs, q_00, j1, q_bs]
      dsimp only
      rw [j3]
    · unfold f_330
      rw [r2 (u2 J 89 0 0) (fun c i hc => by rw [u2_c (by omega), fJ c i (by omega)]), q_bs, q_00, k1, q_bs]
      dsimp only
      rw [k4]
theorem sk_leaves : SOK Ls xs (VV KP RP) 155 331 [.int a1] := by
  intro kp nh rh tl rl I L hV
  have hV0 := hV
  obtain ⟨H, W, A, ⟨hT, hF, ho, hC, hM, hIm, hRw⟩, hR, hW⟩ := hV
  have o0 : H.1 0 ≤ 1000 := ho.1.1
  have o3 : H.1 3 ≤ 30 := ho.1.2.2.2.1
  have o4 : H.1 4 ≤ 4 := ho.1.2.2.2.2.1
  have c0 : I 3 0 = nI (H.1 0) := chs hC (by decide)
  have c3 : I 3 3 = nI (H.1 3) := chs hC (by decide)
  have c4 : I 3 4 = nI (H.1 4) := chs hC (by decide)
  have m0 : u2 I 89 0 0 95 0 = nI (H.1 0) := (u2_c (by decide)).trans hM.1
  have m3 : u2 I 89 0 0 96 2 = nI (H.1 3) := (u2_c (by decide)).trans (mh96 hM (by decide))
  have m4 : u2 I 89 0 0 96 3 = nI (H.1 4) := (u2_c (by decide)).trans (mh96 hM (by decide))
  rcases rfs (n := 2000) ho hC hM hRw a1 (by omega) with ⟨v, hv, r1, r2⟩ | ⟨r1, r2, s, q, rr, tt, aa, hs, rfl, h81, h91, hD, hD2, hB, hh⟩
  · exact ⟨v, kp, nh, rh, tl, rl, I, L, u2 I 89 0 0, L, (t_155 Ls xs 993 kp tl rl nh rh 2000 a1 I L (v, nh, I, L) (by unfold f_155; rw [r1, q_bs, if_neg hv])), (t_331 Ls xs 993 kp tl rl nh rh 2000 a1 I L (v, u2 I 89 0 0, L) (by unfold f_331; rw [r2, q_bs, if_neg hv])), VV_th hV0⟩
  · have hpc : pck (bts (ftB H A q rr tt aa) 12) 12 = cnt (ftB H A q rr tt aa) 12 := by
      rw [cnt_pck]
      exact cnt_cg (fun p hp => by rw [bts_tb, show decide (p < 12) = true from decide_eq_true hp, Bool.true_and])
    obtain ⟨J, nh', j1, j2, j3, j4⟩ := l199 (n := 2000) (L := L) ho hC nh hs h81 hD hB (by omega)
    have fJ : ∀ c i, (c < 26 ∨ 34 < c) → J c i = I c i := j2.2.2.2.2
    have hMJ : MH (u2 J 89 0 0) 0 H W A := MH_th (MH_fr ho hM (fun c hc i => fJ c i (by omega)))
    have e91 : u2 J 89 0 0 91 s = nI (3 * q) := by rw [u2_c (by decide), fJ 91 s (by omega)]; exact h91
    obtain ⟨K, k1, k2, k3, k4, k5, k6⟩ := m327 (n := 2000) (L := L) ho hMJ hs e91 hD2 hB (by omega)
    refine ⟨nI (cdo H A q rr tt aa (H.1 4)).2, kp, nh', rh, tl, rl, J, L, K, L, (t_155 Ls xs 993 kp tl rl nh rh 2000 (nI s) I L (nI (cdo H A q rr tt aa (H.1 4)).2, nh', J, L) ?_), (t_331 Ls xs 993 kp tl rl nh' rh 2000 (nI s) J L (nI (cdo H A q rr tt aa (H.1 4)).2, K, L) ?_), VV_q hV0 (fun c i hc => by rw [k6.1 c i (by omega) (by omega), u2_c (by omega), fJ c i (by omega)]) (fun i hi => by rw [k6.2 i (by omega), u2_o (by omega), fJ 89 i (by omega)])⟩
    · unfold f_155
      rw [r1, q_bs, q_00, j1, q_bs]
      dsimp only
      rw [j4]
    · unfold f_331
      rw [r2 (u2 J 89 0 0) (fun c i hc => by rw [u2_c (by omega), fJ c i (by omega)]), q_bs, q_00, k1, q_bs]
      dsimp only
      rw [k5]
end SEEN4
