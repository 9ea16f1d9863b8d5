/-! LAYER 3: the model's ways and distances -/
section MFAR
variable {I : FI} {L : FL} {H : HD} {W : Nat → Nat} {A : AD} {n : Nat}
theorem e247 {a k : Nat} (hk : k < 32) (ha : a < 2 ^ 31) : f_247 (nI a) (nI k) I L = some (bI (a.testBit k = true)) := by
  unfold f_247
  rw [ku_bit2 hk ha]
  by_cases h : a.testBit k = true
  · rw [bI_p h, if_neg (by decide)]
  · rw [bI_n h, if_pos (by decide)]
theorem e237 (hM : MH I 0 H W A) : f_237 I L = some (nI (H.1 4)) := by unfold f_237; rw [mh96 hM (by decide)]
theorem e238 (hM : MH I 0 H W A) : f_238 I L = some (nI (H.1 3)) := by unfold f_238; rw [mh96 hM (by decide)]
theorem e249 (ho : HOK H W A) (hM : MH I 0 H W A) {a b : Nat} (ha : a < 4) (hb : b < 4) (hn : 1000 ≤ n) : f_249 n (nI a) (nI b) I L = some (bI (dor H a b = true)) := by
  have o5 : H.1 5 ≤ 6 := ho.1.2.2.2.2.2.1
  have o4 : H.1 4 ≤ 4 := ho.1.2.2.2.2.1
  have hw := ho.2.2.2.2.1
  have m5 : I 96 4 = nI (H.1 5) := mh96 hM (by decide)
  unfold f_249
  refine lpGk (fun m k (_ : Unit) => c_249_0 n I L m (nI a) (nI b) (nI k)) (H.1 5) (fun k _ => ∀ j, j < k → ¬ ((H.2 4 j = a ∧ H.2 5 j = b) ∨ (H.2 4 j = b ∧ H.2 5 j = a))) (fun _ => some 0) (fun q => q = some (bI (dor H a b = true))) n 0 () (by omega) (by omega) (fun j hj => absurd hj (by omega)) (fun h => ?_) (fun _ h e => ?_) (fun m s hs => ?_) (fun m k s hk hs => ?_)
  · exact h
  · rw [show (0 : Int32) = nI 0 from rfl, e, bI_n]
    intro q
    obtain ⟨j, hj, h2⟩ := (dor_iff ho a b).mp q
    exact h j hj h2
  · show b_249_0 n I L (c_249_0 n I L m) (nI a) (nI b) (nI (H.1 5)) = _
    unfold b_249_0
    rw [m5, if_pos (nI_le (Nat.le_refl _) (by omega))]
  · have hk2 := hw k hk
    have e1 : c_249_0 n I L (m + 1) (nI a) (nI b) (nI k) = if (H.2 4 k = a ∧ H.2 5 k = b) ∨ (H.2 4 k = b ∧ H.2 5 k = a) then some 1 else c_249_0 n I L m (nI a) (nI b) (nI (k + 1)) := by
      have e2 : c_249_1 n I L (c_249_0 n I L m) (nI a) (nI b) (nI k) = if H.2 4 k = b ∧ H.2 5 k = a then some 1 else c_249_0 n I L m (nI a) (nI b) (nI (k + 1)) := by
        unfold c_249_1 c_249_2
        rw [ku_2, pk_mul, ku_if (by omega) (by omega), nI_clamp (by omega), mhw1 hM hk, nI_1, nI_1, ku_if (by omega) (by omega), nI_clamp (by omega), mhw2 hM hk]
        by_cases h1 : H.2 4 k = b
        · rw [if_neg (by rw [h1]; exact fun q => q rfl)]
          by_cases h2 : H.2 5 k = a
          · rw [if_neg (by rw [h2]; exact fun q => q rfl), if_pos ⟨h1, h2⟩]
          · rw [if_pos (by rw [nI_eq (by omega) (by omega)]; exact h2), if_neg (fun q => h2 q.2)]
        · rw [if_pos (by rw [nI_eq (by omega) (by omega)]; exact h1), if_neg (fun q => h1 q.1)]
      show b_249_0 n I L (c_249_0 n I L m) (nI a) (nI b) (nI k) = _
      unfold b_249_0
      rw [e2, m5, if_neg (nI_ge hk (by omega)), ku_2, pk_mul, ku_if (by omega) (by omega), nI_clamp (by omega), mhw1 hM hk, nI_1, ku_if (by omega) (by omega), nI_clamp (by omega), mhw2 hM hk]
      by_cases h1 : H.2 4 k = a
      · rw [if_neg (by rw [h1]; exact fun q => q rfl)]
        by_cases h2 : H.2 5 k = b
        · rw [if_pos (by rw [h2]), if_pos (Or.inl ⟨h1, h2⟩)]
        · rw [if_neg (by rw [nI_eq (by omega) (by omega)]; exact h2)]
          by_cases h3 : H.2 4 k = b ∧ H.2 5 k = a
          · rw [if_pos h3, if_pos (Or.inr h3)]
          · rw [if_neg h3, if_neg (fun q => q.elim (fun q => h2 q.2) h3)]
      · rw [if_pos (by rw [nI_eq (by omega) (by omega)]; exact h1)]
        by_cases h3 : H.2 4 k = b ∧ H.2 5 k = a
        · rw [if_pos h3, if_pos (Or.inr h3)]
        · rw [if_neg h3, if_neg (fun q => q.elim (fun q => h1 q.1) h3)]
    by_cases hp : (H.2 4 k = a ∧ H.2 5 k = b) ∨ (H.2 4 k = b ∧ H.2 5 k = a)
    · refine Or.inl ?_
      show c_249_0 n I L (m + 1) (nI a) (nI b) (nI k) = _
      rw [e1, if_pos hp, bI_p ((dor_iff ho a b).mpr ⟨k, hk, hp⟩)]
    · refine Or.inr ⟨(), fun j hj => ?_, ?_⟩
      · rcases (show j < k ∨ j = k by omega) with h3 | rfl
        · exact hs j h3
        · exact hp
      · show c_249_0 n I L (m + 1) (nI a) (nI b) (nI k) = _
        rw [e1, if_neg hp]
theorem e250 (ho : HOK H W A) (hM : MH I 0 H W A) {a b : Nat} (ha : a < 4) (hb : b < 4) (hn : 1000 ≤ n) : f_250 n (nI a) (nI b) I L = some (bI (a = b ∨ dor H a b = true)) := by
  unfold f_250
  by_cases e : a = b
  · rw [if_pos (by rw [e]), bI_p (Or.inl e)]
  · rw [if_neg (by rw [nI_eq (by omega) (by omega)]; exact e), e249 ho hM ha hb hn, q_bs, q_b1]
    by_cases h : dor H a b = true
    · rw [if_pos h, bI_p (Or.inr h)]
    · rw [if_neg h, bI_n (fun q => q.elim e h)]
/-- what the rows of farFrom must hold, at each time; after t rounds -/
def fS (H : HD) (a : Nat) (f : Nat → Nat) : Prop := ∀ y, y < H.1 4 → f y = 100000 ∨ (f y < 100000 ∧ dst (dor H) a y ≠ 0 ∧ dst (dor H) a y ≤ f y + 1)
def fC (H : HD) (a t : Nat) (f : Nat → Nat) : Prop := ∀ y, y < H.1 4 → dst (dor H) a y ≠ 0 → dst (dor H) a y ≤ t + 1 → f y + 1 ≤ dst (dor H) a y
def fJ (I J : FI) (H : HD) (f : Nat → Nat) : Prop := (∀ y, y < H.1 4 → J 103 y = nI (f y)) ∧ ∀ b i, b ≠ 103 → J b i = I b i
/-- one look at a pair of rooms -/
def fup (H : HD) (f : Nat → Nat) (x y z : Nat) : Nat := if (dor H x y = true ∧ f x + 1 < f y) ∧ z = y then f x + 1 else f z
theorem fup_S (ho : HOK H W A) {a x y : Nat} {f : Nat → Nat} (ha : a < H.1 4) (hx : x < H.1 4) (hy : y < H.1 4) (h : fS H a f) : fS H a (fup H f x y) := by
  have o4 : H.1 4 ≤ 4 := ho.1.2.2.2.2.1
  intro z hz
  unfold fup
  by_cases hc : (dor H x y = true ∧ f x + 1 < f y) ∧ z = y
  · rw [if_pos hc]
    obtain ⟨⟨hc1, hc2⟩, rfl⟩ := hc
    have h1 := h z hz
    rcases h x hx with h2 | ⟨h2, h3, h4⟩
    · have : f z ≤ 100000 := by omega
      omega
    · have := dD1 ho (by omega) (by omega) (by omega) h3 hc1
      exact Or.inr ⟨by omega, this.1, by omega⟩
  · rw [if_neg hc]; exact h z hz
theorem fup_le (H : HD) (f : Nat → Nat) (x y z : Nat) : fup H f x y z ≤ f z := by
  unfold fup
  split
  · rename_i hc
    obtain ⟨⟨hc1, hc2⟩, rfl⟩ := hc
    omega
  · exact Nat.le_refl _
theorem fC_le {a t : Nat} {f f' : Nat → Nat} (h : fC H a t f) (hl : ∀ z, f' z ≤ f z) : fC H a t f' := fun y hy h0 h1 => by
  have := h y hy h0 h1
  have := hl y
  omega
/-- the pairs looked at in this round: rooms ahead of x, and of x those ahead of k -/
def fQ (H : HD) (a t x k : Nat) (f : Nat → Nat) : Prop := ∀ p y, (p < x ∨ (p = x ∧ y < k)) → y < H.1 4 → dor H p y = true → dst (dor H) a p = t + 1 → f y + 1 ≤ t + 2
def fI (I : FI) (H : HD) (a t x k : Nat) (J : FI) : Prop := ∃ f, fJ I J H f ∧ fS H a f ∧ fC H a t f ∧ fQ H a t x k f
theorem MH_far {J : FI} (ho : HOK H W A) (hM : MH I 0 H W A) (h : ∀ b i, b ≠ 103 → J b i = I b i) : MH J 0 H W A := MH_fr ho hM (fun c hc i => h c i (by omega))
theorem l251_3 (ho : HOK H W A) (hM : MH I 0 H W A) {a t x : Nat} {b z : Int32} (ha : a < H.1 4) (hx : x < H.1 4) {K1 : Int32 → Int32 → FI → FL → Option (Int32 × FI × FL)} {K2 : Int32 → Int32 → Int32 → FI → FL → Option (Int32 × FI × FL)} (hn : 1000 ≤ n) {J : FI} (hJ : fI I H a t x 0 J) :
    ∃ J', fI I H a t x (H.1 4) J' ∧ c_251_3 n K1 K2 n b z (nI x) (nI 0) J L = K2 b z (nI (x + 1)) J' L := by
  have o4 : H.1 4 ≤ 4 := ho.1.2.2.2.2.1
  refine lpE (fun m k (s : FI) => c_251_3 n K1 K2 m b z (nI x) (nI k) s L) (H.1 4) (fun k s => fI I H a t x k s) (fun s => K2 b z (nI (x + 1)) s L) (fun m s hs => ?_) (fun m k s hk hs => ?_) n 0 J (by omega) (by omega) hJ
  · obtain ⟨f, ⟨j1, j2⟩, _⟩ := hs
    show b_251_3 n K1 K2 (c_251_3 n K1 K2 m) b z (nI x) (nI (H.1 4)) s L = _
    unfold b_251_3
    rw [e237 (MH_far ho hM j2), q_bs, if_pos (nI_le (Nat.le_refl _) (by omega)), nI_1]
  · obtain ⟨f, ⟨j1, j2⟩, hS, hC, hQ⟩ := hs
    have hMs := MH_far ho hM j2
    have fx : f x ≤ 100000 := by rcases hS x hx with h | h <;> omega
    have fk : f k ≤ 100000 := by rcases hS k hk with h | h <;> omega
    have hl := fup_le H f x k
    refine ⟨if dor H x k = true ∧ f x + 1 < f k then u2 s 103 k (nI (f x + 1)) else s, ⟨fup H f x k, ⟨fun y hy => ?_, fun c i hc => ?_⟩, fup_S ho ha hx hk hS, fC_le hC hl, fun p y hp hy hd hp2 => ?_⟩, ?_⟩
    · unfold fup
      by_cases hc : dor H x k = true ∧ f x + 1 < f k
      · rw [if_pos hc]
        by_cases e : y = k
        · subst e; rw [u2_s, if_pos ⟨hc, rfl⟩]
        · rw [u2_o e, if_neg (fun q => e q.2)]; exact j1 y hy
      · rw [if_neg hc, if_neg (fun q => hc q.1)]; exact j1 y hy
    · split
      · rw [u2_c hc]; exact j2 c i hc
      · exact j2 c i hc
    · have hly := hl y
      by_cases hpp : p < x ∨ (p = x ∧ y < k)
      · have := hQ p y hpp hy hd hp2; omega
      · obtain ⟨rfl, rfl⟩ : p = x ∧ y = k := by omega
        have h1 := hC p hx (by omega) (by omega)
        have : fup H f p y y ≤ f p + 1 := by
          unfold fup
          by_cases hc : dor H p y = true ∧ f p + 1 < f y
          · rw [if_pos ⟨hc, rfl⟩]; exact Nat.le_refl _
          · rw [if_neg (fun q => hc q.1)]
            have : ¬ f p + 1 < f y := fun q => hc ⟨hd, q⟩
            omega
        omega
    · show b_251_3 n K1 K2 (c_251_3 n K1 K2 m) b z (nI x) (nI k) s L = _
      unfold b_251_3
      rw [e237 hMs, q_bs, if_neg (nI_ge hk (by omega)), e249 ho hMs (by omega) (by omega) hn, q_bs, q_b1]
      unfold c_251_4
      rw [nI_1]
      by_cases hd : dor H x k = true
      · rw [if_pos hd, ku_if (by omega) (by omega), ku_if (by omega) (by omega), nI_clamp (by omega), nI_clamp (by omega), j1 k hk, j1 x hx, nI_1]
        by_cases hf : f x + 1 < f k
        · rw [if_neg (nI_ge hf (by omega)), ku_if (by omega) (by omega), ku_if (by omega) (by omega), if_pos ⟨hd, hf⟩]
        · rw [if_pos (nI_le (by omega) (by omega)), if_neg (fun q => hf q.2)]
      · rw [if_neg hd, if_neg (fun q => hd q.1)]
theorem l251_2 (ho : HOK H W A) (hM : MH I 0 H W A) {a t : Nat} {b z : Int32} (ha : a < H.1 4) {K1 : Int32 → Int32 → FI → FL → Option (Int32 × FI × FL)} (hn : 1000 ≤ n) {J : FI} (hJ : fI I H a t 0 0 J) :
    ∃ J', fI I H a t (H.1 4) 0 J' ∧ c_251_2 n K1 n b z (nI 0) J L = K1 b (z + 1) J' L := by
  have o4 : H.1 4 ≤ 4 := ho.1.2.2.2.2.1
  refine lpE (fun m k (s : FI) => c_251_2 n K1 m b z (nI k) s L) (H.1 4) (fun k s => fI I H a t k 0 s) (fun s => K1 b (z + 1) s L) (fun m s hs => ?_) (fun m k s hk hs => ?_) n 0 J (by omega) (by omega) hJ
  · obtain ⟨f, ⟨j1, j2⟩, _⟩ := hs
    show b_251_2 n K1 (c_251_2 n K1 m) b z (nI (H.1 4)) s L = _
    unfold b_251_2
    rw [e237 (MH_far ho hM j2), q_bs, if_pos (nI_le (Nat.le_refl _) (by omega))]
  · have hs0 := hs
    obtain ⟨f, ⟨j1, j2⟩, _⟩ := hs
    obtain ⟨J', ⟨f', hj, hS, hC, hQ⟩, je⟩ := l251_3 (n := n) (L := L) (K1 := K1) (K2 := c_251_2 n K1 m) (b := b) (z := z) ho hM ha hk hn hs0
    refine ⟨J', ⟨f', hj, hS, hC, fun p y hp hy hd h2 => hQ p y (by omega) hy hd h2⟩, ?_⟩
    show b_251_2 n K1 (c_251_2 n K1 m) b z (nI k) s L = _
    unfold b_251_2
    rw [e237 (MH_far ho hM j2), q_bs, if_neg (nI_ge hk (by omega)), show (0 : Int32) = nI 0 from rfl, je]
def fvl (H : HD) (a b : Nat) : Nat := if dst (dor H) a b = 0 then 100000 else dst (dor H) a b - 1
theorem fvl_of (ho : HOK H W A) {a b t : Nat} {f : Nat → Nat} (ha : a < H.1 4) (hb : b < H.1 4) (ht : H.1 4 ≤ t + 1) (hS : fS H a f) (hC : fC H a t f) : f b = fvl H a b := by
  have h3 := dD3 ho ha hb
  have h4 := dst_le (dor H) a b
  have h1 := hS b hb
  have h2 := hC b hb
  unfold fvl
  split
  · rcases h1 with h | h
    · exact h
    · omega
  · have := h2 (by omega) (by omega)
    omega
theorem e251 (ho : HOK H W A) (hM : MH I 0 H W A) {a b : Nat} (ha : a < H.1 4) (hb : b < H.1 4) (hn : 1000 ≤ n) : ∃ J, f_251 n (nI a) (nI b) I L = some (nI (fvl H a b), J, L) ∧ ∀ c i, c ≠ 103 → J c i = I c i := by
  have o4 : H.1 4 ≤ 4 := ho.1.2.2.2.2.1
  obtain ⟨J0, ⟨j1, j2⟩, je⟩ := lpE (fun m k (s : FI) => c_251_0 n m (nI a) (nI b) (nI k) s L) (H.1 4) (fun k s => (∀ y, y < k → s 103 y = nI (if y = a then 0 else 100000)) ∧ ∀ c i, c ≠ 103 → s c i = I c i) (fun s => c_251_1 n n (nI b) (nI 1) s L) (fun m s hs => by
      show b_251_0 n (c_251_0 n m) (nI a) (nI b) (nI (H.1 4)) s L = _
      unfold b_251_0
      rw [e237 (MH_far ho hM hs.2), q_bs, if_pos (nI_le (Nat.le_refl _) (by omega))]; rfl) (fun m k s hk hs => by
      refine ⟨u2 s 103 k (nI (if k = a then 0 else 100000)), ⟨fun y hy => ?_, fun c i hc => ?_⟩, ?_⟩
      · by_cases e : y = k
        · subst e; exact u2_s
        · rw [u2_o e]; exact hs.1 y (by omega)
      · rw [u2_c hc]; exact hs.2 c i hc
      · show b_251_0 n (c_251_0 n m) (nI a) (nI b) (nI k) s L = _
        unfold b_251_0 c_251_5
        rw [e237 (MH_far ho hM hs.2), q_bs, if_neg (nI_ge hk (by omega)), ku_if (by omega) (by omega), ku_if (by omega) (by omega), nI_clamp (by omega), nI_1]
        by_cases e : k = a
        · rw [if_neg (by rw [e]; exact fun q => q rfl), if_pos e]; rfl
        · rw [if_pos (by rw [nI_eq (by omega) (by omega)]; exact e), if_neg e]; rfl) n 0 I (by omega) (by omega) ⟨fun y hy => absurd hy (by omega), fun _ _ _ => rfl⟩
  have h0 : ∃ f, fJ I J0 H f ∧ fS H a f ∧ fC H a 0 f := by
    refine ⟨fun y => if y = a then 0 else 100000, ⟨j1, j2⟩, fun y hy => ?_, fun y hy h1 h2 => ?_⟩
    · by_cases e : y = a
      · subst e
        have := (dst_1 (dor H) y y).mpr rfl
        dsimp only
        rw [if_pos rfl]; omega
      · dsimp only
        rw [if_neg e]; exact Or.inl rfl
    · have : dst (dor H) a y = 1 := by omega
      have e := (dst_1 (dor H) a y).mp this
      dsimp only
      rw [if_pos e.symm]; omega
  obtain ⟨J1, ⟨f, ⟨k1, k2⟩, kS, kC⟩, ke⟩ := lpE (fun m k (s : FI) => c_251_1 n m (nI b) (nI k) s L) (H.1 4) (fun k s => ∃ f, fJ I s H f ∧ fS H a f ∧ fC H a (k - 1) f) (fun s => some (s 103 b, s, L)) (fun m s hs => by
      obtain ⟨f, ⟨q1, q2⟩, _⟩ := hs
      show b_251_1 n (c_251_1 n m) (nI b) (nI (H.1 4)) s L = _
      unfold b_251_1
      rw [e237 (MH_far ho hM q2), q_bs, if_pos (nI_le (Nat.le_refl _) (by omega)), ku_if (by omega) (by omega), nI_clamp (by omega)]) (fun m k s hk hs => by
      obtain ⟨f, ⟨q1, q2⟩, qS, qC⟩ := hs
      by_cases k0 : k = 0
      · -- never asked: the loop begins at 1
        subst k0
        obtain ⟨J', ⟨f', hj, hS, hC, hQ⟩, je⟩ := l251_2 (n := n) (L := L) (K1 := c_251_1 n m) (b := nI b) (z := nI 0) (t := 0) ho hM ha hn ⟨f, ⟨q1, q2⟩, qS, qC, fun p y hp => absurd hp (by omega)⟩
        refine ⟨J', ⟨f', hj, hS, hC⟩, ?_⟩
        show b_251_1 n (c_251_1 n m) (nI b) (nI 0) s L = _
        unfold b_251_1
        rw [e237 (MH_far ho hM q2), q_bs, if_neg (nI_ge hk (by omega)), show (0 : Int32) = nI 0 from rfl, je, nI_1]
      obtain ⟨J', ⟨f', hj, hS, hC, hQ⟩, je⟩ := l251_2 (n := n) (L := L) (K1 := c_251_1 n m) (b := nI b) (z := nI k) (t := k - 1) ho hM ha hn ⟨f, ⟨q1, q2⟩, qS, qC, fun p y hp => absurd hp (by omega)⟩
      refine ⟨J', ⟨f', hj, hS, fun y hy h1 h2 => ?_⟩, ?_⟩
      · by_cases h3 : dst (dor H) a y ≤ (k - 1) + 1
        · exact hC y hy h1 h3
        · obtain ⟨x, hx, hx2, hx3⟩ := dD2 ho (a := a) (y := y) (by omega) (by omega) (by omega)
          have hxl := (dor_lt ho hx3).1
          have := hQ x y (Or.inl hxl) hy hx3 (by omega)
          omega
      · show b_251_1 n (c_251_1 n m) (nI b) (nI k) s L = _
        unfold b_251_1
        rw [e237 (MH_far ho hM q2), q_bs, if_neg (nI_ge hk (by omega)), show (0 : Int32) = nI 0 from rfl, je, nI_1]) n 1 J0 (by omega) (by omega) h0
  refine ⟨J1, ?_, k2⟩
  unfold f_251
  rw [show (0 : Int32) = nI 0 from rfl, je, ke, k1 b hb, fvl_of ho ha hb (by omega) kS kC]
end MFAR
