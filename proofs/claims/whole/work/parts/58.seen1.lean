/-! LAYER 3: a row as what was seen: refusals, agreement; laws. Printed by wip/whole/gen58.py -/
section SEEN1
variable {I : FI} {L : FL} {H : HD} {W : Nat → Nat} {A : AD} {g : NG} {n : Nat}
/-- numbers of a row, three each -/
def RwD (L : FL) (c b q : Nat) (rr tt aa : Nat → Nat) : Prop := ∀ k, k < q → L c (b + 3 * k) = lN (rr k) ∧ L c (b + 3 * k + 1) = lN (tt k) ∧ L c (b + 3 * k + 2) = lN (aa k)
def RwB (H : HD) (q : Nat) (rr tt aa : Nat → Nat) : Prop := q ≤ 20 ∧ ∀ k, k < q → rr k < H.1 4 ∧ tt k < H.1 3 ∧ aa k < 100
/-- a number in its bounds -/
abbrev inB (y : Int64) (b : Nat) : Prop := 0 ≤ y.toInt ∧ y.toInt < (b : Int)
theorem inB_n {y : Int64} {b : Nat} (hb : b < 2 ^ 31) (h : inB y b) : ∃ j, j < b ∧ y = lN j := by
  refine ⟨y.toInt.toNat, by have := h.1; have := h.2; omega, ?_⟩
  rw [fa_eq64, lN_toInt (by have := h.1; have := h.2; omega)]
  have := h.1; omega
def rwOK (H : HD) (L : FL) (c b k : Nat) : Prop := inB (L c (b + 3 * k)) (H.1 4) ∧ inB (L c (b + 3 * k + 1)) (H.1 3) ∧ inB (L c (b + 3 * k + 2)) 100
theorem rwOK_d (ho : HOK H W A) {c b q : Nat} (hq : q ≤ 20) (h : ∀ k, k < q → rwOK H L c b k) : ∃ rr tt aa, RwD L c b q rr tt aa ∧ RwB H q rr tt aa := by
  have o3 : H.1 3 ≤ 30 := ho.1.2.2.2.1
  have o4 : H.1 4 ≤ 4 := ho.1.2.2.2.2.1
  refine ⟨fun k => (L c (b + 3 * k)).toInt.toNat, fun k => (L c (b + 3 * k + 1)).toInt.toNat, fun k => (L c (b + 3 * k + 2)).toInt.toNat, fun k hk => ?_, hq, fun k hk => ?_⟩
  · obtain ⟨h1, h2, h3⟩ := h k hk
    obtain ⟨j1, _, e1⟩ := inB_n (by omega) h1
    obtain ⟨j2, _, e2⟩ := inB_n (by omega) h2
    obtain ⟨j3, _, e3⟩ := inB_n (by omega) h3
    refine ⟨?_, ?_, ?_⟩
    · dsimp only; rw [e1, lN_toInt (by omega)]; rfl
    · dsimp only; rw [e2, lN_toInt (by omega)]; rfl
    · dsimp only; rw [e3, lN_toInt (by omega)]; rfl
  · obtain ⟨h1, h2, h3⟩ := h k hk
    have a1 := h1.1; have a2 := h1.2; have b1 := h2.1; have b2 := h2.2; have c1 := h3.1; have c2 := h3.2
    dsimp only
    omega
/-- the night is as a row tells -/
def agrP (H : HD) (g : NG) (q : Nat) (rr tt aa : Nat → Nat) : Prop := ∀ k, k < q → na H g (tt k) (rr k) = aa k
theorem cmp_e {a b : Nat} (ha : a < 2 ^ 31) (hb : b < 2 ^ 31) : lg_cmp (nI a).toInt64 (lN b) = 0 ↔ a = b := by
  have h1 := q_cmp_lt (nI a).toInt64 (lN b)
  have h2 := q_cmp_gt (nI a).toInt64 (lN b)
  rw [Int32.toInt_toInt64, nI_toInt ha, lN_toInt hb] at h1 h2
  rw [fa_lt, i0] at h1 h2
  rw [fa_eq, i0]
  omega
theorem m326 (ho : HOK H W A) (hM : MH I 0 H W A) (hN : NMk I H g (H.1 3)) (hg : GOK H g) {s q : Nat} {rr tt aa : Nat → Nat} (hs : s < 4) (h91 : I 91 s = nI (3 * q)) (hD : RwD L 92 (60 * s) q rr tt aa) (hB : RwB H q rr tt aa) (hn : 1000 ≤ n) : (agrP H g q rr tt aa → f_326 n (nI s) I L = some 1) ∧ (¬ agrP H g q rr tt aa → f_326 n (nI s) I L = some 0) := by
  have o3 : H.1 3 ≤ 30 := ho.1.2.2.2.1
  have o4 : H.1 4 ≤ 4 := ho.1.2.2.2.2.1
  obtain ⟨hq, hB⟩ := hB
  have e1 : ∀ m k, k < q → c_326_0 n I L (m + 1) (nI s) (nI (3 * k)) = if na H g (tt k) (rr k) = aa k then c_326_0 n I L m (nI s) (nI (3 * (k + 1))) else some 0 := fun m k hk => by
    obtain ⟨d1, d2, d3⟩ := hD k hk
    obtain ⟨b1, b2, b3⟩ := hB k hk
    have hl := na_l hg b1 (tt k)
    show b_326_0 n I L (c_326_0 n I L m) (nI s) (nI (3 * k)) = _
    unfold b_326_0
    rw [ku_if hs (by omega), nI_clamp (by omega), h91, if_neg (nI_ge (by omega) (by omega)), ku_60, pk_mul, nI_add, nI_1, ku_2, nI_add, ku_if (by omega) (by omega), ku_if (by omega) (by omega), nI_clamp (by omega), nI_clamp (by omega), nI_clamp (by omega), d1, d2, d3, lN_i, lN_i, ku_4, pk_mul, nI_add, ku_if (by omega) (by omega), ku_if (by omega) (by omega), nI_clamp (by omega), (hN _ b2).2.2 _ b1, ku_3, nI_add, show 3 * k + 3 = 3 * (k + 1) by omega]
    by_cases h : na H g (tt k) (rr k) = aa k
    · rw [if_pos h, if_pos ((cmp_e (by omega) (by omega)).mpr h)]
    · rw [if_neg h, if_neg (fun e => h ((cmp_e (by omega) (by omega)).mp e))]
  have e0 : ∀ m, c_326_0 n I L (m + 1) (nI s) (nI (3 * q)) = some 1 := fun m => by
    show b_326_0 n I L (c_326_0 n I L m) (nI s) (nI (3 * q)) = _
    unfold b_326_0
    rw [ku_if hs (by omega), nI_clamp (by omega), h91, if_pos (nI_le (Nat.le_refl _) (by omega))]
  constructor
  · intro h
    obtain ⟨_, _, e⟩ := lpE (fun m k (_ : Unit) => c_326_0 n I L m (nI s) (nI (3 * k))) q (fun _ _ => True) (fun _ => some 1) (fun m _ _ => e0 m) (fun m k _ hk _ => ⟨(), trivial, by rw [e1 m k hk, if_pos (h k hk)]⟩) n 0 () (by omega) (by omega) trivial
    exact e
  · intro h
    rcases lpG (fun m k (_ : Unit) => c_326_0 n I L m (nI s) (nI (3 * k))) q (fun k _ => ∀ j, j < k → na H g (tt j) (rr j) = aa j) (fun _ => some 1) (fun r => r = some 0) (fun m _ _ => e0 m) (fun m k _ hk hi => by
      by_cases h2 : na H g (tt k) (rr k) = aa k
      · refine Or.inr ⟨(), fun j hj => ?_, by rw [e1 m k hk, if_pos h2]⟩
        rcases (show j < k ∨ j = k by omega) with h3 | rfl
        · exact hi j h3
        · exact h2
      · exact Or.inl (by rw [e1 m k hk, if_neg h2])) n 0 () (by omega) (by omega) (fun j hj => absurd hj (by omega)) with e | ⟨_, hi, _⟩
    · exact e
    · exact absurd hi h
/-- whether the row can be asked about: the model -/
theorem m325' (ho : HOK H W A) (m3 : I 96 2 = nI (H.1 3)) (m4 : I 96 3 = nI (H.1 4)) {s q : Nat} (hs : s < 4) (hq : q ≤ 20) (h91 : I 91 s = nI (3 * q)) (hn : 1000 ≤ n) : ((∀ k, k < q → rwOK H L 92 (60 * s) k) → c_325_0 n I L n (nI s) (nI 0) = some 0) ∧ ((¬ ∀ k, k < q → rwOK H L 92 (60 * s) k) → c_325_0 n I L n (nI s) (nI 0) = some (-2)) := by
  have o3 : H.1 3 ≤ 30 := ho.1.2.2.2.1
  have o4 : H.1 4 ≤ 4 := ho.1.2.2.2.2.1
  have e1 : ∀ m k, k < q → (rwOK H L 92 (60 * s) k → c_325_0 n I L (m + 1) (nI s) (nI (3 * k)) = c_325_0 n I L m (nI s) (nI (3 * (k + 1)))) ∧ (¬ rwOK H L 92 (60 * s) k → c_325_0 n I L (m + 1) (nI s) (nI (3 * k)) = some (-2)) := fun m k hk => by
    have e2 : c_325_0 n I L (m + 1) (nI s) (nI (3 * k)) = if inB (L 92 (60 * s + 3 * k)) (H.1 4) then (if inB (L 92 (60 * s + 3 * k + 1)) (H.1 3) then (if inB (L 92 (60 * s + 3 * k + 2)) 100 then c_325_0 n I L m (nI s) (nI (3 * (k + 1))) else some (-2)) else some (-2)) else some (-2) := by
      show b_325_0 n I L (c_325_0 n I L m) (nI s) (nI (3 * k)) = _
      unfold b_325_0
      rw [ku_if hs (by omega), nI_clamp (by omega), h91, if_neg (nI_ge (by omega) (by omega)), ku_60, pk_mul, nI_add, nI_1, ku_2, nI_add, ku_if (by omega) (by omega), ku_if (by omega) (by omega), ku_if (by omega) (by omega), nI_clamp (by omega), nI_clamp (by omega), nI_clamp (by omega), e239 m4 o4, q_bs, q_b1, e241 m3 o3, q_bs, q_b1, e201, q_bs, q_b2, ku_3, nI_add, show 3 * k + 3 = 3 * (k + 1) by omega]
      have h99 : ((0 : Int64).toInt ≤ (L 92 (60 * s + 3 * k + 2)).toInt ∧ (L 92 (60 * s + 3 * k + 2)).toInt ≤ (99 : Int64).toInt) = (0 ≤ (L 92 (60 * s + 3 * k + 2)).toInt ∧ (L 92 (60 * s + 3 * k + 2)).toInt < ((100 : Nat) : Int)) := by
        rw [l0, show (99 : Int64).toInt = 99 from rfl]
        exact propext ⟨fun q => ⟨q.1, by omega⟩, fun q => ⟨q.1, by omega⟩⟩
      by_cases a1 : 0 ≤ (L 92 (60 * s + 3 * k)).toInt ∧ (L 92 (60 * s + 3 * k)).toInt < (H.1 4 : Int)
      · rw [if_pos a1, if_pos a1]
        by_cases a2 : 0 ≤ (L 92 (60 * s + 3 * k + 1)).toInt ∧ (L 92 (60 * s + 3 * k + 1)).toInt < (H.1 3 : Int)
        · rw [if_pos a2, if_pos a2]
          by_cases a3 : 0 ≤ (L 92 (60 * s + 3 * k + 2)).toInt ∧ (L 92 (60 * s + 3 * k + 2)).toInt < ((100 : Nat) : Int)
          · rw [if_pos (h99 ▸ a3), if_pos a3]
          · rw [if_neg (by rw [h99]; exact a3), if_neg a3]
        · rw [if_neg a2, if_neg a2]
      · rw [if_neg a1, if_neg a1]
    constructor
    · rintro ⟨a1, a2, a3⟩
      rw [e2, if_pos a1, if_pos a2, if_pos a3]
    · intro hne
      rw [e2]
      by_cases a1 : inB (L 92 (60 * s + 3 * k)) (H.1 4)
      · rw [if_pos a1]
        by_cases a2 : inB (L 92 (60 * s + 3 * k + 1)) (H.1 3)
        · rw [if_pos a2, if_neg (fun a3 => hne ⟨a1, a2, a3⟩)]
        · rw [if_neg a2]
      · rw [if_neg a1]
  have e0 : ∀ m, c_325_0 n I L (m + 1) (nI s) (nI (3 * q)) = some 0 := fun m => by
    show b_325_0 n I L (c_325_0 n I L m) (nI s) (nI (3 * q)) = _
    unfold b_325_0
    rw [ku_if hs (by omega), nI_clamp (by omega), h91, if_pos (nI_le (Nat.le_refl _) (by omega))]
  constructor
  · intro h
    obtain ⟨_, _, e⟩ := lpE (fun m k (_ : Unit) => c_325_0 n I L m (nI s) (nI (3 * k))) q (fun _ _ => True) (fun _ => some 0) (fun m _ _ => e0 m) (fun m k _ hk _ => ⟨(), trivial, (e1 m k hk).1 (h k hk)⟩) n 0 () (by omega) (by omega) trivial
    exact e
  · intro h
    rcases lpG (fun m k (_ : Unit) => c_325_0 n I L m (nI s) (nI (3 * k))) q (fun k _ => ∀ j, j < k → rwOK H L 92 (60 * s) j) (fun _ => some 0) (fun r => r = some (-2)) (fun m _ _ => e0 m) (fun m k _ hk hi => by
      by_cases h2 : rwOK H L 92 (60 * s) k
      · refine Or.inr ⟨(), fun j hj => ?_, (e1 m k hk).1 h2⟩
        rcases (show j < k ∨ j = k by omega) with h3 | rfl
        · exact hi j h3
        · exact h2
      · exact Or.inl ((e1 m k hk).2 h2)) n 0 () (by omega) (by omega) (fun j hj => absurd hj (by omega)) with e | ⟨_, hi, _⟩
    · exact e
    · exact absurd hi h
theorem c109_0 {k b : Nat} (hk : k < 60) (hb : b < 2 ^ 31) : f_109 (nI k) (nI b) I L = if inB (L 82 k) b then some 1 else some 0 := by
  unfold f_109
  rw [ku_if hk (by omega), ku_if hk (by omega), nI_clamp (by omega)]
  by_cases h1 : lg_cmp (L 82 k) 0 < 0
  · rw [if_pos h1, if_neg (by rw [q_cmp_lt, l0] at h1; omega)]
  · rw [if_neg h1]
    rw [q_cmp_lt, l0] at h1
    by_cases h2 : 0 ≤ lg_cmp (L 82 k) (nI b).toInt64
    · rw [if_pos h2]
      rw [q_cmp_ge, Int32.toInt_toInt64, nI_toInt hb] at h2
      rw [if_neg (by omega)]
    · rw [if_neg h2]
      rw [q_cmp_ge, Int32.toInt_toInt64, nI_toInt hb] at h2
      rw [if_pos (by omega)]
theorem c198_0 (ho : HOK H W A) (hC : CH I 3 11 H W A) {q : Nat} (hq : q ≤ 20) (h81 : I 81 2 = nI (3 * q)) (hn : 1000 ≤ n) : ((∀ k, k < q → rwOK H L 82 0 k) → c_198_0 n I L n (nI 0) = some 0) ∧ ((¬ ∀ k, k < q → rwOK H L 82 0 k) → c_198_0 n I L n (nI 0) = some (-2)) := by
  have o3 : H.1 3 ≤ 30 := ho.1.2.2.2.1
  have o4 : H.1 4 ≤ 4 := ho.1.2.2.2.2.1
  have e1 : ∀ m k, k < q → (rwOK H L 82 0 k → c_198_0 n I L (m + 1) (nI (3 * k)) = c_198_0 n I L m (nI (3 * (k + 1)))) ∧ (¬ rwOK H L 82 0 k → c_198_0 n I L (m + 1) (nI (3 * k)) = some (-2)) := fun m k hk => by
    have e2 : c_198_0 n I L (m + 1) (nI (3 * k)) = if inB (L 82 (0 + 3 * k)) (H.1 4) then (if inB (L 82 (0 + 3 * k + 1)) (H.1 3) then (if inB (L 82 (0 + 3 * k + 2)) 100 then c_198_0 n I L m (nI (3 * (k + 1))) else some (-2)) else some (-2)) else some (-2) := by
      show b_198_0 n I L (c_198_0 n I L m) (nI (3 * k)) = _
      unfold b_198_0
      rw [Nat.zero_add, h81, ku_2, nI_add, if_neg (nI_ge (by omega) (by omega)), chs hC (by decide), chs hC (by decide), c109_0 (by omega) (by omega), nI_1, c109_0 (by omega) (by omega), ku_100, c109_0 (by omega) (by omega), ku_3, nI_add, show 3 * k + 3 = 3 * (k + 1) by omega]
      by_cases a1 : inB (L 82 (3 * k)) (H.1 4)
      · rw [if_pos a1, if_pos a1, q_bs, q_11]
        by_cases a2 : inB (L 82 (3 * k + 1)) (H.1 3)
        · rw [if_pos a2, if_pos a2, q_bs, q_11]
          by_cases a3 : inB (L 82 (3 * k + 2)) 100
          · rw [if_pos a3, if_pos a3, q_bs, q_n11]
          · rw [if_neg a3, if_neg a3, q_bs, q_n00]
        · rw [if_neg a2, if_neg a2, q_bs, q_00]
      · rw [if_neg a1, if_neg a1, q_bs, q_00]
    constructor
    · rintro ⟨a1, a2, a3⟩
      rw [e2, if_pos a1, if_pos a2, if_pos a3]
    · intro hne
      rw [e2]
      by_cases a1 : inB (L 82 (0 + 3 * k)) (H.1 4)
      · rw [if_pos a1]
        by_cases a2 : inB (L 82 (0 + 3 * k + 1)) (H.1 3)
        · rw [if_pos a2, if_neg (fun a3 => hne ⟨a1, a2, a3⟩)]
        · rw [if_neg a2]
      · rw [if_neg a1]
  have e0 : ∀ m, c_198_0 n I L (m + 1) (nI (3 * q)) = some 0 := fun m => by
    show b_198_0 n I L (c_198_0 n I L m) (nI (3 * q)) = _
    unfold b_198_0
    rw [h81, ku_2, nI_add, if_pos (nI_le (by omega) (by omega))]
  constructor
  · intro h
    obtain ⟨_, _, e⟩ := lpE (fun m k (_ : Unit) => c_198_0 n I L m (nI (3 * k))) q (fun _ _ => True) (fun _ => some 0) (fun m _ _ => e0 m) (fun m k _ hk _ => ⟨(), trivial, (e1 m k hk).1 (h k hk)⟩) n 0 () (by omega) (by omega) trivial
    exact e
  · intro h
    rcases lpG (fun m k (_ : Unit) => c_198_0 n I L m (nI (3 * k))) q (fun k _ => ∀ j, j < k → rwOK H L 82 0 j) (fun _ => some 0) (fun r => r = some (-2)) (fun m _ _ => e0 m) (fun m k _ hk hi => by
      by_cases h2 : rwOK H L 82 0 k
      · refine Or.inr ⟨(), fun j hj => ?_, (e1 m k hk).1 h2⟩
        rcases (show j < k ∨ j = k by omega) with h3 | rfl
        · exact hi j h3
        · exact h2
      · exact Or.inl ((e1 m k hk).2 h2)) n 0 () (by omega) (by omega) (fun j hj => absurd hj (by omega)) with e | ⟨_, hi, _⟩
    · exact e
    · exact absurd hi h
theorem c72_0 (ho : HOK H W A) (hN : NDn I H g) (hg : GOK H g) {q : Nat} {rr tt aa : Nat → Nat} (h81 : I 81 2 = nI (3 * q)) (hD : RwD L 82 0 q rr tt aa) (hB : RwB H q rr tt aa) (hn : 1000 ≤ n) : (agrP H g q rr tt aa → f_72 n I L = some 1) ∧ (¬ agrP H g q rr tt aa → f_72 n I L = some 0) := by
  have o3 : H.1 3 ≤ 30 := ho.1.2.2.2.1
  have o4 : H.1 4 ≤ 4 := ho.1.2.2.2.2.1
  obtain ⟨hq, hB⟩ := hB
  have e1 : ∀ m k, k < q → c_72_0 n I L (m + 1) (nI (3 * k)) = if na H g (tt k) (rr k) = aa k then c_72_0 n I L m (nI (3 * (k + 1))) else some 0 := fun m k hk => by
    obtain ⟨d1, d2, d3⟩ := hD k hk
    rw [Nat.zero_add] at d1 d2 d3
    obtain ⟨b1, b2, b3⟩ := hB k hk
    have hl := na_l hg b1 (tt k)
    show b_72_0 n I L (c_72_0 n I L m) (nI (3 * k)) = _
    unfold b_72_0
    rw [h81, ku_2, nI_add, if_neg (nI_ge (by omega) (by omega)), nI_1, ku_if (by omega) (by omega), ku_if (by omega) (by omega), nI_clamp (by omega), nI_clamp (by omega), d1, d2, lN_i, lN_i, e60 (by omega) (by omega), q_bs, ku_if (by omega) (by omega), nI_clamp (by omega), d3, (hN.2.1 _ b2).2.2 _ b1, ku_3, nI_add, show 3 * k + 3 = 3 * (k + 1) by omega]
    by_cases h : na H g (tt k) (rr k) = aa k
    · rw [if_pos h, if_pos ((cmp_e (by omega) (by omega)).mpr h)]
    · rw [if_neg h, if_neg (fun e => h ((cmp_e (by omega) (by omega)).mp e))]
  have e0 : ∀ m, c_72_0 n I L (m + 1) (nI (3 * q)) = some 1 := fun m => by
    show b_72_0 n I L (c_72_0 n I L m) (nI (3 * q)) = _
    unfold b_72_0
    rw [h81, ku_2, nI_add, if_pos (nI_le (by omega) (by omega))]
  constructor
  · intro h
    obtain ⟨_, _, e⟩ := lpE (fun m k (_ : Unit) => c_72_0 n I L m (nI (3 * k))) q (fun _ _ => True) (fun _ => some 1) (fun m _ _ => e0 m) (fun m k _ hk _ => ⟨(), trivial, by rw [e1 m k hk, if_pos (h k hk)]⟩) n 0 () (by omega) (by omega) trivial
    exact e
  · intro h
    rcases lpG (fun m k (_ : Unit) => c_72_0 n I L m (nI (3 * k))) q (fun k _ => ∀ j, j < k → na H g (tt j) (rr j) = aa j) (fun _ => some 1) (fun r => r = some 0) (fun m _ _ => e0 m) (fun m k _ hk hi => by
      by_cases h2 : na H g (tt k) (rr k) = aa k
      · refine Or.inr ⟨(), fun j hj => ?_, by rw [e1 m k hk, if_pos h2]⟩
        rcases (show j < k ∨ j = k by omega) with h3 | rfl
        · exact hi j h3
        · exact h2
      · exact Or.inl (by rw [e1 m k hk, if_neg h2])) n 0 () (by omega) (by omega) (fun j hj => absurd hj (by omega)) with e | ⟨_, hi, _⟩
    · exact e
    · exact absurd hi h
theorem c109_1 {k b : Nat} (hk : k < 60) (hb : b < 2 ^ 31) : f_109_1 (nI k) (nI b) I L = if inB (L 84 k) b then some 1 else some 0 := by
  unfold f_109_1
  rw [ku_if hk (by omega), ku_if hk (by omega), nI_clamp (by omega)]
  by_cases h1 : lg_cmp (L 84 k) 0 < 0
  · rw [if_pos h1, if_neg (by rw [q_cmp_lt, l0] at h1; omega)]
  · rw [if_neg h1]
    rw [q_cmp_lt, l0] at h1
    by_cases h2 : 0 ≤ lg_cmp (L 84 k) (nI b).toInt64
    · rw [if_pos h2]
      rw [q_cmp_ge, Int32.toInt_toInt64, nI_toInt hb] at h2
      rw [if_neg (by omega)]
    · rw [if_neg h2]
      rw [q_cmp_ge, Int32.toInt_toInt64, nI_toInt hb] at h2
      rw [if_pos (by omega)]
theorem c198_1 (ho : HOK H W A) (hC : CH I 3 11 H W A) {q : Nat} (hq : q ≤ 20) (h81 : I 83 2 = nI (3 * q)) (hn : 1000 ≤ n) : ((∀ k, k < q → rwOK H L 84 0 k) → c_198_1 n I L n (nI 0) = some 0) ∧ ((¬ ∀ k, k < q → rwOK H L 84 0 k) → c_198_1 n I L n (nI 0) = some (-2)) := by
  have o3 : H.1 3 ≤ 30 := ho.1.2.2.2.1
  have o4 : H.1 4 ≤ 4 := ho.1.2.2.2.2.1
  have e1 : ∀ m k, k < q → (rwOK H L 84 0 k → c_198_1 n I L (m + 1) (nI (3 * k)) = c_198_1 n I L m (nI (3 * (k + 1)))) ∧ (¬ rwOK H L 84 0 k → c_198_1 n I L (m + 1) (nI (3 * k)) = some (-2)) := fun m k hk => by
    have e2 : c_198_1 n I L (m + 1) (nI (3 * k)) = if inB (L 84 (0 + 3 * k)) (H.1 4) then (if inB (L 84 (0 + 3 * k + 1)) (H.1 3) then (if inB (L 84 (0 + 3 * k + 2)) 100 then c_198_1 n I L m (nI (3 * (k + 1))) else some (-2)) else some (-2)) else some (-2) := by
      show b_198_1 n I L (c_198_1 n I L m) (nI (3 * k)) = _
      unfold b_198_1
      rw [Nat.zero_add, h81, ku_2, nI_add, if_neg (nI_ge (by omega) (by omega)), chs hC (by decide), chs hC (by decide), c109_1 (by omega) (by omega), nI_1, c109_1 (by omega) (by omega), ku_100, c109_1 (by omega) (by omega), ku_3, nI_add, show 3 * k + 3 = 3 * (k + 1) by omega]
      by_cases a1 : inB (L 84 (3 * k)) (H.1 4)
      · rw [if_pos a1, if_pos a1, q_bs, q_11]
        by_cases a2 : inB (L 84 (3 * k + 1)) (H.1 3)
        · rw [if_pos a2, if_pos a2, q_bs, q_11]
          by_cases a3 : inB (L 84 (3 * k + 2)) 100
          · rw [if_pos a3, if_pos a3, q_bs, q_n11]
          · rw [if_neg a3, if_neg a3, q_bs, q_n00]
        · rw [if_neg a2, if_neg a2, q_bs, q_00]
      · rw [if_neg a1, if_neg a1, q_bs, q_00]
    constructor
    · rintro ⟨a1, a2, a3⟩
      rw [e2, if_pos a1, if_pos a2, if_pos a3]
    · intro hne
      rw [e2]
      by_cases a1 : inB (L 84 (0 + 3 * k)) (H.1 4)
      · rw [if_pos a1]
        by_cases a2 : inB (L 84 (0 + 3 * k + 1)) (H.1 3)
        · rw [if_pos a2, if_neg (fun a3 => hne ⟨a1, a2, a3⟩)]
        · rw [if_neg a2]
      · rw [if_neg a1]
  have e0 : ∀ m, c_198_1 n I L (m + 1) (nI (3 * q)) = some 0 := fun m => by
    show b_198_1 n I L (c_198_1 n I L m) (nI (3 * q)) = _
    unfold b_198_1
    rw [h81, ku_2, nI_add, if_pos (nI_le (by omega) (by omega))]
  constructor
  · intro h
    obtain ⟨_, _, e⟩ := lpE (fun m k (_ : Unit) => c_198_1 n I L m (nI (3 * k))) q (fun _ _ => True) (fun _ => some 0) (fun m _ _ => e0 m) (fun m k _ hk _ => ⟨(), trivial, (e1 m k hk).1 (h k hk)⟩) n 0 () (by omega) (by omega) trivial
    exact e
  · intro h
    rcases lpG (fun m k (_ : Unit) => c_198_1 n I L m (nI (3 * k))) q (fun k _ => ∀ j, j < k → rwOK H L 84 0 j) (fun _ => some 0) (fun r => r = some (-2)) (fun m _ _ => e0 m) (fun m k _ hk hi => by
      by_cases h2 : rwOK H L 84 0 k
      · refine Or.inr ⟨(), fun j hj => ?_, (e1 m k hk).1 h2⟩
        rcases (show j < k ∨ j = k by omega) with h3 | rfl
        · exact hi j h3
        · exact h2
      · exact Or.inl ((e1 m k hk).2 h2)) n 0 () (by omega) (by omega) (fun j hj => absurd hj (by omega)) with e | ⟨_, hi, _⟩
    · exact e
    · exact absurd hi h
theorem c72_1 (ho : HOK H W A) (hN : NDn I H g) (hg : GOK H g) {q : Nat} {rr tt aa : Nat → Nat} (h81 : I 83 2 = nI (3 * q)) (hD : RwD L 84 0 q rr tt aa) (hB : RwB H q rr tt aa) (hn : 1000 ≤ n) : (agrP H g q rr tt aa → f_72_1 n I L = some 1) ∧ (¬ agrP H g q rr tt aa → f_72_1 n I L = some 0) := by
  have o3 : H.1 3 ≤ 30 := ho.1.2.2.2.1
  have o4 : H.1 4 ≤ 4 := ho.1.2.2.2.2.1
  obtain ⟨hq, hB⟩ := hB
  have e1 : ∀ m k, k < q → c_72_1_0 n I L (m + 1) (nI (3 * k)) = if na H g (tt k) (rr k) = aa k then c_72_1_0 n I L m (nI (3 * (k + 1))) else some 0 := fun m k hk => by
    obtain ⟨d1, d2, d3⟩ := hD k hk
    rw [Nat.zero_add] at d1 d2 d3
    obtain ⟨b1, b2, b3⟩ := hB k hk
    have hl := na_l hg b1 (tt k)
    show b_72_1_0 n I L (c_72_1_0 n I L m) (nI (3 * k)) = _
    unfold b_72_1_0
    rw [h81, ku_2, nI_add, if_neg (nI_ge (by omega) (by omega)), nI_1, ku_if (by omega) (by omega), ku_if (by omega) (by omega), nI_clamp (by omega), nI_clamp (by omega), d1, d2, lN_i, lN_i, e60 (by omega) (by omega), q_bs, ku_if (by omega) (by omega), nI_clamp (by omega), d3, (hN.2.1 _ b2).2.2 _ b1, ku_3, nI_add, show 3 * k + 3 = 3 * (k + 1) by omega]
    by_cases h : na H g (tt k) (rr k) = aa k
    · rw [if_pos h, if_pos ((cmp_e (by omega) (by omega)).mpr h)]
    · rw [if_neg h, if_neg (fun e => h ((cmp_e (by omega) (by omega)).mp e))]
  have e0 : ∀ m, c_72_1_0 n I L (m + 1) (nI (3 * q)) = some 1 := fun m => by
    show b_72_1_0 n I L (c_72_1_0 n I L m) (nI (3 * q)) = _
    unfold b_72_1_0
    rw [h81, ku_2, nI_add, if_pos (nI_le (by omega) (by omega))]
  constructor
  · intro h
    obtain ⟨_, _, e⟩ := lpE (fun m k (_ : Unit) => c_72_1_0 n I L m (nI (3 * k))) q (fun _ _ => True) (fun _ => some 1) (fun m _ _ => e0 m) (fun m k _ hk _ => ⟨(), trivial, by rw [e1 m k hk, if_pos (h k hk)]⟩) n 0 () (by omega) (by omega) trivial
    exact e
  · intro h
    rcases lpG (fun m k (_ : Unit) => c_72_1_0 n I L m (nI (3 * k))) q (fun k _ => ∀ j, j < k → na H g (tt j) (rr j) = aa j) (fun _ => some 1) (fun r => r = some 0) (fun m _ _ => e0 m) (fun m k _ hk hi => by
      by_cases h2 : na H g (tt k) (rr k) = aa k
      · refine Or.inr ⟨(), fun j hj => ?_, by rw [e1 m k hk, if_pos h2]⟩
        rcases (show j < k ∨ j = k by omega) with h3 | rfl
        · exact hi j h3
        · exact h2
      · exact Or.inl (by rw [e1 m k hk, if_neg h2])) n 0 () (by omega) (by omega) (fun j hj => absurd hj (by omega)) with e | ⟨_, hi, _⟩
    · exact e
    · exact absurd hi h
theorem c109_2 {k b : Nat} (hk : k < 60) (hb : b < 2 ^ 31) : f_109_2 (nI k) (nI b) I L = if inB (L 86 k) b then some 1 else some 0 := by
  unfold f_109_2
  rw [ku_if hk (by omega), ku_if hk (by omega), nI_clamp (by omega)]
  by_cases h1 : lg_cmp (L 86 k) 0 < 0
  · rw [if_pos h1, if_neg (by rw [q_cmp_lt, l0] at h1; omega)]
  · rw [if_neg h1]
    rw [q_cmp_lt, l0] at h1
    by_cases h2 : 0 ≤ lg_cmp (L 86 k) (nI b).toInt64
    · rw [if_pos h2]
      rw [q_cmp_ge, Int32.toInt_toInt64, nI_toInt hb] at h2
      rw [if_neg (by omega)]
    · rw [if_neg h2]
      rw [q_cmp_ge, Int32.toInt_toInt64, nI_toInt hb] at h2
      rw [if_pos (by omega)]
theorem c198_2 (ho : HOK H W A) (hC : CH I 3 11 H W A) {q : Nat} (hq : q ≤ 20) (h81 : I 85 2 = nI (3 * q)) (hn : 1000 ≤ n) : ((∀ k, k < q → rwOK H L 86 0 k) → c_198_2 n I L n (nI 0) = some 0) ∧ ((¬ ∀ k, k < q → rwOK H L 86 0 k) → c_198_2 n I L n (nI 0) = some (-2)) := by
  have o3 : H.1 3 ≤ 30 := ho.1.2.2.2.1
  have o4 : H.1 4 ≤ 4 := ho.1.2.2.2.2.1
  have e1 : ∀ m k, k < q → (rwOK H L 86 0 k → c_198_2 n I L (m + 1) (nI (3 * k)) = c_198_2 n I L m (nI (3 * (k + 1)))) ∧ (¬ rwOK H L 86 0 k → c_198_2 n I L (m + 1) (nI (3 * k)) = some (-2)) := fun m k hk => by
    have e2 : c_198_2 n I L (m + 1) (nI (3 * k)) = if inB (L 86 (0 + 3 * k)) (H.1 4) then (if inB (L 86 (0 + 3 * k + 1)) (H.1 3) then (if inB (L 86 (0 + 3 * k + 2)) 100 then c_198_2 n I L m (nI (3 * (k + 1))) else some (-2)) else some (-2)) else some (-2) := by
      show b_198_2 n I L (c_198_2 n I L m) (nI (3 * k)) = _
      unfold b_198_2
      rw [Nat.zero_add, h81, ku_2, nI_add, if_neg (nI_ge (by omega) (by omega)), chs hC (by decide), chs hC (by decide), c109_2 (by omega) (by omega), nI_1, c109_2 (by omega) (by omega), ku_100, c109_2 (by omega) (by omega), ku_3, nI_add, show 3 * k + 3 = 3 * (k + 1) by omega]
      by_cases a1 : inB (L 86 (3 * k)) (H.1 4)
      · rw [if_pos a1, if_pos a1, q_bs, q_11]
        by_cases a2 : inB (L 86 (3 * k + 1)) (H.1 3)
        · rw [if_pos a2, if_pos a2, q_bs, q_11]
          by_cases a3 : inB (L 86 (3 * k + 2)) 100
          · rw [if_pos a3, if_pos a3, q_bs, q_n11]
          · rw [if_neg a3, if_neg a3, q_bs, q_n00]
        · rw [if_neg a2, if_neg a2, q_bs, q_00]
      · rw [if_neg a1, if_neg a1, q_bs, q_00]
    constructor
    · rintro ⟨a1, a2, a3⟩
      rw [e2, if_pos a1, if_pos a2, if_pos a3]
    · intro hne
      rw [e2]
      by_cases a1 : inB (L 86 (0 + 3 * k)) (H.1 4)
      · rw [if_pos a1]
        by_cases a2 : inB (L 86 (0 + 3 * k + 1)) (H.1 3)
        · rw [if_pos a2, if_neg (fun a3 => hne ⟨a1, a2, a3⟩)]
        · rw [if_neg a2]
      · rw [if_neg a1]
  have e0 : ∀ m, c_198_2 n I L (m + 1) (nI (3 * q)) = some 0 := fun m => by
    show b_198_2 n I L (c_198_2 n I L m) (nI (3 * q)) = _
    unfold b_198_2
    rw [h81, ku_2, nI_add, if_pos (nI_le (by omega) (by omega))]
  constructor
  · intro h
    obtain ⟨_, _, e⟩ := lpE (fun m k (_ : Unit) => c_198_2 n I L m (nI (3 * k))) q (fun _ _ => True) (fun _ => some 0) (fun m _ _ => e0 m) (fun m k _ hk _ => ⟨(), trivial, (e1 m k hk).1 (h k hk)⟩) n 0 () (by omega) (by omega) trivial
    exact e
  · intro h
    rcases lpG (fun m k (_ : Unit) => c_198_2 n I L m (nI (3 * k))) q (fun k _ => ∀ j, j < k → rwOK H L 86 0 j) (fun _ => some 0) (fun r => r = some (-2)) (fun m _ _ => e0 m) (fun m k _ hk hi => by
      by_cases h2 : rwOK H L 86 0 k
      · refine Or.inr ⟨(), fun j hj => ?_, (e1 m k hk).1 h2⟩
        rcases (show j < k ∨ j = k by omega) with h3 | rfl
        · exact hi j h3
        · exact h2
      · exact Or.inl ((e1 m k hk).2 h2)) n 0 () (by omega) (by omega) (fun j hj => absurd hj (by omega)) with e | ⟨_, hi, _⟩
    · exact e
    · exact absurd hi h
theorem c72_2 (ho : HOK H W A) (hN : NDn I H g) (hg : GOK H g) {q : Nat} {rr tt aa : Nat → Nat} (h81 : I 85 2 = nI (3 * q)) (hD : RwD L 86 0 q rr tt aa) (hB : RwB H q rr tt aa) (hn : 1000 ≤ n) : (agrP H g q rr tt aa → f_72_2 n I L = some 1) ∧ (¬ agrP H g q rr tt aa → f_72_2 n I L = some 0) := by
  have o3 : H.1 3 ≤ 30 := ho.1.2.2.2.1
  have o4 : H.1 4 ≤ 4 := ho.1.2.2.2.2.1
  obtain ⟨hq, hB⟩ := hB
  have e1 : ∀ m k, k < q → c_72_2_0 n I L (m + 1) (nI (3 * k)) = if na H g (tt k) (rr k) = aa k then c_72_2_0 n I L m (nI (3 * (k + 1))) else some 0 := fun m k hk => by
    obtain ⟨d1, d2, d3⟩ := hD k hk
    rw [Nat.zero_add] at d1 d2 d3
    obtain ⟨b1, b2, b3⟩ := hB k hk
    have hl := na_l hg b1 (tt k)
    show b_72_2_0 n I L (c_72_2_0 n I L m) (nI (3 * k)) = _
    unfold b_72_2_0
    rw [h81, ku_2, nI_add, if_neg (nI_ge (by omega) (by omega)), nI_1, ku_if (by omega) (by omega), ku_if (by omega) (by omega), nI_clamp (by omega), nI_clamp (by omega), d1, d2, lN_i, lN_i, e60 (by omega) (by omega), q_bs, ku_if (by omega) (by omega), nI_clamp (by omega), d3, (hN.2.1 _ b2).2.2 _ b1, ku_3, nI_add, show 3 * k + 3 = 3 * (k + 1) by omega]
    by_cases h : na H g (tt k) (rr k) = aa k
    · rw [if_pos h, if_pos ((cmp_e (by omega) (by omega)).mpr h)]
    · rw [if_neg h, if_neg (fun e => h ((cmp_e (by omega) (by omega)).mp e))]
  have e0 : ∀ m, c_72_2_0 n I L (m + 1) (nI (3 * q)) = some 1 := fun m => by
    show b_72_2_0 n I L (c_72_2_0 n I L m) (nI (3 * q)) = _
    unfold b_72_2_0
    rw [h81, ku_2, nI_add, if_pos (nI_le (by omega) (by omega))]
  constructor
  · intro h
    obtain ⟨_, _, e⟩ := lpE (fun m k (_ : Unit) => c_72_2_0 n I L m (nI (3 * k))) q (fun _ _ => True) (fun _ => some 1) (fun m _ _ => e0 m) (fun m k _ hk _ => ⟨(), trivial, by rw [e1 m k hk, if_pos (h k hk)]⟩) n 0 () (by omega) (by omega) trivial
    exact e
  · intro h
    rcases lpG (fun m k (_ : Unit) => c_72_2_0 n I L m (nI (3 * k))) q (fun k _ => ∀ j, j < k → na H g (tt j) (rr j) = aa j) (fun _ => some 1) (fun r => r = some 0) (fun m _ _ => e0 m) (fun m k _ hk hi => by
      by_cases h2 : na H g (tt k) (rr k) = aa k
      · refine Or.inr ⟨(), fun j hj => ?_, by rw [e1 m k hk, if_pos h2]⟩
        rcases (show j < k ∨ j = k by omega) with h3 | rfl
        · exact hi j h3
        · exact h2
      · exact Or.inl (by rw [e1 m k hk, if_neg h2])) n 0 () (by omega) (by omega) (fun j hj => absurd hj (by omega)) with e | ⟨_, hi, _⟩
    · exact e
    · exact absurd hi h
theorem c109_3 {k b : Nat} (hk : k < 60) (hb : b < 2 ^ 31) : f_109_3 (nI k) (nI b) I L = if inB (L 88 k) b then some 1 else some 0 := by
  unfold f_109_3
  rw [ku_if hk (by omega), ku_if hk (by omega), nI_clamp (by omega)]
  by_cases h1 : lg_cmp (L 88 k) 0 < 0
  · rw [if_pos h1, if_neg (by rw [q_cmp_lt, l0] at h1; omega)]
  · rw [if_neg h1]
    rw [q_cmp_lt, l0] at h1
    by_cases h2 : 0 ≤ lg_cmp (L 88 k) (nI b).toInt64
    · rw [if_pos h2]
      rw [q_cmp_ge, Int32.toInt_toInt64, nI_toInt hb] at h2
      rw [if_neg (by omega)]
    · rw [if_neg h2]
      rw [q_cmp_ge, Int32.toInt_toInt64, nI_toInt hb] at h2
      rw [if_pos (by omega)]
theorem c198_3 (ho : HOK H W A) (hC : CH I 3 11 H W A) {q : Nat} (hq : q ≤ 20) (h81 : I 87 2 = nI (3 * q)) (hn : 1000 ≤ n) : ((∀ k, k < q → rwOK H L 88 0 k) → c_198_3 n I L n (nI 0) = some 0) ∧ ((¬ ∀ k, k < q → rwOK H L 88 0 k) → c_198_3 n I L n (nI 0) = some (-2)) := by
  have o3 : H.1 3 ≤ 30 := ho.1.2.2.2.1
  have o4 : H.1 4 ≤ 4 := ho.1.2.2.2.2.1
  have e1 : ∀ m k, k < q → (rwOK H L 88 0 k → c_198_3 n I L (m + 1) (nI (3 * k)) = c_198_3 n I L m (nI (3 * (k + 1)))) ∧ (¬ rwOK H L 88 0 k → c_198_3 n I L (m + 1) (nI (3 * k)) = some (-2)) := fun m k hk => by
    have e2 : c_198_3 n I L (m + 1) (nI (3 * k)) = if inB (L 88 (0 + 3 * k)) (H.1 4) then (if inB (L 88 (0 + 3 * k + 1)) (H.1 3) then (if inB (L 88 (0 + 3 * k + 2)) 100 then c_198_3 n I L m (nI (3 * (k + 1))) else some (-2)) else some (-2)) else some (-2) := by
      show b_198_3 n I L (c_198_3 n I L m) (nI (3 * k)) = _
      unfold b_198_3
      rw [Nat.zero_add, h81, ku_2, nI_add, if_neg (nI_ge (by omega) (by omega)), chs hC (by decide), chs hC (by decide), c109_3 (by omega) (by omega), nI_1, c109_3 (by omega) (by omega), ku_100, c109_3 (by omega) (by omega), ku_3, nI_add, show 3 * k + 3 = 3 * (k + 1) by omega]
      by_cases a1 : inB (L 88 (3 * k)) (H.1 4)
      · rw [if_pos a1, if_pos a1, q_bs, q_11]
        by_cases a2 : inB (L 88 (3 * k + 1)) (H.1 3)
        · rw [if_pos a2, if_pos a2, q_bs, q_11]
          by_cases a3 : inB (L 88 (3 * k + 2)) 100
          · rw [if_pos a3, if_pos a3, q_bs, q_n11]
          · rw [if_neg a3, if_neg a3, q_bs, q_n00]
        · rw [if_neg a2, if_neg a2, q_bs, q_00]
      · rw [if_neg a1, if_neg a1, q_bs, q_00]
    constructor
    · rintro ⟨a1, a2, a3⟩
      rw [e2, if_pos a1, if_pos a2, if_pos a3]
    · intro hne
      rw [e2]
      by_cases a1 : inB (L 88 (0 + 3 * k)) (H.1 4)
      · rw [if_pos a1]
        by_cases a2 : inB (L 88 (0 + 3 * k + 1)) (H.1 3)
        · rw [if_pos a2, if_neg (fun a3 => hne ⟨a1, a2, a3⟩)]
        · rw [if_neg a2]
      · rw [if_neg a1]
  have e0 : ∀ m, c_198_3 n I L (m + 1) (nI (3 * q)) = some 0 := fun m => by
    show b_198_3 n I L (c_198_3 n I L m) (nI (3 * q)) = _
    unfold b_198_3
    rw [h81, ku_2, nI_add, if_pos (nI_le (by omega) (by omega))]
  constructor
  · intro h
    obtain ⟨_, _, e⟩ := lpE (fun m k (_ : Unit) => c_198_3 n I L m (nI (3 * k))) q (fun _ _ => True) (fun _ => some 0) (fun m _ _ => e0 m) (fun m k _ hk _ => ⟨(), trivial, (e1 m k hk).1 (h k hk)⟩) n 0 () (by omega) (by omega) trivial
    exact e
  · intro h
    rcases lpG (fun m k (_ : Unit) => c_198_3 n I L m (nI (3 * k))) q (fun k _ => ∀ j, j < k → rwOK H L 88 0 j) (fun _ => some 0) (fun r => r = some (-2)) (fun m _ _ => e0 m) (fun m k _ hk hi => by
      by_cases h2 : rwOK H L 88 0 k
      · refine Or.inr ⟨(), fun j hj => ?_, (e1 m k hk).1 h2⟩
        rcases (show j < k ∨ j = k by omega) with h3 | rfl
        · exact hi j h3
        · exact h2
      · exact Or.inl ((e1 m k hk).2 h2)) n 0 () (by omega) (by omega) (fun j hj => absurd hj (by omega)) with e | ⟨_, hi, _⟩
    · exact e
    · exact absurd hi h
theorem c72_3 (ho : HOK H W A) (hN : NDn I H g) (hg : GOK H g) {q : Nat} {rr tt aa : Nat → Nat} (h81 : I 87 2 = nI (3 * q)) (hD : RwD L 88 0 q rr tt aa) (hB : RwB H q rr tt aa) (hn : 1000 ≤ n) : (agrP H g q rr tt aa → f_72_3 n I L = some 1) ∧ (¬ agrP H g q rr tt aa → f_72_3 n I L = some 0) := by
  have o3 : H.1 3 ≤ 30 := ho.1.2.2.2.1
  have o4 : H.1 4 ≤ 4 := ho.1.2.2.2.2.1
  obtain ⟨hq, hB⟩ := hB
  have e1 : ∀ m k, k < q → c_72_3_0 n I L (m + 1) (nI (3 * k)) = if na H g (tt k) (rr k) = aa k then c_72_3_0 n I L m (nI (3 * (k + 1))) else some 0 := fun m k hk => by
    obtain ⟨d1, d2, d3⟩ := hD k hk
    rw [Nat.zero_add] at d1 d2 d3
    obtain ⟨b1, b2, b3⟩ := hB k hk
    have hl := na_l hg b1 (tt k)
    show b_72_3_0 n I L (c_72_3_0 n I L m) (nI (3 * k)) = _
    unfold b_72_3_0
    rw [h81, ku_2, nI_add, if_neg (nI_ge (by omega) (by omega)), nI_1, ku_if (by omega) (by omega), ku_if (by omega) (by omega), nI_clamp (by omega), nI_clamp (by omega), d1, d2, lN_i, lN_i, e60 (by omega) (by omega), q_bs, ku_if (by omega) (by omega), nI_clamp (by omega), d3, (hN.2.1 _ b2).2.2 _ b1, ku_3, nI_add, show 3 * k + 3 = 3 * (k + 1) by omega]
    by_cases h : na H g (tt k) (rr k) = aa k
    · rw [if_pos h, if_pos ((cmp_e (by omega) (by omega)).mpr h)]
    · rw [if_neg h, if_neg (fun e => h ((cmp_e (by omega) (by omega)).mp e))]
  have e0 : ∀ m, c_72_3_0 n I L (m + 1) (nI (3 * q)) = some 1 := fun m => by
    show b_72_3_0 n I L (c_72_3_0 n I L m) (nI (3 * q)) = _
    unfold b_72_3_0
    rw [h81, ku_2, nI_add, if_pos (nI_le (by omega) (by omega))]
  constructor
  · intro h
    obtain ⟨_, _, e⟩ := lpE (fun m k (_ : Unit) => c_72_3_0 n I L m (nI (3 * k))) q (fun _ _ => True) (fun _ => some 1) (fun m _ _ => e0 m) (fun m k _ hk _ => ⟨(), trivial, by rw [e1 m k hk, if_pos (h k hk)]⟩) n 0 () (by omega) (by omega) trivial
    exact e
  · intro h
    rcases lpG (fun m k (_ : Unit) => c_72_3_0 n I L m (nI (3 * k))) q (fun k _ => ∀ j, j < k → na H g (tt j) (rr j) = aa j) (fun _ => some 1) (fun r => r = some 0) (fun m _ _ => e0 m) (fun m k _ hk hi => by
      by_cases h2 : na H g (tt k) (rr k) = aa k
      · refine Or.inr ⟨(), fun j hj => ?_, by rw [e1 m k hk, if_pos h2]⟩
        rcases (show j < k ∨ j = k by omega) with h3 | rfl
        · exact hi j h3
        · exact h2
      · exact Or.inl (by rw [e1 m k hk, if_neg h2])) n 0 () (by omega) (by omega) (fun j hj => absurd hj (by omega)) with e | ⟨_, hi, _⟩
    · exact e
    · exact absurd hi h
/-- a slot's row can be asked about, or both refuse alike -/
theorem rfs (ho : HOK H W A) (hC : CH I 3 11 H W A) (hM : MH I 0 H W A) (hR : ∀ k, k < 4 → VRw I L k) (x : Int32) (hn : 1000 ≤ n) : (∃ v, v ≠ 0 ∧ f_198 n x I L = some v ∧ f_325 n x (u2 I 89 0 0) L = some v) ∨ (f_198 n x I L = some 0 ∧ (∀ J : FI, (∀ c i, c = 90 ∨ c = 91 ∨ c = 95 ∨ c = 96 → J c i = I c i) → f_325 n x J L = some 0) ∧ ∃ s q rr tt aa, s < 4 ∧ x = nI s ∧ I (81 + 2 * s) 2 = nI (3 * q) ∧ I 91 s = nI (3 * q) ∧ RwD L (82 + 2 * s) 0 q rr tt aa ∧ RwD L 92 (60 * s) q rr tt aa ∧ RwB H q rr tt aa ∧ 0 < H.1 0) := by
  have o0 : H.1 0 ≤ 1000 := ho.1.1
  have c0 : I 3 0 = nI (H.1 0) := chs hC (by decide)
  have m0 : ∀ J : FI, (∀ c i, c = 90 ∨ c = 91 ∨ c = 95 ∨ c = 96 → J c i = I c i) → J 95 0 = nI (H.1 0) := fun J hJ => (hJ 95 0 (by omega)).trans hM.1
  have hJ0 : ∀ c i, c = 90 ∨ c = 91 ∨ c = 95 ∨ c = 96 → u2 I 89 0 0 c i = I c i := fun c i hc => u2_c (by omega)
  rcases q_arg x (n := 4) (by omega) with h1 | ⟨s, hs, rfl⟩
  · refine Or.inl ⟨-2, by decide, ?_, ?_⟩
    · unfold f_198; rw [e184n h1, q_bs, q_00]
    · unfold f_325; rw [e202n h1, q_bs, q_00]
  · by_cases h0 : H.1 0 = 0
    · refine Or.inl ⟨-2, by decide, ?_, ?_⟩
      · unfold f_198; rw [e184y hs, q_bs, q_11, e177n c0 o0 h0, q_bs, q_n00]
      · unfold f_325; rw [e202y hs, q_bs, q_11, e236n (m0 _ hJ0) o0 h0, q_bs, q_n00]
    · -- by the slot
      have hm : ∀ J : FI, (∀ c i, c = 90 ∨ c = 91 ∨ c = 95 ∨ c = 96 → J c i = I c i) → f_325 n (nI s) J L = if ¬ I 90 s = -1 then (if I 91 s - I 91 s / 3 * 3 = 0 then c_325_0 n J L n (nI s) (nI 0) else some (-2)) else some (-6) := fun J hJ => by
        unfold f_325
        rw [e202y hs, q_bs, q_11, e236y (m0 _ hJ) o0 (by omega), q_bs, q_n11, ku_if hs (by omega), ku_if hs (by omega), nI_clamp (by omega), hJ 90 s (by omega), hJ 91 s (by omega)]; rfl
      have hc : ∀ (v : Option Int32), (if ¬ I (81 + 2 * s) 3 = 0 then (if I (81 + 2 * s) 2 - I (81 + 2 * s) 2 / 3 * 3 = 0 then v else some (-2)) else some (-6)) = (if ¬ I (81 + 2 * s) 3 = 0 then (if I (81 + 2 * s) 2 - I (81 + 2 * s) 2 / 3 * 3 = 0 then v else some (-2)) else some (-6)) := fun _ => rfl
      have key : ∀ (cc : Option Int32), f_198 n (nI s) I L = (if ¬ I (81 + 2 * s) 3 = 0 then (if I (81 + 2 * s) 2 - I (81 + 2 * s) 2 / 3 * 3 = 0 then cc else some (-2)) else some (-6)) → (∀ q, q ≤ 20 → I (81 + 2 * s) 2 = nI (3 * q) → ((∀ k, k < q → rwOK H L (82 + 2 * s) 0 k) → cc = some 0) ∧ ((¬ ∀ k, k < q → rwOK H L (82 + 2 * s) 0 k) → cc = some (-2))) → (∃ v, v ≠ 0 ∧ f_198 n (nI s) I L = some v ∧ f_325 n (nI s) (u2 I 89 0 0) L = some v) ∨ (f_198 n (nI s) I L = some 0 ∧ (∀ J : FI, (∀ c i, c = 90 ∨ c = 91 ∨ c = 95 ∨ c = 96 → J c i = I c i) → f_325 n (nI s) J L = some 0) ∧ ∃ s' q rr tt aa, s' < 4 ∧ nI s = nI s' ∧ I (81 + 2 * s') 2 = nI (3 * q) ∧ I 91 s' = nI (3 * q) ∧ RwD L (82 + 2 * s') 0 q rr tt aa ∧ RwD L 92 (60 * s') q rr tt aa ∧ RwB H q rr tt aa ∧ 0 < H.1 0) := fun cc e1 e2 => by
        rcases hR s hs with ⟨k1, k2⟩ | ⟨k1, wd, m, hw, hm60, _, k2, k3, k4, k5⟩
        · refine Or.inl ⟨-6, by decide, ?_, ?_⟩
          · rw [e1, if_neg (by rw [k1]; exact fun q => q rfl)]
          · rw [hm _ hJ0, if_neg (by rw [k2]; exact fun q => q rfl)]
        · have hkc : ¬ I (81 + 2 * s) 3 = 0 := by rw [k1]; decide
          have hkm : ¬ I 90 s = -1 := by rw [k2, ku_m, ku_on (by omega) (by omega)]; omega
          have hml := Nat.mod_lt m (show 0 < 3 by omega)
          by_cases h3 : m % 3 = 0
          · obtain ⟨q, rfl⟩ : ∃ q, m = 3 * q := ⟨m / 3, by omega⟩
            have hq : q ≤ 20 := by omega
            have ez : ∀ y : Int32, y = nI (3 * q) → y - y / 3 * 3 = 0 := fun y hy => by rw [hy, ku_3, pk_rem (by omega) (by omega) (by omega), h3]; rfl
            obtain ⟨c1, c2⟩ := e2 q hq k3
            have hrow : ∀ k, k < q → (rwOK H L (82 + 2 * s) 0 k ↔ rwOK H L 92 (60 * s) k) := fun k hk => by
              unfold rwOK
              rw [Nat.zero_add, k5 (3 * k) (by omega), k5 (3 * k + 1) (by omega), k5 (3 * k + 2) (by omega), ← Nat.add_assoc, ← Nat.add_assoc]
            by_cases hok : ∀ k, k < q → rwOK H L (82 + 2 * s) 0 k
            · have hok2 : ∀ k, k < q → rwOK H L 92 (60 * s) k := fun k hk => (hrow k hk).mp (hok k hk)
              obtain ⟨rr, tt, aa, hd, hb⟩ := rwOK_d ho hq hok
              refine Or.inr ⟨?_, fun J hJ => ?_, s, q, rr, tt, aa, hs, rfl, k3, k4, hd, fun k hk => ?_, hb, by omega⟩
              · rw [e1, if_pos hkc, if_pos (ez _ k3), c1 hok]
              · have hMJ : MH J 0 H W A ∨ True := Or.inr trivial
                rw [hm J hJ, if_pos hkm, if_pos (ez _ k4)]
                -- the loop reads 91, 96 alone
                have m3 : J 96 2 = nI (H.1 3) := (hJ 96 2 (by omega)).trans (mh96 hM (by decide))
                have m4 : J 96 3 = nI (H.1 4) := (hJ 96 3 (by omega)).trans (mh96 hM (by decide))
                exact (m325' ho m3 m4 hs hq ((hJ 91 s (by omega)).trans k4) hn).1 hok2
              · obtain ⟨d1, d2, d3⟩ := hd k hk
                rw [Nat.zero_add] at d1 d2 d3
                exact ⟨by rw [← k5 (3 * k) (by omega)]; exact d1, by rw [Nat.add_assoc, ← k5 (3 * k + 1) (by omega)]; exact d2, by rw [Nat.add_assoc, ← k5 (3 * k + 2) (by omega)]; exact d3⟩
            · have hok2 : ¬ ∀ k, k < q → rwOK H L 92 (60 * s) k := fun h => hok (fun k hk => (hrow k hk).mpr (h k hk))
              refine Or.inl ⟨-2, by decide, ?_, ?_⟩
              · rw [e1, if_pos hkc, if_pos (ez _ k3), c2 hok]
              · have m3 : (u2 I 89 0 0) 96 2 = nI (H.1 3) := (hJ0 96 2 (by omega)).trans (mh96 hM (by decide))
                have m4 : (u2 I 89 0 0) 96 3 = nI (H.1 4) := (hJ0 96 3 (by omega)).trans (mh96 hM (by decide))
                rw [hm _ hJ0, if_pos hkm, if_pos (ez _ k4)]
                exact (m325' ho m3 m4 hs hq ((hJ0 91 s (by omega)).trans k4) hn).2 hok2
          · have ez : ∀ y : Int32, y = nI m → ¬ y - y / 3 * 3 = 0 := fun y hy => by rw [hy, ku_3, pk_rem (by omega) (by omega) (by omega), ku_0, nI_eq (by omega) (by omega)]; exact h3
            refine Or.inl ⟨-2, by decide, ?_, ?_⟩
            · rw [e1, if_pos hkc, if_neg (ez _ k3)]
            · rw [hm _ hJ0, if_pos hkm, if_neg (ez _ k4)]
      rcases (show s = 0 ∨ s = 1 ∨ s = 2 ∨ s = 3 by omega) with rfl | rfl | rfl | rfl
      · refine key (c_198_0 n I L n (nI 0)) ?_ (fun q hq h81 => c198_0 ho hC hq h81 hn)
        unfold f_198
        rw [e184y hs, q_bs, q_11, e177y c0 o0 (by omega), q_bs, q_n11, if_pos (show nI 0 = 0 from rfl)]; rfl
      · refine key (c_198_1 n I L n (nI 0)) ?_ (fun q hq h81 => c198_1 ho hC hq h81 hn)
        unfold f_198
        rw [e184y hs, q_bs, q_11, e177y c0 o0 (by omega), q_bs, q_n11, if_neg (show ¬ nI 1 = 0 by decide), if_pos (show nI 1 = 1 from rfl)]; rfl
      · refine key (c_198_2 n I L n (nI 0)) ?_ (fun q hq h81 => c198_2 ho hC hq h81 hn)
        unfold f_198
        rw [e184y hs, q_bs, q_11, e177y c0 o0 (by omega), q_bs, q_n11, if_neg (show ¬ nI 2 = 0 by decide), if_neg (show ¬ nI 2 = 1 by decide), if_pos (show nI 2 = 2 from rfl)]; rfl
      · refine key (c_198_3 n I L n (nI 0)) ?_ (fun q hq h81 => c198_3 ho hC hq h81 hn)
        unfold f_198
        rw [e184y hs, q_bs, q_11, e177y c0 o0 (by omega), q_bs, q_n11, if_neg (show ¬ nI 3 = 0 by decide), if_neg (show ¬ nI 3 = 1 by decide), if_neg (show ¬ nI 3 = 2 by decide), if_pos (show nI 3 = 3 from rfl)]; rfl
end SEEN1
