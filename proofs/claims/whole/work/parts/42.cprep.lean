/-! LAYER 3: the class's night, made ready -/
section CPREP
variable {I : FI} {L : FL} {H : HD} {W : Nat → Nat} {A : AD} {n : Nat}
/-- what the night reads of the house and acts -/
theorem ch_wt (hC : CH I 3 11 H W A) {r : Nat} (hr : r < H.1 4) : I 4 r = nI (H.2 0 r) := hC.2.1 r hr
theorem ch_wo (hC : CH I 3 11 H W A) {r : Nat} (hr : r < H.1 4) : I 5 r = nI (W r) := hC.2.2.1 r hr
theorem ch_dm (hC : CH I 3 11 H W A) {r : Nat} (hr : r < 4) : I 6 r = nI (dms H r) := hC.2.2.2.1 r hr
theorem ch_ds (hC : CH I 3 11 H W A) {r q : Nat} (hr : r < H.1 4) (hq : q < H.1 4) : I 7 (4 * r + q) = oI (dst (dor H) r q) := hC.2.2.2.2.1 r q hr hq
theorem ch_gr (hC : CH I 3 11 H W A) {v : Nat} (hv : v < H.1 6) : I 8 v = nI (H.2 1 v) := hC.2.2.2.2.2.1 v hv
theorem ch_gm (hC : CH I 3 11 H W A) {v : Nat} (hv : v < H.1 6) : I 9 v = nI (H.2 2 v) := hC.2.2.2.2.2.2.1 v hv
theorem ch_pl (hC : CH I 3 11 H W A) {i : Nat} (hi : i < H.1 7) : I 10 i = nI (H.2 3 i) := hC.2.2.2.2.2.2.2.1 i hi
theorem ch_an (hC : CH I 3 11 H W A) : I 11 2 = nI A.1 := hC.2.2.2.2.2.2.2.2.1
theorem ch_ar (hC : CH I 3 11 H W A) {i : Nat} (hi : i < A.1) : I 12 i = oI (A.2.1 i) := hC.2.2.2.2.2.2.2.2.2.1 i hi
theorem ch_am (hC : CH I 3 11 H W A) {i : Nat} (hi : i < A.1) : I 13 i = nI (A.2.2 i) := hC.2.2.2.2.2.2.2.2.2.2 i hi
/-- the night is made ready by g -/
def NRd (I : FI) (H : HD) (g : NG) : Prop := I 26 10 = nI (H.1 4) ∧ I 26 11 = nI (H.1 3) ∧ I 26 6 = nI g.1.1 ∧ I 26 7 = nI g.1.2.2.1 ∧ I 26 8 = nI g.1.2.1 ∧ I 26 9 = nI g.1.2.2.2 ∧ (∀ r, r < H.1 4 → I 27 r = nI (g.2.1 r)) ∧ (∀ j, j < 30 → I 28 j = nI (g.2.2 j))
theorem l53_2 (ho : HOK H W A) (hC : CH I 3 11 H W A) {b : Nat → Nat} (hb : ∀ j, j < 30 → b j < 16) (h28 : ∀ j, j < 30 → I 28 j = nI (b j)) (h9 : I 26 9 = nI 0) (hn : 1000 ≤ n) :
    ∃ I', ((∀ j, j < 30 → I' 28 j = nI (gal A b A.1 j)) ∧ I' 26 9 = nI (npN A A.1) ∧ ∀ a i, a ≠ 28 → (a ≠ 26 ∨ i ≠ 9) → I' a i = I a i) ∧ c_53_2 n n (nI 0) I L = some (I', L) := by
  have oA : A.1 ≤ 30 := ho.1.2.2.2.2.2.2.2.2
  have o4 : H.1 4 ≤ 4 := ho.1.2.2.2.2.1
  have o3 : H.1 3 ≤ 30 := ho.1.2.2.2.1
  have hA := ho.2.2.2.2.2.1
  refine lpE (fun m k (s : FI) => c_53_2 n m (nI k) s L) A.1 (fun k s => (∀ j, j < 30 → s 28 j = nI (gal A b k j)) ∧ s 26 9 = nI (npN A k) ∧ ∀ a i, a ≠ 28 → (a ≠ 26 ∨ i ≠ 9) → s a i = I a i) (fun s => some (s, L)) (fun m s hs => ?_) (fun m k s hk hs => ?_) n 0 I (by omega) (by omega) ⟨h28, h9, fun _ _ _ _ => rfl⟩
  · obtain ⟨s1, s2, s3⟩ := hs
    show b_53_2 n (c_53_2 n m) (nI A.1) s L = _
    unfold b_53_2
    rw [s3 11 2 (by decide) (Or.inl (by decide)), ch_an hC, if_pos (nI_le (Nat.le_refl _) (by omega))]
  · obtain ⟨s1, s2, s3⟩ := hs
    have hk2 := hA k hk
    have e12 : s 12 k = oI (A.2.1 k) := (s3 12 k (by decide) (Or.inl (by decide))).trans (ch_ar hC hk)
    have e13 : s 13 k = nI (A.2.2 k) := (s3 13 k (by decide) (Or.inl (by decide))).trans (ch_am hC hk)
    by_cases h0 : A.2.1 k = 0
    · refine ⟨u2 s 26 9 (nI (npN A (k + 1))), ⟨fun j hj => ?_, u2_s, fun a i ha hi => ?_⟩, ?_⟩
      · rw [u2_c (by decide), s1 j hj]
        show _ = nI (if A.2.1 k ≠ 0 ∧ A.2.2 k = j then _ else _)
        rw [if_neg (fun q => q.1 h0)]
      · rw [← s3 a i ha hi]
        rcases hi with h | h
        · exact u2_c h
        · by_cases e : a = 26
          · subst e; exact u2_o h
          · exact u2_c e
      · show b_53_2 n (c_53_2 n m) (nI k) s L = _
        unfold b_53_2
        rw [s3 11 2 (by decide) (Or.inl (by decide)), ch_an hC, if_neg (nI_ge hk (by omega)), ku_if (by omega) (by omega), nI_clamp (by omega), e12, h0, oI_0, if_neg (by decide), ku_if (by omega) (by omega), e13, s2, ku_or (by omega)]
        unfold c_53_3
        rw [nI_1]
        show _ = c_53_2 n m (nI (k + 1)) (u2 s 26 9 (nI (if A.2.1 k = 0 then npN A k ||| 2 ^ A.2.2 k else npN A k))) L
        rw [if_pos h0]
    · have hg := gal_lt ho (hb (A.2.2 k) (by omega)) k (by omega)
      refine ⟨u2 s 28 (A.2.2 k) (nI (gal A b k (A.2.2 k) ||| 2 ^ (A.2.1 k - 1))), ⟨fun j hj => ?_, ?_, fun a i ha hi => ?_⟩, ?_⟩
      · show _ = nI (if A.2.1 k ≠ 0 ∧ A.2.2 k = j then _ else _)
        by_cases e : A.2.2 k = j
        · subst e; rw [u2_s, if_pos ⟨h0, rfl⟩]
        · rw [u2_o (Ne.symm e), if_neg (fun q => e q.2), s1 j hj]
      · rw [u2_c (by decide), s2]
        show _ = nI (if A.2.1 k = 0 then _ else _)
        rw [if_neg h0]
      · rw [u2_c ha]; exact s3 a i ha hi
      · show b_53_2 n (c_53_2 n m) (nI k) s L = _
        unfold b_53_2
        rw [s3 11 2 (by decide) (Or.inl (by decide)), ch_an hC, if_neg (nI_ge hk (by omega)), ku_if (by omega) (by omega), nI_clamp (by omega), e12, if_pos (by rw [oI_m1 (by omega)]; exact h0), ku_if (by omega) (by omega), e13, ku_if (by omega) (by omega), ku_if (by omega) (by omega), ku_if (by omega) (by omega), nI_clamp (by omega), s1 _ (by omega), ku_o1 (by omega), ku_or (by omega)]
        unfold c_53_3
        rw [nI_1]
theorem l53_1 (ho : HOK H W A) (hC : CH I 3 11 H W A) {cm : Nat} (hcm : cm < 32) (h28 : ∀ j, j < 30 → I 28 j = nI 0) (hn : 1000 ≤ n) :
    ∃ I', ((∀ j, j < 30 → I' 28 j = nI (gvs H (fun k => cm.testBit k) (H.1 6) j)) ∧ ∀ a i, a ≠ 28 → I' a i = I a i) ∧ c_53_1 n n (nI cm) (nI 0) I L = c_53_2 n n (nI 0) I' L := by
  have o6 : H.1 6 ≤ 5 := ho.1.2.2.2.2.2.2.1
  have o4 : H.1 4 ≤ 4 := ho.1.2.2.2.2.1
  have hG := ho.2.2.1
  refine lpE (fun m k (s : FI) => c_53_1 n m (nI cm) (nI k) s L) (H.1 6) (fun k s => (∀ j, j < 30 → s 28 j = nI (gvs H (fun k => cm.testBit k) k j)) ∧ ∀ a i, a ≠ 28 → s a i = I a i) (fun s => c_53_2 n n (nI 0) s L) (fun m s hs => ?_) (fun m k s hk hs => ?_) n 0 I (by omega) (by omega) ⟨h28, fun _ _ _ => rfl⟩
  · obtain ⟨s1, s3⟩ := hs
    show b_53_1 n (c_53_1 n m) (nI cm) (nI (H.1 6)) s L = _
    unfold b_53_1
    rw [s3 3 6 (by decide), chs hC (by decide), if_pos (nI_le (Nat.le_refl _) (by omega))]; rfl
  · obtain ⟨s1, s3⟩ := hs
    have hk2 := hG k hk
    have e8 : s 8 k = nI (H.2 1 k) := (s3 8 k (by decide)).trans (ch_gr hC hk)
    have e9 : s 9 k = nI (H.2 2 k) := (s3 9 k (by decide)).trans (ch_gm hC hk)
    by_cases h0 : cm.testBit k = true
    · have hg := gvs_lt ho (fun k => cm.testBit k) (H.2 2 k) k (by omega)
      refine ⟨u2 s 28 (H.2 2 k) (nI (gvs H (fun k => cm.testBit k) k (H.2 2 k) ||| 2 ^ (H.2 1 k))), ⟨fun j hj => ?_, fun a i ha => ?_⟩, ?_⟩
      · show _ = nI (if cm.testBit k = true ∧ H.2 2 k = j then _ else _)
        by_cases e : H.2 2 k = j
        · subst e; rw [u2_s, if_pos ⟨h0, rfl⟩]
        · rw [u2_o (Ne.symm e), if_neg (fun q => e q.2), s1 j hj]
      · rw [u2_c ha]; exact s3 a i ha
      · show b_53_1 n (c_53_1 n m) (nI cm) (nI k) s L = _
        unfold b_53_1
        rw [s3 3 6 (by decide), chs hC (by decide), if_neg (nI_ge hk (by omega)), ku_bit2 (by omega) (by omega), q_b1, if_pos h0, ku_if (by omega) (by omega), nI_clamp (by omega), e9, ku_if (by omega) (by omega), ku_if (by omega) (by omega), ku_if (by omega) (by omega), nI_clamp (by omega), s1 _ (by omega), e8, ku_or (by omega)]
        unfold c_53_4
        rw [nI_1]
    · refine ⟨s, ⟨fun j hj => ?_, s3⟩, ?_⟩
      · rw [s1 j hj]
        show _ = nI (if cm.testBit k = true ∧ H.2 2 k = j then _ else _)
        rw [if_neg (fun q => h0 q.1)]
      · show b_53_1 n (c_53_1 n m) (nI cm) (nI k) s L = _
        unfold b_53_1
        rw [s3 3 6 (by decide), chs hC (by decide), if_neg (nI_ge hk (by omega)), ku_bit2 (by omega) (by omega), q_b1, if_neg h0]
        unfold c_53_4
        rw [nI_1]
theorem l53_0 {x : Int32} (hn : 1000 ≤ n) :
    ∃ I', ((∀ j, j < 30 → I' 28 j = nI 0) ∧ ∀ a i, a ≠ 28 → I' a i = I a i) ∧ c_53_0 n n x (nI 0) I L = c_53_1 n n x (nI 0) I' L := by
  refine lpE (fun m k (s : FI) => c_53_0 n m x (nI k) s L) 30 (fun k s => (∀ j, j < k → s 28 j = nI 0) ∧ ∀ a i, a ≠ 28 → s a i = I a i) (fun s => c_53_1 n n x (nI 0) s L) (fun m s hs => ?_) (fun m k s hk hs => ?_) n 0 I (by omega) (by omega) ⟨fun j hj => absurd hj (by omega), fun _ _ _ => rfl⟩
  · show b_53_0 n (c_53_0 n m) x (nI 30) s L = _
    unfold b_53_0
    rw [if_pos (by decide)]; rfl
  · obtain ⟨s1, s3⟩ := hs
    refine ⟨u2 s 28 k (nI 0), ⟨fun j hj => ?_, fun a i ha => ?_⟩, ?_⟩
    · by_cases e : j = k
      · subst e; exact u2_s
      · rw [u2_o e]; exact s1 j (by omega)
    · rw [u2_c ha]; exact s3 a i ha
    · show b_53_0 n (c_53_0 n m) x (nI k) s L = _
      unfold b_53_0
      rw [ku_30, if_neg (nI_ge hk (by omega)), ku_if (by omega) (by omega), nI_clamp (by omega), nI_1]; rfl
theorem CH_u {I' : FI} (hC : CH I 3 11 H W A) (e : ∀ a i, a < 14 → I' a i = I a i) : CH I' 3 11 H W A := CH_fr hC (fun c hc i => e c i (by omega))
/-- the night made ready: visitors cm come -/
theorem e53 (ho : HOK H W A) (hC : CH I 3 11 H W A) {cm : Nat} (hcm : cm < 32) (hn : 1000 ≤ n) :
    ∃ I', f_53 n (nI cm) I L = some (I', L) ∧ NRd I' H ((H.1 1, 0, 0, npN A A.1), H.2 0, gst H A (fun k => cm.testBit k)) ∧ ∀ a i, a ≠ 26 → a ≠ 27 → a ≠ 28 → I' a i = I a i := by
  have o4 : H.1 4 ≤ 4 := ho.1.2.2.2.2.1
  have e1 : ∀ a i, a ≠ 26 → a ≠ 27 → c2 (u2 (u2 (u2 (u2 (u2 (u2 I 26 10 (I 3 4)) 26 11 (I 3 3)) 26 6 (I 3 1)) 26 7 0) 26 8 0) 26 9 0) 4 27 0 0 4 a i = I a i := fun a i h1 h2 => by
    rw [c2_ne h2, u2_c h1, u2_c h1, u2_c h1, u2_c h1, u2_c h1, u2_c h1]
  obtain ⟨J, ⟨j1, j2⟩, je⟩ := l53_0 (n := n) (L := L) (x := nI cm) (I := c2 (u2 (u2 (u2 (u2 (u2 (u2 I 26 10 (I 3 4)) 26 11 (I 3 3)) 26 6 (I 3 1)) 26 7 0) 26 8 0) 26 9 0) 4 27 0 0 4) hn
  have hC1 : CH J 3 11 H W A := CH_u hC (fun a i h => by rw [j2 a i (by omega), e1 a i (by omega) (by omega)])
  obtain ⟨K, ⟨k1, k2⟩, ke⟩ := l53_1 (n := n) (L := L) ho hC1 hcm j1 hn
  have hC2 : CH K 3 11 H W A := CH_u hC1 (fun a i h => k2 a i (by omega))
  have h9 : K 26 9 = nI 0 := by rw [k2 26 9 (by decide), j2 26 9 (by decide), c2_ne (by decide), u2_s]; rfl
  obtain ⟨M, ⟨m1, m2, m3⟩, me⟩ := l53_2 (n := n) (L := L) ho hC2 (fun j hj => gvs_lt ho _ j _ (Nat.le_refl _)) k1 h9 hn
  have e26 : ∀ i, i ≠ 9 → M 26 i = u2 (u2 (u2 (u2 (u2 (u2 I 26 10 (I 3 4)) 26 11 (I 3 3)) 26 6 (I 3 1)) 26 7 0) 26 8 0) 26 9 0 26 i := fun i hi => by
    rw [m3 26 i (by decide) (Or.inr hi), k2 26 i (by decide), j2 26 i (by decide), c2_ne (by decide)]
  refine ⟨M, ?_, ⟨?_, ?_, ?_, ?_, ?_, m2, fun r hr => ?_, m1⟩, fun a i h1 h2 h3 => ?_⟩
  · unfold f_53
    rw [show (0 : Int32) = nI 0 from rfl] at *
    rw [je, ke, me]
  · rw [e26 10 (by decide), u2_o (by decide), u2_o (by decide), u2_o (by decide), u2_o (by decide), u2_o (by decide), u2_s]; exact chs hC (by decide)
  · rw [e26 11 (by decide), u2_o (by decide), u2_o (by decide), u2_o (by decide), u2_o (by decide), u2_s]; exact chs hC (by decide)
  · rw [e26 6 (by decide), u2_o (by decide), u2_o (by decide), u2_o (by decide), u2_s]; exact chs hC (by decide)
  · rw [e26 7 (by decide), u2_o (by decide), u2_o (by decide), u2_s]; rfl
  · rw [e26 8 (by decide), u2_o (by decide), u2_s]; rfl
  · rw [m3 27 r (by decide) (Or.inl (by decide)), k2 27 r (by decide), j2 27 r (by decide), c2_eq, pk_cpy_in (by omega) (by omega), show 0 + (r - 0) = r by omega, u2_c (by decide), u2_c (by decide), u2_c (by decide), u2_c (by decide), u2_c (by decide), u2_c (by decide)]
    exact ch_wt hC hr
  · rw [m3 a i h3 (Or.inl h1), k2 a i h3, j2 a i h3, e1 a i h1 h2]
theorem g53_2 (n : Nat) : ∀ m, c_53_1_2 n m = c_53_2 n m
  | 0 => rfl
  | m + 1 => by funext x I L; show b_53_1_2 n (c_53_1_2 n m) x I L = b_53_2 n (c_53_2 n m) x I L; rw [g53_2 n m]; rfl
theorem g53_1 (n : Nat) : ∀ m, c_53_1_1 n m = c_53_1 n m
  | 0 => rfl
  | m + 1 => by funext x y I L; show b_53_1_1 n (c_53_1_1 n m) x y I L = b_53_1 n (c_53_1 n m) x y I L; rw [g53_1 n m]; unfold b_53_1_1 b_53_1; rw [g53_2]; rfl
theorem g53_0 (n : Nat) : ∀ m, c_53_1_0 n m = c_53_0 n m
  | 0 => rfl
  | m + 1 => by funext x y I L; show b_53_1_0 n (c_53_1_0 n m) x y I L = b_53_0 n (c_53_0 n m) x y I L; rw [g53_0 n m]; unfold b_53_1_0 b_53_0; rw [g53_1]
theorem f53_1 (n : Nat) (x : Int32) (I : FI) (L : FL) : f_53_1 n x I L = f_53 n x I L := by unfold f_53_1 f_53; rw [g53_0]
theorem gok0 (ho : HOK H W A) (cm : Nat → Bool) : GOK H ((H.1 1, 0, 0, npN A A.1), H.2 0, gst H A cm) := by
  refine ⟨ho.1.2.1, by show (0 : Nat) ≤ 1; omega, ?_, npN_lt ho _ (Nat.le_refl _), fun r hr => ⟨(ho.2.1 r hr).1, (ho.2.1 r hr).2.1⟩, fun j _ => gst_lt ho cm j⟩
  show H.1 7 = 0 ∨ 0 < H.1 7
  omega
end CPREP
