/-! LAYER 3: shares, second. Printed by wip/whole/gen79.py -/
section KSH
variable {I : FI} {L : FL} {H : HD} {W : Nat → Nat} {A : AD} {set : Nat} {n : Nat}
def KRm (H : HD) (r set : Nat) : Prop := Kept H (H.1 1) set (H.2 0) (st0 H (H.1 1) set r)
/-- the lamps are shared so -/
def DSH (H : HD) (r x : Nat) : Prop := KS H x ∧ KRm H r (evr H - x)
def LEA (H : HD) (r v : Nat) : Prop := (v = 0 ∧ ∀ x, x < evr H + 1 → ¬ DSH H r x) ∨ ∃ x, v = x + 1 ∧ x < evr H + 1 ∧ DSH H r x ∧ ∀ y, y < x → ¬ DSH H r y
theorem LEA_u {r v u : Nat} (h1 : LEA H r v) (h2 : LEA H r u) : v = u := by
  rcases h1 with ⟨a, b⟩ | ⟨t, a, b, c, d⟩ <;> rcases h2 with ⟨a', b'⟩ | ⟨t', a', b', c', d'⟩
  · omega
  · exact absurd c' (b t' b')
  · exact absurd c (b' t b)
  · rcases Nat.lt_trichotomy t t' with h | h | h
    · exact absurd c (d' t h)
    · omega
    · exact absurd c' (d t' h)
theorem LEA_l {r v : Nat} (h : LEA H r v) : v ≤ evr H + 1 := by
  rcases h with ⟨a, _⟩ | ⟨t, a, b, _⟩ <;> omega
def SEC (H : HD) (v : Nat) : Prop := (v = 0 ∧ ∀ r, r < H.1 4 → LEA H r 0) ∨ ∃ r, v = r + 1 ∧ r < H.1 4 ∧ ¬ LEA H r 0 ∧ ∀ q, q < r → LEA H q 0
theorem SEC_u {v u : Nat} (h1 : SEC H v) (h2 : SEC H u) : v = u := by
  rcases h1 with ⟨a, b⟩ | ⟨t, a, b, c, d⟩ <;> rcases h2 with ⟨a', b'⟩ | ⟨t', a', b', c', d'⟩
  · omega
  · exact absurd (b t' b') c'
  · exact absurd (b' t b) c
  · rcases Nat.lt_trichotomy t t' with h | h | h
    · exact absurd (d' t h) c
    · omega
    · exact absurd (d t' h) c'
theorem eKR (hn : 200000 ≤ n) (ho : HOK H W A) (hC : CH I 3 11 H W A) (hP : KPK H I L) (hs : set < 2 ^ (H.1 4)) {r : Nat} (hr : r < H.1 4) : ∃ b x I' L', f_32 n (nI set) I L = some (x, I', L') ∧ (∀ J M, f_188 (nI r) x J M = some (nI b)) ∧ ((b = 1 ∧ KRm H r set) ∨ (b = 0 ∧ ¬ KRm H r set)) ∧ KPK H I' L' ∧ (∀ c i, (c < 114 ∨ 121 < c) → I' c i = I c i) ∧ ∀ c i, c ≠ 117 → L' c i = L c i := by
  have o4 : H.1 4 ≤ 4 := ho.1.2.2.2.2.1
  have hp := pw5 _ (show H.1 4 < 5 by omega)
  obtain ⟨x, I', L', a, ⟨b1, b2⟩, c, d, e⟩ := e32 (L := L) hn ho hC hP hs
  have e188 : ∀ (J : FI) (M : FL), f_188 (nI r) (nI x) J M = some (bI (x.testBit r = true)) := fun J M => by
    unfold f_188
    rw [if_neg (by rw [ku_m, ku_on (by omega) (by omega)]; omega), ku_bit2 (by omega) (by omega), q_b1]
    by_cases hb : x.testBit r = true
    · rw [if_pos hb, bI_p hb]
    · rw [if_neg hb, bI_n hb]
  by_cases hb : x.testBit r = true
  · exact ⟨1, nI x, I', L', a, fun J M => by rw [e188, bI_p hb]; rfl, Or.inl ⟨rfl, (b2 _ hr).mp hb⟩, c, d, e⟩
  · exact ⟨0, nI x, I', L', a, fun J M => by rw [e188, bI_n hb]; rfl, Or.inr ⟨rfl, fun q => hb ((b2 _ hr).mpr q)⟩, c, d, e⟩
theorem s190a (hn : 200000 ≤ n) (ho : HOK H W A) (hC : CH I 3 11 H W A) (hP : KPK H I L) {r m k : Nat} (hr : r < H.1 4) (hk : k ≤ evr H + 1) (hm : (evr H + 1) - k < m) (h0 : ∀ y, y < k → ¬ DSH H r y) : ∃ v I' L', c_190_1_0 n m (nI r) (nI (evr H)) (nI k) I L = some (oI v, I', L') ∧ LEA H r v ∧ KPK H I' L' ∧ (∀ c i, (c < 114 ∨ 121 < c) → I' c i = I c i) ∧ ∀ c i, c ≠ 117 → L' c i = L c i := by
  have hev := evr_lt H
  have he16 := ev16 ho
  rcases lpG (fun m k (s : FI × FL) => c_190_1_0 n m (nI r) (nI (evr H)) (nI k) s.1 s.2) (evr H + 1) (fun k s => (∀ y, y < k → ¬ DSH H r y) ∧ KPK H s.1 s.2 ∧ (∀ c i, (c < 114 ∨ 121 < c) → s.1 c i = I c i) ∧ ∀ c i, c ≠ 117 → s.2 c i = L c i) (fun s => some (oI 0, s.1, s.2)) (fun q => ∃ x I' L', q = some (oI (x + 1), I', L') ∧ x < evr H + 1 ∧ DSH H r x ∧ (∀ y, y < x → ¬ DSH H r y) ∧ KPK H I' L' ∧ (∀ c i, (c < 114 ∨ 121 < c) → I' c i = I c i) ∧ ∀ c i, c ≠ 117 → L' c i = L c i) (fun m s hI => by
      show b_190_1_0 n (c_190_1_0 n m) (nI r) (nI (evr H)) (nI (evr H + 1)) s.1 s.2 = _
      unfold b_190_1_0 c_190_1_1
      rw [if_pos (nI_lt (by omega) (by omega)), oI_0]) (fun m k s hk hI => by
      obtain ⟨s0, s1, s2, s3⟩ := hI
      have hCs : CH s.1 3 11 H W A := CH_u hC (fun a i ha => s2 a i (by omega))
      obtain ⟨b, x, I1, L1, e1, e2, e3, e4, e5, e6⟩ := eKS (set := k) (L := s.2) hn ho hCs s1 (by omega)
      have hC1 : CH I1 3 11 H W A := CH_u hCs (fun a i ha => e5 a i (by omega))
      obtain ⟨b', x', I2, L2, g1, g2, g3, g4, g5, g6⟩ := eKR (set := evr H - (k)) (L := L1) hn ho hC1 e4 (by omega) hr
      have hpre : ∀ q, (if nI b = 0 then c_190_1_0 n m (nI r) (nI (evr H)) (nI (k + 1)) I1 L1 else if nI b' = 0 then c_190_1_0 n m (nI r) (nI (evr H)) (nI (k + 1)) I2 L2 else some (nI (k), I2, L2)) = q → c_190_1_0 n (m + 1) (nI r) (nI (evr H)) (nI k) s.1 s.2 = q := fun q hq => by
        show b_190_1_0 n (c_190_1_0 n m) (nI r) (nI (evr H)) (nI k) s.1 s.2 = _
        unfold b_190_1_0 c_190_1_1
        rw [if_neg (nI_nlt (by omega) (by omega)), e23 ho hCs, q_bs, show f_187 s.1 s.2 = some (s.1, s.2) from rfl, q_bs]
        dsimp only
        rw [e1, q_bs]
        dsimp only
        rw [e2, q_bs, show f_187 I1 L1 = some (I1, L1) from rfl, q_bs]
        dsimp only
        rw [cmpl_k ho (by omega), g1, q_bs]
        dsimp only
        rw [g2, q_bs, nI_1]
        exact hq
      have hlt : ¬ DSH H r (k) → ∀ y, y < (k + 1) → ¬ DSH H r y := fun hd y hy => by
        rcases (show y < k ∨ y = k by omega) with h | rfl
        · exact s0 y h
        · exact hd
      rcases e3 with ⟨rfl, e3⟩ | ⟨rfl, e3⟩
      · rw [if_neg (show ¬ nI 1 = 0 by decide)] at hpre
        rcases g3 with ⟨rfl, g3⟩ | ⟨rfl, g3⟩
        · rw [if_neg (show ¬ nI 1 = 0 by decide)] at hpre
          exact Or.inl ⟨k, I2, L2, hpre _ (by rw [oI_s]), by omega, ⟨e3, g3⟩, s0, g4, fun c i hc => by rw [g5 c i hc, e5 c i hc]; exact s2 c i hc, fun c i hc => by rw [g6 c i hc, e6 c i hc]; exact s3 c i hc⟩
        · rw [if_pos (show nI 0 = 0 by decide)] at hpre
          exact Or.inr ⟨(I2, L2), ⟨hlt (fun q => g3 q.2), g4, fun c i hc => by show I2 c i = _; rw [g5 c i hc, e5 c i hc]; exact s2 c i hc, fun c i hc => by show L2 c i = _; rw [g6 c i hc, e6 c i hc]; exact s3 c i hc⟩, hpre _ rfl⟩
      · rw [if_pos (show nI 0 = 0 by decide)] at hpre
        exact Or.inr ⟨(I1, L1), ⟨hlt (fun q => e3 q.1), e4, fun c i hc => (e5 c i hc).trans (s2 c i hc), fun c i hc => (e6 c i hc).trans (s3 c i hc)⟩, hpre _ rfl⟩) m k (I, L) hk hm ⟨h0, hP, fun _ _ _ => rfl, fun _ _ _ => rfl⟩ with ⟨x, I', L', x1, x2, x3, x4, x5, x6, x7⟩ | ⟨⟨I', L'⟩, ⟨k1, k2, k3, k4⟩, e⟩
  · exact ⟨x + 1, I', L', x1, Or.inr ⟨x, rfl, x2, x3, x4⟩, x5, x6, x7⟩
  · exact ⟨0, I', L', e, Or.inl ⟨rfl, k1⟩, k2, k3, k4⟩
theorem s190b (hn : 200000 ≤ n) (ho : HOK H W A) (hC : CH I 3 11 H W A) (hP : KPK H I L) {r m k : Nat} (hr : r < H.1 4) (hk : k ≤ evr H) (hm : (evr H) - k < m) (h0 : ∀ y, y < k + 1 → ¬ DSH H r y) : ∃ v I' L', c_190_1 n m (nI r) (nI (evr H)) (nI k) I L = some (oI v, true, I', L') ∧ LEA H r v ∧ KPK H I' L' ∧ (∀ c i, (c < 114 ∨ 121 < c) → I' c i = I c i) ∧ ∀ c i, c ≠ 117 → L' c i = L c i := by
  have hev := evr_lt H
  have he16 := ev16 ho
  rcases lpG (fun m k (s : FI × FL) => c_190_1 n m (nI r) (nI (evr H)) (nI k) s.1 s.2) (evr H) (fun k s => (∀ y, y < k + 1 → ¬ DSH H r y) ∧ KPK H s.1 s.2 ∧ (∀ c i, (c < 114 ∨ 121 < c) → s.1 c i = I c i) ∧ ∀ c i, c ≠ 117 → s.2 c i = L c i) (fun s => some (oI 0, true, s.1, s.2)) (fun q => ∃ x I' L', q = some (oI (x + 1), true, I', L') ∧ x < evr H + 1 ∧ DSH H r x ∧ (∀ y, y < x → ¬ DSH H r y) ∧ KPK H I' L' ∧ (∀ c i, (c < 114 ∨ 121 < c) → I' c i = I c i) ∧ ∀ c i, c ≠ 117 → L' c i = L c i) (fun m s hI => by
      show b_190_1 n (c_190_1 n m) (nI r) (nI (evr H)) (nI (evr H)) s.1 s.2 = _
      unfold b_190_1 c_190_2
      rw [nI_1, if_pos (nI_lt (by omega) (by omega)), oI_0]) (fun m k s hk hI => by
      obtain ⟨s0, s1, s2, s3⟩ := hI
      have hCs : CH s.1 3 11 H W A := CH_u hC (fun a i ha => s2 a i (by omega))
      obtain ⟨b, x, I1, L1, e1, e2, e3, e4, e5, e6⟩ := eKS (set := k + 1) (L := s.2) hn ho hCs s1 (by omega)
      have hC1 : CH I1 3 11 H W A := CH_u hCs (fun a i ha => e5 a i (by omega))
      obtain ⟨b', x', I2, L2, g1, g2, g3, g4, g5, g6⟩ := eKR (set := evr H - (k + 1)) (L := L1) hn ho hC1 e4 (by omega) hr
      have hpre : ∀ q, (if nI b = 0 then c_190_1 n m (nI r) (nI (evr H)) (nI (k + 1)) I1 L1 else if nI b' = 0 then c_190_1 n m (nI r) (nI (evr H)) (nI (k + 1)) I2 L2 else some (nI (k + 1), true, I2, L2)) = q → c_190_1 n (m + 1) (nI r) (nI (evr H)) (nI k) s.1 s.2 = q := fun q hq => by
        show b_190_1 n (c_190_1 n m) (nI r) (nI (evr H)) (nI k) s.1 s.2 = _
        unfold b_190_1 c_190_2
        rw [nI_1, if_neg (nI_nlt (by omega) (by omega)), e23 ho hCs, q_bs, show f_187 s.1 s.2 = some (s.1, s.2) from rfl, q_bs]
        dsimp only
        rw [e1, q_bs]
        dsimp only
        rw [e2, q_bs, show f_187 I1 L1 = some (I1, L1) from rfl, q_bs]
        dsimp only
        rw [cmpl_k ho (by omega), g1, q_bs]
        dsimp only
        rw [g2, q_bs]
        exact hq
      have hlt : ¬ DSH H r (k + 1) → ∀ y, y < (k + 1) + 1 → ¬ DSH H r y := fun hd y hy => by
        rcases (show y < k + 1 ∨ y = k + 1 by omega) with h | rfl
        · exact s0 y h
        · exact hd
      rcases e3 with ⟨rfl, e3⟩ | ⟨rfl, e3⟩
      · rw [if_neg (show ¬ nI 1 = 0 by decide)] at hpre
        rcases g3 with ⟨rfl, g3⟩ | ⟨rfl, g3⟩
        · rw [if_neg (show ¬ nI 1 = 0 by decide)] at hpre
          exact Or.inl ⟨k + 1, I2, L2, hpre _ (by rw [oI_s]), by omega, ⟨e3, g3⟩, s0, g4, fun c i hc => by rw [g5 c i hc, e5 c i hc]; exact s2 c i hc, fun c i hc => by rw [g6 c i hc, e6 c i hc]; exact s3 c i hc⟩
        · rw [if_pos (show nI 0 = 0 by decide)] at hpre
          exact Or.inr ⟨(I2, L2), ⟨hlt (fun q => g3 q.2), g4, fun c i hc => by show I2 c i = _; rw [g5 c i hc, e5 c i hc]; exact s2 c i hc, fun c i hc => by show L2 c i = _; rw [g6 c i hc, e6 c i hc]; exact s3 c i hc⟩, hpre _ rfl⟩
      · rw [if_pos (show nI 0 = 0 by decide)] at hpre
        exact Or.inr ⟨(I1, L1), ⟨hlt (fun q => e3 q.1), e4, fun c i hc => (e5 c i hc).trans (s2 c i hc), fun c i hc => (e6 c i hc).trans (s3 c i hc)⟩, hpre _ rfl⟩) m k (I, L) hk hm ⟨h0, hP, fun _ _ _ => rfl, fun _ _ _ => rfl⟩ with ⟨x, I', L', x1, x2, x3, x4, x5, x6, x7⟩ | ⟨⟨I', L'⟩, ⟨k1, k2, k3, k4⟩, e⟩
  · exact ⟨x + 1, I', L', x1, Or.inr ⟨x, rfl, x2, x3, x4⟩, x5, x6, x7⟩
  · exact ⟨0, I', L', e, Or.inl ⟨rfl, k1⟩, k2, k3, k4⟩
theorem e190a (hn : 200000 ≤ n) (ho : HOK H W A) (hC : CH I 3 11 H W A) (hP : KPK H I L) {r : Nat} (hr : r < H.1 4) : ∃ v I' L', f_190_1 n (nI r) I L = some (oI v, I', L') ∧ LEA H r v ∧ KPK H I' L' ∧ (∀ c i, (c < 114 ∨ 121 < c) → I' c i = I c i) ∧ ∀ c i, c ≠ 117 → L' c i = L c i := by
  have he16 := ev16 ho
  unfold f_190_1
  rw [e24 ho hC, q_bs]
  exact s190a (m := n) (k := 0) hn ho hC hP hr (by omega) (by omega) (fun y hy => absurd hy (by omega))
theorem e190 (hn : 200000 ≤ n) (ho : HOK H W A) (hC : CH I 3 11 H W A) {J : FI} {M : FL} (hf : f_findA n I L = some (J, M)) (hCJ : CH J 3 11 H W A) (hP : KPK H J M) {r : Nat} (hr : r < H.1 4) : ∃ v I' L', f_190 n (nI r) I L = some (oI v, true, I', L') ∧ LEA H r v ∧ KPK H I' L' ∧ (∀ c i, (c < 114 ∨ 121 < c) → I' c i = J c i) ∧ ∀ c i, c ≠ 117 → L' c i = M c i := by
  have hev := evr_lt H
  have he16 := ev16 ho
  obtain ⟨b, x, I1, L1, e1, e2, e3, e4, e5, e6⟩ := eKS (set := 0) (L := M) hn ho hCJ hP (by omega)
  have hC1 : CH I1 3 11 H W A := CH_u hCJ (fun a i ha => e5 a i (by omega))
  obtain ⟨b', x', I2, L2, g1, g2, g3, g4, g5, g6⟩ := eKR (set := evr H - 0) (L := L1) hn ho hC1 e4 (by omega) hr
  have hpre : ∀ q, (if nI b = 0 then c_190_1 n n (nI r) (nI (evr H)) (nI 0) I1 L1 else if nI b' = 0 then c_190_1 n n (nI r) (nI (evr H)) (nI 0) I2 L2 else some (nI 0, true, I2, L2)) = q → f_190 n (nI r) I L = q := fun q hq => by
    unfold f_190 c_190_0
    rw [e24 ho hC, q_bs, show (0 : Int32) = nI 0 from rfl, if_neg (nI_nlt (by omega) (by omega)), e23 ho hC, q_bs, hf, q_bs]
    dsimp only
    rw [e1, q_bs]
    dsimp only
    rw [e2, q_bs, show f_187 I1 L1 = some (I1, L1) from rfl, q_bs]
    dsimp only
    rw [cmpl_k ho (by omega), g1, q_bs]
    dsimp only
    rw [g2, q_bs]
    exact hq
  have h01 : ¬ DSH H r 0 → ∀ y, y < 0 + 1 → ¬ DSH H r y := fun hd y hy => by
    rw [show y = 0 by omega]; exact hd
  rcases e3 with ⟨rfl, e3⟩ | ⟨rfl, e3⟩
  · rw [if_neg (show ¬ nI 1 = 0 by decide)] at hpre
    rcases g3 with ⟨rfl, g3⟩ | ⟨rfl, g3⟩
    · rw [if_neg (show ¬ nI 1 = 0 by decide)] at hpre
      exact ⟨1, I2, L2, hpre _ (by rw [oI_s]), Or.inr ⟨0, rfl, by omega, ⟨e3, g3⟩, fun y hy => absurd hy (by omega)⟩, g4, fun c i hc => (g5 c i hc).trans (e5 c i hc), fun c i hc => (g6 c i hc).trans (e6 c i hc)⟩
    · rw [if_pos (show nI 0 = 0 by decide)] at hpre
      obtain ⟨v, I', L', v1, v2, v3, v4, v5⟩ := s190b (m := n) (k := 0) hn ho (CH_u hC1 (fun a i ha => g5 a i (by omega))) g4 hr (by omega) (by omega) (h01 (fun q => g3 q.2))
      exact ⟨v, I', L', hpre _ v1, v2, v3, fun c i hc => by rw [v4 c i hc, g5 c i hc, e5 c i hc], fun c i hc => by rw [v5 c i hc, g6 c i hc, e6 c i hc]⟩
  · rw [if_pos (show nI 0 = 0 by decide)] at hpre
    obtain ⟨v, I', L', v1, v2, v3, v4, v5⟩ := s190b (m := n) (k := 0) hn ho hC1 e4 hr (by omega) (by omega) (h01 (fun q => e3 q.1))
    exact ⟨v, I', L', hpre _ v1, v2, v3, fun c i hc => by rw [v4 c i hc, e5 c i hc], fun c i hc => by rw [v5 c i hc, e6 c i hc]⟩
/-- by the model -/
theorem m322 (hn : 200000 ≤ n) (ho : HOK H W A) (hM0 : MH I 0 H W A) {r : Nat} (hr : r < H.1 4) : ∃ v K, f_322 n (nI r) I L = some (oI v, K, L) ∧ LEA H r v ∧ (∀ c i, c ≠ 89 → c ≠ 104 → c ≠ 105 → c ≠ 109 → K c i = I c i) ∧ ∀ i, (i < 25 ∨ 28 < i) → K 89 i = I 89 i := by
  have hev := evr_lt H
  have he16 := ev16 ho
  obtain ⟨J2, p1, hM, p3, p4⟩ := mlay (n := n) (L := L) ho hM0 (by omega)
  have hpre : ∀ q, c_322_0 n n (nI r) (nI 0) J2 L = q → f_322 n (nI r) I L = q := fun q hq => by
    unfold f_322
    rw [p1, q_bs]
    exact hq
  rcases lpG (fun m k (s : FI) => c_322_0 n m (nI r) (nI k) s L) (evr H + 1) (fun k s => (∀ y, y < k → ¬ DSH H r y) ∧ ∀ c i, c ≠ 105 → c ≠ 109 → s c i = J2 c i) (fun s => some (oI 0, s, L)) (fun q => ∃ x K, q = some (oI (x + 1), K, L) ∧ x < evr H + 1 ∧ DSH H r x ∧ (∀ y, y < x → ¬ DSH H r y) ∧ ∀ c i, c ≠ 105 → c ≠ 109 → K c i = J2 c i) (fun m s hI => by
      have hMs : MK H W A (H.1 1) (H.2 0) s := MK_fr hM (fun c i hc => hI.2 c i (by omega) (by omega))
      show b_322_0 n (c_322_0 n m) (nI r) (nI (evr H + 1)) s L = _
      unfold b_322_0
      rw [e298 hMs, q_bs, if_pos (nI_lt (by omega) (by omega)), oI_0]) (fun m k s hk hI => by
      obtain ⟨s0, s2⟩ := hI
      have hMs : MK H W A (H.1 1) (H.2 0) s := MK_fr hM (fun c i hc => s2 c i (by omega) (by omega))
      obtain ⟨b, J, j1, j2, j3⟩ := eKSm (n := n) (set := k) (L := L) hMs (by omega) (by omega)
      have hMJ : MK H W A (H.1 1) (H.2 0) J := MK_fr hMs (fun c i hc => j3 c i (by omega) (by omega))
      obtain ⟨b', K, k1, k2, k3⟩ := e297 (n := n) (set := evr H - k) (L := L) hMJ (by omega) hr (by omega)
      have hstep : c_322_0 n (m + 1) (nI r) (nI k) s L = if nI b = 0 then c_322_0 n m (nI r) (nI (k + 1)) J L else if nI b' = 0 then c_322_0 n m (nI r) (nI (k + 1)) K L else some (nI k, K, L) := by
        show b_322_0 n (c_322_0 n m) (nI r) (nI k) s L = _
        unfold b_322_0 c_322_1
        rw [e298 hMs, q_bs, if_neg (nI_nlt (by omega) (by omega)), e256k hMs, q_bs, j1, q_bs]
        dsimp only
        rw [e298 hMJ, q_bs, cmpl_k ho (by omega), k1, q_bs, nI_1]
      have hlt : ¬ DSH H r k → ∀ y, y < k + 1 → ¬ DSH H r y := fun hd y hy => by
        rcases (show y < k ∨ y = k by omega) with h | rfl
        · exact s0 y h
        · exact hd
      have hfJ : ∀ c i, c ≠ 105 → c ≠ 109 → J c i = J2 c i := fun c i a b => (j3 c i a b).trans (s2 c i a b)
      have hfK : ∀ c i, c ≠ 105 → c ≠ 109 → K c i = J2 c i := fun c i a b => (k3 c i a b).trans (hfJ c i a b)
      rcases j2 with ⟨rfl, j2⟩ | ⟨rfl, j2⟩
      · rw [if_neg (show ¬ nI 1 = 0 by decide)] at hstep
        rcases k2 with ⟨rfl, k2⟩ | ⟨rfl, k2⟩
        · rw [if_neg (show ¬ nI 1 = 0 by decide)] at hstep
          exact Or.inl ⟨k, K, by rw [hstep, oI_s], hk, ⟨j2, k2⟩, s0, hfK⟩
        · rw [if_pos (show nI 0 = 0 by decide)] at hstep
          exact Or.inr ⟨K, ⟨hlt (fun q => k2 q.2), hfK⟩, hstep⟩
      · rw [if_pos (show nI 0 = 0 by decide)] at hstep
        exact Or.inr ⟨J, ⟨hlt (fun q => j2 q.1), hfJ⟩, hstep⟩) n 0 J2 (by omega) (by omega) ⟨fun y hy => absurd hy (by omega), fun _ _ _ _ => rfl⟩ with ⟨x, K, x1, x2, x3, x4, x5⟩ | ⟨K, ⟨k1, k2⟩, e⟩
  · exact ⟨x + 1, K, hpre _ x1, Or.inr ⟨x, rfl, x2, x3, x4⟩, fun c i h1 h2 h3 h4 => by rw [x5 c i h3 h4, p3 c i h1 h2], fun i hi => by rw [x5 89 i (by decide) (by decide), p4 i hi]⟩
  · exact ⟨0, K, hpre _ e, Or.inl ⟨rfl, k1⟩, fun c i h1 h2 h3 h4 => by rw [k2 c i h3 h4, p3 c i h1 h2], fun i hi => by rw [k2 89 i (by decide) (by decide), p4 i hi]⟩
theorem oI_z {v : Nat} (hv : v < 100) {α : Type} {x y : α} : (if oI v = -1 then x else y) = if v = 0 then x else y := by
  cases v with
  | zero => rw [if_pos oI_0, if_pos rfl]
  | succ v => rw [oI_s, if_neg (by rw [ku_m, ku_on (by omega) (by omega)]; omega), if_neg (by omega)]
theorem s151a (hn : 200000 ≤ n) (ho : HOK H W A) (hC : CH I 3 11 H W A) (hP : KPK H I L) {m k : Nat} (hk : k ≤ H.1 4) (hm : H.1 4 - k < m) (h0 : ∀ q, q < k → LEA H q 0) : ∃ v I' L', c_151_1_0 n m (nI k) I L = some (oI v, I', L') ∧ SEC H v ∧ KPK H I' L' ∧ (∀ c i, (c < 114 ∨ 121 < c) → I' c i = I c i) ∧ ∀ c i, c ≠ 117 → L' c i = L c i := by
  have o4 : H.1 4 ≤ 4 := ho.1.2.2.2.2.1
  have he16 := ev16 ho
  rcases lpG (fun m k (s : FI × FL) => c_151_1_0 n m (nI k) s.1 s.2) (H.1 4) (fun k s => (∀ q, q < k → LEA H q 0) ∧ KPK H s.1 s.2 ∧ (∀ c i, (c < 114 ∨ 121 < c) → s.1 c i = I c i) ∧ ∀ c i, c ≠ 117 → s.2 c i = L c i) (fun s => some (oI 0, s.1, s.2)) (fun q => ∃ x I' L', q = some (oI (x + 1), I', L') ∧ x < H.1 4 ∧ ¬ LEA H x 0 ∧ (∀ y, y < x → LEA H y 0) ∧ KPK H I' L' ∧ (∀ c i, (c < 114 ∨ 121 < c) → I' c i = I c i) ∧ ∀ c i, c ≠ 117 → L' c i = L c i) (fun m s hI => by
      have hCs : CH s.1 3 11 H W A := CH_u hC (fun a i ha => hI.2.2.1 a i (by omega))
      show b_151_1_0 n (c_151_1_0 n m) (nI (H.1 4)) s.1 s.2 = _
      unfold b_151_1_0
      rw [chs hCs (by decide), if_pos (nI_le (Nat.le_refl _) (by omega)), oI_0]) (fun m k s hk hI => by
      obtain ⟨s0, s1, s2, s3⟩ := hI
      have hCs : CH s.1 3 11 H W A := CH_u hC (fun a i ha => s2 a i (by omega))
      obtain ⟨v, I', L', v1, v2, v3, v4, v5⟩ := e190a (L := s.2) hn ho hCs s1 hk
      have hvl := LEA_l v2
      have hstep : c_151_1_0 n (m + 1) (nI k) s.1 s.2 = if v = 0 then c_151_1_0 n m (nI (k + 1)) I' L' else some (nI k, I', L') := by
        show b_151_1_0 n (c_151_1_0 n m) (nI k) s.1 s.2 = _
        unfold b_151_1_0
        rw [chs hCs (by decide), if_neg (nI_ge hk (by omega)), v1, q_bs, nI_1]
        dsimp only
        rw [oI_z (by omega)]
      by_cases hv : v = 0
      · rw [if_pos hv] at hstep
        subst hv
        refine Or.inr ⟨(I', L'), ⟨fun q hq => ?_, v3, fun c i hc => (v4 c i hc).trans (s2 c i hc), fun c i hc => (v5 c i hc).trans (s3 c i hc)⟩, hstep⟩
        rcases (show q < k ∨ q = k by omega) with h | rfl
        · exact s0 q h
        · exact v2
      · rw [if_neg hv] at hstep
        exact Or.inl ⟨k, I', L', by rw [hstep, oI_s], hk, fun q => hv (LEA_u v2 q), s0, v3, fun c i hc => (v4 c i hc).trans (s2 c i hc), fun c i hc => (v5 c i hc).trans (s3 c i hc)⟩) m k (I, L) hk hm ⟨h0, hP, fun _ _ _ => rfl, fun _ _ _ => rfl⟩ with ⟨x, I', L', x1, x2, x3, x4, x5, x6, x7⟩ | ⟨⟨I', L'⟩, ⟨k1, k2, k3, k4⟩, e⟩
  · exact ⟨x + 1, I', L', x1, Or.inr ⟨x, rfl, x2, x3, x4⟩, x5, x6, x7⟩
  · exact ⟨0, I', L', e, Or.inl ⟨rfl, k1⟩, k2, k3, k4⟩
theorem s151b (hn : 200000 ≤ n) (ho : HOK H W A) (hC : CH I 3 11 H W A) (hP : KPK H I L) {m k : Nat} (hk : k ≤ H.1 4) (hm : H.1 4 - k < m) (h0 : ∀ q, q < k → LEA H q 0) : ∃ v I' L', c_151_1 n m (nI k) I L = some (oI v, true, I', L') ∧ SEC H v ∧ KPK H I' L' ∧ (∀ c i, (c < 114 ∨ 121 < c) → I' c i = I c i) ∧ ∀ c i, c ≠ 117 → L' c i = L c i := by
  have o4 : H.1 4 ≤ 4 := ho.1.2.2.2.2.1
  have he16 := ev16 ho
  rcases lpG (fun m k (s : FI × FL) => c_151_1 n m (nI k) s.1 s.2) (H.1 4) (fun k s => (∀ q, q < k → LEA H q 0) ∧ KPK H s.1 s.2 ∧ (∀ c i, (c < 114 ∨ 121 < c) → s.1 c i = I c i) ∧ ∀ c i, c ≠ 117 → s.2 c i = L c i) (fun s => some (oI 0, true, s.1, s.2)) (fun q => ∃ x I' L', q = some (oI (x + 1), true, I', L') ∧ x < H.1 4 ∧ ¬ LEA H x 0 ∧ (∀ y, y < x → LEA H y 0) ∧ KPK H I' L' ∧ (∀ c i, (c < 114 ∨ 121 < c) → I' c i = I c i) ∧ ∀ c i, c ≠ 117 → L' c i = L c i) (fun m s hI => by
      have hCs : CH s.1 3 11 H W A := CH_u hC (fun a i ha => hI.2.2.1 a i (by omega))
      show b_151_1 n (c_151_1 n m) (nI (H.1 4)) s.1 s.2 = _
      unfold b_151_1
      rw [chs hCs (by decide), if_pos (nI_le (Nat.le_refl _) (by omega)), oI_0]) (fun m k s hk hI => by
      obtain ⟨s0, s1, s2, s3⟩ := hI
      have hCs : CH s.1 3 11 H W A := CH_u hC (fun a i ha => s2 a i (by omega))
      obtain ⟨v, I', L', v1, v2, v3, v4, v5⟩ := e190a (L := s.2) hn ho hCs s1 hk
      have hvl := LEA_l v2
      have hstep : c_151_1 n (m + 1) (nI k) s.1 s.2 = if v = 0 then c_151_1 n m (nI (k + 1)) I' L' else some (nI k, true, I', L') := by
        show b_151_1 n (c_151_1 n m) (nI k) s.1 s.2 = _
        unfold b_151_1
        rw [chs hCs (by decide), if_neg (nI_ge hk (by omega)), v1, q_bs, nI_1]
        dsimp only
        rw [oI_z (by omega)]
      by_cases hv : v = 0
      · rw [if_pos hv] at hstep
        subst hv
        refine Or.inr ⟨(I', L'), ⟨fun q hq => ?_, v3, fun c i hc => (v4 c i hc).trans (s2 c i hc), fun c i hc => (v5 c i hc).trans (s3 c i hc)⟩, hstep⟩
        rcases (show q < k ∨ q = k by omega) with h | rfl
        · exact s0 q h
        · exact v2
      · rw [if_neg hv] at hstep
        exact Or.inl ⟨k, I', L', by rw [hstep, oI_s], hk, fun q => hv (LEA_u v2 q), s0, v3, fun c i hc => (v4 c i hc).trans (s2 c i hc), fun c i hc => (v5 c i hc).trans (s3 c i hc)⟩) m k (I, L) hk hm ⟨h0, hP, fun _ _ _ => rfl, fun _ _ _ => rfl⟩ with ⟨x, I', L', x1, x2, x3, x4, x5, x6, x7⟩ | ⟨⟨I', L'⟩, ⟨k1, k2, k3, k4⟩, e⟩
  · exact ⟨x + 1, I', L', x1, Or.inr ⟨x, rfl, x2, x3, x4⟩, x5, x6, x7⟩
  · exact ⟨0, I', L', e, Or.inl ⟨rfl, k1⟩, k2, k3, k4⟩
theorem m324 (hn : 200000 ≤ n) (ho : HOK H W A) (hM0 : MH I 0 H W A) : ∃ v K, c_324_0 n n (nI 0) I L = some (oI v, K, L) ∧ SEC H v ∧ (∀ c i, c ≠ 89 → c ≠ 104 → c ≠ 105 → c ≠ 109 → K c i = I c i) ∧ ∀ i, (i < 25 ∨ 28 < i) → K 89 i = I 89 i := by
  have o4 : H.1 4 ≤ 4 := ho.1.2.2.2.2.1
  have he16 := ev16 ho
  rcases lpG (fun m k (s : FI) => c_324_0 n m (nI k) s L) (H.1 4) (fun k s => (∀ q, q < k → LEA H q 0) ∧ (∀ c i, c ≠ 89 → c ≠ 104 → c ≠ 105 → c ≠ 109 → s c i = I c i) ∧ ∀ i, (i < 25 ∨ 28 < i) → s 89 i = I 89 i) (fun s => some (oI 0, s, L)) (fun q => ∃ x K, q = some (oI (x + 1), K, L) ∧ x < H.1 4 ∧ ¬ LEA H x 0 ∧ (∀ y, y < x → LEA H y 0) ∧ (∀ c i, c ≠ 89 → c ≠ 104 → c ≠ 105 → c ≠ 109 → K c i = I c i) ∧ ∀ i, (i < 25 ∨ 28 < i) → K 89 i = I 89 i) (fun m s hI => by
      have hMs : MH s 0 H W A := MH_fr ho hM0 (fun c hc i => hI.2.1 c i (by omega) (by omega) (by omega) (by omega))
      show b_324_0 n (c_324_0 n m) (nI (H.1 4)) s L = _
      unfold b_324_0
      rw [e237 hMs, q_bs, if_pos (nI_le (Nat.le_refl _) (by omega)), oI_0]) (fun m k s hk hI => by
      obtain ⟨s0, s1, s2⟩ := hI
      have hMs : MH s 0 H W A := MH_fr ho hM0 (fun c hc i => s1 c i (by omega) (by omega) (by omega) (by omega))
      obtain ⟨v, K, v1, v2, v3, v4⟩ := m322 (L := L) hn ho hMs hk
      have hvl := LEA_l v2
      have hstep : c_324_0 n (m + 1) (nI k) s L = if v = 0 then c_324_0 n m (nI (k + 1)) K L else some (nI k, K, L) := by
        show b_324_0 n (c_324_0 n m) (nI k) s L = _
        unfold b_324_0
        rw [e237 hMs, q_bs, if_neg (nI_ge hk (by omega)), v1, q_bs, nI_1]
        dsimp only
        rw [oI_z (by omega)]
      have f1 : ∀ c i, c ≠ 89 → c ≠ 104 → c ≠ 105 → c ≠ 109 → K c i = I c i := fun c i a b d e => (v3 c i a b d e).trans (s1 c i a b d e)
      have f2 : ∀ i, (i < 25 ∨ 28 < i) → K 89 i = I 89 i := fun i hi => (v4 i hi).trans (s2 i hi)
      by_cases hv : v = 0
      · rw [if_pos hv] at hstep
        subst hv
        refine Or.inr ⟨K, ⟨fun q hq => ?_, f1, f2⟩, hstep⟩
        rcases (show q < k ∨ q = k by omega) with h | rfl
        · exact s0 q h
        · exact v2
      · rw [if_neg hv] at hstep
        exact Or.inl ⟨k, K, by rw [hstep, oI_s], hk, fun q => hv (LEA_u v2 q), s0, f1, f2⟩) n 0 I (by omega) (by omega) ⟨fun q hq => absurd hq (by omega), fun _ _ _ _ _ _ => rfl, fun _ _ => rfl⟩ with ⟨x, K, x1, x2, x3, x4, x5, x6⟩ | ⟨K, ⟨k1, k2, k3⟩, e⟩
  · exact ⟨x + 1, K, x1, Or.inr ⟨x, rfl, x2, x3, x4⟩, x5, x6⟩
  · exact ⟨0, K, e, Or.inl ⟨rfl, k1⟩, k2, k3⟩
end KSH
section KSK9
variable {RP : RPT} {Ls : Nat} {xs : Nat → Int32} {a1 a2 a3 a4 a5 : Int32}
theorem sk_shares : SOK Ls xs (VV KPK RP) 150 323 [.int a1] := by
  intro kp nh rh tl rl I L hV
  have hV0 := hV
  obtain ⟨H, W, A, J, M, hB, hRg, hP, hCJ, fI, fL, hw⟩ := kw hV
  have hB0 := hB
  obtain ⟨hT, hF, ho, hC, hM, hIm, hRw⟩ := hB
  have o0 : H.1 0 ≤ 1000 := ho.1.1
  have o4 : H.1 4 ≤ 4 := ho.1.2.2.2.2.1
  have c0 : I 3 0 = nI (H.1 0) := chs hC (by decide)
  have c4 : I 3 4 = nI (H.1 4) := chs hC (by decide)
  have hpw := pw5 _ (show H.1 4 < 5 by omega)
  have hp0 : 0 < 2 ^ (H.1 4) := Nat.pow_pos (by omega)
  have hM0 : MH (u2 I 89 0 0) 0 H W A := MH_th hM
  have m4 : u2 I 89 0 0 96 3 = nI (H.1 4) := mh96 hM0 (by decide)
  rcases q_arg a1 (n := H.1 4) (by omega) with h1 | ⟨q, hq, rfl⟩
  · rcases hw with ⟨rfl, rfl, rfl, rfl, rfl⟩ | ⟨rfl, rfl, rfl, hf⟩
    · exact ⟨-2, some 114, nh, rh, TK, RK (some 3), I, L, u2 I 89 0 0, L, (t_150_1 Ls xs 993 nh rh 200000 a1 I L (-2, I, L) (by unfold f_150_1; rw [e178n c4 o4 h1, q_bs, if_pos rfl])), (t_323 Ls xs 992 (some 114) TK (RK (some 3)) nh rh 200000 a1 I L (-2, u2 I 89 0 0, L) (by unfold f_323; rw [e239n m4 o4 h1, q_bs, if_pos rfl])), VV_th hV0⟩
    · exact ⟨-2, none, nh, rh, [], [], I, L, u2 I 89 0 0, L, (t_150 Ls xs 993 nh rh 200000 a1 I L (-2, false, I, L) (by unfold f_150; rw [e178n c4 o4 h1, q_bs, if_pos rfl])), (t_323 Ls xs 992 none [] [] nh rh 200000 a1 I L (-2, u2 I 89 0 0, L) (by unfold f_323; rw [e239n m4 o4 h1, q_bs, if_pos rfl])), VV_th hV0⟩
  · have hcl : ∃ v I' L', pEN Ls xs 1000 150 [.ref 0, .int (nI q)] (hp kp nh rh tl rl I L) = some (some (.int (oI v)), hp (some 114) nh rh TK (RK (some 3)) I' L') ∧ LEA H q v ∧ KPK H I' L' ∧ (∀ c i, (c < 114 ∨ 121 < c) → I' c i = I c i) ∧ ∀ c i, (c < 114 ∨ 121 < c) → L' c i = L c i := by
      rcases hw with ⟨rfl, rfl, rfl, rfl, rfl⟩ | ⟨rfl, rfl, rfl, hf⟩
      · obtain ⟨v, I', L', g1, g2, g3, g4, g5⟩ := e190a (n := 200000) (by omega) ho hC hP hq
        exact ⟨v, I', L', (t_150_1 Ls xs 993 nh rh 200000 (nI q) I L (oI v, I', L') (by
                unfold f_150_1
                rw [e178y c4 o4 hq, q_bs, if_neg (by decide), g1, q_bs])), g2, g3, g4, fun c i hc => g5 c i (by omega)⟩
      · obtain ⟨v, I', L', g1, g2, g3, g4, g5⟩ := e190 (n := 200000) (by omega) ho hC hf hCJ hP hq
        exact ⟨v, I', L', (t_150 Ls xs 993 nh rh 200000 (nI q) I L (oI v, true, I', L') (by
                unfold f_150
                rw [e178y c4 o4 hq, q_bs, if_neg (by decide), g1, q_bs]
                dsimp only
                rw [if_pos rfl])), g2, g3, fun c i hc => (g4 c i hc).trans (fI c i hc), fun c i hc => (g5 c i (by omega)).trans (fL c i hc)⟩
    obtain ⟨v, I', L', hcl, e3, e4, e5, e6⟩ := hcl
    have hw' : (some 114 = some 114 ∧ TK = TK ∧ RK (some 3) = RK (some 3) ∧ KPK H I' L') ∨ (some 114 = none ∧ TK = [] ∧ RK (some 3) = []) := Or.inl ⟨rfl, rfl, rfl, e4⟩
    have hMJ : MH (u2 I' 89 0 0) 0 H W A := MH_th (MH_fr ho hM (fun c hc i => by rw [e5 c i (by omega)]))
    have mm4 : u2 I' 89 0 0 96 3 = nI (H.1 4) := mh96 hMJ (by decide)
    obtain ⟨y, K, k1, k2, k3, k4⟩ := m322 (n := 200000) (L := L') (by omega) ho hMJ hq
    have := LEA_u e3 k2
    subst this
    have hK : ∀ c i, c ≠ 89 → c ≠ 104 → c ≠ 105 → c ≠ 109 → c ≠ 110 → K c i = I' c i := fun c i h1 h2 h3 h4 _ => by rw [k3 c i h1 h2 h3 h4, u2_c h1]
    have hK9 : ∀ i, (i = 6 ∨ i = 14 ∨ i = 15) → K 89 i = I' 89 i := fun i hi => by rw [k4 i (by omega), u2_o (by omega)]
    refine ⟨oI v, some 114, nh, rh, TK, RK (some 3), I', L', K, L', hcl, ?_, kfin2 hB0 hRg (hw'.imp (fun q => ⟨q.1, q.2.1, q.2.2.1, KPK_cg q.2.2.2 (fun c i a b => hK c i (by omega) (by omega) (by omega) (by omega) (by omega)) (fun _ => rfl)⟩) id) (fun c i h1 h2 h3 h4 h5 h6 => by rw [hK c i h1 h2 h3 h4 h5, e5 c i h6]) (fun i hi => by rw [hK9 i hi, e5 89 i (by omega)]) e6⟩
    exact (t_323 Ls xs 992 (some 114) TK (RK (some 3)) nh rh 200000 (nI q) I' L' (oI v, K, L') (by
      unfold f_323
      rw [e239y mm4 o4 hq, q_bs, if_neg (by decide), k1, q_bs]))
theorem sk_second : SOK Ls xs (VV KPK RP) 151 324 [] := by
  intro kp nh rh tl rl I L hV
  have hV0 := hV
  obtain ⟨H, W, A, J, M, hB, hRg, hP, hCJ, fI, fL, hw⟩ := kw hV
  have hB0 := hB
  obtain ⟨hT, hF, ho, hC, hM, hIm, hRw⟩ := hB
  have o0 : H.1 0 ≤ 1000 := ho.1.1
  have o4 : H.1 4 ≤ 4 := ho.1.2.2.2.2.1
  have c0 : I 3 0 = nI (H.1 0) := chs hC (by decide)
  have c4 : I 3 4 = nI (H.1 4) := chs hC (by decide)
  have hpw := pw5 _ (show H.1 4 < 5 by omega)
  have hp0 : 0 < 2 ^ (H.1 4) := Nat.pow_pos (by omega)
  have hM0 : MH (u2 I 89 0 0) 0 H W A := MH_th hM
  have m4 : u2 I 89 0 0 96 3 = nI (H.1 4) := mh96 hM0 (by decide)
  by_cases h0 : H.1 0 = 0
  · rcases hw with ⟨rfl, rfl, rfl, rfl, rfl⟩ | ⟨rfl, rfl, rfl, hf⟩
    · exact ⟨-2, some 114, nh, rh, TK, RK (some 3), I, L, u2 I 89 0 0, L, (t_151_1 Ls xs 993 nh rh 200000 I L (-2, I, L) (by unfold f_151_1; rw [e177n c0 o0 h0, q_bs, if_neg (fun q => q rfl)])), (t_324 Ls xs 992 (some 114) TK (RK (some 3)) nh rh 200000 I L (-2, u2 I 89 0 0, L) (by unfold f_324; rw [e236n hM0.1 o0 h0, q_bs, if_neg (fun q => q rfl)])), VV_th hV0⟩
    · exact ⟨-2, none, nh, rh, [], [], I, L, u2 I 89 0 0, L, (t_151 Ls xs 993 nh rh 200000 I L (-2, false, I, L) (by unfold f_151; rw [e177n c0 o0 h0, q_bs, if_neg (fun q => q rfl)])), (t_324 Ls xs 992 none [] [] nh rh 200000 I L (-2, u2 I 89 0 0, L) (by unfold f_324; rw [e236n hM0.1 o0 h0, q_bs, if_neg (fun q => q rfl)])), VV_th hV0⟩
  · have he16 := ev16 ho
    have hcl : ∃ v kp' tl' rl' I' L', pEN Ls xs 1000 151 [.ref 0] (hp kp nh rh tl rl I L) = some (some (.int (oI v)), hp kp' nh rh tl' rl' I' L') ∧ SEC H v ∧ ((kp' = some 114 ∧ tl' = TK ∧ rl' = RK (some 3) ∧ KPK H I' L') ∨ (kp' = none ∧ tl' = [] ∧ rl' = [])) ∧ (∀ c i, (c < 114 ∨ 121 < c) → I' c i = I c i) ∧ ∀ c i, (c < 114 ∨ 121 < c) → L' c i = L c i := by
      rcases hw with ⟨rfl, rfl, rfl, rfl, rfl⟩ | ⟨rfl, rfl, rfl, hf⟩
      · obtain ⟨v, I', L', g1, g2, g3, g4, g5⟩ := s151a (n := 200000) (m := 200000) (k := 0) (by omega) ho hC hP (by omega) (by omega) (fun q hq => absurd hq (by omega))
        exact ⟨v, some 114, TK, RK (some 3), I', L', (t_151_1 Ls xs 993 nh rh 200000 I L (oI v, I', L') (by
                unfold f_151_1
                rw [e177y c0 o0 (by omega), q_bs, if_pos (by decide)]
                exact g1)), g2, Or.inl ⟨rfl, rfl, rfl, g3⟩, g4, fun c i hc => g5 c i (by omega)⟩
      · by_cases z : H.1 4 = 0
        · exact ⟨0, none, [], [], I, L, (t_151 Ls xs 993 nh rh 200000 I L (oI 0, false, I, L) (by
                unfold f_151
                rw [e177y c0 o0 (by omega), q_bs, if_pos (by decide)]
                show b_151_0 200000 (c_151_0 200000 199999) (nI 0) I L = _
                unfold b_151_0
                rw [c4, if_pos (by rw [z]; decide), oI_0])), Or.inl ⟨rfl, fun r hr => absurd hr (by omega)⟩, Or.inr ⟨rfl, rfl, rfl⟩, fun _ _ _ => rfl, fun _ _ _ => rfl⟩
        · obtain ⟨v, I1, L1, g1, g2, g3, g4, g5⟩ := e190 (r := 0) (n := 200000) (by omega) ho hC hf hCJ hP (by omega)
          have hvl := LEA_l g2
          have hCI : CH I1 3 11 H W A := CH_u hCJ (fun a i ha => g4 a i (by omega))
          have hstep : c_151_0 200000 200000 (nI 0) I L = if v = 0 then c_151_1 200000 200000 (nI (0 + 1)) I1 L1 else some (nI 0, true, I1, L1) := by
            show b_151_0 200000 (c_151_0 200000 199999) (nI 0) I L = _
            unfold b_151_0
            rw [c4, if_neg (nI_ge (by omega) (by omega)), g1, q_bs, nI_1]
            dsimp only
            rw [if_pos rfl, oI_z (by omega)]
          by_cases hv : v = 0
          · rw [if_pos hv] at hstep
            subst hv
            obtain ⟨u, I', L', j1, j2, j3, j4, j5⟩ := s151b (n := 200000) (m := 200000) (k := 0 + 1) (by omega) ho hCI g3 (by omega) (by omega) (fun q hq => by rw [show q = 0 by omega]; exact g2)
            rw [j1] at hstep
            exact ⟨u, some 114, TK, RK (some 3), I', L', (t_151 Ls xs 993 nh rh 200000 I L (oI u, true, I', L') (by
                unfold f_151
                rw [e177y c0 o0 (by omega), q_bs, if_pos (by decide)]
                exact hstep)), j2, Or.inl ⟨rfl, rfl, rfl, j3⟩, fun c i hc => by rw [j4 c i hc, g4 c i hc, fI c i hc], fun c i hc => by rw [j5 c i (by omega), g5 c i (by omega), fL c i hc]⟩
          · rw [if_neg hv, ← oI_s] at hstep
            exact ⟨0 + 1, some 114, TK, RK (some 3), I1, L1, (t_151 Ls xs 993 nh rh 200000 I L (oI (0 + 1), true, I1, L1) (by
                unfold f_151
                rw [e177y c0 o0 (by omega), q_bs, if_pos (by decide)]
                exact hstep)), Or.inr ⟨0, rfl, by omega, fun q => hv (LEA_u g2 q), fun q hq => absurd hq (by omega)⟩, Or.inl ⟨rfl, rfl, rfl, g3⟩, fun c i hc => by rw [g4 c i hc, fI c i hc], fun c i hc => by rw [g5 c i (by omega), fL c i hc]⟩
    obtain ⟨v, kp', tl', rl', I', L', hcl, e3, hw', e5, e6⟩ := hcl
    have hMJ : MH (u2 I' 89 0 0) 0 H W A := MH_th (MH_fr ho hM (fun c hc i => by rw [e5 c i (by omega)]))
    obtain ⟨y, K, k1, k2, k3, k4⟩ := m324 (n := 200000) (L := L') (by omega) ho hMJ
    have := SEC_u e3 k2
    subst this
    have hK : ∀ c i, c ≠ 89 → c ≠ 104 → c ≠ 105 → c ≠ 109 → c ≠ 110 → K c i = I' c i := fun c i h1 h2 h3 h4 _ => by rw [k3 c i h1 h2 h3 h4, u2_c h1]
    have hK9 : ∀ i, (i = 6 ∨ i = 14 ∨ i = 15) → K 89 i = I' 89 i := fun i hi => by rw [k4 i (by omega), u2_o (by omega)]
    refine ⟨oI v, kp', nh, rh, tl', rl', I', L', K, L', hcl, ?_, kfin2 hB0 hRg (hw'.imp (fun q => ⟨q.1, q.2.1, q.2.2.1, KPK_cg q.2.2.2 (fun c i a b => hK c i (by omega) (by omega) (by omega) (by omega) (by omega)) (fun _ => rfl)⟩) id) (fun c i h1 h2 h3 h4 h5 h6 => by rw [hK c i h1 h2 h3 h4 h5, e5 c i h6]) (fun i hi => by rw [hK9 i hi, e5 89 i (by omega)]) e6⟩
    exact (t_324 Ls xs 992 kp' tl' rl' nh rh 200000 I' L' (oI v, K, L') (by
      unfold f_324
      rw [e236y hMJ.1 o0 (by omega), q_bs, if_pos (by decide)]
      exact k1))
end KSK9
