/-! LAYER 3: the keeper's questions -/
theorem sma_b {F : Nat → Nat} {b : Nat} (h : ∀ k, F k ≤ b) : ∀ N, sma F N ≤ b * N
  | 0 => Nat.zero_le _
  | N + 1 => by
    show sma F N + F N ≤ b * (N + 1)
    have := sma_b h N
    have := h N
    rw [Nat.mul_succ]; omega
theorem bt6_0 (i : Nat) : bt6 0 i = false := by
  unfold bt6
  rw [show (0 : Int64).toBitVec = 0#64 from rfl, BitVec.getLsbD_zero]
theorem mko_cg {L M : FL} (h : ∀ i, M 117 i = L 117 i) (s : Nat) : mko M s = mko L s := by unfold mko; rw [h]
section KPR
variable {I : FI} {L : FL} {H : HD} {W : Nat → Nat} {A : AD} {l set : Nat} {wt : Nat → Nat} {n : Nat}
theorem nI_n3 {a : Nat} (h : a < 2 ^ 31) : ¬ nI a = -3 := fun q => by
  have h1 := congrArg Int32.toInt q
  rw [nI_toInt h, show (-3 : Int32).toInt = -3 by decide +kernel] at h1
  omega
theorem e39 (hn : 1000 ≤ n) : ∃ L', f_39 n I L = some (I, L') ∧ (∀ s, s < 16384 → mko L' s = 0) ∧ ∀ c i, c ≠ 117 → L' c i = L c i := by
  obtain ⟨L', ⟨l1, l2⟩, e⟩ := lpE (fun m k (M : FL) => c_39_0 n m (nI k) I M) 512 (fun k M => (∀ i, i < k → M 117 i = 0) ∧ ∀ c i, c ≠ 117 → M c i = L c i) (fun M => some (I, M)) (fun m M hM => by
      show b_39_0 n (c_39_0 n m) (nI 512) I M = _
      unfold b_39_0
      rw [if_pos (by decide)]) (fun m k M hk hM => by
      refine ⟨u2 M 117 k 0, ⟨fun i hi => ?_, fun c i hc => ?_⟩, ?_⟩
      · by_cases e : i = k
        · subst e; exact u2_s
        · rw [u2_o e]; exact hM.1 i (by omega)
      · rw [u2_c hc]; exact hM.2 c i hc
      · show b_39_0 n (c_39_0 n m) (nI k) I M = _
        unfold b_39_0
        rw [if_neg (show ¬ (512 : Int32) ≤ nI k from nI_ge (b := 512) hk (by omega)), ku_if hk (by omega), nI_clamp (by omega), nI_1]) n 0 L (by omega) (by omega) ⟨fun i hi => absurd hi (by omega), fun _ _ _ => rfl⟩
  refine ⟨L', ?_, fun s hs => ?_, l2⟩
  · unfold f_39; exact e
  · unfold mko
    rw [l1 _ (by omega), bt6_0, bt6_0]; rfl
def RDY (H : HD) (W : Nat → Nat) (A : AD) (set : Nat) (wt : Nat → Nat) (I : FI) (L : FL) : Prop := KQ H W A (H.1 1) set wt I ∧ KNW H (H.1 1) set wt I L
theorem e43 (hn : 200000 ≤ n) (hQ : KQ H W A l set wt I) (hK : KNW H l set wt I L) {t : Nat} (ht : VSt H set wt t) (h0 : mko L t = 0) : ∃ I' L', f_43 n (nI (pks t)) I L = some (I', L') ∧ KNW H l set wt I' L' ∧ mko L' t ≠ 0 ∧ (∀ c i, c ≠ 118 → c ≠ 119 → I' c i = I c i) ∧ ∀ c i, c ≠ 117 → L' c i = L c i := by
  have o4 : H.1 4 ≤ 4 := hQ.1.1.2.2.2.2.1
  have tl := VSt_lt o4 ht
  have hmk : ∀ s, mko (mkS L t 1) s = if s = t then 1 else mko L s := fun s => mko_S (by omega) s
  have hJ2 : ∀ x i, x ≠ 118 → x ≠ 119 → u2 (u2 I 118 0 (nI (8 * pks t))) 119 t (nI 0) x i = I x i := fun x i a b => by rw [u2_c b, u2_c a]
  have hJ9 : ∀ s, s ≠ t → u2 (u2 I 118 0 (nI (8 * pks t))) 119 t (nI 0) 119 s = I 119 s := fun s hs => by rw [u2_o hs, u2_c (by decide)]
  have huk : sma (ukn (mkS L t 1)) 16384 + 1 = sma (ukn L) 16384 := by
    have h := sma_upd (F := ukn L) (G := ukn (mkS L t 1)) (j := t) (fun x hx => by unfold ukn; rw [hmk, if_neg hx]) tl
    have a1 : ukn L t = 1 := by unfold ukn; rw [if_pos h0]
    have a2 : ukn (mkS L t 1) t = 0 := by unfold ukn; rw [hmk, if_pos rfl, if_neg (by omega)]
    omega
  have hub := sma_b (F := ukn L) (b := 1) (fun k => by unfold ukn; split <;> omega) 16384
  have hpb := sma_b (F := phi (mkS L t 1) (fun _ => 0)) (b := 6) (fun k => by unfold phi; split; omega; split <;> omega) 16384
  have hS : SRI H l set wt 1 (fun _ => t) (fun _ => 0) (u2 (u2 I 118 0 (nI (8 * pks t))) 119 t (nI 0)) (mkS L t 1) := by
    refine ⟨fun i hi => ⟨ht, by rw [hmk, if_pos rfl], Nat.zero_le _, ?_⟩, fun i j hi hj _ => by omega, fun s hs hm => ?_, fun i hi => absurd hi (by omega), fun i hi => ⟨0, u2_s, ?_⟩, fun s hs hm => ?_, fun s hs hm => ?_, by omega⟩
    · rw [show i = 0 by omega, u2_c (by decide), u2_s]; rfl
    · rw [hmk] at hm
      by_cases e : s = t
      · exact ⟨0, by omega, e.symm⟩
      · rw [if_neg e] at hm
        rcases hK s hs with h | h | h
        · omega
        · omega
        · omega
    · rw [if_neg (by omega)]; exact MXS_0 t
    · rw [hmk] at hm
      by_cases e : s = t
      · rw [if_pos e] at hm; omega
      · rw [if_neg e] at hm
        rcases hK s hs with h | h | h
        · omega
        · exact h.2
        · omega
    · rw [hmk] at hm
      by_cases e : s = t
      · rw [if_pos e] at hm; omega
      · rw [if_neg e] at hm
        rcases hK s hs with h | h | h
        · omega
        · omega
        · obtain ⟨_, a, v, b, c⟩ := h
          exact ⟨a, v, by rw [hJ9 s e]; exact b, c⟩
  obtain ⟨I', L', a, b, c, d, e⟩ := srch (n := n) hn 98304 1 (fun _ => t) (fun _ => 0) (u2 (u2 I 118 0 (nI (8 * pks t))) 119 t (nI 0)) (mkS L t 1) 0 n (KQ_fr hQ (fun x i hx => hJ2 x i (by omega) (by omega))) hS (by omega) (by omega) (by omega)
  refine ⟨I', L', ?_, b, c t (by rw [hmk, if_pos rfl]; omega), fun x i p q => (d x i p q).trans (hJ2 x i p q), fun x i p => (e x i p).trans (by unfold mkS; rw [u2_c p])⟩
  unfold f_43
  rw [show (0 : Int32) = nI 0 from rfl, e44 (by omega) tl, q_bs]
  exact a
theorem e42 (hn : 200000 ≤ n) (hR : RDY H W A set wt I L) {t : Nat} (ht : VSt H set wt t) : ∃ b I' L', f_42 n (nI (pks t)) I L = some (nI b, I', L') ∧ RDY H W A set wt I' L' ∧ ((b = 1 ∧ Kept H (H.1 1) set wt t) ∨ (b = 0 ∧ LST H (H.1 1) set wt t ∧ ∃ v, I' 119 t = nI v ∧ SPN H (H.1 1) set wt t v)) ∧ (∀ c i, c ≠ 118 → c ≠ 119 → I' c i = I c i) ∧ ∀ c i, c ≠ 117 → L' c i = L c i := by
  obtain ⟨hQ, hK⟩ := hR
  have o4 : H.1 4 ≤ 4 := hQ.1.1.2.2.2.2.1
  have tl := VSt_lt o4 ht
  have c42 : ∀ (J : FI) (M : FL), KNW H (H.1 1) set wt J M → mko M t ≠ 0 → ∃ b, c_42_0 n (nI t) J M = some (nI b, J, M) ∧ ((b = 1 ∧ Kept H (H.1 1) set wt t) ∨ (b = 0 ∧ LST H (H.1 1) set wt t ∧ ∃ v, J 119 t = nI v ∧ SPN H (H.1 1) set wt t v)) := fun J M hk h0 => by
    unfold c_42_0
    rw [e50 tl, q_bs]
    rcases hk t tl with h | ⟨h, h1⟩ | ⟨h, h1, h2⟩
    · exact absurd h h0
    · exact ⟨1, by rw [h, if_neg (show ¬ ¬ nI 2 = 2 from fun q => q rfl)]; rfl, Or.inl ⟨rfl, h1⟩⟩
    · exact ⟨0, by rw [h, if_pos (show ¬ nI 3 = 2 by decide)]; rfl, Or.inr ⟨rfl, h1, h2⟩⟩
  unfold f_42
  rw [e48 tl, q_bs, e50 tl, q_bs]
  by_cases h0 : mko L t = 0
  · obtain ⟨I', L', a, b, c, d, e⟩ := e43 hn hQ hK ht h0
    obtain ⟨x, x1, x2⟩ := c42 I' L' b c
    refine ⟨x, I', L', ?_, ⟨KQ_fr hQ (fun c i hc => d c i (by omega) (by omega)), b⟩, x2, d, e⟩
    rw [if_neg (by rw [h0]; exact fun q => q rfl), a, q_bs]; exact x1
  · obtain ⟨x, x1, x2⟩ := c42 I L hK h0
    refine ⟨x, I, L, ?_, ⟨hQ, hK⟩, x2, fun _ _ _ _ => rfl, fun _ _ _ => rfl⟩
    rw [if_pos (by rw [ku_0, nI_eq (by have := mko_lt L t; omega) (by omega)]; exact h0)]; exact x1
/-! what the keeper's findings must be -/
def KB (H : HD) (set x : Nat) : Prop := x < 2 ^ (H.1 4) ∧ ∀ w, w < H.1 4 → (x.testBit w = true ↔ Kept H (H.1 1) set (H.2 0) (st0 H (H.1 1) set w))
def wlo (H : HD) (q x r : Nat) : Nat := if r = q then H.2 0 r + x else H.2 0 r
def fpl (H : HD) : Nat := if H.1 7 = 0 then 0 else H.2 3 0
def evr (H : HD) : Nat := 2 ^ (H.1 4) - 1
def KWL (H : HD) (q x : Nat) : Prop := Kept H (H.1 1) (evr H) (wlo H q x) (st0 H (H.1 1) (evr H) (fpl H))
def MWT (H : HD) (q v : Nat) : Prop := (v = 0 ∧ ∀ x, x ≤ 7 - H.2 0 q → ¬ KWL H q x) ∨ ∃ x, v = x + 1 ∧ x ≤ 7 - H.2 0 q ∧ KWL H q x ∧ ∀ y, y < x → ¬ KWL H q y
def TLF (H : HD) (F : Nat → Nat) (N : Nat) : Prop := ∀ s, s < N → (F s = 1 ∧ VSt H (evr H) (H.2 0) s ∧ Kept H (H.1 1) (evr H) (H.2 0) s) ∨ (F s = 0 ∧ ¬ (VSt H (evr H) (H.2 0) s ∧ Kept H (H.1 1) (evr H) (H.2 0) s))
def TLY (H : HD) (x : Nat) : Prop := ∃ F, TLF H F (4096 * H.1 4) ∧ x = sma F (4096 * H.1 4)
def KPK : KPT := fun H I L => (∀ s, s < 16 → s < 2 ^ (H.1 4) → I 120 s = -3 ∨ ∃ x, I 120 s = nI x ∧ KB H s x) ∧ (I 114 8 = -3 ∨ ∃ x, I 114 8 = nI x ∧ TLY H x) ∧ (∀ r, r < 4 → r < H.1 4 → I 121 r = -3 ∨ ∃ v, I 121 r = oI v ∧ MWT H r v) ∧ (I 114 7 = -1 ∨ ∃ s, s < 2 ^ (H.1 4) ∧ I 114 7 = nI s ∧ AGE I 115 H (H.1 1) s (H.2 0) ∧ KNW H (H.1 1) s (H.2 0) I L)
theorem KPK_f : KPf KPK := fun H I L h1 h2 h3 h4 => ⟨fun s hs _ => Or.inl (h3 s hs), Or.inl h2, fun r hr _ => Or.inl (h4 r hr), Or.inl h1⟩
theorem KPK_cg {J : FI} {M : FL} (h : KPK H I L) (e : ∀ c i, 114 ≤ c → c ≤ 121 → J c i = I c i) (e2 : ∀ i, M 117 i = L 117 i) : KPK H J M := by
  obtain ⟨h1, h2, h3, h4⟩ := h
  refine ⟨fun s hs hs2 => ?_, ?_, fun r hr hr2 => ?_, ?_⟩
  · rw [e 120 s (by omega) (by omega)]; exact h1 s hs hs2
  · rw [e 114 8 (by omega) (by omega)]; exact h2
  · rw [e 121 r (by omega) (by omega)]; exact h3 r hr hr2
  · rw [e 114 7 (by omega) (by omega)]
    rcases h4 with h4 | ⟨s, a, b, c, d⟩
    · exact Or.inl h4
    · refine Or.inr ⟨s, a, b, ⟨by rw [e 115 1 (by omega) (by omega)]; exact c.1, by rw [e 115 2 (by omega) (by omega)]; exact c.2.1, fun to ht => by rw [e (115 + 1) to (by omega) (by omega)]; exact c.2.2 to ht⟩, fun s hs => ?_⟩
      rw [mko_cg e2, e 119 s (by omega) (by omega)]
      exact d s hs
theorem KPK_r {J : FI} {M : FL} (h : KPK H I L) (e : ∀ c i, (c = 120 ∨ c = 121 ∨ (c = 114 ∧ i = 8)) → J c i = I c i) {set : Nat} (hs : set < 2 ^ (H.1 4)) (h7 : J 114 7 = nI set) (hR : RDY H W A set (H.2 0) J M) : KPK H J M := by
  obtain ⟨h1, h2, h3, h4⟩ := h
  refine ⟨fun s hs hs2 => ?_, ?_, fun r hr hr2 => ?_, Or.inr ⟨set, hs, h7, hR.1.2.2.1, hR.2⟩⟩
  · rw [e 120 s (by omega)]; exact h1 s hs hs2
  · rw [e 114 8 (by omega)]; exact h2
  · rw [e 121 r (by omega)]; exact h3 r hr hr2
theorem hsb {set R r : Nat} (hs : set < 2 ^ R) (hr : set.testBit r = true) : r < R := by
  rcases Nat.lt_or_ge r R with h | h
  · exact h
  · rw [Nat.testBit_lt_two_pow (Nat.lt_of_lt_of_le hs (Nat.pow_le_pow_right (by omega) h))] at hr; exact absurd hr (by decide)
theorem e38 (hn : 200000 ≤ n) (ho : HOK H W A) (hC : CH I 3 11 H W A) (hP : KPK H I L) (hs : set < 2 ^ (H.1 4)) : ∃ I' L', f_38 n (nI set) I L = some (I', L') ∧ RDY H W A set (H.2 0) I' L' ∧ I' 114 7 = nI set ∧ (∀ c i, c ≠ 115 → c ≠ 116 → (c ≠ 114 ∨ i ≠ 7) → I' c i = I c i) ∧ ∀ c i, c ≠ 117 → L' c i = L c i := by
  have o4 : H.1 4 ≤ 4 := ho.1.2.2.2.2.1
  have hp := pw5 _ (show H.1 4 < 5 by omega)
  have hwr : ∀ r, r < 4 → set.testBit r = true → 1 ≤ H.2 0 r ∧ H.2 0 r ≤ 7 := fun r _ hr => ⟨(ho.2.1 r (hsb hs hr)).1, (ho.2.1 r (hsb hs hr)).2.1⟩
  unfold f_38
  by_cases h : I 114 7 = nI set
  · rw [if_pos h]
    refine ⟨I, L, rfl, ?_, h, fun _ _ _ _ _ => rfl, fun _ _ _ => rfl⟩
    rcases hP.2.2.2 with h4 | ⟨s, a, b, c, d⟩
    · rw [h4, ku_m] at h
      have := (oI_nI (by omega) (by omega)).mp h
      omega
    · rw [b] at h
      have := (nI_eq (by omega) (by omega)).mp h
      subst this
      exact ⟨⟨ho, hC, c, ho.1.2.1, hwr⟩, d⟩
  · rw [if_neg h]
    obtain ⟨J, j1, j2, j3⟩ := e4 (L := L) ho hC hs (show 1000 ≤ n by omega)
    obtain ⟨M, m1, m2, m3⟩ := e39 (I := J) (L := L) (show 1000 ≤ n by omega)
    refine ⟨u2 J 114 7 (nI set), M, ?_, ⟨⟨ho, CH_u hC (fun a i ha => by rw [u2_c (by omega), j3 a i (by omega) (by omega)]), ⟨by rw [u2_c (by decide)]; exact j2.1, by rw [u2_c (by decide)]; exact j2.2.1, fun to ht => by rw [u2_c (by decide)]; exact j2.2.2 to ht⟩, ho.1.2.1, hwr⟩, fun s hs => Or.inl (m2 s hs)⟩, u2_s, fun c i h1 h2 h3 => ?_, m3⟩
    · rw [j1, q_bs]; dsimp only
      rw [m1, q_bs]
    · by_cases e : c = 114
      · subst e
        rw [u2_o (by omega)]; exact j3 114 i h1 h2
      · rw [u2_c e]; exact j3 c i h1 h2
/-- kept starts of a set -/
theorem e32 (hn : 200000 ≤ n) (ho : HOK H W A) (hC : CH I 3 11 H W A) (hP : KPK H I L) (hs : set < 2 ^ (H.1 4)) : ∃ x I' L', f_32 n (nI set) I L = some (nI x, I', L') ∧ KB H set x ∧ KPK H I' L' ∧ (∀ c i, (c < 114 ∨ 121 < c) → I' c i = I c i) ∧ ∀ c i, c ≠ 117 → L' c i = L c i := by
  have o4 : H.1 4 ≤ 4 := ho.1.2.2.2.2.1
  have hp := pw5 _ (show H.1 4 < 5 by omega)
  have hs16 : set < 16 := Nat.lt_of_lt_of_le hs (show 2 ^ (H.1 4) ≤ 2 ^ 4 from Nat.pow_le_pow_right (by omega) o4)
  have c0 : ∀ (J : FI) (M : FL), c_32_0 n (nI set) J M = some (J 120 set, J, M) := fun J M => by
    unfold c_32_0; rw [ku_if hs16 (by omega), nI_clamp (by omega)]
  unfold f_32
  rw [if_neg (nI_pos (by omega)), if_pos (show nI set < 16 from nI_lt (b := 16) hs16 (by omega)), ku_if hs16 (by omega), nI_clamp (by omega)]
  rcases hP.1 set hs16 hs with h | ⟨x, h1, h2⟩
  · rw [if_neg (fun q => q h)]
    obtain ⟨J, M, j1, j2, j3, j4, j5⟩ := e38 (L := L) hn ho hC hP hs
    rw [j1, q_bs]
    dsimp only
    rw [ku_if hs16 (by omega)]
    obtain ⟨⟨K, N⟩, ⟨k1, k2, ⟨x, k3, k4, k5⟩, k6, k7⟩, e⟩ := lpE (fun m k (s : FI × FL) => c_32_1 n m (nI set) (nI k) s.1 s.2) (H.1 4) (fun k s => RDY H W A set (H.2 0) s.1 s.2 ∧ s.1 114 7 = nI set ∧ (∃ x, s.1 120 set = nI x ∧ x < 2 ^ k ∧ ∀ w, w < k → (x.testBit w = true ↔ Kept H (H.1 1) set (H.2 0) (st0 H (H.1 1) set w))) ∧ (∀ c i, c ≠ 118 → c ≠ 119 → (c ≠ 120 ∨ i ≠ set) → s.1 c i = J c i) ∧ ∀ c i, c ≠ 117 → s.2 c i = M c i) (fun s => some (s.1 120 set, s.1, s.2)) (fun m s hs => by
        show b_32_1 n (c_32_1 n m) (nI set) (nI (H.1 4)) s.1 s.2 = _
        unfold b_32_1
        rw [chs hs.1.1.2.1 (by decide), if_pos (nI_le (Nat.le_refl _) (by omega)), c0]) (fun m k s hk hs => by
        obtain ⟨s1, s2, ⟨x, s3, s4, s5⟩, s6, s7⟩ := hs
        have hQ := s1.1
        have hv := st0_V (l := H.1 1) (H := H) (set := set) (wt := H.2 0) hQ.2.2.2.2 hk
        obtain ⟨b, I', L', a1, a2, a3, a4, a5⟩ := e42 hn s1 hv
        have hstep : ∀ r, ((if nI b = 0 then c_32_2 n (c_32_1 n m) (nI set) (nI k) I' L' else c_32_2 n (c_32_1 n m) (nI set) (nI k) (u2 I' 120 set (nI (x ||| 2 ^ k))) L') = r) → c_32_1 n (m + 1) (nI set) (nI k) s.1 s.2 = r := fun r hr => by
          show b_32_1 n (c_32_1 n m) (nI set) (nI k) s.1 s.2 = _
          unfold b_32_1
          rw [chs hQ.2.1 (by decide), if_neg (nI_ge hk (by omega)), e40 hQ hk, q_bs, a1, q_bs]
          dsimp only
          rw [ku_if hs16 (by omega), ku_if hs16 (by omega), nI_clamp (by omega), a4 120 set (by decide) (by decide), s3, ku_or (by omega)]
          exact hr
        rcases a3 with ⟨rfl, b2⟩ | ⟨rfl, b2, _⟩
        · refine ⟨(u2 I' 120 set (nI (x ||| 2 ^ k)), L'), ⟨⟨KQ_fr a2.1 (fun c i hc => u2_c (by omega)), fun s hs => ?_⟩, ?_, ⟨x ||| 2 ^ k, (by show u2 I' 120 set (nI (x ||| 2 ^ k)) 120 set = _; exact u2_s), ?_, fun w hw => ?_⟩, fun c i h1 h2 h3 => ?_, fun c i hc => (a5 c i hc).trans (s7 c i hc)⟩, hstep _ ?_⟩
          · show _ ∨ _ ∨ (_ ∧ _ ∧ ∃ v, u2 I' 120 set (nI (x ||| 2 ^ k)) 119 s = nI v ∧ _)
            rw [u2_c (by decide)]; exact a2.2 s hs
          · show u2 I' 120 set (nI (x ||| 2 ^ k)) 114 7 = _
            rw [u2_c (by decide), a4 114 7 (by decide) (by decide)]; exact s2
          · rw [or_add s4, Nat.pow_succ]; omega
          · rw [Nat.testBit_or, Nat.testBit_two_pow]
            by_cases e : w = k
            · subst e; simp; exact b2
            · rw [show decide (k = w) = false by simp; omega, Bool.or_false]; exact s5 w (by omega)
          · show u2 I' 120 set (nI (x ||| 2 ^ k)) c i = _
            by_cases e : c = 120
            · subst e; rw [u2_o (by omega), a4 120 i h1 h2]; exact s6 120 i h1 h2 h3
            · rw [u2_c e, a4 c i h1 h2]; exact s6 c i h1 h2 h3
          · rw [if_neg (by decide)]; unfold c_32_2; rw [nI_1]
        · refine ⟨(I', L'), ⟨a2, by show I' 114 7 = _; rw [a4 114 7 (by decide) (by decide)]; exact s2, ⟨x, by show I' 120 set = _; rw [a4 120 set (by decide) (by decide)]; exact s3, by rw [Nat.pow_succ]; omega, fun w hw => ?_⟩, fun c i h1 h2 h3 => (a4 c i h1 h2).trans (s6 c i h1 h2 h3), fun c i hc => (a5 c i hc).trans (s7 c i hc)⟩, hstep _ ?_⟩
          · by_cases e : w = k
            · subst e
              rw [Nat.testBit_lt_two_pow s4]
              exact ⟨fun q => absurd q (by decide), fun q => absurd q (LST_n b2)⟩
            · exact s5 w (by omega)
          · rw [if_pos (by decide)]; unfold c_32_2; rw [nI_1]) n 0 (u2 J 120 set 0, M) (by omega) (by omega) ⟨⟨KQ_fr j2.1 (fun c i hc => u2_c (by omega)), fun s hs => by
          show _ ∨ _ ∨ (_ ∧ _ ∧ ∃ v, u2 J 120 set 0 119 s = nI v ∧ _)
          rw [u2_c (by decide)]; exact j2.2 s hs⟩, by show u2 J 120 set 0 114 7 = _; rw [u2_c (by decide)]; exact j3, ⟨0, (by show u2 J 120 set 0 120 set = _; exact u2_s), by omega, fun w hw => absurd hw (by omega)⟩, fun c i h1 h2 h3 => by
          show u2 J 120 set 0 c i = _
          by_cases e : c = 120
          · subst e; rw [u2_o (by omega)]
          · rw [u2_c e], fun _ _ _ => rfl⟩
    dsimp only at e k1 k2 k3 k6 k7
    refine ⟨x, K, N, by rw [k3] at e; exact e, ⟨k4, k5⟩, ?_, fun c i hc => ?_, fun c i hc => (k7 c i hc).trans (j5 c i hc)⟩
    · refine ⟨fun s hs1 hs2 => ?_, ?_, fun r hr hr2 => ?_, Or.inr ⟨set, hs, k2, k1.1.2.2.1, k1.2⟩⟩
      · by_cases e : s = set
        · subst e; exact Or.inr ⟨x, k3, k4, k5⟩
        · rw [k6 120 s (by decide) (by decide) (Or.inr e), j4 120 s (by decide) (by decide) (Or.inl (by decide))]; exact hP.1 s hs1 hs2
      · rw [k6 114 8 (by decide) (by decide) (Or.inl (by decide)), j4 114 8 (by decide) (by decide) (Or.inr (by decide))]; exact hP.2.1
      · rw [k6 121 r (by decide) (by decide) (Or.inl (by decide)), j4 121 r (by decide) (by decide) (Or.inl (by decide))]; exact hP.2.2.1 r hr hr2
    · rw [k6 c i (by omega) (by omega) (Or.inl (by omega)), j4 c i (by omega) (by omega) (Or.inl (by omega))]
  · rw [if_pos (by rw [h1]; exact nI_n3 (by have := h2.1; omega)), c0, h1]
    exact ⟨x, I, L, rfl, h2, hP, fun _ _ _ => rfl, fun _ _ _ => rfl⟩
end KPR
