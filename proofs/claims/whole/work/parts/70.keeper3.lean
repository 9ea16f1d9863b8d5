/-! LAYER 3: how much longer a wait must be -/
section KPR3
variable {I : FI} {L : FL} {H : HD} {W : Nat → Nat} {A : AD} {l set : Nat} {wt : Nat → Nat} {n : Nat}
theorem slk_w (o4 : H.1 4 ≤ 4) {q x : Nat} (hq : q < H.1 4) (hx : x ≤ 7 - H.2 0 q) : x * 2 ^ (4 * q) ≤ slk (evr H) (H.2 0) ∧ slk (evr H) (H.2 0) - x * 2 ^ (4 * q) = slk (evr H) (wlo H q x) := by
  have hb : (evr H).testBit q = true := by rw [evr_b]; simp; exact hq
  have e1 : ∀ r, r ≠ q → 7 - (if (evr H).testBit r = true then wlo H q x r else 0) = 7 - (if (evr H).testBit r = true then H.2 0 r else 0) := fun r hr => by unfold wlo; rw [if_neg hr]
  have e2 : 7 - (if (evr H).testBit q = true then wlo H q x q else 0) + x = 7 - (if (evr H).testBit q = true then H.2 0 q else 0) := by unfold wlo; rw [if_pos hb, if_pos hb, if_pos rfl]; omega
  unfold slk pa
  dsimp only
  rcases (show q = 0 ∨ q = 1 ∨ q = 2 ∨ q = 3 by omega) with rfl | rfl | rfl | rfl
  · rw [e1 1 (by omega), e1 2 (by omega), e1 3 (by omega)]
    show x * 1 ≤ _ ∧ _ - x * 1 = _
    omega
  · rw [e1 0 (by omega), e1 2 (by omega), e1 3 (by omega)]
    show x * 16 ≤ _ ∧ _ - x * 16 = _
    omega
  · rw [e1 0 (by omega), e1 1 (by omega), e1 3 (by omega)]
    show x * 256 ≤ _ ∧ _ - x * 256 = _
    omega
  · rw [e1 0 (by omega), e1 1 (by omega), e1 2 (by omega)]
    show x * 4096 ≤ _ ∧ _ - x * 4096 = _
    omega
theorem e37 (hn : 200000 ≤ n) (ho : HOK H W A) (hC : CH I 3 11 H W A) {q x : Nat} (hq : q < H.1 4) (hx : x ≤ 7 - H.2 0 q) : ∃ b I' L', f_37 n (nI q) (nI x) I L = some (nI b, I', L') ∧ ((b = 1 ∧ KWL H q x) ∨ (b = 0 ∧ ¬ KWL H q x)) ∧ I' 114 7 = -1 ∧ (∀ c i, (c < 114 ∨ 121 < c ∨ c = 120 ∨ c = 121 ∨ (c = 114 ∧ i ≠ 7)) → I' c i = I c i) ∧ ∀ c i, c ≠ 117 → L' c i = L c i := by
  have o4 : H.1 4 ≤ 4 := ho.1.2.2.2.2.1
  have hev := evr_lt H
  have hp := pw5 _ (show H.1 4 < 5 by omega)
  have hf := fpl_lt ho (by omega)
  have hbq : (evr H).testBit q = true := by rw [evr_b]; simp; exact hq
  have hw7 := (ho.2.1 q hq).2.1
  have hw1 := (ho.2.1 q hq).1
  obtain ⟨s1, s2⟩ := slk_w o4 hq hx
  obtain ⟨J, j1, j2, j3⟩ := e4 (L := L) ho hC hev (show 1000 ≤ n by omega)
  have hpw : 2 ^ (4 * q) ≤ 4096 := (show ∀ t, t < 4 → 2 ^ (4 * t) ≤ 4096 by decide) q (by omega)
  have hm : x * 2 ^ (4 * q) ≤ 7 * 4096 := Nat.mul_le_mul (by omega) hpw
  have hsl : slk (evr H) (H.2 0) < 65536 := pa_lt (fun r hr => by show 7 - _ < 16; omega)
  have hdg := pa_dg (a := fun r => 7 - (if (evr H).testBit r = true then H.2 0 r else 0)) (fun r hr => by show 7 - _ < 16; omega) (show q < 4 by omega)
  have hnib : (J 115 1 >>> (((4 : Int32) * nI q) &&& 31)) &&& 15 = nI (7 - H.2 0 q) := by
    rw [j2.1, ku_4, pk_mul, ku_31, ku_31k (by omega), ku_shr (by omega) (by omega), show (15 : Int32) = nI (2 ^ 4 - 1) from rfl, fa_mask]
    refine congrArg nI (hdg.trans ?_)
    show 7 - (if (evr H).testBit q = true then H.2 0 q else 0) = _
    rw [if_pos hbq]
  have h5 : f_5 (nI q) (nI x) J L = some (u2 J 115 1 (nI (slk (evr H) (wlo H q x))), L) := by
    unfold f_5
    rw [hnib]
    have hmin : f_359 (nI (7 - H.2 0 q)) (nI x) J L = some (nI x) := by
      unfold f_359
      by_cases h : x < 7 - H.2 0 q
      · rw [if_pos (nI_lt h (by omega))]
      · rw [if_neg (nI_nlt (by omega) (by omega)), show 7 - H.2 0 q = x by omega]
    rw [hmin, q_bs, j2.1, ku_4, pk_mul, ku_31, ku_31k (by omega), ku_shl (by omega) (by omega), pk_sub s1, s2]
  obtain ⟨M, m1, m2, m3⟩ := e39 (I := u2 J 115 1 (nI (slk (evr H) (wlo H q x)))) (L := L) (show 1000 ≤ n by omega)
  have hC2 : CH (u2 (u2 J 115 1 (nI (slk (evr H) (wlo H q x)))) 114 7 (-1)) 3 11 H W A := CH_u hC (fun a i ha => by rw [u2_c (by omega), u2_c (by omega), j3 a i (by omega) (by omega)])
  have hwr : ∀ r, r < 4 → (evr H).testBit r = true → 1 ≤ wlo H q x r ∧ wlo H q x r ≤ 7 := fun r _ hr => by
    have := ho.2.1 r (hsb hev hr)
    unfold wlo
    by_cases e : r = q
    · subst e; rw [if_pos rfl]; omega
    · rw [if_neg e]; omega
  have hR : RDY H W A (evr H) (wlo H q x) (u2 (u2 J 115 1 (nI (slk (evr H) (wlo H q x)))) 114 7 (-1)) M := ⟨⟨ho, hC2, ⟨by rw [u2_c (by decide), u2_s], by rw [u2_c (by decide), u2_o (by decide)]; exact j2.2.1, fun to ht => by rw [u2_c (by decide), u2_c (by decide)]; exact j2.2.2 to ht⟩, ho.1.2.1, hwr⟩, fun s hs => Or.inl (m2 s hs)⟩
  have hv := st0_V (l := H.1 1) (H := H) (set := evr H) (wt := wlo H q x) hwr hf
  obtain ⟨b, I', L', a1, a2, a3, a4, a5⟩ := e42 hn hR hv
  refine ⟨b, I', L', ?_, ?_, ?_, fun c i hc => ?_, fun c i hc => (a5 c i hc).trans (m3 c i hc)⟩
  · unfold f_37
    rw [e24 ho hC, q_bs, j1, q_bs]
    dsimp only
    rw [h5, q_bs]
    dsimp only
    rw [m1, q_bs]
    dsimp only
    rw [e23 ho hC2, q_bs, if_neg (by omega), e40 hR.1 hf, q_bs, a1, q_bs]
    dsimp only
    rcases a3 with ⟨rfl, _⟩ | ⟨rfl, _⟩
    · rw [if_pos (by decide)]
    · rw [if_pos (by decide)]
  · rcases a3 with ⟨h1, h2⟩ | ⟨h1, h2, _⟩
    · exact Or.inl ⟨h1, h2⟩
    · exact Or.inr ⟨h1, LST_n h2⟩
  · rw [a4 114 7 (by decide) (by decide), u2_s]
  · rw [a4 c i (by omega) (by omega)]
    by_cases e : c = 114
    · subst e
      rw [u2_o (by omega), u2_c (by decide), j3 114 i (by decide) (by decide)]
    · rw [u2_c e, u2_c (by omega), j3 c i (by omega) (by omega)]
def KP4 (H : HD) (I : FI) (L : FL) : Prop := I 114 7 = -1 ∨ ∃ s, s < 2 ^ (H.1 4) ∧ I 114 7 = nI s ∧ AGE I 115 H (H.1 1) s (H.2 0) ∧ KNW H (H.1 1) s (H.2 0) I L
theorem e36 (hn : 200000 ≤ n) (ho : HOK H W A) (hC : CH I 3 11 H W A) (hP : KPK H I L) {q : Nat} (hq : q < H.1 4) : ∃ x I' L', f_36 n (nI q) I L = some (oI x, I', L') ∧ MWT H q x ∧ KPK H I' L' ∧ (∀ c i, (c < 114 ∨ 121 < c) → I' c i = I c i) ∧ ∀ c i, c ≠ 117 → L' c i = L c i := by
  have o4 : H.1 4 ≤ 4 := ho.1.2.2.2.2.1
  have hw7 := (ho.2.1 q hq).2.1
  have hw1 := (ho.2.1 q hq).1
  have c0 : ∀ (J : FI) (M : FL), c_36_0 n (nI q) J M = some (J 121 q, J, M) := fun J M => by
    unfold c_36_0; rw [ku_if (by omega) (by omega), nI_clamp (by omega)]
  unfold f_36
  rw [ku_if (by omega) (by omega), ku_if (by omega) (by omega), ku_if (by omega) (by omega), nI_clamp (by omega)]
  rcases hP.2.2.1 q (by omega) hq with h | ⟨v, h1, h2⟩
  · rw [if_neg (fun q => q h), ch_wt hC hq, ku_7, pk_sub hw7]
    have i1 : KP4 H (u2 I 121 q (-1)) L := by
      rcases hP.2.2.2 with h4 | ⟨s, a, b, c, d⟩
      · exact Or.inl (by rw [u2_c (by decide)]; exact h4)
      · exact Or.inr ⟨s, a, by rw [u2_c (by decide)]; exact b, ⟨by rw [u2_c (by decide)]; exact c.1, by rw [u2_c (by decide)]; exact c.2.1, fun to ht => by rw [u2_c (by decide)]; exact c.2.2 to ht⟩, KNW_u d (fun s => u2_c (by decide))⟩
    have i2 : u2 I 121 q (-1) 121 q = oI 0 := by rw [u2_s, oI_0]
    have i3 : ∀ c i, (c < 114 ∨ 121 < c ∨ c = 120 ∨ (c = 121 ∧ i ≠ q) ∨ (c = 114 ∧ i ≠ 7)) → u2 I 121 q (-1) c i = I c i := fun c i hc => by
      by_cases e : c = 121
      · subst e; rw [u2_o (by omega)]
      · rw [u2_c e]
    have key : ∃ x I' L', c_36_1 n n (nI q) (nI (7 - H.2 0 q)) (nI 0) (u2 I 121 q (-1)) L = some (I' 121 q, I', L') ∧ I' 121 q = oI x ∧ MWT H q x ∧ KP4 H I' L' ∧ (∀ c i, (c < 114 ∨ 121 < c ∨ c = 120 ∨ (c = 121 ∧ i ≠ q) ∨ (c = 114 ∧ i ≠ 7)) → I' c i = I c i) ∧ ∀ c i, c ≠ 117 → L' c i = L c i := by
      rcases lpG (fun m k (s : FI × FL) => c_36_1 n m (nI q) (nI (7 - H.2 0 q)) (nI k) s.1 s.2) (8 - H.2 0 q) (fun k s => KP4 H s.1 s.2 ∧ ((s.1 121 q = oI 0 ∧ ∀ y, y < k → ¬ KWL H q y) ∨ ∃ x, s.1 121 q = oI (x + 1) ∧ x ≤ 7 - H.2 0 q ∧ KWL H q x ∧ ∀ y, y < x → ¬ KWL H q y) ∧ (∀ c i, (c < 114 ∨ 121 < c ∨ c = 120 ∨ (c = 121 ∧ i ≠ q) ∨ (c = 114 ∧ i ≠ 7)) → s.1 c i = I c i) ∧ ∀ c i, c ≠ 117 → s.2 c i = L c i) (fun s => some (s.1 121 q, s.1, s.2)) (fun r => ∃ x I' L', r = some (I' 121 q, I', L') ∧ I' 121 q = oI x ∧ MWT H q x ∧ KP4 H I' L' ∧ (∀ c i, (c < 114 ∨ 121 < c ∨ c = 120 ∨ (c = 121 ∧ i ≠ q) ∨ (c = 114 ∧ i ≠ 7)) → I' c i = I c i) ∧ ∀ c i, c ≠ 117 → L' c i = L c i) (fun m s hs => by
          show b_36_1 n (c_36_1 n m) (nI q) (nI (7 - H.2 0 q)) (nI (8 - H.2 0 q)) s.1 s.2 = _
          unfold b_36_1
          rw [if_pos (nI_lt (by omega) (by omega)), c0]) (fun m k s hk hs => by
          obtain ⟨s1, s2, s3, s4⟩ := hs
          rcases s2 with ⟨a, b⟩ | ⟨x, a, b, c, d⟩
          · have hC2 : CH s.1 3 11 H W A := CH_u hC (fun a i ha => s3 a i (by omega))
            obtain ⟨y, I', L', a1, a2, a3, a4, a5⟩ := e37 (L := s.2) hn ho hC2 hq (show k ≤ 7 - H.2 0 q by omega)
            have hstep : ∀ r, (if nI y = 0 then c_36_2 n (c_36_1 n m) (nI q) (nI (7 - H.2 0 q)) (nI k) I' L' else c_36_2 n (c_36_1 n m) (nI q) (nI (7 - H.2 0 q)) (nI k) (u2 I' 121 q (nI k)) L') = r → c_36_1 n (m + 1) (nI q) (nI (7 - H.2 0 q)) (nI k) s.1 s.2 = r := fun r hr => by
              show b_36_1 n (c_36_1 n m) (nI q) (nI (7 - H.2 0 q)) (nI k) s.1 s.2 = _
              unfold b_36_1
              rw [if_neg (nI_nlt (by omega) (by omega)), ku_if (by omega) (by omega), nI_clamp (by omega), if_neg (by rw [a, oI_0]; exact fun q => q rfl), a1, q_bs]
              dsimp only
              rw [ku_if (by omega) (by omega)]
              exact hr
            right
            rcases a2 with ⟨rfl, b2⟩ | ⟨rfl, b2⟩
            · refine ⟨(u2 I' 121 q (nI k), L'), ⟨Or.inl ?_, Or.inr ⟨k, ?_, by omega, b2, b⟩, fun c i hc => ?_, fun c i hc => (a5 c i hc).trans (s4 c i hc)⟩, hstep _ ?_⟩
              · show u2 I' 121 q (nI k) 114 7 = _
                rw [u2_c (by decide)]; exact a3
              · show u2 I' 121 q (nI k) 121 q = _
                rw [u2_s, oI_s]
              · show u2 I' 121 q (nI k) c i = _
                by_cases e : c = 121
                · subst e; rw [u2_o (by omega), a4 121 i (by omega)]; exact s3 121 i hc
                · rw [u2_c e, a4 c i (by omega)]; exact s3 c i hc
              · rw [if_neg (by decide)]; unfold c_36_2; rw [nI_1]
            · refine ⟨(I', L'), ⟨Or.inl a3, Or.inl ⟨?_, fun y hy => ?_⟩, fun c i hc => (a4 c i (by omega)).trans (s3 c i hc), fun c i hc => (a5 c i hc).trans (s4 c i hc)⟩, hstep _ ?_⟩
              · show I' 121 q = _
                rw [a4 121 q (by omega)]; exact a
              · rcases (show y < k ∨ y = k by omega) with h | rfl
                · exact b y h
                · exact b2
              · rw [if_pos (by decide)]; unfold c_36_2; rw [nI_1]
          · left
            refine ⟨x + 1, s.1, s.2, ?_, a, Or.inr ⟨x, rfl, b, c, d⟩, s1, s3, s4⟩
            show b_36_1 n (c_36_1 n m) (nI q) (nI (7 - H.2 0 q)) (nI k) s.1 s.2 = _
            unfold b_36_1
            rw [if_neg (nI_nlt (by omega) (by omega)), ku_if (by omega) (by omega), nI_clamp (by omega), if_pos (by rw [a, oI_s, ku_m, ku_on (by omega) (by omega)]; omega), c0]) n 0 (u2 I 121 q (-1), L) (by omega) (by omega) ⟨i1, Or.inl ⟨i2, fun y hy => absurd hy (by omega)⟩, i3, fun _ _ _ => rfl⟩ with hx | ⟨⟨I', L'⟩, ⟨k1, k2, k3, k4⟩, e⟩
      · exact hx
      · dsimp only at k1 k2 k3 k4 e
        rcases k2 with ⟨a, b⟩ | ⟨x, a, b, c, d⟩
        · exact ⟨0, I', L', e, a, Or.inl ⟨rfl, fun x hx => b x (by omega)⟩, k1, k3, k4⟩
        · exact ⟨x + 1, I', L', e, a, Or.inr ⟨x, rfl, b, c, d⟩, k1, k3, k4⟩
    obtain ⟨x, I', L', a, b, c, d, e, f⟩ := key
    refine ⟨x, I', L', by rw [b] at a; exact a, c, ⟨fun s hs1 hs2 => ?_, ?_, fun r hr hr2 => ?_, d⟩, fun c i hc => e c i (by omega), f⟩
    · rw [e 120 s (by omega)]; exact hP.1 s hs1 hs2
    · rw [e 114 8 (by omega)]; exact hP.2.1
    · by_cases h : r = q
      · subst h; exact Or.inr ⟨x, b, c⟩
      · rw [e 121 r (by omega)]; exact hP.2.2.1 r hr hr2
  · have hv : v ≤ 8 := by
      rcases h2 with h | ⟨x, h, h', _⟩ <;> omega
    have hne : ¬ I 121 q = -3 := by
      rw [h1]
      rcases (show v = 0 ∨ ∃ x, v = x + 1 from by cases v with | zero => exact Or.inl rfl | succ x => exact Or.inr ⟨x, rfl⟩) with rfl | ⟨x, rfl⟩
      · rw [oI_0]; decide
      · rw [oI_s]; exact nI_n3 (by omega)
    rw [if_pos hne, c0, h1]
    exact ⟨v, I, L, rfl, h2, hP, fun _ _ _ => rfl, fun _ _ _ => rfl⟩
end KPR3
