/-! LAYER 3: given. Printed by wip/whole/gen78.py -/
theorem pc16b : ∀ s, s < 16 → f_360 (nI s) (fun _ _ => 0) (fun _ _ => 0) = some (nI (pck s 4)) := by decide +kernel
theorem e360c {I : FI} {L : FL} {s : Nat} (hs : s < 16) : f_360 (nI s) I L = some (nI (pck s 4)) := pc16b s hs
theorem pck_4 : ∀ s, s < 16 → pck s 4 ≤ 4 := by decide +kernel
theorem pck_e : ∀ R, R < 5 → ∀ s, s < 16 → s ≤ 2 ^ R - 1 → pck s 4 ≤ pck (2 ^ R - 1) 4 := by decide +kernel
theorem cmpl_e : ∀ R, R < 5 → ∀ k, k < 16 → k ≤ 2 ^ R - 1 → nI (2 ^ R - 1) &&& (nI k ^^^ (-1)) = nI (2 ^ R - 1 - k) := by decide +kernel
section KGV
variable {I : FI} {L : FL} {H : HD} {W : Nat → Nat} {A : AD} {set : Nat} {n : Nat} {B : Nat → Bool} {E : Nat}
theorem cmpl_k (ho : HOK H W A) {k : Nat} (hk : k ≤ evr H) : nI (evr H) &&& (nI k ^^^ (-1)) = nI (evr H - k) := by
  have := ev16 ho
  exact cmpl_e (H.1 4) (by have : H.1 4 ≤ 4 := ho.1.2.2.2.2.1; omega) k (by omega) hk
/-- the least that can be given, among the first k -/
def gvk (B : Nat → Bool) (E : Nat) : Nat → Nat
  | 0 => E
  | k + 1 => if pck k 4 < pck (gvk B E k) 4 ∧ B (E - k) = true then k else gvk B E k
theorem gvk_le : ∀ k, k ≤ E + 1 → gvk B E k ≤ E
  | 0, _ => Nat.le_refl _
  | k + 1, h => by
    have := gvk_le k (by omega)
    unfold gvk
    split <;> omega
theorem gvk_1 {k : Nat} (h : pck (gvk B E k) 4 ≤ pck k 4) : gvk B E (k + 1) = gvk B E k := by
  show (if _ then _ else _) = _
  rw [if_neg (fun q => by omega)]
theorem gvk_2 {k : Nat} (h : ¬ pck (gvk B E k) 4 ≤ pck k 4) (hb : B (E - k) = true) : gvk B E (k + 1) = k := by
  show (if _ then _ else _) = _
  rw [if_pos ⟨by omega, hb⟩]
theorem gvk_3 {k : Nat} (hb : ¬ B (E - k) = true) : gvk B E (k + 1) = gvk B E k := by
  show (if _ then _ else _) = _
  rw [if_neg (fun q => hb q.2)]
theorem gvk_E (ho : HOK H W A) : gvk B (evr H) (evr H + 1) = gvk B (evr H) (evr H) := by
  have := ev16 ho
  have h := gvk_le (B := B) (E := evr H) (evr H) (by omega)
  exact gvk_1 (pck_e (H.1 4) (by have : H.1 4 ≤ 4 := ho.1.2.2.2.2.1; omega) _ (by omega) h)
theorem s146a (hB : ∀ s, B s = true ↔ KS H s) (hn : 200000 ≤ n) (ho : HOK H W A) (hC : CH I 3 11 H W A) (hP : KPK H I L) {m k : Nat} (hk : k ≤ evr H + 1) (hm : (evr H + 1) - k < m) : ∃ I' L', c_146_1_0 n m (nI (evr H)) (nI (gvk B (evr H) k)) (nI k) I L = some (nI (gvk B (evr H) (evr H + 1)), I', L') ∧ KPK H I' L' ∧ (∀ c i, (c < 114 ∨ 121 < c) → I' c i = I c i) ∧ ∀ c i, c ≠ 117 → L' c i = L c i := by
  have hev := evr_lt H
  have he16 := ev16 ho
  obtain ⟨⟨I', L'⟩, ⟨k1, k2, k3⟩, e⟩ := lpE (fun m k (s : FI × FL) => c_146_1_0 n m (nI (evr H)) (nI (gvk B (evr H) k)) (nI k) s.1 s.2) (evr H + 1) (fun _ s => KPK H s.1 s.2 ∧ (∀ c i, (c < 114 ∨ 121 < c) → s.1 c i = I c i) ∧ ∀ c i, c ≠ 117 → s.2 c i = L c i) (fun s => some (nI (gvk B (evr H) (evr H + 1)), s.1, s.2)) (fun m s hI => by
      show b_146_1_0 n (c_146_1_0 n m) (nI (evr H)) (nI (gvk B (evr H) (evr H + 1))) (nI (evr H + 1)) s.1 s.2 = _
      unfold b_146_1_0 c_146_1_1 c_146_1_2
      rw [if_pos (nI_lt (by omega) (by omega))]) (fun m k s hk hI => by
      obtain ⟨s1, s2, s3⟩ := hI
      have hCs : CH s.1 3 11 H W A := CH_u hC (fun a i ha => s2 a i (by omega))
      have hsl := gvk_le (B := B) (E := evr H) (k) (by omega)
      have hp1 := pck_4 (k) (by omega)
      have hp2 := pck_4 (gvk B (evr H) (k)) (by omega)
      obtain ⟨x, I', L', e1, e2, e4, e5, e6⟩ := eKB (set := evr H - (k)) hB hn ho hCs s1 (by omega)
      by_cases hle : pck (gvk B (evr H) (k)) 4 ≤ pck (k) 4
      · refine ⟨s, ⟨s1, s2, s3⟩, ?_⟩
        show b_146_1_0 n (c_146_1_0 n m) (nI (evr H)) (nI (gvk B (evr H) k)) (nI k) s.1 s.2 = c_146_1_0 n m (nI (evr H)) (nI (gvk B (evr H) (k + 1))) (nI (k + 1)) s.1 s.2
        unfold b_146_1_0 c_146_1_1 c_146_1_2
        rw [if_neg (nI_nlt (by omega) (by omega)), e360c (by omega), q_bs, e360c (by omega), q_bs, if_pos (nI_le hle (by omega)), if_pos (show (0 : Int32) = 0 from rfl), gvk_1 hle, nI_1]
      · refine ⟨(I', L'), ⟨e4, fun c i hc => (e5 c i hc).trans (s2 c i hc), fun c i hc => (e6 c i hc).trans (s3 c i hc)⟩, ?_⟩
        show b_146_1_0 n (c_146_1_0 n m) (nI (evr H)) (nI (gvk B (evr H) k)) (nI k) s.1 s.2 = c_146_1_0 n m (nI (evr H)) (nI (gvk B (evr H) (k + 1))) (nI (k + 1)) I' L'
        unfold b_146_1_0 c_146_1_1 c_146_1_2
        rw [if_neg (nI_nlt (by omega) (by omega)), e360c (by omega), q_bs, e360c (by omega), q_bs, if_neg (nI_ge (by omega) (by omega)), if_neg (show ¬ (1 : Int32) = 0 by decide), e23 ho hCs, q_bs, show f_187 s.1 s.2 = some (s.1, s.2) from rfl, q_bs]
        dsimp only
        rw [cmpl_k ho (by omega), e1, q_bs]
        dsimp only
        rw [e2, q_bs]
        by_cases hb : B (evr H - (k)) = true
        · rw [bn_y hb, gvk_2 hle hb, nI_1]
        · rw [bn_n hb, gvk_3 hb, nI_1]) m k (I, L) hk hm ⟨hP, fun _ _ _ => rfl, fun _ _ _ => rfl⟩
  exact ⟨I', L', e, k1, k2, k3⟩
theorem s146b (hB : ∀ s, B s = true ↔ KS H s) (hn : 200000 ≤ n) (ho : HOK H W A) (hC : CH I 3 11 H W A) (hP : KPK H I L) {m k : Nat} (hk : k ≤ evr H) (hm : (evr H) - k < m) : ∃ I' L', c_146_3 n m (nI (evr H)) (nI (gvk B (evr H) (k + 1))) (nI k) I L = some (nI (gvk B (evr H) (evr H + 1)), true, I', L') ∧ KPK H I' L' ∧ (∀ c i, (c < 114 ∨ 121 < c) → I' c i = I c i) ∧ ∀ c i, c ≠ 117 → L' c i = L c i := by
  have hev := evr_lt H
  have he16 := ev16 ho
  obtain ⟨⟨I', L'⟩, ⟨k1, k2, k3⟩, e⟩ := lpE (fun m k (s : FI × FL) => c_146_3 n m (nI (evr H)) (nI (gvk B (evr H) (k + 1))) (nI k) s.1 s.2) (evr H) (fun _ s => KPK H s.1 s.2 ∧ (∀ c i, (c < 114 ∨ 121 < c) → s.1 c i = I c i) ∧ ∀ c i, c ≠ 117 → s.2 c i = L c i) (fun s => some (nI (gvk B (evr H) (evr H + 1)), true, s.1, s.2)) (fun m s hI => by
      show b_146_3 n (c_146_3 n m) (nI (evr H)) (nI (gvk B (evr H) ((evr H) + 1))) (nI (evr H)) s.1 s.2 = _
      unfold b_146_3 c_146_4 c_146_5
      rw [nI_1, if_pos (nI_lt (by omega) (by omega))]) (fun m k s hk hI => by
      obtain ⟨s1, s2, s3⟩ := hI
      have hCs : CH s.1 3 11 H W A := CH_u hC (fun a i ha => s2 a i (by omega))
      have hsl := gvk_le (B := B) (E := evr H) (k + 1) (by omega)
      have hp1 := pck_4 (k + 1) (by omega)
      have hp2 := pck_4 (gvk B (evr H) (k + 1)) (by omega)
      obtain ⟨x, I', L', e1, e2, e4, e5, e6⟩ := eKB (set := evr H - (k + 1)) hB hn ho hCs s1 (by omega)
      by_cases hle : pck (gvk B (evr H) (k + 1)) 4 ≤ pck (k + 1) 4
      · refine ⟨s, ⟨s1, s2, s3⟩, ?_⟩
        show b_146_3 n (c_146_3 n m) (nI (evr H)) (nI (gvk B (evr H) (k + 1))) (nI k) s.1 s.2 = c_146_3 n m (nI (evr H)) (nI (gvk B (evr H) ((k + 1) + 1))) (nI (k + 1)) s.1 s.2
        unfold b_146_3 c_146_4 c_146_5
        rw [nI_1, if_neg (nI_nlt (by omega) (by omega)), e360c (by omega), q_bs, e360c (by omega), q_bs, if_pos (nI_le hle (by omega)), if_pos (show (0 : Int32) = 0 from rfl), gvk_1 hle]
      · refine ⟨(I', L'), ⟨e4, fun c i hc => (e5 c i hc).trans (s2 c i hc), fun c i hc => (e6 c i hc).trans (s3 c i hc)⟩, ?_⟩
        show b_146_3 n (c_146_3 n m) (nI (evr H)) (nI (gvk B (evr H) (k + 1))) (nI k) s.1 s.2 = c_146_3 n m (nI (evr H)) (nI (gvk B (evr H) ((k + 1) + 1))) (nI (k + 1)) I' L'
        unfold b_146_3 c_146_4 c_146_5
        rw [nI_1, if_neg (nI_nlt (by omega) (by omega)), e360c (by omega), q_bs, e360c (by omega), q_bs, if_neg (nI_ge (by omega) (by omega)), if_neg (show ¬ (1 : Int32) = 0 by decide), e23 ho hCs, q_bs, show f_187 s.1 s.2 = some (s.1, s.2) from rfl, q_bs]
        dsimp only
        rw [cmpl_k ho (by omega), e1, q_bs]
        dsimp only
        rw [e2, q_bs]
        by_cases hb : B (evr H - (k + 1)) = true
        · rw [bn_y hb, gvk_2 hle hb]
        · rw [bn_n hb, gvk_3 hb]) m k (I, L) hk hm ⟨hP, fun _ _ _ => rfl, fun _ _ _ => rfl⟩
  exact ⟨I', L', e, k1, k2, k3⟩
theorem s146 (hB : ∀ s, B s = true ↔ KS H s) (hn : 200000 ≤ n) (ho : HOK H W A) (hC : CH I 3 11 H W A) {J : FI} {M : FL} (hf : f_findA n I L = some (J, M)) (hCJ : CH J 3 11 H W A) (hP : KPK H J M) : c_146_0 n n (nI (evr H)) (nI (evr H)) (nI 0) I L = some (nI (gvk B (evr H) (evr H + 1)), false, I, L) ∨ ∃ I' L', c_146_0 n n (nI (evr H)) (nI (evr H)) (nI 0) I L = some (nI (gvk B (evr H) (evr H + 1)), true, I', L') ∧ KPK H I' L' ∧ (∀ c i, (c < 114 ∨ 121 < c) → I' c i = J c i) ∧ ∀ c i, c ≠ 117 → L' c i = M c i := by
  have hev := evr_lt H
  have he16 := ev16 ho
  have key := lpG (fun m k (_ : Unit) => c_146_0 n m (nI (evr H)) (nI (gvk B (evr H) k)) (nI k) I L) (evr H + 1) (fun _ _ => True) (fun _ => some (nI (gvk B (evr H) (evr H + 1)), false, I, L)) (fun r => ∃ I' L', r = some (nI (gvk B (evr H) (evr H + 1)), true, I', L') ∧ KPK H I' L' ∧ (∀ c i, (c < 114 ∨ 121 < c) → I' c i = J c i) ∧ ∀ c i, c ≠ 117 → L' c i = M c i) (fun m s _ => by
      show b_146_0 n (c_146_0 n m) (nI (evr H)) (nI (gvk B (evr H) (evr H + 1))) (nI (evr H + 1)) I L = _
      unfold b_146_0
      rw [if_pos (nI_lt (by omega) (by omega))]) (fun m k s hk _ => by
      have hsl := gvk_le (B := B) (E := evr H) k (by omega)
      have hp1 := pck_4 k (by omega)
      have hp2 := pck_4 (gvk B (evr H) k) (by omega)
      by_cases hle : pck (gvk B (evr H) k) 4 ≤ pck k 4
      · refine Or.inr ⟨(), trivial, ?_⟩
        show b_146_0 n (c_146_0 n m) (nI (evr H)) (nI (gvk B (evr H) k)) (nI k) I L = c_146_0 n m (nI (evr H)) (nI (gvk B (evr H) (k + 1))) (nI (k + 1)) I L
        unfold b_146_0 c_146_1 c_146_2
        rw [if_neg (nI_nlt (by omega) (by omega)), e360c (by omega), q_bs, e360c (by omega), q_bs, if_pos (nI_le hle (by omega)), if_pos (show (0 : Int32) = 0 from rfl), gvk_1 hle, nI_1]
      · left
        obtain ⟨x, I', L', e1, e2, e4, e5, e6⟩ := eKB (set := evr H - k) hB hn ho hCJ hP (by omega)
        obtain ⟨I2, L2, g1, g2, g3, g4⟩ := s146b (m := n) (k := k) hB hn ho (CH_u hCJ (fun a i ha => e5 a i (by omega))) e4 (by omega) (by omega)
        refine ⟨I2, L2, ?_, g2, fun c i hc => (g3 c i hc).trans (e5 c i hc), fun c i hc => (g4 c i hc).trans (e6 c i hc)⟩
        show b_146_0 n (c_146_0 n m) (nI (evr H)) (nI (gvk B (evr H) k)) (nI k) I L = _
        unfold b_146_0 c_146_1
        rw [if_neg (nI_nlt (by omega) (by omega)), e360c (by omega), q_bs, e360c (by omega), q_bs, if_neg (nI_ge (by omega) (by omega)), if_neg (show ¬ (1 : Int32) = 0 by decide), e23 ho hC, q_bs, hf, q_bs]
        dsimp only
        rw [cmpl_k ho (by omega), e1, q_bs]
        dsimp only
        rw [e2, q_bs]
        by_cases hb : B (evr H - k) = true
        · rw [bn_y hb]
          rw [gvk_2 hle hb] at g1
          exact g1
        · rw [bn_n hb]
          rw [gvk_3 hb] at g1
          exact g1) n 0 () (by omega) (by omega) trivial
  have e0 : c_146_0 n n (nI (evr H)) (nI (evr H)) (nI 0) I L = c_146_0 n n (nI (evr H)) (nI (gvk B (evr H) 0)) (nI 0) I L := rfl
  rw [e0]
  rcases key with h | ⟨_, _, h⟩
  · exact Or.inr h
  · exact Or.inl h
theorem m316 (hB : ∀ s, B s = true ↔ KS H s) (hn : 200000 ≤ n) (hM : MK H W A (H.1 1) (H.2 0) I) : ∃ K, c_316_0 n n (nI (evr H)) (nI 0) I L = some (nI (gvk B (evr H) (evr H)), K, L) ∧ ∀ c i, c ≠ 105 → c ≠ 109 → K c i = I c i := by
  have ho := hM.1
  have hev := evr_lt H
  have he16 := ev16 ho
  obtain ⟨K, hK, e⟩ := lpE (fun m k (s : FI) => c_316_0 n m (nI (gvk B (evr H) k)) (nI k) s L) (evr H) (fun _ s => ∀ c i, c ≠ 105 → c ≠ 109 → s c i = I c i) (fun s => some (nI (gvk B (evr H) (evr H)), s, L)) (fun m s hI => by
      have hMs : MK H W A (H.1 1) (H.2 0) s := MK_fr hM (fun c i hc => hI c i (by omega) (by omega))
      show b_316_0 n (c_316_0 n m) (nI (gvk B (evr H) (evr H))) (nI (evr H)) s L = _
      unfold b_316_0
      rw [e298 hMs, q_bs, if_pos (nI_le (Nat.le_refl _) (by omega))]) (fun m k s hk hI => by
      have hMs : MK H W A (H.1 1) (H.2 0) s := MK_fr hM (fun c i hc => hI c i (by omega) (by omega))
      have hsl := gvk_le (B := B) (E := evr H) k (by omega)
      have hp1 := pck_4 k (by omega)
      have hp2 := pck_4 (gvk B (evr H) k) (by omega)
      by_cases hle : pck (gvk B (evr H) k) 4 ≤ pck k 4
      · refine ⟨s, hI, ?_⟩
        show b_316_0 n (c_316_0 n m) (nI (gvk B (evr H) k)) (nI k) s L = c_316_0 n m (nI (gvk B (evr H) (k + 1))) (nI (k + 1)) s L
        unfold b_316_0 c_316_1
        rw [e298 hMs, q_bs, if_neg (nI_ge hk (by omega)), e248 (by omega) (by omega), q_bs, e248 (by omega) (by omega), q_bs, if_pos (nI_le hle (by omega)), gvk_1 hle, nI_1]
      · obtain ⟨J, j1, j2⟩ := eKBm (L := L) (set := evr H - k) hB hMs (by omega) (show 20000 ≤ n by omega)
        refine ⟨J, fun c i h1 h2 => (j2 c i h1 h2).trans (hI c i h1 h2), ?_⟩
        show b_316_0 n (c_316_0 n m) (nI (gvk B (evr H) k)) (nI k) s L = c_316_0 n m (nI (gvk B (evr H) (k + 1))) (nI (k + 1)) J L
        unfold b_316_0 c_316_1
        rw [e298 hMs, q_bs, if_neg (nI_ge hk (by omega)), e248 (by omega) (by omega), q_bs, e248 (by omega) (by omega), q_bs, if_neg (nI_ge (by omega) (by omega)), e256k hMs, q_bs, q_bs, cmpl_k ho (by omega), j1, q_bs]
        dsimp only
        by_cases hb : B (evr H - k) = true
        · rw [bn_y hb, gvk_2 hle hb, nI_1]
        · rw [bn_n hb, gvk_3 hb, nI_1]) n 0 I (by omega) (by omega) (fun _ _ _ _ => rfl)
  exact ⟨K, e, hK⟩
end KGV
section KSK8
variable {RP : RPT} {Ls : Nat} {xs : Nat → Int32} {a1 a2 a3 a4 a5 : Int32}
theorem sk_given : SOK Ls xs (VV KPK RP) 146 316 [] := by
  intro kp nh rh tl rl I L hV
  have hV0 := hV
  obtain ⟨H, W, A, J, M, hB, hRg, hP, hCJ, fI, fL, hw⟩ := kw hV
  have hB0 := hB
  obtain ⟨hT, hF, ho, hC, hM, hIm, hRw⟩ := hB
  have o0 : H.1 0 ≤ 1000 := ho.1.1
  have o4 : H.1 4 ≤ 4 := ho.1.2.2.2.2.1
  have c0 : I 3 0 = nI (H.1 0) := chs hC (by decide)
  have c4 : I 3 4 = nI (H.1 4) := chs hC (by decide)
  have hpw := pw5 _ (show H.1 4 < 5 by omega)
  have hp0 : 0 < 2 ^ (H.1 4) := Nat.pow_pos (by omega)
  have hM0 : MH (u2 I 89 0 0) 0 H W A := MH_th hM
  have m4 : u2 I 89 0 0 96 3 = nI (H.1 4) := mh96 hM0 (by decide)
  by_cases h0 : H.1 0 = 0
  · rcases hw with ⟨rfl, rfl, rfl, rfl, rfl⟩ | ⟨rfl, rfl, rfl, hf⟩
    · exact ⟨-2, some 114, nh, rh, TK, RK (some 3), I, L, u2 I 89 0 0, L, (t_146_1 Ls xs 994 nh rh 200000 I L (-2, I, L) (by unfold f_146_1; rw [e177n c0 o0 h0, q_bs, if_neg (fun q => q rfl)])), (t_316 Ls xs 993 (some 114) TK (RK (some 3)) nh rh 200000 I L (-2, u2 I 89 0 0, L) (by unfold f_316; rw [e236n hM0.1 o0 h0, q_bs, if_neg (fun q => q rfl)])), VV_th hV0⟩
    · exact ⟨-2, none, nh, rh, [], [], I, L, u2 I 89 0 0, L, (t_146 Ls xs 994 nh rh 200000 I L (-2, false, I, L) (by unfold f_146; rw [e177n c0 o0 h0, q_bs, if_neg (fun q => q rfl)])), (t_316 Ls xs 993 none [] [] nh rh 200000 I L (-2, u2 I 89 0 0, L) (by unfold f_316; rw [e236n hM0.1 o0 h0, q_bs, if_neg (fun q => q rfl)])), VV_th hV0⟩
  · obtain ⟨B, hB⟩ := hasB H
    have he16 := ev16 ho
    obtain ⟨v, hv⟩ : ∃ v, v = gvk B (evr H) (evr H + 1) := ⟨_, rfl⟩
    have hcl : ∃ kp' tl' rl' I' L', pEN Ls xs 1000 146 [.ref 0] (hp kp nh rh tl rl I L) = some (some (.int (nI v)), hp kp' nh rh tl' rl' I' L') ∧ ((kp' = some 114 ∧ tl' = TK ∧ rl' = RK (some 3) ∧ KPK H I' L') ∨ (kp' = none ∧ tl' = [] ∧ rl' = [])) ∧ (∀ c i, (c < 114 ∨ 121 < c) → I' c i = I c i) ∧ ∀ c i, (c < 114 ∨ 121 < c) → L' c i = L c i := by
      rcases hw with ⟨rfl, rfl, rfl, rfl, rfl⟩ | ⟨rfl, rfl, rfl, hf⟩
      · obtain ⟨I', L', g1, g2, g3, g4⟩ := s146a (m := 200000) (k := 0) (n := 200000) hB (by omega) ho hC hP (by omega) (by omega)
        rw [← hv] at g1
        exact ⟨some 114, TK, RK (some 3), I', L', (t_146_1 Ls xs 994 nh rh 200000 I L (nI v, I', L') (by
            unfold f_146_1
            rw [e177y c0 o0 (by omega), q_bs, if_pos (by decide), e24 ho hC, q_bs]
            exact g1)), Or.inl ⟨rfl, rfl, rfl, g2⟩, g3, fun c i hc => g4 c i (by omega)⟩
      · rcases s146 (n := 200000) hB (by omega) ho hC hf hCJ hP with g1 | ⟨I', L', g1, g2, g3, g4⟩
        · rw [← hv] at g1
          exact ⟨none, [], [], I, L, (t_146 Ls xs 994 nh rh 200000 I L (nI v, false, I, L) (by
            unfold f_146
            rw [e177y c0 o0 (by omega), q_bs, if_pos (by decide), e24 ho hC, q_bs]
            exact g1)), Or.inr ⟨rfl, rfl, rfl⟩, fun _ _ _ => rfl, fun _ _ _ => rfl⟩
        · rw [← hv] at g1
          exact ⟨some 114, TK, RK (some 3), I', L', (t_146 Ls xs 994 nh rh 200000 I L (nI v, true, I', L') (by
            unfold f_146
            rw [e177y c0 o0 (by omega), q_bs, if_pos (by decide), e24 ho hC, q_bs]
            exact g1)), Or.inl ⟨rfl, rfl, rfl, g2⟩, fun c i hc => (g3 c i hc).trans (fI c i hc), fun c i hc => (g4 c i (by omega)).trans (fL c i hc)⟩
    obtain ⟨kp', tl', rl', I', L', hcl, hw', e5, e6⟩ := hcl
    have hMJ : MH (u2 I' 89 0 0) 0 H W A := MH_th (MH_fr ho hM (fun c hc i => by rw [e5 c i (by omega)]))
    obtain ⟨J2, p1, p2, p3, p4⟩ := mlay (n := 200000) (L := L') ho hMJ (by omega)
    obtain ⟨K, k1, k3⟩ := m316 (n := 200000) (L := L') hB (by omega) p2
    rw [← gvk_E ho, ← hv] at k1
    have hK : ∀ c i, c ≠ 89 → c ≠ 104 → c ≠ 105 → c ≠ 109 → c ≠ 110 → K c i = I' c i := fun c i h1 h2 h3 h4 _ => by rw [k3 c i h3 h4, p3 c i h1 h2, u2_c h1]
    have hK9 : ∀ i, (i = 6 ∨ i = 14 ∨ i = 15) → K 89 i = I' 89 i := fun i hi => by rw [k3 89 i (by decide) (by decide), p4 i (by omega), u2_o (by omega)]
    refine ⟨nI v, kp', nh, rh, tl', rl', I', L', K, L', hcl, ?_, kfin2 hB0 hRg (hw'.imp (fun q => ⟨q.1, q.2.1, q.2.2.1, KPK_cg q.2.2.2 (fun c i a b => hK c i (by omega) (by omega) (by omega) (by omega) (by omega)) (fun _ => rfl)⟩) id) (fun c i h1 h2 h3 h4 h5 h6 => by rw [hK c i h1 h2 h3 h4 h5, e5 c i h6]) (fun i hi => by rw [hK9 i hi, e5 89 i (by omega)]) e6⟩
    exact (t_316 Ls xs 993 kp' tl' rl' nh rh 200000 I' L' (nI v, K, L') (by
      unfold f_316
      rw [e236y hMJ.1 o0 (by omega), q_bs, if_pos (by decide), p1, q_bs]
      dsimp only
      rw [e298 p2, q_bs]
      exact k1))
end KSK8
