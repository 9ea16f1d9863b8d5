/-! LAYER 3: saved, most. Printed by wip/whole/gen77.py -/
section KSV
variable {I : FI} {L : FL} {H : HD} {W : Nat → Nat} {A : AD} {set : Nat} {n : Nat} {B : Nat → Bool} {wv : Nat → Nat}
theorem c25_1 (ho : HOK H W A) (hC : CH I 3 11 H W A) {s : Nat} (hs16 : s < 16) (hn : 1000 ≤ n) : f_25_1 n (nI s) I L = some (nI (wok W s (H.1 4))) := by
  have o4 : H.1 4 ≤ 4 := ho.1.2.2.2.2.1
  obtain ⟨s', hs, e⟩ := lpE (fun m k (b : Nat) => c_25_1_0 n I L m (nI s) (nI b) (nI k)) (H.1 4) (fun k b => b = wok W s k) (fun b => some (nI b)) (fun m b hs => by
      show b_25_1_0 n I L (c_25_1_0 n I L m) (nI s) (nI b) (nI (H.1 4)) = _
      unfold b_25_1_0
      rw [chs hC (by decide), if_pos (nI_le (Nat.le_refl _) (by omega))]) (fun m k b hk hs => by
      refine ⟨wok W s (k + 1), rfl, ?_⟩
      show b_25_1_0 n I L (c_25_1_0 n I L m) (nI s) (nI b) (nI k) = c_25_1_0 n I L m (nI s) (nI (if s.testBit k = true then wok W s k + W k else wok W s k)) (nI (k + 1))
      unfold b_25_1_0 c_25_1_1
      rw [chs hC (by decide), if_neg (nI_ge hk (by omega)), ku_bit2 (by omega) (by omega), q_b1, nI_1, hs]
      by_cases h : s.testBit k = true
      · rw [if_pos h, if_pos h, ku_if (by omega) (by omega), nI_clamp (by omega), ch_wo hC hk, nI_add]
      · rw [if_neg h, if_neg h]) n 0 0 (by omega) (by omega) rfl
  unfold f_25_1
  rw [show (0 : Int32) = nI 0 from rfl, e, hs]
theorem hasB (H : HD) : ∃ B : Nat → Bool, ∀ s, B s = true ↔ KS H s := ⟨fun s => @decide (KS H s) (Classical.propDecidable _), fun s => @decide_eq_true_iff _ (Classical.propDecidable _)⟩
theorem eKB (hB : ∀ s, B s = true ↔ KS H s) (hn : 200000 ≤ n) (ho : HOK H W A) (hC : CH I 3 11 H W A) (hP : KPK H I L) (hs : set < 2 ^ (H.1 4)) : ∃ x I' L', f_32 n (nI set) I L = some (x, I', L') ∧ (∀ J M, f_188 (if H.1 4 = 0 then -1 else nI (fpl H)) x J M = some (nI (bn (B set)))) ∧ KPK H I' L' ∧ (∀ c i, (c < 114 ∨ 121 < c) → I' c i = I c i) ∧ ∀ c i, c ≠ 117 → L' c i = L c i := by
  obtain ⟨b, x, I', L', e1, e2, e3, e4, e5, e6⟩ := eKS (L := L) hn ho hC hP hs
  have hb : bn (B set) = b := by
    rcases e3 with ⟨h, q⟩ | ⟨h, q⟩
    · rw [(hB set).mpr q, h]; rfl
    · have : B set = false := by
        cases e : B set
        · rfl
        · exact absurd ((hB set).mp e) q
      rw [this, h]; rfl
  exact ⟨x, I', L', e1, fun J M => by rw [hb]; exact e2 J M, e4, e5, e6⟩
theorem eKBm (hB : ∀ s, B s = true ↔ KS H s) (hM : MK H W A (H.1 1) (H.2 0) I) (hs : set < 2 ^ (H.1 4)) (hn : 20000 ≤ n) : ∃ J, f_297 n (if H.1 4 = 0 then -1 else nI (fpl H)) (nI set) I L = some (nI (bn (B set)), J, L) ∧ ∀ c i, c ≠ 105 → c ≠ 109 → J c i = I c i := by
  obtain ⟨b, J, e1, e3, e4⟩ := eKSm (L := L) hM hs hn
  have hb : bn (B set) = b := by
    rcases e3 with ⟨h, q⟩ | ⟨h, q⟩
    · rw [(hB set).mpr q, h]; rfl
    · have : B set = false := by
        cases e : B set
        · rfl
        · exact absurd ((hB set).mp e) q
      rw [this, h]; rfl
  exact ⟨J, by rw [hb]; exact e1, e4⟩
theorem bn_y {b : Bool} {α : Type} {x y : α} (h : b = true) : (if nI (bn b) = 0 then x else y) = y := by rw [h, if_neg (by decide)]
theorem bn_n {b : Bool} {α : Type} {x y : α} (h : ¬ b = true) : (if nI (bn b) = 0 then x else y) = x := by rw [Bool.eq_false_iff.mpr h, if_pos (by decide)]
/-- the set of most worth among the first k -/
def svk (B : Nat → Bool) (wv : Nat → Nat) : Nat → Nat
  | 0 => 0
  | k + 1 => if wv (svk B wv k) < wv (k + 1) ∧ B (k + 1) = true then k + 1 else svk B wv k
theorem svk_le : ∀ k, svk B wv k ≤ k
  | 0 => Nat.le_refl _
  | k + 1 => by
    have := svk_le k
    unfold svk
    split <;> omega
theorem svk_1 {k : Nat} (h : wv (k + 1) ≤ wv (svk B wv k)) : svk B wv (k + 1) = svk B wv k := by
  show (if _ then _ else _) = _
  rw [if_neg (fun q => by omega)]
theorem svk_2 {k : Nat} (h : ¬ wv (k + 1) ≤ wv (svk B wv k)) (hb : B (k + 1) = true) : svk B wv (k + 1) = k + 1 := by
  show (if _ then _ else _) = _
  rw [if_pos ⟨by omega, hb⟩]
theorem svk_3 {k : Nat} (hb : ¬ B (k + 1) = true) : svk B wv (k + 1) = svk B wv k := by
  show (if _ then _ else _) = _
  rw [if_neg (fun q => hb q.2)]
theorem ev16 (ho : HOK H W A) : evr H < 16 := by
  have h := evr_lt H
  have h2 : 2 ^ (H.1 4) ≤ 2 ^ 4 := Nat.pow_le_pow_right (by omega) ho.1.2.2.2.2.1
  omega
theorem kfin2 {RP : RPT} {kp nh rh : Option Nat} {tl : List (Nat × Nat)} {rl : List (List (Option Nat))} {J : FI} {M : FL} (hB : VB I L H W A) (hR : VRg RP rh I H) (hP : (kp = some 114 ∧ tl = TK ∧ rl = RK (some 3) ∧ KPK H J M) ∨ (kp = none ∧ tl = [] ∧ rl = [])) (e : ∀ c i, c ≠ 89 → c ≠ 104 → c ≠ 105 → c ≠ 109 → c ≠ 110 → (c < 114 ∨ 121 < c) → J c i = I c i) (e9 : ∀ i, (i = 6 ∨ i = 14 ∨ i = 15) → J 89 i = I 89 i) (eL : ∀ c i, (c < 114 ∨ 121 < c) → M c i = L c i) : VV KPK RP kp nh rh tl rl J M := by
  rcases hP with ⟨rfl, rfl, rfl, hP⟩ | ⟨rfl, rfl, rfl⟩
  · exact kfin hB hR hP e e9 eL
  · have hz : KPK H (z2 (u2 (u2 J 114 7 (-1)) 114 8 (-3)) 120 (-3)) M ∨ True := Or.inr trivial
    have hk : ∃ J' : FI, KPK H J' M ∧ ∀ c i, (c < 114 ∨ 121 < c) → J' c i = J c i := ⟨z2 (z2 (u2 (u2 J 114 7 (-1)) 114 8 (-3)) 120 (-3)) 121 (-3), KPK_f _ _ _ rfl rfl (fun i _ => rfl) (fun i _ => rfl), fun c i hc => by
      show (if c = 121 then _ else if c = 120 then _ else _) = _
      rw [if_neg (by omega), if_neg (by omega), u2_c (by omega), u2_c (by omega)]⟩
    obtain ⟨J', hk, hj⟩ := hk
    obtain ⟨H', W', A', v1, v2, v3⟩ := kfin (nh := nh) hB hR hk (fun c i h1 h2 h3 h4 h5 h6 => by rw [hj c i h6]; exact e c i h1 h2 h3 h4 h5 h6) (fun i hi => by rw [hj 89 i (by omega)]; exact e9 i hi) eL
    refine ⟨H', W', A', VB_fr v1 (fun a i ha => ?_) (fun _ _ _ => rfl), VRg_fr v2 (fun a i ha => ?_), Or.inl ⟨rfl, rfl, rfl⟩⟩
    · refine (hj a i ?_).symm
      by_cases e1 : a = 89
      · omega
      · rw [fkey, if_neg e1] at ha
        unfold vkB at ha
        simp only [Bool.or_eq_true, Bool.and_eq_true, decide_eq_true_eq, beq_iff_eq] at ha
        omega
    · refine (hj a i ?_).symm
      by_cases e1 : a = 89
      · omega
      · rw [fkey, if_neg e1] at ha
        unfold vkR at ha
        simp only [Bool.and_eq_true, decide_eq_true_eq] at ha
        omega
theorem s189a (hB : ∀ s, B s = true ↔ KS H s) (hn : 200000 ≤ n) (ho : HOK H W A) (hC : CH I 3 11 H W A) (hP : KPK H I L) (hwv : ∀ s, s < 16 → wv s = wok W s (H.1 4)) {m k : Nat} (hk : k ≤ evr H) (hm : evr H - k < m) : ∃ I' L', c_189_1_0 n m (nI (svk B wv k)) (nI (k + 1)) I L = some (nI (svk B wv (evr H)), I', L') ∧ KPK H I' L' ∧ (∀ c i, (c < 114 ∨ 121 < c) → I' c i = I c i) ∧ ∀ c i, c ≠ 117 → L' c i = L c i := by
  have hev := evr_lt H
  have he16 := ev16 ho
  have hwl : ∀ s, s < 16 → wv s < 1000 := fun s hs => by have := wok_le ho s (H.1 4) (Nat.le_refl _); have : H.1 4 ≤ 4 := ho.1.2.2.2.2.1; rw [hwv s hs]; omega
  obtain ⟨⟨I', L'⟩, ⟨k1, k2, k3⟩, e⟩ := lpE (fun m k (s : FI × FL) => c_189_1_0 n m (nI (svk B wv k)) (nI (k + 1)) s.1 s.2) (evr H) (fun _ s => KPK H s.1 s.2 ∧ (∀ c i, (c < 114 ∨ 121 < c) → s.1 c i = I c i) ∧ ∀ c i, c ≠ 117 → s.2 c i = L c i) (fun s => some (nI (svk B wv (evr H)), s.1, s.2)) (fun m s hI => by
      have hCs : CH s.1 3 11 H W A := CH_u hC (fun a i ha => hI.2.1 a i (by omega))
      show b_189_1_0 n (c_189_1_0 n m) (nI (svk B wv (evr H))) (nI ((evr H) + 1)) s.1 s.2 = _
      unfold b_189_1_0 c_189_1_1
      rw [e24 ho hCs, q_bs, if_pos (nI_lt (by omega) (by omega))]) (fun m k s hk hI => by
      obtain ⟨s1, s2, s3⟩ := hI
      have hCs : CH s.1 3 11 H W A := CH_u hC (fun a i ha => s2 a i (by omega))
      have hsl := svk_le (B := B) (wv := wv) k
      obtain ⟨x, I', L', e1, e2, e4, e5, e6⟩ := eKB (set := k + 1) hB hn ho hCs s1 (by omega)
      by_cases hle : wv (k + 1) ≤ wv (svk B wv k)
      · refine ⟨s, ⟨s1, s2, s3⟩, ?_⟩
        show b_189_1_0 n (c_189_1_0 n m) (nI (svk B wv k)) (nI (k + 1)) s.1 s.2 = c_189_1_0 n m (nI (svk B wv (k + 1))) (nI ((k + 1) + 1)) s.1 s.2
        unfold b_189_1_0 c_189_1_1
        rw [e24 ho hCs, q_bs, if_neg (nI_nlt (by omega) (by omega)), c25_1 ho hCs (by omega) (by omega), q_bs, c25_1 ho hCs (by omega) (by omega), q_bs, ← hwv _ (by omega), ← hwv _ (by omega), if_pos (nI_le hle (by have := hwl (svk B wv k) (by omega); omega)), svk_1 hle, nI_1]
      · refine ⟨(I', L'), ⟨e4, fun c i hc => (e5 c i hc).trans (s2 c i hc), fun c i hc => (e6 c i hc).trans (s3 c i hc)⟩, ?_⟩
        show b_189_1_0 n (c_189_1_0 n m) (nI (svk B wv k)) (nI (k + 1)) s.1 s.2 = c_189_1_0 n m (nI (svk B wv (k + 1))) (nI ((k + 1) + 1)) I' L'
        unfold b_189_1_0 c_189_1_1
        rw [e24 ho hCs, q_bs, if_neg (nI_nlt (by omega) (by omega)), c25_1 ho hCs (by omega) (by omega), q_bs, c25_1 ho hCs (by omega) (by omega), q_bs, ← hwv _ (by omega), ← hwv _ (by omega), if_neg (nI_ge (by omega) (by have := hwl (k + 1) (by omega); omega)), e23 ho hCs, q_bs, show f_187 s.1 s.2 = some (s.1, s.2) from rfl, q_bs]
        dsimp only
        rw [e1, q_bs]
        dsimp only
        rw [e2, q_bs]
        by_cases hb : B (k + 1) = true
        · rw [bn_y hb, svk_2 hle hb, nI_1]
        · rw [bn_n hb, svk_3 hb, nI_1]) m k (I, L) hk hm ⟨hP, fun _ _ _ => rfl, fun _ _ _ => rfl⟩
  exact ⟨I', L', e, k1, k2, k3⟩
theorem s189b (hB : ∀ s, B s = true ↔ KS H s) (hn : 200000 ≤ n) (ho : HOK H W A) (hC : CH I 3 11 H W A) (hP : KPK H I L) (hwv : ∀ s, s < 16 → wv s = wok W s (H.1 4)) {m k : Nat} (hk : k ≤ evr H) (hm : evr H - k < m) : ∃ I' L', c_189_2 n m (nI (svk B wv k)) (nI k) I L = some (nI (svk B wv (evr H)), true, I', L') ∧ KPK H I' L' ∧ (∀ c i, (c < 114 ∨ 121 < c) → I' c i = I c i) ∧ ∀ c i, c ≠ 117 → L' c i = L c i := by
  have hev := evr_lt H
  have he16 := ev16 ho
  have hwl : ∀ s, s < 16 → wv s < 1000 := fun s hs => by have := wok_le ho s (H.1 4) (Nat.le_refl _); have : H.1 4 ≤ 4 := ho.1.2.2.2.2.1; rw [hwv s hs]; omega
  obtain ⟨⟨I', L'⟩, ⟨k1, k2, k3⟩, e⟩ := lpE (fun m k (s : FI × FL) => c_189_2 n m (nI (svk B wv k)) (nI k) s.1 s.2) (evr H) (fun _ s => KPK H s.1 s.2 ∧ (∀ c i, (c < 114 ∨ 121 < c) → s.1 c i = I c i) ∧ ∀ c i, c ≠ 117 → s.2 c i = L c i) (fun s => some (nI (svk B wv (evr H)), true, s.1, s.2)) (fun m s hI => by
      have hCs : CH s.1 3 11 H W A := CH_u hC (fun a i ha => hI.2.1 a i (by omega))
      show b_189_2 n (c_189_2 n m) (nI (svk B wv (evr H))) (nI (evr H)) s.1 s.2 = _
      unfold b_189_2 c_189_3
      rw [nI_1, e24 ho hCs, q_bs, if_pos (nI_lt (by omega) (by omega))]) (fun m k s hk hI => by
      obtain ⟨s1, s2, s3⟩ := hI
      have hCs : CH s.1 3 11 H W A := CH_u hC (fun a i ha => s2 a i (by omega))
      have hsl := svk_le (B := B) (wv := wv) k
      obtain ⟨x, I', L', e1, e2, e4, e5, e6⟩ := eKB (set := k + 1) hB hn ho hCs s1 (by omega)
      by_cases hle : wv (k + 1) ≤ wv (svk B wv k)
      · refine ⟨s, ⟨s1, s2, s3⟩, ?_⟩
        show b_189_2 n (c_189_2 n m) (nI (svk B wv k)) (nI k) s.1 s.2 = c_189_2 n m (nI (svk B wv (k + 1))) (nI (k + 1)) s.1 s.2
        unfold b_189_2 c_189_3
        rw [nI_1, e24 ho hCs, q_bs, if_neg (nI_nlt (by omega) (by omega)), c25_1 ho hCs (by omega) (by omega), q_bs, c25_1 ho hCs (by omega) (by omega), q_bs, ← hwv _ (by omega), ← hwv _ (by omega), if_pos (nI_le hle (by have := hwl (svk B wv k) (by omega); omega)), svk_1 hle]
      · refine ⟨(I', L'), ⟨e4, fun c i hc => (e5 c i hc).trans (s2 c i hc), fun c i hc => (e6 c i hc).trans (s3 c i hc)⟩, ?_⟩
        show b_189_2 n (c_189_2 n m) (nI (svk B wv k)) (nI k) s.1 s.2 = c_189_2 n m (nI (svk B wv (k + 1))) (nI (k + 1)) I' L'
        unfold b_189_2 c_189_3
        rw [nI_1, e24 ho hCs, q_bs, if_neg (nI_nlt (by omega) (by omega)), c25_1 ho hCs (by omega) (by omega), q_bs, c25_1 ho hCs (by omega) (by omega), q_bs, ← hwv _ (by omega), ← hwv _ (by omega), if_neg (nI_ge (by omega) (by have := hwl (k + 1) (by omega); omega)), e23 ho hCs, q_bs, show f_187 s.1 s.2 = some (s.1, s.2) from rfl, q_bs]
        dsimp only
        rw [e1, q_bs]
        dsimp only
        rw [e2, q_bs]
        by_cases hb : B (k + 1) = true
        · rw [bn_y hb, svk_2 hle hb]
        · rw [bn_n hb, svk_3 hb]) m k (I, L) hk hm ⟨hP, fun _ _ _ => rfl, fun _ _ _ => rfl⟩
  exact ⟨I', L', e, k1, k2, k3⟩
theorem s189 (hB : ∀ s, B s = true ↔ KS H s) (hn : 200000 ≤ n) (ho : HOK H W A) (hC : CH I 3 11 H W A) {J : FI} {M : FL} (hf : f_findA n I L = some (J, M)) (hCJ : CH J 3 11 H W A) (hP : KPK H J M) (hwv : ∀ s, s < 16 → wv s = wok W s (H.1 4)) : f_189 n I L = some (nI (svk B wv (evr H)), false, I, L) ∨ ∃ I' L', f_189 n I L = some (nI (svk B wv (evr H)), true, I', L') ∧ KPK H I' L' ∧ (∀ c i, (c < 114 ∨ 121 < c) → I' c i = J c i) ∧ ∀ c i, c ≠ 117 → L' c i = M c i := by
  have hev := evr_lt H
  have he16 := ev16 ho
  have hwl : ∀ s, s < 16 → wv s < 1000 := fun s hs => by have := wok_le ho s (H.1 4) (Nat.le_refl _); have : H.1 4 ≤ 4 := ho.1.2.2.2.2.1; rw [hwv s hs]; omega
  have key := lpG (fun m k (_ : Unit) => c_189_0 n m (nI (svk B wv k)) (nI (k + 1)) I L) (evr H) (fun _ _ => True) (fun _ => some (nI (svk B wv (evr H)), false, I, L)) (fun r => ∃ I' L', r = some (nI (svk B wv (evr H)), true, I', L') ∧ KPK H I' L' ∧ (∀ c i, (c < 114 ∨ 121 < c) → I' c i = J c i) ∧ ∀ c i, c ≠ 117 → L' c i = M c i) (fun m s _ => by
      show b_189_0 n (c_189_0 n m) (nI (svk B wv (evr H))) (nI (evr H + 1)) I L = _
      unfold b_189_0
      rw [e24 ho hC, q_bs, if_pos (nI_lt (by omega) (by omega))]) (fun m k s hk _ => by
      have hsl := svk_le (B := B) (wv := wv) k
      by_cases hle : wv (k + 1) ≤ wv (svk B wv k)
      · refine Or.inr ⟨(), trivial, ?_⟩
        show b_189_0 n (c_189_0 n m) (nI (svk B wv k)) (nI (k + 1)) I L = c_189_0 n m (nI (svk B wv (k + 1))) (nI (k + 1 + 1)) I L
        unfold b_189_0 c_189_1
        rw [e24 ho hC, q_bs, if_neg (nI_nlt (by omega) (by omega)), c25_1 ho hC (by omega) (by omega), q_bs, c25_1 ho hC (by omega) (by omega), q_bs, ← hwv _ (by omega), ← hwv _ (by omega), if_pos (nI_le hle (by have := hwl (svk B wv k) (by omega); omega)), svk_1 hle, nI_1]
      · left
        obtain ⟨x, I', L', e1, e2, e4, e5, e6⟩ := eKB (set := k + 1) hB hn ho hCJ hP (by omega)
        obtain ⟨I2, L2, g1, g2, g3, g4⟩ := s189b (wv := wv) (m := n) (k := k + 1) hB hn ho (CH_u hCJ (fun a i ha => e5 a i (by omega))) e4 hwv (by omega) (by omega)
        refine ⟨I2, L2, ?_, g2, fun c i hc => (g3 c i hc).trans (e5 c i hc), fun c i hc => (g4 c i hc).trans (e6 c i hc)⟩
        show b_189_0 n (c_189_0 n m) (nI (svk B wv k)) (nI (k + 1)) I L = _
        unfold b_189_0
        rw [e24 ho hC, q_bs, if_neg (nI_nlt (by omega) (by omega)), c25_1 ho hC (by omega) (by omega), q_bs, c25_1 ho hC (by omega) (by omega), q_bs, ← hwv _ (by omega), ← hwv _ (by omega), if_neg (nI_ge (by omega) (by have := hwl (k + 1) (by omega); omega)), e23 ho hC, q_bs, hf, q_bs]
        dsimp only
        rw [e1, q_bs]
        dsimp only
        rw [e2, q_bs]
        by_cases hb : B (k + 1) = true
        · rw [bn_y hb]
          rw [svk_2 hle hb] at g1
          exact g1
        · rw [bn_n hb]
          rw [svk_3 hb] at g1
          exact g1) n 0 () (by omega) (by omega) trivial
  have e0 : f_189 n I L = c_189_0 n n (nI (svk B wv 0)) (nI (0 + 1)) I L := rfl
  rw [e0]
  rcases key with h | ⟨_, _, h⟩
  · exact Or.inr h
  · exact Or.inl h
theorem m313 (hB : ∀ s, B s = true ↔ KS H s) (hn : 200000 ≤ n) (hM : MK H W A (H.1 1) (H.2 0) I) (hwv : ∀ s, s < 16 → wv s = wok W s (H.1 4)) : ∃ K, c_313_0 n n (nI 0) (nI 1) I L = some (nI (svk B wv (evr H)), K, L) ∧ ∀ c i, c ≠ 105 → c ≠ 109 → K c i = I c i := by
  have ho := hM.1
  have hev := evr_lt H
  have he16 := ev16 ho
  have hwl : ∀ s, s < 16 → wv s < 1000 := fun s hs => by have := wok_le ho s (H.1 4) (Nat.le_refl _); have : H.1 4 ≤ 4 := ho.1.2.2.2.2.1; rw [hwv s hs]; omega
  obtain ⟨K, hK, e⟩ := lpE (fun m k (s : FI) => c_313_0 n m (nI (svk B wv k)) (nI (k + 1)) s L) (evr H) (fun _ s => ∀ c i, c ≠ 105 → c ≠ 109 → s c i = I c i) (fun s => some (nI (svk B wv (evr H)), s, L)) (fun m s hI => by
      have hMs : MK H W A (H.1 1) (H.2 0) s := MK_fr hM (fun c i hc => hI c i (by omega) (by omega))
      show b_313_0 n (c_313_0 n m) (nI (svk B wv (evr H))) (nI (evr H + 1)) s L = _
      unfold b_313_0
      rw [e298 hMs, q_bs, if_pos (nI_lt (by omega) (by omega))]) (fun m k s hk hI => by
      have hMs : MK H W A (H.1 1) (H.2 0) s := MK_fr hM (fun c i hc => hI c i (by omega) (by omega))
      have hsl := svk_le (B := B) (wv := wv) k
      by_cases hle : wv (k + 1) ≤ wv (svk B wv k)
      · refine ⟨s, hI, ?_⟩
        show b_313_0 n (c_313_0 n m) (nI (svk B wv k)) (nI (k + 1)) s L = c_313_0 n m (nI (svk B wv (k + 1))) (nI (k + 1 + 1)) s L
        unfold b_313_0 c_313_1
        rw [e298 hMs, q_bs, if_neg (nI_nlt (by omega) (by omega)), m280 ho hMs.2.1 (by omega) (by omega), q_bs, m280 ho hMs.2.1 (by omega) (by omega), q_bs, ← hwv _ (by omega), ← hwv _ (by omega), if_pos (nI_le hle (by have := hwl (svk B wv k) (by omega); omega)), svk_1 hle, nI_1]
      · obtain ⟨J, j1, j2⟩ := eKBm (L := L) (set := k + 1) hB hMs (by omega) (show 20000 ≤ n by omega)
        refine ⟨J, fun c i h1 h2 => (j2 c i h1 h2).trans (hI c i h1 h2), ?_⟩
        show b_313_0 n (c_313_0 n m) (nI (svk B wv k)) (nI (k + 1)) s L = c_313_0 n m (nI (svk B wv (k + 1))) (nI (k + 1 + 1)) J L
        unfold b_313_0 c_313_1
        rw [e298 hMs, q_bs, if_neg (nI_nlt (by omega) (by omega)), m280 ho hMs.2.1 (by omega) (by omega), q_bs, m280 ho hMs.2.1 (by omega) (by omega), q_bs, ← hwv _ (by omega), ← hwv _ (by omega), if_neg (nI_ge (by omega) (by have := hwl (k + 1) (by omega); omega)), e256k hMs, q_bs, j1, q_bs]
        dsimp only
        by_cases hb : B (k + 1) = true
        · rw [bn_y hb, svk_2 hle hb, nI_1]
        · rw [bn_n hb, svk_3 hb, nI_1]) n 0 I (by omega) (by omega) (fun _ _ _ _ => rfl)
  exact ⟨K, e, hK⟩
end KSV
section KSK7
variable {RP : RPT} {Ls : Nat} {xs : Nat → Int32} {a1 a2 a3 a4 a5 : Int32}
theorem sk_saved : SOK Ls xs (VV KPK RP) 145 315 [] := by
  intro kp nh rh tl rl I L hV
  have hV0 := hV
  obtain ⟨H, W, A, J, M, hB, hRg, hP, hCJ, fI, fL, hw⟩ := kw hV
  have hB0 := hB
  obtain ⟨hT, hF, ho, hC, hM, hIm, hRw⟩ := hB
  have o0 : H.1 0 ≤ 1000 := ho.1.1
  have o4 : H.1 4 ≤ 4 := ho.1.2.2.2.2.1
  have c0 : I 3 0 = nI (H.1 0) := chs hC (by decide)
  have c4 : I 3 4 = nI (H.1 4) := chs hC (by decide)
  have hpw := pw5 _ (show H.1 4 < 5 by omega)
  have hp0 : 0 < 2 ^ (H.1 4) := Nat.pow_pos (by omega)
  have hM0 : MH (u2 I 89 0 0) 0 H W A := MH_th hM
  have m4 : u2 I 89 0 0 96 3 = nI (H.1 4) := mh96 hM0 (by decide)
  by_cases h0 : H.1 0 = 0
  · rcases hw with ⟨rfl, rfl, rfl, rfl, rfl⟩ | ⟨rfl, rfl, rfl, hf⟩
    · exact ⟨-2, some 114, nh, rh, TK, RK (some 3), I, L, u2 I 89 0 0, L, (t_145_1 Ls xs 993 nh rh 200000 I L (-2, I, L) (by unfold f_145_1; rw [e177n c0 o0 h0, q_bs, if_pos rfl])), (t_315 Ls xs 992 (some 114) TK (RK (some 3)) nh rh 200000 I L (-2, u2 I 89 0 0, L) (by unfold f_315; rw [e236n hM0.1 o0 h0, q_bs, if_pos rfl])), VV_th hV0⟩
    · exact ⟨-2, none, nh, rh, [], [], I, L, u2 I 89 0 0, L, (t_145 Ls xs 993 nh rh 200000 I L (-2, false, I, L) (by unfold f_145; rw [e177n c0 o0 h0, q_bs, if_pos rfl])), (t_315 Ls xs 992 none [] [] nh rh 200000 I L (-2, u2 I 89 0 0, L) (by unfold f_315; rw [e236n hM0.1 o0 h0, q_bs, if_pos rfl])), VV_th hV0⟩
  · obtain ⟨B, hB⟩ := hasB H
    have he16 := ev16 ho
    have hwv : ∀ s, s < 16 → (fun s => wok W s (H.1 4)) s = wok W s (H.1 4) := fun _ _ => rfl
    obtain ⟨v, hv⟩ : ∃ v, v = svk B (fun s => wok W s (H.1 4)) (evr H) := ⟨_, rfl⟩
    have hv16 : v < 16 := by have := svk_le (B := B) (wv := fun s => wok W s (H.1 4)) (evr H); omega
    have hcl : ∃ kp' tl' rl' I' L', pEN Ls xs 1000 145 [.ref 0] (hp kp nh rh tl rl I L) = some (some (.int (nI v)), hp kp' nh rh tl' rl' I' L') ∧ ((kp' = some 114 ∧ tl' = TK ∧ rl' = RK (some 3) ∧ KPK H I' L') ∨ (kp' = none ∧ tl' = [] ∧ rl' = [])) ∧ (∀ c i, (c < 114 ∨ 121 < c) → I' c i = I c i) ∧ ∀ c i, (c < 114 ∨ 121 < c) → L' c i = L c i := by
      rcases hw with ⟨rfl, rfl, rfl, rfl, rfl⟩ | ⟨rfl, rfl, rfl, hf⟩
      · obtain ⟨I', L', g1, g2, g3, g4⟩ := s189a (wv := fun s => wok W s (H.1 4)) (m := 200000) (k := 0) (n := 200000) hB (by omega) ho hC hP hwv (by omega) (by omega)
        have g1' : f_189_1 200000 I L = some (nI v, I', L') := by rw [hv]; exact g1
        have hCI : CH I' 3 11 H W A := CH_u hC (fun a i ha => g3 a i (by omega))
        exact ⟨some 114, TK, RK (some 3), I', L', (t_145_1 Ls xs 993 nh rh 200000 I L (nI v, I', L') (by
            unfold f_145_1
            rw [e177y c0 o0 (by omega), q_bs, if_neg (by decide), g1', q_bs])), Or.inl ⟨rfl, rfl, rfl, g2⟩, g3, fun c i hc => g4 c i (by omega)⟩
      · rcases s189 (wv := fun s => wok W s (H.1 4)) (n := 200000) hB (by omega) ho hC hf hCJ hP hwv with g1 | ⟨I', L', g1, g2, g3, g4⟩
        · rw [← hv] at g1
          have hCI := hC
          exact ⟨none, [], [], I, L, (t_145 Ls xs 993 nh rh 200000 I L (nI v, false, I, L) (by
            unfold f_145
            rw [e177y c0 o0 (by omega), q_bs, if_neg (by decide), g1, q_bs]
            dsimp only
            rw [if_neg (by decide)])), Or.inr ⟨rfl, rfl, rfl⟩, fun _ _ _ => rfl, fun _ _ _ => rfl⟩
        · rw [← hv] at g1
          have hCI : CH I' 3 11 H W A := CH_u hCJ (fun a i ha => g3 a i (by omega))
          exact ⟨some 114, TK, RK (some 3), I', L', (t_145 Ls xs 993 nh rh 200000 I L (nI v, true, I', L') (by
            unfold f_145
            rw [e177y c0 o0 (by omega), q_bs, if_neg (by decide), g1, q_bs]
            dsimp only
            rw [if_pos rfl])), Or.inl ⟨rfl, rfl, rfl, g2⟩, fun c i hc => (g3 c i hc).trans (fI c i hc), fun c i hc => (g4 c i (by omega)).trans (fL c i hc)⟩
    obtain ⟨kp', tl', rl', I', L', hcl, hw', e5, e6⟩ := hcl
    have hMJ : MH (u2 I' 89 0 0) 0 H W A := MH_th (MH_fr ho hM (fun c hc i => by rw [e5 c i (by omega)]))
    obtain ⟨J2, p1, p2, p3, p4⟩ := mlay (n := 200000) (L := L') ho hMJ (by omega)
    obtain ⟨K, k1, k3⟩ := m313 (wv := fun s => wok W s (H.1 4)) (n := 200000) (L := L') hB (by omega) p2 hwv
    rw [← hv] at k1
    have k1' : f_313 200000 (u2 I' 89 0 0) L' = some (nI v, K, L') := by
      unfold f_313
      rw [p1, q_bs]
      exact k1
    have hMK : MH K 0 H W A := MH_fr ho p2.2.1 (fun c hc i => k3 c i (by omega) (by omega))
    have hK : ∀ c i, c ≠ 89 → c ≠ 104 → c ≠ 105 → c ≠ 109 → c ≠ 110 → K c i = I' c i := fun c i h1 h2 h3 h4 _ => by rw [k3 c i h3 h4, p3 c i h1 h2, u2_c h1]
    have hK9 : ∀ i, (i = 6 ∨ i = 14 ∨ i = 15) → K 89 i = I' 89 i := fun i hi => by rw [k3 89 i (by decide) (by decide), p4 i (by omega), u2_o (by omega)]
    refine ⟨nI v, kp', nh, rh, tl', rl', I', L', K, L', hcl, ?_, kfin2 hB0 hRg (hw'.imp (fun q => ⟨q.1, q.2.1, q.2.2.1, KPK_cg q.2.2.2 (fun c i a b => hK c i (by omega) (by omega) (by omega) (by omega) (by omega)) (fun _ => rfl)⟩) id) (fun c i h1 h2 h3 h4 h5 h6 => by rw [hK c i h1 h2 h3 h4 h5, e5 c i h6]) (fun i hi => by rw [hK9 i hi, e5 89 i (by omega)]) e6⟩
    exact (t_315 Ls xs 992 kp' tl' rl' nh rh 200000 I' L' (nI v, K, L') (by
      unfold f_315
      rw [e236y hMJ.1 o0 (by omega), q_bs, if_neg (by decide), k1', q_bs]))
theorem sk_most : SOK Ls xs (VV KPK RP) 144 314 [] := by
  intro kp nh rh tl rl I L hV
  have hV0 := hV
  obtain ⟨H, W, A, J, M, hB, hRg, hP, hCJ, fI, fL, hw⟩ := kw hV
  have hB0 := hB
  obtain ⟨hT, hF, ho, hC, hM, hIm, hRw⟩ := hB
  have o0 : H.1 0 ≤ 1000 := ho.1.1
  have o4 : H.1 4 ≤ 4 := ho.1.2.2.2.2.1
  have c0 : I 3 0 = nI (H.1 0) := chs hC (by decide)
  have c4 : I 3 4 = nI (H.1 4) := chs hC (by decide)
  have hpw := pw5 _ (show H.1 4 < 5 by omega)
  have hp0 : 0 < 2 ^ (H.1 4) := Nat.pow_pos (by omega)
  have hM0 : MH (u2 I 89 0 0) 0 H W A := MH_th hM
  have m4 : u2 I 89 0 0 96 3 = nI (H.1 4) := mh96 hM0 (by decide)
  by_cases h0 : H.1 0 = 0
  · rcases hw with ⟨rfl, rfl, rfl, rfl, rfl⟩ | ⟨rfl, rfl, rfl, hf⟩
    · exact ⟨-2, some 114, nh, rh, TK, RK (some 3), I, L, u2 I 89 0 0, L, (t_144_1 Ls xs 993 nh rh 200000 I L (-2, I, L) (by unfold f_144_1; rw [e177n c0 o0 h0, q_bs, if_pos rfl])), (t_314 Ls xs 992 (some 114) TK (RK (some 3)) nh rh 200000 I L (-2, u2 I 89 0 0, L) (by unfold f_314; rw [e236n hM0.1 o0 h0, q_bs, if_pos rfl])), VV_th hV0⟩
    · exact ⟨-2, none, nh, rh, [], [], I, L, u2 I 89 0 0, L, (t_144 Ls xs 993 nh rh 200000 I L (-2, false, I, L) (by unfold f_144; rw [e177n c0 o0 h0, q_bs, if_pos rfl])), (t_314 Ls xs 992 none [] [] nh rh 200000 I L (-2, u2 I 89 0 0, L) (by unfold f_314; rw [e236n hM0.1 o0 h0, q_bs, if_pos rfl])), VV_th hV0⟩
  · obtain ⟨B, hB⟩ := hasB H
    have he16 := ev16 ho
    have hwv : ∀ s, s < 16 → (fun s => wok W s (H.1 4)) s = wok W s (H.1 4) := fun _ _ => rfl
    obtain ⟨v, hv⟩ : ∃ v, v = svk B (fun s => wok W s (H.1 4)) (evr H) := ⟨_, rfl⟩
    have hv16 : v < 16 := by have := svk_le (B := B) (wv := fun s => wok W s (H.1 4)) (evr H); omega
    have hcl : ∃ kp' tl' rl' I' L', pEN Ls xs 1000 144 [.ref 0] (hp kp nh rh tl rl I L) = some (some (.int (nI (wok W v (H.1 4)))), hp kp' nh rh tl' rl' I' L') ∧ ((kp' = some 114 ∧ tl' = TK ∧ rl' = RK (some 3) ∧ KPK H I' L') ∨ (kp' = none ∧ tl' = [] ∧ rl' = [])) ∧ (∀ c i, (c < 114 ∨ 121 < c) → I' c i = I c i) ∧ ∀ c i, (c < 114 ∨ 121 < c) → L' c i = L c i := by
      rcases hw with ⟨rfl, rfl, rfl, rfl, rfl⟩ | ⟨rfl, rfl, rfl, hf⟩
      · obtain ⟨I', L', g1, g2, g3, g4⟩ := s189a (wv := fun s => wok W s (H.1 4)) (m := 200000) (k := 0) (n := 200000) hB (by omega) ho hC hP hwv (by omega) (by omega)
        have g1' : f_189_1 200000 I L = some (nI v, I', L') := by rw [hv]; exact g1
        have hCI : CH I' 3 11 H W A := CH_u hC (fun a i ha => g3 a i (by omega))
        exact ⟨some 114, TK, RK (some 3), I', L', (t_144_1 Ls xs 993 nh rh 200000 I L (nI (wok W v (H.1 4)), I', L') (by
            unfold f_144_1
            rw [e177y c0 o0 (by omega), q_bs, if_neg (by decide), g1', q_bs]
            dsimp only
            rw [c25_1 ho hCI hv16 (by omega), q_bs])), Or.inl ⟨rfl, rfl, rfl, g2⟩, g3, fun c i hc => g4 c i (by omega)⟩
      · rcases s189 (wv := fun s => wok W s (H.1 4)) (n := 200000) hB (by omega) ho hC hf hCJ hP hwv with g1 | ⟨I', L', g1, g2, g3, g4⟩
        · rw [← hv] at g1
          have hCI := hC
          exact ⟨none, [], [], I, L, (t_144 Ls xs 993 nh rh 200000 I L (nI (wok W v (H.1 4)), false, I, L) (by
            unfold f_144
            rw [e177y c0 o0 (by omega), q_bs, if_neg (by decide), g1, q_bs]
            dsimp only
            rw [if_neg (by decide), c25_1 ho hCI hv16 (by omega), q_bs])), Or.inr ⟨rfl, rfl, rfl⟩, fun _ _ _ => rfl, fun _ _ _ => rfl⟩
        · rw [← hv] at g1
          have hCI : CH I' 3 11 H W A := CH_u hCJ (fun a i ha => g3 a i (by omega))
          exact ⟨some 114, TK, RK (some 3), I', L', (t_144 Ls xs 993 nh rh 200000 I L (nI (wok W v (H.1 4)), true, I', L') (by
            unfold f_144
            rw [e177y c0 o0 (by omega), q_bs, if_neg (by decide), g1, q_bs]
            dsimp only
            rw [if_pos rfl, c25_1 ho hCI hv16 (by omega), q_bs])), Or.inl ⟨rfl, rfl, rfl, g2⟩, fun c i hc => (g3 c i hc).trans (fI c i hc), fun c i hc => (g4 c i (by omega)).trans (fL c i hc)⟩
    obtain ⟨kp', tl', rl', I', L', hcl, hw', e5, e6⟩ := hcl
    have hMJ : MH (u2 I' 89 0 0) 0 H W A := MH_th (MH_fr ho hM (fun c hc i => by rw [e5 c i (by omega)]))
    obtain ⟨J2, p1, p2, p3, p4⟩ := mlay (n := 200000) (L := L') ho hMJ (by omega)
    obtain ⟨K, k1, k3⟩ := m313 (wv := fun s => wok W s (H.1 4)) (n := 200000) (L := L') hB (by omega) p2 hwv
    rw [← hv] at k1
    have k1' : f_313 200000 (u2 I' 89 0 0) L' = some (nI v, K, L') := by
      unfold f_313
      rw [p1, q_bs]
      exact k1
    have hMK : MH K 0 H W A := MH_fr ho p2.2.1 (fun c hc i => k3 c i (by omega) (by omega))
    have hK : ∀ c i, c ≠ 89 → c ≠ 104 → c ≠ 105 → c ≠ 109 → c ≠ 110 → K c i = I' c i := fun c i h1 h2 h3 h4 _ => by rw [k3 c i h3 h4, p3 c i h1 h2, u2_c h1]
    have hK9 : ∀ i, (i = 6 ∨ i = 14 ∨ i = 15) → K 89 i = I' 89 i := fun i hi => by rw [k3 89 i (by decide) (by decide), p4 i (by omega), u2_o (by omega)]
    refine ⟨nI (wok W v (H.1 4)), kp', nh, rh, tl', rl', I', L', K, L', hcl, ?_, kfin2 hB0 hRg (hw'.imp (fun q => ⟨q.1, q.2.1, q.2.2.1, KPK_cg q.2.2.2 (fun c i a b => hK c i (by omega) (by omega) (by omega) (by omega) (by omega)) (fun _ => rfl)⟩) id) (fun c i h1 h2 h3 h4 h5 h6 => by rw [hK c i h1 h2 h3 h4 h5, e5 c i h6]) (fun i hi => by rw [hK9 i hi, e5 89 i (by omega)]) e6⟩
    exact (t_314 Ls xs 992 kp' tl' rl' nh rh 200000 I' L' (nI (wok W v (H.1 4)), K, L') (by
      unfold f_314
      rw [e236y hMJ.1 o0 (by omega), q_bs, if_neg (by decide), k1', q_bs]
      dsimp only
      rw [m280 ho hMK hv16 (by omega), q_bs]))
end KSK7
