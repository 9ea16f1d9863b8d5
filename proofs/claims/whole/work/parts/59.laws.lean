/-! LAYER 3: laws. Printed by wip/whole/gen59.py -/
section LAWS
variable {I : FI} {L : FL} {H : HD} {W : Nat → Nat} {A : AD} {g : NG} {n : Nat}
def agB (H : HD) (g : NG) (q : Nat) (rr tt aa : Nat → Nat) : Bool := decide (∀ k, k < q → na H g (tt k) (rr k) = aa k)
theorem agB_p {q : Nat} {rr tt aa : Nat → Nat} : agB H g q rr tt aa = true ↔ agrP H g q rr tt aa := by unfold agB agrP; exact decide_eq_true_iff
theorem c72B (ho : HOK H W A) (hN : NDn I H g) (hg : GOK H g) {s q : Nat} {rr tt aa : Nat → Nat} (hs : s < 4) (h81 : I (81 + 2 * s) 2 = nI (3 * q)) (hD : RwD L (82 + 2 * s) 0 q rr tt aa) (hB : RwB H q rr tt aa) (hn : 1000 ≤ n) : (s = 0 → f_72 n I L = some (bI (agB H g q rr tt aa = true))) ∧ (s = 1 → f_72_1 n I L = some (bI (agB H g q rr tt aa = true))) ∧ (s = 2 → f_72_2 n I L = some (bI (agB H g q rr tt aa = true))) ∧ (s = 3 → f_72_3 n I L = some (bI (agB H g q rr tt aa = true))) := by
  by_cases h : agB H g q rr tt aa = true
  · have h2 := agB_p.mp h
    rw [bI_p h]
    refine ⟨fun e => ?_, fun e => ?_, fun e => ?_, fun e => ?_⟩ <;> subst e
    · exact (c72_0 ho hN hg h81 hD hB hn).1 h2
    · exact (c72_1 ho hN hg h81 hD hB hn).1 h2
    · exact (c72_2 ho hN hg h81 hD hB hn).1 h2
    · exact (c72_3 ho hN hg h81 hD hB hn).1 h2
  · have h2 := fun e => h (agB_p.mpr e)
    rw [bI_n h]
    refine ⟨fun e => ?_, fun e => ?_, fun e => ?_, fun e => ?_⟩ <;> subst e
    · exact (c72_0 ho hN hg h81 hD hB hn).2 h2
    · exact (c72_1 ho hN hg h81 hD hB hn).2 h2
    · exact (c72_2 ho hN hg h81 hD hB hn).2 h2
    · exact (c72_3 ho hN hg h81 hD hB hn).2 h2
theorem m326B (ho : HOK H W A) (hM : MH I 0 H W A) (hN : NMk I H g (H.1 3)) (hg : GOK H g) {s q : Nat} {rr tt aa : Nat → Nat} (hs : s < 4) (h91 : I 91 s = nI (3 * q)) (hD : RwD L 92 (60 * s) q rr tt aa) (hB : RwB H q rr tt aa) (hn : 1000 ≤ n) : f_326 n (nI s) I L = some (bI (agB H g q rr tt aa = true)) := by
  by_cases h : agB H g q rr tt aa = true
  · rw [bI_p h]; exact (m326 ho hM hN hg hs h91 hD hB hn).1 (agB_p.mp h)
  · rw [bI_n h]; exact (m326 ho hM hN hg hs h91 hD hB hn).2 (fun e => h (agB_p.mpr e))
def lwk (H : HD) (A : AD) (q : Nat) (rr tt aa : Nat → Nat) : Nat → Nat
  | 0 => 0
  | k + 1 => if agB H (gL H A k) q rr tt aa = true then lwk H A q rr tt aa k ||| 2 ^ k else lwk H A q rr tt aa k
theorem m333 (ho : HOK H W A) (hM : MH I 0 H W A) {s q : Nat} {rr tt aa : Nat → Nat} (hs : s < 4) (h91 : I 91 s = nI (3 * q)) (hD : RwD L 92 (60 * s) q rr tt aa) (hB : RwB H q rr tt aa) (hn : 1000 ≤ n) : ∃ K, c_333_0 n n (nI s) 0 0 I L = some (nI (lwk H A q rr tt aa 4), K, L) ∧ FrM I K := by
  obtain ⟨K, hK, e⟩ := lpE (fun m k (t : FI) => c_333_0 n m (nI s) (nI (lwk H A q rr tt aa k)) (nI k) t L) 4 (fun k t => FrM I t) (fun t => some (nI (lwk H A q rr tt aa 4), t, L)) (fun m t ht => by
      show b_333_0 n (c_333_0 n m) (nI s) _ (nI 4) t L = _
      unfold b_333_0
      rw [if_pos (by decide)]) (fun m k t hk ht => by
      have hMt := MH_M ho hM ht
      obtain ⟨K, k1, k2, k3⟩ := nlM (n := n) (L := L) ho hMt (l := k) hk hn
      have hMK := MH_M ho hMt k3
      have e91 : K 91 s = nI (3 * q) := by rw [k3.1 91 s (by decide) (by omega), ht.1 91 s (by decide) (by omega)]; exact h91
      refine ⟨K, FrM_t ht k3, ?_⟩
      show b_333_0 n (c_333_0 n m) (nI s) _ (nI k) t L = c_333_0 n m (nI s) (nI (if agB H (gL H A k) q rr tt aa = true then lwk H A q rr tt aa k ||| 2 ^ k else lwk H A q rr tt aa k)) (nI (k + 1)) K L
      unfold b_333_0 c_333_1
      rw [if_neg (show ¬ (4 : Int32) ≤ nI k from nI_ge (b := 4) hk (by omega)), k1, q_bs]
      dsimp only
      rw [m326B ho hMK k2 (gL_ok ho hk) hs e91 hD hB hn, q_bs, q_b1, nI_1]
      by_cases h : agB H (gL H A k) q rr tt aa = true
      · rw [if_pos h, if_pos h, ku_or (by omega)]
      · rw [if_neg h, if_neg h, ku_0, fa_or, Nat.or_zero]) n 0 I (by omega) (by omega) (FrM_r I)
  exact ⟨K, e, hK⟩
theorem l156_0 (ho : HOK H W A) (hC : CH I 3 11 H W A) (nh : Option Nat) {q : Nat} {rr tt aa : Nat → Nat} (h81 : I 81 2 = nI (3 * q)) (hD : RwD L 82 0 q rr tt aa) (hB : RwB H q rr tt aa) (hn : 1000 ≤ n) : ∃ J, c_156_0 n nh (nI 0) 0 0 I L = some (nI (lwk H A q rr tt aa 4), some 3, J, L) ∧ FrC I J := by
  have hone : ∀ (k : Nat) (t : FI), k < 4 → FrC I t → ∃ M, f_192 n (nI k) t L = some (M, L) ∧ f_72 n M L = some (bI (agB H (gL H A k) q rr tt aa = true)) ∧ FrC I M := fun k t hk ht => by
    obtain ⟨M, q1, q2, q3⟩ := nlC (n := n) (L := L) ho (CH_C hC ht) hk hn
    have hf := FrC_t ht q3
    exact ⟨M, q1, (c72B (s := 0) ho q2 (gL_ok ho hk) (by omega) (by rw [hf _ _ (by omega)]; exact h81) hD hB hn).1 rfl, hf⟩
  obtain ⟨M0, p1, p2, p3⟩ := hone 0 I (by omega) (FrC_r I)
  obtain ⟨J, hJ, e⟩ := lpE (fun m k (t : FI) => c_156_1 n nh m (nI 0) (nI (lwk H A q rr tt aa k)) (nI (k - 1)) t L) 4 (fun k t => 1 ≤ k ∧ FrC I t) (fun t => some (nI (lwk H A q rr tt aa 4), some 3, t, L)) (fun m t ht => by
      show b_156_1 n nh (c_156_1 n nh m) (nI 0) _ (nI 3) t L = _
      unfold b_156_1 c_156_2
      rw [if_pos (by decide)]) (fun m k t hk ht => by
      obtain ⟨k1, ht⟩ := ht
      obtain ⟨M, q1, q2, q3⟩ := hone k t hk ht
      refine ⟨M, ⟨by omega, q3⟩, ?_⟩
      show b_156_1 n nh (c_156_1 n nh m) (nI 0) _ (nI (k - 1)) t L = c_156_1 n nh m (nI 0) (nI (if agB H (gL H A k) q rr tt aa = true then lwk H A q rr tt aa k ||| 2 ^ k else lwk H A q rr tt aa k)) (nI (k + 1 - 1)) M L
      unfold b_156_1 c_156_2
      rw [nI_1, show k - 1 + 1 = k by omega, if_neg (show ¬ (4 : Int32) ≤ nI k from nI_ge (b := 4) hk (by omega)), f192_1, q1, q_bs, if_pos (show nI 0 = 0 from rfl), q2, q_bs, q_b1, Nat.add_sub_cancel]
      by_cases h : agB H (gL H A k) q rr tt aa = true
      · rw [if_pos h, if_pos h, ku_or (by omega)]; rfl
      · rw [if_neg h, if_neg h]; rfl) n 1 M0 (by omega) (by omega) ⟨by omega, p3⟩
  refine ⟨J, ?_, hJ.2⟩
  unfold c_156_0
  rw [if_neg (by decide), show f_192 n 0 I L = some (M0, L) from p1, q_bs, if_pos (show nI 0 = 0 from rfl), p2, q_bs, q_b1, ← e]
  show _ = c_156_1 n nh n (nI 0) (nI (if agB H (gL H A 0) q rr tt aa = true then 0 ||| 2 ^ 0 else 0)) (nI (1 - 1)) M0 L
  by_cases h : agB H (gL H A 0) q rr tt aa = true
  · rw [if_pos h, if_pos h]; rfl
  · rw [if_neg h, if_neg h]; rfl
theorem l156_1 (ho : HOK H W A) (hC : CH I 3 11 H W A) (nh : Option Nat) {q : Nat} {rr tt aa : Nat → Nat} (h81 : I 83 2 = nI (3 * q)) (hD : RwD L 84 0 q rr tt aa) (hB : RwB H q rr tt aa) (hn : 1000 ≤ n) : ∃ J, c_156_0 n nh (nI 1) 0 0 I L = some (nI (lwk H A q rr tt aa 4), some 3, J, L) ∧ FrC I J := by
  have hone : ∀ (k : Nat) (t : FI), k < 4 → FrC I t → ∃ M, f_192 n (nI k) t L = some (M, L) ∧ f_72_1 n M L = some (bI (agB H (gL H A k) q rr tt aa = true)) ∧ FrC I M := fun k t hk ht => by
    obtain ⟨M, q1, q2, q3⟩ := nlC (n := n) (L := L) ho (CH_C hC ht) hk hn
    have hf := FrC_t ht q3
    exact ⟨M, q1, (c72B (s := 1) ho q2 (gL_ok ho hk) (by omega) (by rw [hf _ _ (by omega)]; exact h81) hD hB hn).2.1 rfl, hf⟩
  obtain ⟨M0, p1, p2, p3⟩ := hone 0 I (by omega) (FrC_r I)
  obtain ⟨J, hJ, e⟩ := lpE (fun m k (t : FI) => c_156_1 n nh m (nI 1) (nI (lwk H A q rr tt aa k)) (nI (k - 1)) t L) 4 (fun k t => 1 ≤ k ∧ FrC I t) (fun t => some (nI (lwk H A q rr tt aa 4), some 3, t, L)) (fun m t ht => by
      show b_156_1 n nh (c_156_1 n nh m) (nI 1) _ (nI 3) t L = _
      unfold b_156_1 c_156_2
      rw [if_pos (by decide)]) (fun m k t hk ht => by
      obtain ⟨k1, ht⟩ := ht
      obtain ⟨M, q1, q2, q3⟩ := hone k t hk ht
      refine ⟨M, ⟨by omega, q3⟩, ?_⟩
      show b_156_1 n nh (c_156_1 n nh m) (nI 1) _ (nI (k - 1)) t L = c_156_1 n nh m (nI 1) (nI (if agB H (gL H A k) q rr tt aa = true then lwk H A q rr tt aa k ||| 2 ^ k else lwk H A q rr tt aa k)) (nI (k + 1 - 1)) M L
      unfold b_156_1 c_156_2
      rw [nI_1, show k - 1 + 1 = k by omega, if_neg (show ¬ (4 : Int32) ≤ nI k from nI_ge (b := 4) hk (by omega)), f192_1, q1, q_bs, if_neg (show ¬ nI 1 = 0 by decide), if_pos (show nI 1 = 1 from rfl), q2, q_bs, q_b1, Nat.add_sub_cancel]
      by_cases h : agB H (gL H A k) q rr tt aa = true
      · rw [if_pos h, if_pos h, ku_or (by omega)]; rfl
      · rw [if_neg h, if_neg h]; rfl) n 1 M0 (by omega) (by omega) ⟨by omega, p3⟩
  refine ⟨J, ?_, hJ.2⟩
  unfold c_156_0
  rw [if_neg (by decide), show f_192 n 0 I L = some (M0, L) from p1, q_bs, if_neg (show ¬ nI 1 = 0 by decide), if_pos (show nI 1 = 1 from rfl), p2, q_bs, q_b1, ← e]
  show _ = c_156_1 n nh n (nI 1) (nI (if agB H (gL H A 0) q rr tt aa = true then 0 ||| 2 ^ 0 else 0)) (nI (1 - 1)) M0 L
  by_cases h : agB H (gL H A 0) q rr tt aa = true
  · rw [if_pos h, if_pos h]; rfl
  · rw [if_neg h, if_neg h]; rfl
theorem l156_2 (ho : HOK H W A) (hC : CH I 3 11 H W A) (nh : Option Nat) {q : Nat} {rr tt aa : Nat → Nat} (h81 : I 85 2 = nI (3 * q)) (hD : RwD L 86 0 q rr tt aa) (hB : RwB H q rr tt aa) (hn : 1000 ≤ n) : ∃ J, c_156_0 n nh (nI 2) 0 0 I L = some (nI (lwk H A q rr tt aa 4), some 3, J, L) ∧ FrC I J := by
  have hone : ∀ (k : Nat) (t : FI), k < 4 → FrC I t → ∃ M, f_192 n (nI k) t L = some (M, L) ∧ f_72_2 n M L = some (bI (agB H (gL H A k) q rr tt aa = true)) ∧ FrC I M := fun k t hk ht => by
    obtain ⟨M, q1, q2, q3⟩ := nlC (n := n) (L := L) ho (CH_C hC ht) hk hn
    have hf := FrC_t ht q3
    exact ⟨M, q1, (c72B (s := 2) ho q2 (gL_ok ho hk) (by omega) (by rw [hf _ _ (by omega)]; exact h81) hD hB hn).2.2.1 rfl, hf⟩
  obtain ⟨M0, p1, p2, p3⟩ := hone 0 I (by omega) (FrC_r I)
  obtain ⟨J, hJ, e⟩ := lpE (fun m k (t : FI) => c_156_1 n nh m (nI 2) (nI (lwk H A q rr tt aa k)) (nI (k - 1)) t L) 4 (fun k t => 1 ≤ k ∧ FrC I t) (fun t => some (nI (lwk H A q rr tt aa 4), some 3, t, L)) (fun m t ht => by
      show b_156_1 n nh (c_156_1 n nh m) (nI 2) _ (nI 3) t L = _
      unfold b_156_1 c_156_2
      rw [if_pos (by decide)]) (fun m k t hk ht => by
      obtain ⟨k1, ht⟩ := ht
      obtain ⟨M, q1, q2, q3⟩ := hone k t hk ht
      refine ⟨M, ⟨by omega, q3⟩, ?_⟩
      show b_156_1 n nh (c_156_1 n nh m) (nI 2) _ (nI (k - 1)) t L = c_156_1 n nh m (nI 2) (nI (if agB H (gL H A k) q rr tt aa = true then lwk H A q rr tt aa k ||| 2 ^ k else lwk H A q rr tt aa k)) (nI (k + 1 - 1)) M L
      unfold b_156_1 c_156_2
      rw [nI_1, show k - 1 + 1 = k by omega, if_neg (show ¬ (4 : Int32) ≤ nI k from nI_ge (b := 4) hk (by omega)), f192_1, q1, q_bs, if_neg (show ¬ nI 2 = 0 by decide), if_neg (show ¬ nI 2 = 1 by decide), if_pos (show nI 2 = 2 from rfl), q2, q_bs, q_b1, Nat.add_sub_cancel]
      by_cases h : agB H (gL H A k) q rr tt aa = true
      · rw [if_pos h, if_pos h, ku_or (by omega)]; rfl
      · rw [if_neg h, if_neg h]; rfl) n 1 M0 (by omega) (by omega) ⟨by omega, p3⟩
  refine ⟨J, ?_, hJ.2⟩
  unfold c_156_0
  rw [if_neg (by decide), show f_192 n 0 I L = some (M0, L) from p1, q_bs, if_neg (show ¬ nI 2 = 0 by decide), if_neg (show ¬ nI 2 = 1 by decide), if_pos (show nI 2 = 2 from rfl), p2, q_bs, q_b1, ← e]
  show _ = c_156_1 n nh n (nI 2) (nI (if agB H (gL H A 0) q rr tt aa = true then 0 ||| 2 ^ 0 else 0)) (nI (1 - 1)) M0 L
  by_cases h : agB H (gL H A 0) q rr tt aa = true
  · rw [if_pos h, if_pos h]; rfl
  · rw [if_neg h, if_neg h]; rfl
theorem l156_3 (ho : HOK H W A) (hC : CH I 3 11 H W A) (nh : Option Nat) {q : Nat} {rr tt aa : Nat → Nat} (h81 : I 87 2 = nI (3 * q)) (hD : RwD L 88 0 q rr tt aa) (hB : RwB H q rr tt aa) (hn : 1000 ≤ n) : ∃ J, c_156_0 n nh (nI 3) 0 0 I L = some (nI (lwk H A q rr tt aa 4), some 3, J, L) ∧ FrC I J := by
  have hone : ∀ (k : Nat) (t : FI), k < 4 → FrC I t → ∃ M, f_192 n (nI k) t L = some (M, L) ∧ f_72_3 n M L = some (bI (agB H (gL H A k) q rr tt aa = true)) ∧ FrC I M := fun k t hk ht => by
    obtain ⟨M, q1, q2, q3⟩ := nlC (n := n) (L := L) ho (CH_C hC ht) hk hn
    have hf := FrC_t ht q3
    exact ⟨M, q1, (c72B (s := 3) ho q2 (gL_ok ho hk) (by omega) (by rw [hf _ _ (by omega)]; exact h81) hD hB hn).2.2.2 rfl, hf⟩
  obtain ⟨M0, p1, p2, p3⟩ := hone 0 I (by omega) (FrC_r I)
  obtain ⟨J, hJ, e⟩ := lpE (fun m k (t : FI) => c_156_1 n nh m (nI 3) (nI (lwk H A q rr tt aa k)) (nI (k - 1)) t L) 4 (fun k t => 1 ≤ k ∧ FrC I t) (fun t => some (nI (lwk H A q rr tt aa 4), some 3, t, L)) (fun m t ht => by
      show b_156_1 n nh (c_156_1 n nh m) (nI 3) _ (nI 3) t L = _
      unfold b_156_1 c_156_2
      rw [if_pos (by decide)]) (fun m k t hk ht => by
      obtain ⟨k1, ht⟩ := ht
      obtain ⟨M, q1, q2, q3⟩ := hone k t hk ht
      refine ⟨M, ⟨by omega, q3⟩, ?_⟩
      show b_156_1 n nh (c_156_1 n nh m) (nI 3) _ (nI (k - 1)) t L = c_156_1 n nh m (nI 3) (nI (if agB H (gL H A k) q rr tt aa = true then lwk H A q rr tt aa k ||| 2 ^ k else lwk H A q rr tt aa k)) (nI (k + 1 - 1)) M L
      unfold b_156_1 c_156_2
      rw [nI_1, show k - 1 + 1 = k by omega, if_neg (show ¬ (4 : Int32) ≤ nI k from nI_ge (b := 4) hk (by omega)), f192_1, q1, q_bs, if_neg (show ¬ nI 3 = 0 by decide), if_neg (show ¬ nI 3 = 1 by decide), if_neg (show ¬ nI 3 = 2 by decide), if_pos (show nI 3 = 3 from rfl), q2, q_bs, q_b1, Nat.add_sub_cancel]
      by_cases h : agB H (gL H A k) q rr tt aa = true
      · rw [if_pos h, if_pos h, ku_or (by omega)]; rfl
      · rw [if_neg h, if_neg h]; rfl) n 1 M0 (by omega) (by omega) ⟨by omega, p3⟩
  refine ⟨J, ?_, hJ.2⟩
  unfold c_156_0
  rw [if_neg (by decide), show f_192 n 0 I L = some (M0, L) from p1, q_bs, if_neg (show ¬ nI 3 = 0 by decide), if_neg (show ¬ nI 3 = 1 by decide), if_neg (show ¬ nI 3 = 2 by decide), if_pos (show nI 3 = 3 from rfl), p2, q_bs, q_b1, ← e]
  show _ = c_156_1 n nh n (nI 3) (nI (if agB H (gL H A 0) q rr tt aa = true then 0 ||| 2 ^ 0 else 0)) (nI (1 - 1)) M0 L
  by_cases h : agB H (gL H A 0) q rr tt aa = true
  · rw [if_pos h, if_pos h]; rfl
  · rw [if_neg h, if_neg h]; rfl
end LAWS
section LAWS2
variable {KP : KPT} {RP : RPT} {Ls : Nat} {xs : Nat → Int32} {a1 a2 a3 a4 a5 : Int32}
theorem sk_laws : SOK Ls xs (VV KP RP) 156 333 [.int a1] := by
  intro kp nh rh tl rl I L hV
  have hV0 := hV
  obtain ⟨H, W, A, ⟨hT, hF, ho, hC, hM, hIm, hRw⟩, hR, hW⟩ := hV
  have o0 : H.1 0 ≤ 1000 := ho.1.1
  have o3 : H.1 3 ≤ 30 := ho.1.2.2.2.1
  have o4 : H.1 4 ≤ 4 := ho.1.2.2.2.2.1
  have c0 : I 3 0 = nI (H.1 0) := chs hC (by decide)
  have c3 : I 3 3 = nI (H.1 3) := chs hC (by decide)
  have c4 : I 3 4 = nI (H.1 4) := chs hC (by decide)
  have m0 : u2 I 89 0 0 95 0 = nI (H.1 0) := (u2_c (by decide)).trans hM.1
  have m3 : u2 I 89 0 0 96 2 = nI (H.1 3) := (u2_c (by decide)).trans (mh96 hM (by decide))
  have m4 : u2 I 89 0 0 96 3 = nI (H.1 4) := (u2_c (by decide)).trans (mh96 hM (by decide))
  rcases rfs (n := 2000) ho hC hM hRw a1 (by omega) with ⟨v, hv, r1, r2⟩ | ⟨r1, r2, s, q, rr, tt, aa, hs, rfl, h81, h91, hD, hD2, hB, hh⟩
  · exact ⟨v, kp, nh, rh, tl, rl, I, L, u2 I 89 0 0, L, (t_156 Ls xs 993 kp tl rl nh rh 2000 a1 I L (v, nh, I, L) (by unfold f_156; rw [r1, q_bs, if_neg hv])), (t_333 Ls xs 993 kp tl rl nh rh 2000 a1 I L (v, u2 I 89 0 0, L) (by unfold f_333; rw [r2, q_bs, if_neg hv])), VV_th hV0⟩
  · have hcl : ∃ J, f_156 2000 nh (nI s) I L = some (nI (lwk H A q rr tt aa 4), some 3, J, L) ∧ FrC I J := by
      unfold f_156
      rw [r1, q_bs, q_00]
      rcases (show s = 0 ∨ s = 1 ∨ s = 2 ∨ s = 3 by omega) with rfl | rfl | rfl | rfl
      · exact l156_0 ho hC nh h81 hD hB (by omega)
      · exact l156_1 ho hC nh h81 hD hB (by omega)
      · exact l156_2 ho hC nh h81 hD hB (by omega)
      · exact l156_3 ho hC nh h81 hD hB (by omega)
    obtain ⟨J, j1, j2⟩ := hcl
    have hMJ : MH (u2 J 89 0 0) 0 H W A := MH_th (MH_C ho hM j2)
    have e91 : u2 J 89 0 0 91 s = nI (3 * q) := by rw [u2_c (by decide), j2 91 s (by omega)]; exact h91
    obtain ⟨K, k1, k2⟩ := m333 (n := 2000) (L := L) ho hMJ hs e91 hD2 hB (by omega)
    refine ⟨nI (lwk H A q rr tt aa 4), kp, some 3, rh, tl, rl, J, L, K, L, (t_156 Ls xs 993 kp tl rl nh rh 2000 (nI s) I L (nI (lwk H A q rr tt aa 4), some 3, J, L) j1), (t_333 Ls xs 993 kp tl rl (some 3) rh 2000 (nI s) J L (nI (lwk H A q rr tt aa 4), K, L) ?_), VV_n hV0 j2 k2⟩
    unfold f_333
    rw [r2 (u2 J 89 0 0) (fun c i hc => by rw [u2_c (by omega), j2 c i (by omega)]), q_bs, q_00]
    exact k1
end LAWS2
