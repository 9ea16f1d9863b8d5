/-! LAYER 3: calls of the keeper. Printed by wip/whole/gen74.py -/
section KQS
variable {I : FI} {L : FL} {H : HD} {W : Nat → Nat} {A : AD} {l set : Nat} {wt : Nat → Nat} {n : Nat}
theorem mlay (ho : HOK H W A) (hM : MH I 0 H W A) (hn : 1000 ≤ n) : ∃ J, f_252 n I L = some (J, L) ∧ MK H W A (H.1 1) (H.2 0) J ∧ (∀ c i, c ≠ 89 → c ≠ 104 → J c i = I c i) ∧ ∀ i, (i < 25 ∨ 28 < i) → J 89 i = I 89 i := by
  obtain ⟨J, j1, j2, j3, j4, j5⟩ := e252 (L := L) ho hM hn
  exact ⟨J, j1, ⟨ho, MH_fr ho hM (fun c hc i => j4 c i (by omega) (by omega)), j2.1, ho.1.2.1, j2.2.2, fun r hr => ⟨(ho.2.1 r hr).1, (ho.2.1 r hr).2.1⟩, j2.2.1⟩, j4, j5⟩
theorem e256k (hM : MK H W A l wt I) : f_256 I L = some (if H.1 4 = 0 then -1 else nI (fpl H)) := by
  have ho := hM.1
  have o4 : H.1 4 ≤ 4 := ho.1.2.2.2.2.1
  have o7 : H.1 7 ≤ 12 := ho.1.2.2.2.2.2.2.2.1
  have m7 : I 96 6 = nI (H.1 7) := mh96 hM.2.1 (by decide)
  unfold f_256 fpl
  rw [e237 hM.2.1, q_bs, m7, hM.2.2.2.2.2.2]
  by_cases z : H.1 4 = 0
  · rw [if_neg (by rw [z]; decide), if_pos z]
  · rw [if_pos (by rw [ku_0, nI_eq (by omega) (by omega)]; exact z), if_neg z]
    by_cases z7 : H.1 7 = 0
    · rw [if_neg (by rw [z7]; decide), if_pos z7]; rfl
    · rw [if_pos (by rw [ku_0, nI_eq (by omega) (by omega)]; exact z7), if_neg z7, ku_if (by omega) (by omega), nI_clamp (by omega), mhpl hM.2.1 (by omega)]
theorem eKSm (hM : MK H W A (H.1 1) (H.2 0) I) (hs : set < 2 ^ (H.1 4)) (hn : 20000 ≤ n) : ∃ b J, f_297 n (if H.1 4 = 0 then -1 else nI (fpl H)) (nI set) I L = some (nI b, J, L) ∧ ((b = 1 ∧ KS H set) ∨ (b = 0 ∧ ¬ KS H set)) ∧ ∀ c i, c ≠ 105 → c ≠ 109 → J c i = I c i := by
  by_cases z : H.1 4 = 0
  · refine ⟨1, I, ?_, Or.inl ⟨rfl, Or.inl z⟩, fun _ _ _ _ => rfl⟩
    unfold f_297
    rw [e237 hM.2.1, q_bs, if_neg (by rw [z]; decide)]; rfl
  · rw [if_neg z]
    obtain ⟨b, J, j1, j2, j3⟩ := e297 (L := L) hM hs (fpl_lt hM.1 (by omega)) hn
    refine ⟨b, J, j1, ?_, j3⟩
    rcases j2 with ⟨h1, h2⟩ | ⟨h1, h2⟩
    · exact Or.inl ⟨h1, Or.inr h2⟩
    · exact Or.inr ⟨h1, fun q => q.elim z h2⟩
theorem two_e {P : Prop} {a b : Nat} (h1 : (a = 1 ∧ P) ∨ (a = 0 ∧ ¬ P)) (h2 : (b = 1 ∧ P) ∨ (b = 0 ∧ ¬ P)) : a = b := by
  rcases h1 with ⟨rfl, p⟩ | ⟨rfl, p⟩ <;> rcases h2 with ⟨rfl, q⟩ | ⟨rfl, q⟩
  · rfl
  · exact absurd p q
  · exact absurd q p
  · rfl
theorem two_l {P : Prop} {b : Nat} (h : (b = 1 ∧ P) ∨ (b = 0 ∧ ¬ P)) : b ≤ 1 := by rcases h with ⟨h, _⟩ | ⟨h, _⟩ <;> omega
theorem evl {R : Nat} (hR : R ≤ 4) : ((1 : Int32) <<< (nI R &&& 31)).toInt64 - 1 = (nI (2 ^ R - 1)).toInt64 := by
  rcases (show R = 0 ∨ R = 1 ∨ R = 2 ∨ R = 3 ∨ R = 4 by omega) with rfl | rfl | rfl | rfl | rfl <;> decide +kernel
theorem e246y (ho : HOK H W A) (hM : MH I 0 H W A) (h0 : 0 < H.1 0) (hs : set < 2 ^ (H.1 4)) : f_246 (nI set) I L = some 1 := by
  have o0 : H.1 0 ≤ 1000 := ho.1.1
  have o4 : H.1 4 ≤ 4 := ho.1.2.2.2.2.1
  have hp := pw5 _ (show H.1 4 < 5 by omega)
  unfold f_246
  rw [e236y hM.1 o0 h0, q_bs, if_neg (by decide), e237 hM, q_bs, evl o4, e201y (by omega) (by omega), q_bs, if_neg (by decide)]
theorem e246n {x : Int32} (ho : HOK H W A) (hM : MH I 0 H W A) (hx : H.1 0 = 0 ∨ x.toInt < 0 ∨ ((2 ^ (H.1 4) : Nat) : Int) ≤ x.toInt) : f_246 x I L = some 0 := by
  have o0 : H.1 0 ≤ 1000 := ho.1.1
  have o4 : H.1 4 ≤ 4 := ho.1.2.2.2.2.1
  have hp := pw5 _ (show H.1 4 < 5 by omega)
  have hp0 : 0 < 2 ^ (H.1 4) := Nat.pow_pos (by omega)
  unfold f_246
  by_cases h0 : H.1 0 = 0
  · rw [e236n hM.1 o0 h0, q_bs, if_pos rfl]
  · rw [e236y hM.1 o0 (by omega), q_bs, if_neg (by decide), e237 hM, q_bs, evl o4, e201n (by omega) (by omega), q_bs, if_pos rfl]
theorem kw {RP : RPT} {kp nh rh : Option Nat} {tl : List (Nat × Nat)} {rl : List (List (Option Nat))} (hV : VV KPK RP kp nh rh tl rl I L) : ∃ H W A J M, VB I L H W A ∧ VRg RP rh I H ∧ KPK H J M ∧ CH J 3 11 H W A ∧ (∀ c i, (c < 114 ∨ 121 < c) → J c i = I c i) ∧ (∀ c i, (c < 114 ∨ 121 < c) → M c i = L c i) ∧ ((kp = some 114 ∧ tl = TK ∧ rl = RK (some 3) ∧ I = J ∧ L = M) ∨ (kp = none ∧ tl = [] ∧ rl = [] ∧ f_findA 200000 I L = some (J, M))) := by
  obtain ⟨H, W, A, hB, hR, hW⟩ := hV
  have hC := hB.2.2.2.1
  rcases hW with ⟨h1, h2, h3⟩ | ⟨h1, h2, h3, h4⟩
  · obtain ⟨J, M, a, b, c, d, e, f, g⟩ := efA (n := 200000) (I := I) (L := L) (by omega)
    exact ⟨H, W, A, J, M, hB, hR, KPK_f H J M b c d e, CH_u hC (fun a i ha => f a i (by omega)), f, g, Or.inr ⟨h1, h2, h3, a⟩⟩
  · exact ⟨H, W, A, I, L, hB, hR, KPK_cg h4 (fun c i a b => (rgI_i ⟨a, b⟩).symm) (fun i => by unfold rgL; rw [if_pos (by omega)]), hC, fun _ _ _ => rfl, fun _ _ _ => rfl, Or.inl ⟨h1, h2, h3, rfl, rfl⟩⟩
theorem kfin {RP : RPT} {nh rh : Option Nat} {J : FI} {M : FL} (hB : VB I L H W A) (hR : VRg RP rh I H) (hP : KPK H J M) (e : ∀ c i, c ≠ 89 → c ≠ 104 → c ≠ 105 → c ≠ 109 → c ≠ 110 → (c < 114 ∨ 121 < c) → J c i = I c i) (e9 : ∀ i, (i = 6 ∨ i = 14 ∨ i = 15) → J 89 i = I 89 i) (eL : ∀ c i, (c < 114 ∨ 121 < c) → M c i = L c i) : VV KPK RP (some 114) nh rh TK (RK (some 3)) J M := by
  refine ⟨H, W, A, VB_fr hB (fun a i ha => ?_) (fun a i ha => ?_), VRg_fr hR (fun a i ha => ?_), Or.inr ⟨rfl, rfl, rfl, KPK_cg hP (fun c i a b => rgI_i ⟨a, b⟩) (fun i => by unfold rgL; rw [if_pos (by omega)])⟩⟩
  · by_cases e1 : a = 89
    · subst e1
      refine e9 i ?_
      rw [show fkey 89 i = 1000 + i from rfl] at ha
      unfold vkB at ha
      simp only [Bool.or_eq_true, Bool.and_eq_true, decide_eq_true_eq, beq_iff_eq] at ha
      omega
    · rw [fkey, if_neg e1] at ha
      unfold vkB at ha
      simp only [Bool.or_eq_true, Bool.and_eq_true, decide_eq_true_eq, beq_iff_eq] at ha
      exact e a i e1 (by omega) (by omega) (by omega) (by omega) (by omega)
  · by_cases e1 : a = 89
    · subst e1
      exact eL 89 i (by omega)
    · rw [fkey, if_neg e1] at ha
      unfold vlB at ha
      simp only [Bool.or_eq_true, Bool.and_eq_true, decide_eq_true_eq, beq_iff_eq] at ha
      exact eL a i (by omega)
  · by_cases e1 : a = 89
    · subst e1
      rw [show fkey 89 i = 1000 + i from rfl] at ha
      unfold vkR at ha
      simp only [Bool.and_eq_true, decide_eq_true_eq] at ha
      omega
    · rw [fkey, if_neg e1] at ha
      unfold vkR at ha
      simp only [Bool.and_eq_true, decide_eq_true_eq] at ha
      exact e a i e1 (by omega) (by omega) (by omega) (by omega) (by omega)
end KQS
section KSK
variable {RP : RPT} {Ls : Nat} {xs : Nat → Int32} {a1 a2 a3 a4 a5 : Int32}
theorem sk_keeps : SOK Ls xs (VV KPK RP) 136 299 [.int a1] := by
  intro kp nh rh tl rl I L hV
  have hV0 := hV
  obtain ⟨H, W, A, J, M, hB, hRg, hP, hCJ, fI, fL, hw⟩ := kw hV
  have hB0 := hB
  obtain ⟨hT, hF, ho, hC, hM, hIm, hRw⟩ := hB
  have o0 : H.1 0 ≤ 1000 := ho.1.1
  have o4 : H.1 4 ≤ 4 := ho.1.2.2.2.2.1
  have c0 : I 3 0 = nI (H.1 0) := chs hC (by decide)
  have c4 : I 3 4 = nI (H.1 4) := chs hC (by decide)
  have hpw := pw5 _ (show H.1 4 < 5 by omega)
  have hp0 : 0 < 2 ^ (H.1 4) := Nat.pow_pos (by omega)
  have hM0 : MH (u2 I 89 0 0) 0 H W A := MH_th hM
  have m4 : u2 I 89 0 0 96 3 = nI (H.1 4) := mh96 hM0 (by decide)
  by_cases h0 : H.1 0 = 0
  · rcases hw with ⟨rfl, rfl, rfl, rfl, rfl⟩ | ⟨rfl, rfl, rfl, hf⟩
    · exact ⟨-2, some 114, nh, rh, TK, RK (some 3), I, L, u2 I 89 0 0, L, (t_136_1 Ls xs 994 nh rh 200000 a1 I L (-2, I, L) (by unfold f_136_1; rw [e177n c0 o0 h0, q_bs, if_pos rfl])), (t_299 Ls xs 993 (some 114) TK (RK (some 3)) nh rh 200000 a1 I L (-2, u2 I 89 0 0, L) (by unfold f_299; rw [e246n ho hM0 (Or.inl h0), q_bs, if_neg (fun q => q rfl)])), VV_th hV0⟩
    · exact ⟨-2, none, nh, rh, [], [], I, L, u2 I 89 0 0, L, (t_136 Ls xs 994 nh rh 200000 a1 I L (-2, false, I, L) (by unfold f_136; rw [e177n c0 o0 h0, q_bs, if_pos rfl])), (t_299 Ls xs 993 none [] [] nh rh 200000 a1 I L (-2, u2 I 89 0 0, L) (by unfold f_299; rw [e246n ho hM0 (Or.inl h0), q_bs, if_neg (fun q => q rfl)])), VV_th hV0⟩
  · rcases q_arg a1 (n := 2 ^ (H.1 4)) (by omega) with h1 | ⟨set, hs, rfl⟩
    · by_cases hneg : a1 < 0
      · rcases hw with ⟨rfl, rfl, rfl, rfl, rfl⟩ | ⟨rfl, rfl, rfl, hf⟩
        · exact ⟨-2, some 114, nh, rh, TK, RK (some 3), I, L, u2 I 89 0 0, L, (t_136_1 Ls xs 994 nh rh 200000 a1 I L (-2, I, L) (by unfold f_136_1; rw [e177y c0 o0 (by omega), q_bs, if_neg (by decide), if_pos hneg])), (t_299 Ls xs 993 (some 114) TK (RK (some 3)) nh rh 200000 a1 I L (-2, u2 I 89 0 0, L) (by unfold f_299; rw [e246n ho hM0 (Or.inr h1), q_bs, if_neg (fun q => q rfl)])), VV_th hV0⟩
        · exact ⟨-2, none, nh, rh, [], [], I, L, u2 I 89 0 0, L, (t_136 Ls xs 994 nh rh 200000 a1 I L (-2, false, I, L) (by unfold f_136; rw [e177y c0 o0 (by omega), q_bs, if_neg (by decide), if_pos hneg])), (t_299 Ls xs 993 none [] [] nh rh 200000 a1 I L (-2, u2 I 89 0 0, L) (by unfold f_299; rw [e246n ho hM0 (Or.inr h1), q_bs, if_neg (fun q => q rfl)])), VV_th hV0⟩
      · have hgt : ¬ a1 ≤ nI (evr H) := by
          rw [fa_le, nI_toInt (by have := evr_lt H; omega)]
          rw [fa_lt] at hneg
          have := evr_lt H
          have e0 : (0 : Int32).toInt = 0 := rfl
          unfold evr at *
          omega
        rcases hw with ⟨rfl, rfl, rfl, rfl, rfl⟩ | ⟨rfl, rfl, rfl, hf⟩
        · exact ⟨-2, some 114, nh, rh, TK, RK (some 3), I, L, u2 I 89 0 0, L, (t_136_1 Ls xs 994 nh rh 200000 a1 I L (-2, I, L) (by unfold f_136_1; rw [e177y c0 o0 (by omega), q_bs, if_neg (by decide), if_neg hneg, e24 ho hC, q_bs, if_neg hgt])), (t_299 Ls xs 993 (some 114) TK (RK (some 3)) nh rh 200000 a1 I L (-2, u2 I 89 0 0, L) (by unfold f_299; rw [e246n ho hM0 (Or.inr h1), q_bs, if_neg (fun q => q rfl)])), VV_th hV0⟩
        · exact ⟨-2, none, nh, rh, [], [], I, L, u2 I 89 0 0, L, (t_136 Ls xs 994 nh rh 200000 a1 I L (-2, false, I, L) (by unfold f_136; rw [e177y c0 o0 (by omega), q_bs, if_neg (by decide), if_neg hneg, e24 ho hC, q_bs, if_neg hgt])), (t_299 Ls xs 993 none [] [] nh rh 200000 a1 I L (-2, u2 I 89 0 0, L) (by unfold f_299; rw [e246n ho hM0 (Or.inr h1), q_bs, if_neg (fun q => q rfl)])), VV_th hV0⟩
    · obtain ⟨b, x, I', L', e1, e2, e3, e4, e5, e6⟩ := eKS (n := 200000) (L := M) (by omega) ho hCJ hP hs
      have hMJ : MH (u2 I' 89 0 0) 0 H W A := MH_th (MH_fr ho hM (fun c hc i => by rw [e5 c i (by omega), fI c i (by omega)]))
      obtain ⟨J2, p1, p2, p3, p4⟩ := mlay (n := 200000) (L := L') ho hMJ (by omega)
      obtain ⟨b', K, k1, k2, k3⟩ := eKSm (n := 200000) (L := L') p2 hs (by omega)
      have hbb := two_e k2 e3
      subst hbb
      have hb1 := two_l k2
      have hK : ∀ c i, c ≠ 89 → c ≠ 104 → c ≠ 105 → c ≠ 109 → c ≠ 110 → K c i = I' c i := fun c i h1 h2 h3 h4 _ => by rw [k3 c i h3 h4, p3 c i h1 h2, u2_c h1]
      have hK9 : ∀ i, (i = 6 ∨ i = 14 ∨ i = 15) → K 89 i = I' 89 i := fun i hi => by rw [k3 89 i (by decide) (by decide), p4 i (by omega), u2_o (by omega)]
      have hset : set ≤ evr H := by unfold evr; omega
      refine ⟨nI b', some 114, nh, rh, TK, RK (some 3), I', L', K, L', ?_, ?_, kfin hB0 hRg (KPK_cg e4 (fun c i a b => hK c i (by omega) (by omega) (by omega) (by omega) (by omega)) (fun _ => rfl)) (fun c i h1 h2 h3 h4 h5 h6 => by rw [hK c i h1 h2 h3 h4 h5, e5 c i h6, fI c i h6]) (fun i hi => by rw [hK9 i hi, e5 89 i (by omega), fI 89 i (by omega)]) (fun c i hc => by rw [e6 c i (by omega), fL c i hc])⟩
      · rcases hw with ⟨rfl, rfl, rfl, rfl, rfl⟩ | ⟨rfl, rfl, rfl, hf⟩
        · exact (t_136_1 Ls xs 994 nh rh 200000 (nI set) I L (nI b', I', L') (by
            unfold f_136_1
            rw [e177y c0 o0 (by omega), q_bs, if_neg (by decide), if_neg (nI_pos (by omega)), e24 ho hC, q_bs, if_pos (nI_le hset (by have := evr_lt H; omega)), e23 ho hC, q_bs, show f_187 I L = some (I, L) from rfl, q_bs]
            dsimp only
            rw [e1, q_bs]
            dsimp only
            rw [e2, q_bs]
            rcases (show b' = 0 ∨ b' = 1 by omega) with rfl | rfl
            · rfl
            · rfl))
        · exact (t_136 Ls xs 994 nh rh 200000 (nI set) I L (nI b', true, I', L') (by
            unfold f_136
            rw [e177y c0 o0 (by omega), q_bs, if_neg (by decide), if_neg (nI_pos (by omega)), e24 ho hC, q_bs, if_pos (nI_le hset (by have := evr_lt H; omega)), e23 ho hC, q_bs, hf, q_bs]
            dsimp only
            rw [e1, q_bs]
            dsimp only
            rw [e2, q_bs]
            rcases (show b' = 0 ∨ b' = 1 by omega) with rfl | rfl
            · rfl
            · rfl))
      · exact (t_299 Ls xs 993 (some 114) TK (RK (some 3)) nh rh 200000 (nI set) I' L' (nI b', K, L') (by
          unfold f_299
          rw [e246y ho hMJ (by omega) hs, q_bs, if_pos (by decide), p1, q_bs]
          dsimp only
          rw [e256k p2, q_bs, k1, q_bs]
          rcases (show b' = 0 ∨ b' = 1 by omega) with rfl | rfl
          · rfl
          · rfl))
end KSK
