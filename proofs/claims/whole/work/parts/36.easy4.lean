/-! LAYER 3: undo, anew, rate, count -/
section EASY4
variable {KP : KPT} {RP : RPT} {Ls : Nat} {xs : Nat → Int32} {a1 a2 a3 a4 a5 : Int32}
/-- all is as it was, but for acts and worths -/
theorem VV_hs {kp nh nh' rh : Option Nat} {tl : List (Nat × Nat)} {rl : List (List (Option Nat))} {I I' : FI} {L L' : FL} {H : HD} {W W' : Nat → Nat} {A A' : AD} (hB : VB I L H W A) (hR : VRg RP rh I H) (hW : VWd KP kp tl rl I L H) (ho : HOK H W' A') (hC : CH I' 3 11 H W' A') (hM : MH I' 0 H W' A')
    (es : ∀ c, (c = 1 ∨ c = 2 ∨ c = 14 ∨ (35 ≤ c ∧ c ≤ 42) ∨ (45 ≤ c ∧ c ≤ 88) ∨ c = 90 ∨ c = 91 ∨ c = 94 ∨ c = 102 ∨ (114 ≤ c ∧ c ≤ 121)) → ∀ i, I' c i = I c i) (em : ∀ k, k < 3 → MSm (k + 1) I I') (e9 : ∀ i, i = 6 ∨ i = 14 ∨ i = 15 → I' 89 i = I 89 i) (eL : Sm vlA L L') : VV KP RP kp nh' rh tl rl I' L' := by
  obtain ⟨⟨t, t1, t2, t3, t4⟩, ⟨f1, f2⟩, _, _, _, h6, h7⟩ := hB
  have ew : ∀ c, (82 ≤ c ∧ c ≤ 88) ∨ c = 92 ∨ (114 ≤ c ∧ c ≤ 121) → ∀ i, L' c i = L c i := fun c hc i => Sm_c eL (by omega) (by unfold vlA vlB vkK; simp only [Bool.or_eq_true, Bool.and_eq_true, decide_eq_true_eq, beq_iff_eq]; omega) i
  refine ⟨H, W', A', ⟨⟨t, t1, ?_, ?_, ?_⟩, ⟨?_, ?_⟩, ho, hC, hM, fun k hk => VIm_fs hk (h6 k hk) (fun c hc i => es c (by omega) i) (es 102 (by omega) k) (em k hk), fun k hk => VRw_fr (h7 k hk) (fun c hc i => es c (by omega) i) (fun c hc i => ew c (by omega) i)⟩, ?_, ?_⟩
  · rw [es 1 (by omega)]; exact t2
  · rw [e9 6 (by omega)]; exact t3
  · intro i hi; rw [es 2 (by omega), es 94 (by omega)]; exact t4 i hi
  · rw [es 14 (by omega), e9 14 (by omega)]; exact f1
  · rw [es 14 (by omega), e9 15 (by omega)]; exact f2
  · intro h0
    rw [rgI_eq (f := I) (fun c hc i => es c (by omega) i)]
    exact hR h0
  · unfold VWd at *
    rw [rgI_eq (f := I) (g := I') (fun c hc i => es c (by omega) i), rgL_eq (f := L) (g := L') (fun c hc i => ew c (by omega) i)]
    exact hW
theorem MSm_u {k : Nat} {I : FI} {c i : Nat} {x : Int32} (hk : k < 3) (h : (c = 96 ∧ i < 9) ∨ (c = 97 ∧ i < 8) ∨ (c = 101 ∧ i < 60) ∨ ¬ (95 ≤ c ∧ c ≤ 101)) : MSm (k + 1) I (u2 I c i x) := by
  refine ⟨?_, fun j h1 h2 => ?_, fun j h1 h2 => ?_, fun j h1 h2 => ?_, fun j h1 h2 => ?_, fun j h1 h2 => ?_, fun j h1 h2 => ?_⟩ <;> simp only [u2]
  all_goals
    split
    · rename_i e; subst e
      first | omega | (rw [if_neg (by omega)])
    · rfl
theorem MSm_t {s : Nat} {I I' I'' : FI} (h : MSm s I I') (h2 : MSm s I' I'') : MSm s I I'' := by
  obtain ⟨a1, a2, a3, a4, a5, a6, a7⟩ := h
  obtain ⟨b1, b2, b3, b4, b5, b6, b7⟩ := h2
  exact ⟨b1.trans a1, fun i x y => (b2 i x y).trans (a2 i x y), fun i x y => (b3 i x y).trans (a3 i x y), fun i x y => (b4 i x y).trans (a4 i x y), fun i x y => (b5 i x y).trans (a5 i x y), fun i x y => (b6 i x y).trans (a6 i x y), fun i x y => (b7 i x y).trans (a7 i x y)⟩
/-- another number of acts, not more -/
theorem VV_ac {kp nh rh : Option Nat} {tl : List (Nat × Nat)} {rl : List (List (Option Nat))} {I : FI} {L : FL} {H : HD} {W : Nat → Nat} {A : AD} {n : Nat} (hB : VB I L H W A) (hR : VRg RP rh I H) (hW : VWd KP kp tl rl I L H) (hn : n ≤ A.1) : VV KP RP kp nh rh tl rl (u2 (u2 (u2 I 11 2 (nI n)) 89 0 0) 96 7 (nI n)) L := by
  have hB0 := hB
  obtain ⟨_, _, ho, hC, hM, _, _⟩ := hB
  have hC0 := hC
  have hM0 := hM
  refine VV_hs (nh := nh) (W' := W) (A' := (n, A.2)) hB0 hR hW ?_ ?_ ?_ (fun c hc i => ?_) (fun k hk => ?_) (fun i hi => ?_) Sm_r
  · obtain ⟨⟨o0, o1, o2, o3, o4, o5, o6, o7, o8⟩, p1, p2, p3, p4, p5, p6, p7⟩ := ho
    exact ⟨⟨o0, o1, o2, o3, o4, o5, o6, o7, by show n ≤ 30; omega⟩, p1, p2, p3, p4, fun i hi => p5 i (by have : i < n := hi; omega), fun h => ⟨(p6 h).1, (p6 h).2.1, (p6 h).2.2.1, (p6 h).2.2.2.1, by show n = 0; have := (p6 h).2.2.2.2; omega⟩, p7⟩
  · obtain ⟨h1, h2, h3, h4, h5, h6, h7, h8, h9, h10, h11⟩ := hC
    refine ⟨fun j hj => ?_, fun j hj => ?_, fun j hj => ?_, fun j hj => ?_, fun j q hj hq => ?_, fun j hj => ?_, fun j hj => ?_, fun j hj => ?_, ?_, fun j hj => ?_, fun j hj => ?_⟩
    · rw [u2_c (by decide), u2_c (by decide), u2_c (by decide)]; exact h1 j hj
    · rw [u2_c (by decide), u2_c (by decide), u2_c (by decide)]; exact h2 j hj
    · rw [u2_c (by decide), u2_c (by decide), u2_c (by decide)]; exact h3 j hj
    · rw [u2_c (by decide), u2_c (by decide), u2_c (by decide)]; exact h4 j hj
    · rw [u2_c (by decide), u2_c (by decide), u2_c (by decide)]; exact h5 j q hj hq
    · rw [u2_c (by decide), u2_c (by decide), u2_c (by decide)]; exact h6 j hj
    · rw [u2_c (by decide), u2_c (by decide), u2_c (by decide)]; exact h7 j hj
    · rw [u2_c (by decide), u2_c (by decide), u2_c (by decide)]; exact h8 j hj
    · rw [u2_c (by decide), u2_c (by decide), u2_s]
    · rw [u2_c (by decide), u2_c (by decide), u2_c (by decide)]; exact h10 j (by have : j < n := hj; omega)
    · rw [u2_c (by decide), u2_c (by decide), u2_c (by decide)]; exact h11 j (by have : j < n := hj; omega)
  · obtain ⟨h1, h2, h3, h4, h5, h6, h7, h8, h9, h10, h11, h12⟩ := hM
    refine ⟨?_, fun j hj => ?_, ?_, fun j hj => ?_, fun j hj => ?_, fun j hj => ?_, fun j hj => ?_, fun j hj => ?_, fun j hj => ?_, fun j hj => ?_, fun j hj => ?_, fun j hj => ?_⟩
    · rw [u2_c (by decide), u2_c (by decide), u2_c (by decide)]; exact h1
    · rw [u2_o (by omega), u2_c (by decide), u2_c (by decide)]; exact h2 j hj
    · exact u2_s
    · rw [u2_c (by decide), u2_c (by decide), u2_c (by decide)]; exact h4 j hj
    · rw [u2_c (by decide), u2_c (by decide), u2_c (by decide)]; exact h5 j hj
    · rw [u2_c (by decide), u2_c (by decide), u2_c (by decide)]; exact h6 j hj
    · rw [u2_c (by decide), u2_c (by decide), u2_c (by decide)]; exact h7 j hj
    · rw [u2_c (by decide), u2_c (by decide), u2_c (by decide)]; exact h8 j hj
    · rw [u2_c (by decide), u2_c (by decide), u2_c (by decide)]; exact h9 j hj
    · rw [u2_c (by decide), u2_c (by decide), u2_c (by decide)]; exact h10 j hj
    · rw [u2_c (by decide), u2_c (by decide), u2_c (by decide)]; exact h11 j (by have : j < n := hj; omega)
    · rw [u2_c (by decide), u2_c (by decide), u2_c (by decide)]; exact h12 j (by have : j < n := hj; omega)
  · rw [u2_c (by omega), u2_c (by omega), u2_c (by omega)]
  · exact MSm_t (MSm_u hk (by omega)) (MSm_t (MSm_u hk (by omega)) (MSm_u hk (by omega)))
  · rw [u2_c (by decide), u2_o (by omega), u2_c (by decide)]
theorem sk_undo : SOK Ls xs (VV KP RP) 166 352 [] := by
  intro kp nh rh tl rl I L hV
  have hV0 := hV
  obtain ⟨H, W, A, hB, hR, hW⟩ := hV
  have hB0 := hB
  obtain ⟨_, _, ho, hC, hM, _, _⟩ := hB
  have o0 : H.1 0 ≤ 1000 := ho.1.1
  have o8 : A.1 ≤ 30 := ho.1.2.2.2.2.2.2.2.2
  have c0 := chs hC (j := 0) (by decide)
  have m0 : u2 I 89 0 0 95 0 = nI (H.1 0) := (u2_c (by decide)).trans hM.1
  have ca : I 11 2 = nI A.1 := hC.2.2.2.2.2.2.2.2.1
  have ma := mh96a hM
  by_cases h0 : 0 < H.1 0
  · by_cases hA : A.1 = 0
    · have h1 : f_166 I L = some (-5, I, L) := by unfold f_166; rw [e177y c0 o0 h0, q_bs, q_n11, ca, hA]; rfl
      have h2 : f_352 I L = some (-5, u2 I 89 0 0, L) := by unfold f_352; rw [e236y m0 o0 h0, q_bs, q_n11, ma, hA]; rfl
      exact ⟨-5, kp, nh, rh, tl, rl, I, L, u2 I 89 0 0, L, t_166 Ls xs 998 kp tl rl nh rh I L (-5, I, L) h1, t_352 Ls xs 998 kp tl rl nh rh I L (-5, u2 I 89 0 0, L) h2, VV_th hV0⟩
    · have en : nI A.1 - 1 = nI (A.1 - 1) := pk_sub (a := A.1) (b := 1) (by omega)
      have h1 : f_166 I L = some (nI (A.1 - 1), u2 I 11 2 (nI (A.1 - 1)), L) := by
        unfold f_166; rw [e177y c0 o0 h0, q_bs, q_n11, ca, if_pos (nI_ne0 (by omega) (by omega)), en]
      have h2 : f_352 (u2 I 11 2 (nI (A.1 - 1))) L = some (nI (A.1 - 1), u2 (u2 (u2 I 11 2 (nI (A.1 - 1))) 89 0 0) 96 7 (nI (A.1 - 1)), L) := by
        unfold f_352; rw [e236y ((u2_c (by decide)).trans ((u2_c (by decide)).trans hM.1)) o0 h0, q_bs, q_n11, u2_c (by decide), ma, if_pos (nI_ne0 (by omega) (by omega)), en]
      exact ⟨nI (A.1 - 1), kp, nh, rh, tl, rl, u2 I 11 2 (nI (A.1 - 1)), L, u2 (u2 (u2 I 11 2 (nI (A.1 - 1))) 89 0 0) 96 7 (nI (A.1 - 1)), L, t_166 Ls xs 998 kp tl rl nh rh I L (nI (A.1 - 1), u2 I 11 2 (nI (A.1 - 1)), L) h1, t_352 Ls xs 998 kp tl rl nh rh (u2 I 11 2 (nI (A.1 - 1))) L (nI (A.1 - 1), u2 (u2 (u2 I 11 2 (nI (A.1 - 1))) 89 0 0) 96 7 (nI (A.1 - 1)), L) h2, VV_ac hB0 hR hW (by omega)⟩
  · have h1 : f_166 I L = some (-2, I, L) := by unfold f_166; rw [e177n c0 o0 (by omega), q_bs, q_n00]
    have h2 : f_352 I L = some (-2, u2 I 89 0 0, L) := by unfold f_352; rw [e236n m0 o0 (by omega), q_bs, q_n00]
    exact ⟨-2, kp, nh, rh, tl, rl, I, L, u2 I 89 0 0, L, t_166 Ls xs 998 kp tl rl nh rh I L (-2, I, L) h1, t_352 Ls xs 998 kp tl rl nh rh I L (-2, u2 I 89 0 0, L) h2, VV_th hV0⟩
theorem sk_anew : SOK Ls xs (VV KP RP) 167 353 [] := by
  intro kp nh rh tl rl I L hV
  have hV0 := hV
  obtain ⟨H, W, A, hB, hR, hW⟩ := hV
  have hB0 := hB
  obtain ⟨_, _, ho, hC, hM, _, _⟩ := hB
  have o0 : H.1 0 ≤ 1000 := ho.1.1
  have o8 : A.1 ≤ 30 := ho.1.2.2.2.2.2.2.2.2
  have c0 := chs hC (j := 0) (by decide)
  have m0 : u2 I 89 0 0 95 0 = nI (H.1 0) := (u2_c (by decide)).trans hM.1
  have ca : I 11 2 = nI A.1 := hC.2.2.2.2.2.2.2.2.1
  have ma := mh96a hM
  by_cases h0 : 0 < H.1 0
  · have h1 : f_167 I L = some (nI A.1, u2 I 11 2 (nI 0), L) := by
      unfold f_167; rw [e177y c0 o0 h0, q_bs, q_n11, ca]; rfl
    have h2 : f_353 (u2 I 11 2 (nI 0)) L = some (nI A.1, u2 (u2 (u2 I 11 2 (nI 0)) 89 0 0) 96 7 (nI 0), L) := by
      unfold f_353; rw [e236y ((u2_c (by decide)).trans ((u2_c (by decide)).trans hM.1)) o0 h0, q_bs, q_n11, u2_c (by decide), ma]; rfl
    exact ⟨nI A.1, kp, nh, rh, tl, rl, u2 I 11 2 (nI 0), L, u2 (u2 (u2 I 11 2 (nI 0)) 89 0 0) 96 7 (nI 0), L, t_167 Ls xs 998 kp tl rl nh rh I L (nI A.1, u2 I 11 2 (nI 0), L) h1, t_353 Ls xs 998 kp tl rl nh rh (u2 I 11 2 (nI 0)) L (nI A.1, u2 (u2 (u2 I 11 2 (nI 0)) 89 0 0) 96 7 (nI 0), L) h2, VV_ac hB0 hR hW (by omega)⟩
  · have h1 : f_167 I L = some (-2, I, L) := by unfold f_167; rw [e177n c0 o0 (by omega), q_bs, q_n00]
    have h2 : f_353 I L = some (-2, u2 I 89 0 0, L) := by unfold f_353; rw [e236n m0 o0 (by omega), q_bs, q_n00]
    exact ⟨-2, kp, nh, rh, tl, rl, I, L, u2 I 89 0 0, L, t_167 Ls xs 998 kp tl rl nh rh I L (-2, I, L) h1, t_353 Ls xs 998 kp tl rl nh rh I L (-2, u2 I 89 0 0, L) h2, VV_th hV0⟩
theorem sk_rate : SOK Ls xs (VV KP RP) 170 354 [.int a1, .int a2] := by
  intro kp nh rh tl rl I L hV
  have hV0 := hV
  obtain ⟨H, W, A, hB, hR, hW⟩ := hV
  have hB0 := hB
  obtain ⟨_, _, ho, hC, hM, _, _⟩ := hB
  have o4 : H.1 4 ≤ 4 := ho.1.2.2.2.2.1
  have o8 : A.1 ≤ 30 := ho.1.2.2.2.2.2.2.2.2
  have c4 := chs hC (j := 4) (by decide)
  have m4 : u2 I 89 0 0 96 3 = nI (H.1 4) := (u2_c (by decide)).trans (mh96 hM (by decide))
  have ca : I 11 2 = nI A.1 := hC.2.2.2.2.2.2.2.2.1
  have ma := mh96a hM
  have e99 : (99 : Int64) = (nI 99).toInt64 := rfl
  have no : ∀ v, f_170 a1 a2 I L = some (v, I, L) → f_354 a1 a2 I L = some (v, u2 I 89 0 0, L) → ∃ v kp1 nh1 rh1 tl1 rl1 I1 L1 I2 L2, pEN Ls xs 1000 170 (.ref 0 :: [.int a1, .int a2]) (hp kp nh rh tl rl I L) = some (some (.int v), hp kp1 nh1 rh1 tl1 rl1 I1 L1) ∧ pEN Ls xs 1000 354 (.ref 89 :: [.int a1, .int a2]) (hp kp1 nh1 rh1 tl1 rl1 I1 L1) = some (some (.int v), hp kp1 nh1 rh1 tl1 rl1 I2 L2) ∧ VV KP RP kp1 nh1 rh1 tl1 rl1 I2 L2 := fun v h1 h2 =>
    ⟨v, kp, nh, rh, tl, rl, I, L, u2 I 89 0 0, L, t_170 Ls xs 998 kp tl rl nh rh a1 a2 I L (v, I, L) h1, t_354 Ls xs 997 kp tl rl nh rh a1 a2 I L (v, u2 I 89 0 0, L) h2, VV_th hV0⟩
  rcases q_arg a1 (n := H.1 4) (by omega) with h | ⟨r, hr, rfl⟩
  · exact no (-2) (by unfold f_170; rw [e178n c4 o4 h, q_bs, q_00]) (by unfold f_354; rw [e239n m4 o4 h, q_bs, q_00])
  · rcases q_arg a2 (n := 100) (by omega) with h | ⟨w, hw, rfl⟩
    · refine no (-2) ?_ ?_
      · unfold f_170; rw [e178y c4 o4 hr, q_bs, q_11]
        by_cases h1 : a2 < 0
        · rw [if_pos h1]
        · rw [if_neg h1, if_neg (show ¬ a2 ≤ 99 by rw [fa_le]; rw [fa_lt, i0] at h1; show ¬ a2.toInt ≤ (99 : Int); omega)]
      · unfold f_354; rw [e239y m4 o4 hr, q_bs, q_11, e99, e201n (by omega) (by omega), q_bs, q_n00]
    · by_cases hA : A.1 = 0
      · have e : (2 : Int32) * nI r + 1 = nI (2 * r + 1) := by rw [show (2 : Int32) = nI 2 from rfl, pk_mul]; exact nI_add _ 1
        have h1 : f_170 (nI r) (nI w) I L = some (nI (W r), u2 I 5 r (nI w), L) := by
          unfold f_170; rw [e178y c4 o4 hr, q_bs, q_11, if_neg (nI_pos (by omega)), if_pos (show nI w ≤ 99 from nI_le (a := w) (b := 99) (by omega) (by omega)), ca, hA, if_pos (show nI 0 ≤ 0 by decide), if_pos (q_pinN (by omega) (by omega)), if_pos (q_pinN (by omega) (by omega)), nI_clamp (by omega), hC.2.2.1 r hr]
        have h2 : f_354 (nI r) (nI w) (u2 I 5 r (nI w)) L = some (nI (W r), u2 (u2 (u2 I 5 r (nI w)) 89 0 0) 97 (2 * r + 1) (nI w), L) := by
          unfold f_354; rw [e239y ((u2_c (by decide)).trans ((u2_c (by decide)).trans (mh96 hM (by decide)))) o4 hr, q_bs, q_11, e99, e201y (by omega) (by omega), q_bs, q_n11, u2_c (by decide), ma, hA, if_pos (show nI 0 ≤ 0 by decide), e, if_pos (q_pinN (by omega) (by omega)), if_pos (q_pinN (by omega) (by omega)), nI_clamp (by omega), u2_c (by decide), mhwo hM hr]
        refine ⟨nI (W r), kp, nh, rh, tl, rl, u2 I 5 r (nI w), L, u2 (u2 (u2 I 5 r (nI w)) 89 0 0) 97 (2 * r + 1) (nI w), L, t_170 Ls xs 998 kp tl rl nh rh (nI r) (nI w) I L (nI (W r), u2 I 5 r (nI w), L) h1, t_354 Ls xs 997 kp tl rl nh rh (nI r) (nI w) (u2 I 5 r (nI w)) L (nI (W r), u2 (u2 (u2 I 5 r (nI w)) 89 0 0) 97 (2 * r + 1) (nI w), L) h2, VV_hs (nh := nh) (W' := fun i => if i = r then w else W i) (A' := A) hB0 hR hW ?_ ?_ ?_ (fun c hc i => ?_) (fun k hk => ?_) (fun i hi => ?_) Sm_r⟩
        · obtain ⟨p0, p1, p2⟩ := ho
          refine ⟨p0, fun i hi => ⟨(p1 i hi).1, (p1 i hi).2.1, ?_⟩, p2⟩
          show (if i = r then w else W i) ≤ 99
          split
          · omega
          · exact (p1 i hi).2.2
        · obtain ⟨h1, h2, h3, h4, h5, h6, h7, h8, h9, h10, h11⟩ := hC
          refine ⟨fun j hj => ?_, fun j hj => ?_, fun j hj => ?_, fun j hj => ?_, fun j q hj hq => ?_, fun j hj => ?_, fun j hj => ?_, fun j hj => ?_, ?_, fun j hj => ?_, fun j hj => ?_⟩
          · rw [u2_c (by decide), u2_c (by decide), u2_c (by decide)]; exact h1 j hj
          · rw [u2_c (by decide), u2_c (by decide), u2_c (by decide)]; exact h2 j hj
          · rw [u2_c (by decide), u2_c (by decide)]
            show _ = nI (if j = r then w else W j)
            by_cases e : j = r
            · subst e; rw [if_pos rfl]; exact u2_s
            · rw [if_neg e, show u2 I 5 r (nI w) (3 + 2) j = I 5 j from u2_o e]; exact h3 j hj
          · rw [u2_c (by decide), u2_c (by decide), u2_c (by decide)]; exact h4 j hj
          · rw [u2_c (by decide), u2_c (by decide), u2_c (by decide)]; exact h5 j q hj hq
          · rw [u2_c (by decide), u2_c (by decide), u2_c (by decide)]; exact h6 j hj
          · rw [u2_c (by decide), u2_c (by decide), u2_c (by decide)]; exact h7 j hj
          · rw [u2_c (by decide), u2_c (by decide), u2_c (by decide)]; exact h8 j hj
          · rw [u2_c (by decide), u2_c (by decide), u2_c (by decide)]; exact h9
          · rw [u2_c (by decide), u2_c (by decide), u2_c (by decide)]; exact h10 j hj
          · rw [u2_c (by decide), u2_c (by decide), u2_c (by decide)]; exact h11 j hj
        · obtain ⟨h1, h2, h3, h4, h5, h6, h7, h8, h9, h10, h11, h12⟩ := hM
          refine ⟨?_, fun j hj => ?_, ?_, fun j hj => ?_, fun j hj => ?_, fun j hj => ?_, fun j hj => ?_, fun j hj => ?_, fun j hj => ?_, fun j hj => ?_, fun j hj => ?_, fun j hj => ?_⟩
          · rw [u2_c (by decide), u2_c (by decide), u2_c (by decide)]; exact h1
          · rw [u2_c (by decide), u2_c (by decide), u2_c (by decide)]; exact h2 j hj
          · rw [u2_c (by decide), u2_c (by decide), u2_c (by decide)]; exact h3
          · rw [u2_o (by omega), u2_c (by decide), u2_c (by decide)]; exact h4 j hj
          · show _ = nI (if j = r then w else W j)
            by_cases e : j = r
            · subst e; rw [if_pos rfl, show 8 * 0 + 2 * j + 1 = 2 * j + 1 by omega]; exact u2_s
            · rw [if_neg e, u2_o (by omega), u2_c (by decide), u2_c (by decide)]; exact h5 j hj
          · rw [u2_c (by decide), u2_c (by decide), u2_c (by decide)]; exact h6 j hj
          · rw [u2_c (by decide), u2_c (by decide), u2_c (by decide)]; exact h7 j hj
          · rw [u2_c (by decide), u2_c (by decide), u2_c (by decide)]; exact h8 j hj
          · rw [u2_c (by decide), u2_c (by decide), u2_c (by decide)]; exact h9 j hj
          · rw [u2_c (by decide), u2_c (by decide), u2_c (by decide)]; exact h10 j hj
          · rw [u2_c (by decide), u2_c (by decide), u2_c (by decide)]; exact h11 j hj
          · rw [u2_c (by decide), u2_c (by decide), u2_c (by decide)]; exact h12 j hj
        · rw [u2_c (by omega), u2_c (by omega), u2_c (by omega)]
        · exact MSm_t (MSm_u hk (by omega)) (MSm_t (MSm_u hk (by omega)) (MSm_u hk (by omega)))
        · rw [u2_c (by decide), u2_o (by omega), u2_c (by decide)]
      · have hA' : ¬ nI A.1 ≤ 0 := nI_nle (by omega) (by omega)
        refine no (-5) ?_ ?_
        · unfold f_170; rw [e178y c4 o4 hr, q_bs, q_11, if_neg (nI_pos (by omega)), if_pos (show nI w ≤ 99 from nI_le (a := w) (b := 99) (by omega) (by omega)), ca, if_neg hA']
        · unfold f_354; rw [e239y m4 o4 hr, q_bs, q_11, e99, e201y (by omega) (by omega), q_bs, q_n11, ma, if_neg hA']
end EASY4
