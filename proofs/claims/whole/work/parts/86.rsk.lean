/-! LAYER 3: the calls of rings -/
section RSK
variable {KP : KPT} {Ls : Nat} {xs : Nat → Int32} {a1 : Int32} {I : FI} {L : FL} {H : HD} {W : Nat → Nat} {A : AD} {n : Nat}
theorem rfin {kp nh : Option Nat} {tl : List (Nat × Nat)} {rl : List (List (Option Nat))} {M : FI} (hB : VB I L H W A) (hW : VWd KP kp tl rl I L H) (hP : RPR H M) (e : ∀ c i, (c < 35 ∨ 42 < c) → c ≠ 89 → c ≠ 104 → c ≠ 105 → c ≠ 111 → c ≠ 112 → M c i = I c i) (e9 : ∀ i, 1 ≤ i → i < 25 → M 89 i = I 89 i) : VV KP RPR kp nh (some 3) tl rl M L := by
  refine ⟨H, W, A, VB_fr hB (fun a i ha => ?_) Sm_r, fun _ => ⟨rfl, RPR_cg hP (fun c i hc => rgI_i (by omega)) (rgI_i (by omega))⟩, VWd_fr hW (fun a i ha => ?_) Sm_r⟩
  · by_cases e1 : a = 89
    · subst e1
      rw [show fkey 89 i = 1000 + i from rfl] at ha
      unfold vkB at ha
      simp only [Bool.or_eq_true, Bool.and_eq_true, decide_eq_true_eq, beq_iff_eq] at ha
      exact e9 i (by omega) (by omega)
    · rw [fkey, if_neg e1] at ha
      unfold vkB at ha
      simp only [Bool.or_eq_true, Bool.and_eq_true, decide_eq_true_eq, beq_iff_eq] at ha
      exact e a i (by omega) e1 (by omega) (by omega) (by omega) (by omega)
  · by_cases e1 : a = 89
    · subst e1
      rw [show fkey 89 i = 1000 + i from rfl] at ha
      unfold vkK at ha
      simp only [Bool.and_eq_true, decide_eq_true_eq] at ha
      omega
    · rw [fkey, if_neg e1] at ha
      unfold vkK at ha
      simp only [Bool.and_eq_true, decide_eq_true_eq] at ha
      exact e a i (by omega) e1 (by omega) (by omega) (by omega) (by omega)
theorem rP {rh : Option Nat} (hR : VRg RPR rh I H) (h0 : ¬ H.1 0 = 0) : rh = some 3 ∧ RPR H I := by
  obtain ⟨h1, h2⟩ := hR (by omega)
  exact ⟨h1, RPR_cg h2 (fun c i hc => (rgI_i (by omega)).symm) (rgI_i (by omega)).symm⟩
theorem sk_ring : SOK Ls xs (VV KP RPR) 140 309 [] := by
  intro kp nh rh tl rl I L hV
  have hV0 := hV
  obtain ⟨H, W, A, hB, hR, hW⟩ := hV
  have hB0 := hB
  obtain ⟨hT, hF, ho, hC, hM, hIm, hRw⟩ := hB
  have o0 : H.1 0 ≤ 1000 := ho.1.1
  have c0 : I 3 0 = nI (H.1 0) := chs hC (by decide)
  have m0 : u2 I 89 0 0 95 0 = nI (H.1 0) := (u2_c (by decide)).trans hM.1
  by_cases h0 : H.1 0 = 0
  · exact ⟨-2, kp, nh, rh, tl, rl, I, L, u2 I 89 0 0, L, (t_140 Ls xs 930 kp tl rl nh rh 2000 I L (-2, I, L) (by unfold f_140; rw [e177n c0 o0 h0, q_bs, if_pos rfl])), (t_309 Ls xs 928 kp tl rl nh rh 2000 I L (-2, u2 I 89 0 0, L) (by unfold f_309; rw [e236n m0 o0 h0, q_bs, if_pos rfl])), VV_th hV0⟩
  · obtain ⟨rfl, hP⟩ := rP hR h0
    obtain ⟨J, j1, j2, j3, j4, j5⟩ := e97 (n := 2000) (L := L) ho hC hP (by omega)
    have hMJ : MH (u2 J 89 0 0) 0 H W A := MH_th (MH_fr ho hM (fun c hc i => j5 c i (by omega)))
    obtain ⟨M, m1, m2, m3, m4⟩ := e308 (n := 2000) (L := L) ho hMJ (by omega)
    refine ⟨oI (rgv (rgs H)), kp, nh, some 3, tl, rl, J, L, M, L, (t_140 Ls xs 930 kp tl rl nh (some 3) 2000 I L (oI (rgv (rgs H)), J, L) ?_), (t_309 Ls xs 928 kp tl rl nh (some 3) 2000 J L (oI (rgv (rgs H)), M, L) ?_), rfin hB0 hW (RPR_cg j2 (fun c i hc => by rw [m3 c i (by omega) (by omega) (by omega) (by omega) (by omega), u2_c (by omega)]) (by rw [m3 35 7 (by decide) (by decide) (by decide) (by decide) (by decide), u2_c (by decide)])) (fun c i h1 h2 h3 h4 h5 h6 => by rw [m3 c i h2 h3 h4 h5 h6, u2_c h2]; exact j5 c i h1) (fun i h1 h2 => by rw [m4 i h2, u2_o (by omega)]; exact j5 89 i (by omega))⟩
    · unfold f_140
      rw [e177y c0 o0 (by omega), q_bs, if_neg (by decide), if_pos rfl, j1, q_bs]
    · unfold f_309
      rw [e236y hMJ.1 o0 (by omega), q_bs, if_neg (by decide), m1, q_bs]
theorem sk_ringed : SOK Ls xs (VV KP RPR) 141 310 [.int a1] := by
  intro kp nh rh tl rl I L hV
  have hV0 := hV
  obtain ⟨H, W, A, hB, hR, hW⟩ := hV
  have hB0 := hB
  obtain ⟨hT, hF, ho, hC, hM, hIm, hRw⟩ := hB
  have o0 : H.1 0 ≤ 1000 := ho.1.1
  have c0 : I 3 0 = nI (H.1 0) := chs hC (by decide)
  have m0 : u2 I 89 0 0 95 0 = nI (H.1 0) := (u2_c (by decide)).trans hM.1
  have z0 : (0 : Int32).toInt = 0 := rfl
  by_cases hneg : a1 < 0
  · have hnn : ¬ (0 : Int32) ≤ a1 := by rw [fa_le]; rw [fa_lt] at hneg; omega
    refine ⟨-2, kp, nh, rh, tl, rl, I, L, u2 I 89 0 0, L, (t_141 Ls xs 930 kp tl rl nh rh 2000 a1 I L (-2, I, L) (by unfold f_141; rw [if_pos hneg])), (t_310 Ls xs 928 kp tl rl nh rh 2000 a1 I L (-2, u2 I 89 0 0, L) ?_), VV_th hV0⟩
    unfold f_310
    by_cases h0 : H.1 0 = 0
    · rw [e236n m0 o0 h0, q_bs, if_pos rfl]
    · rw [e236y m0 o0 (by omega), q_bs, if_neg (by decide), if_neg hnn]
  · have hpos : (0 : Int32) ≤ a1 := by rw [fa_le]; rw [fa_lt] at hneg; omega
    have hpi : 0 ≤ a1.toInt := by rw [fa_le] at hpos; omega
    by_cases h0 : H.1 0 = 0
    · exact ⟨-2, kp, nh, rh, tl, rl, I, L, u2 I 89 0 0, L, (t_141 Ls xs 930 kp tl rl nh rh 2000 a1 I L (-2, I, L) (by unfold f_141; rw [if_neg hneg, e177n c0 o0 h0, q_bs, if_neg (fun q => q rfl)])), (t_310 Ls xs 928 kp tl rl nh rh 2000 a1 I L (-2, u2 I 89 0 0, L) (by unfold f_310; rw [e236n m0 o0 h0, q_bs, if_pos rfl])), VV_th hV0⟩
    · obtain ⟨rfl, hP⟩ := rP hR h0
      obtain ⟨J, j1, j2, j3, j4, j5⟩ := e97 (n := 2000) (L := L) ho hC hP (by omega)
      have hMJ : MH (u2 J 89 0 0) 0 H W A := MH_th (MH_fr ho hM (fun c hc i => j5 c i (by omega)))
      obtain ⟨M, m1, m2, m3, m4⟩ := e308 (n := 2000) (L := L) ho hMJ (by omega)
      have hfin : VV KP RPR kp nh (some 3) tl rl M L := rfin hB0 hW (RPR_cg j2 (fun c i hc => by rw [m3 c i (by omega) (by omega) (by omega) (by omega) (by omega), u2_c (by omega)]) (by rw [m3 35 7 (by decide) (by decide) (by decide) (by decide) (by decide), u2_c (by decide)])) (fun c i h1 h2 h3 h4 h5 h6 => by rw [m3 c i h2 h3 h4 h5 h6, u2_c h2]; exact j5 c i h1) (fun i h1 h2 => by rw [m4 i h2, u2_o (by omega)]; exact j5 89 i (by omega))
      have hC1 : ∀ r, (if oI (rgv (rgs H)) ≤ a1 then some (-1, J, L) else if pin a1 10 = true then some (J 36 a1.toNatClampNeg, J, L) else none) = r → f_141 2000 (some 3) a1 I L = r := fun r hr => by
        unfold f_141
        rw [if_neg hneg, e177y c0 o0 (by omega), q_bs, if_pos (by decide), if_pos rfl, j1, q_bs]
        exact hr
      have hM1 : ∀ r, (if oI (rgv (rgs H)) ≤ a1 then some (-1, M, L) else if pin a1 12 = true then some (M 112 a1.toNatClampNeg, M, L) else none) = r → f_310 2000 a1 J L = r := fun r hr => by
        unfold f_310
        rw [e236y hMJ.1 o0 (by omega), q_bs, if_neg (by decide), if_pos hpos, m1, q_bs]
        exact hr
      have hle := rgs_le (H := H)
      by_cases hb : oI (rgv (rgs H)) ≤ a1
      · exact ⟨-1, kp, nh, some 3, tl, rl, J, L, M, L, (t_141 Ls xs 930 kp tl rl nh (some 3) 2000 a1 I L (-1, J, L) (hC1 _ (by rw [if_pos hb]))), (t_310 Ls xs 928 kp tl rl nh (some 3) 2000 a1 J L (-1, M, L) (hM1 _ (by rw [if_pos hb]))), hfin⟩
      · rw [if_neg hb] at hC1 hM1
        rw [fa_le, oI_toInt (by omega)] at hb
        cases hx : rgs H with
        | none =>
          rw [hx] at hb
          have : ((rgv (none : Option (List Nat)) : Nat) : Int) = 0 := rfl
          omega
        | some x =>
          rw [hx] at hb hle
          have hv : rgv (some x) = x.length + 1 := rfl
          rw [hv] at hb hle
          rcases q_arg a1 (n := x.length) (by omega) with h | ⟨k, hk, rfl⟩
          · omega
          · have hJ : J 36 (nI k).toNatClampNeg = nI (wf x k) := by rw [nI_clamp (by omega)]; exact j4 x hx k hk
            have hMk : M 112 (nI k).toNatClampNeg = nI (wf x k) := by rw [nI_clamp (by omega)]; exact m2 x hx k hk
            exact ⟨nI (wf x k), kp, nh, some 3, tl, rl, J, L, M, L, (t_141 Ls xs 930 kp tl rl nh (some 3) 2000 (nI k) I L (nI (wf x k), J, L) (hC1 _ (by rw [ku_if (by omega) (by omega), hJ]))), (t_310 Ls xs 928 kp tl rl nh (some 3) 2000 (nI k) J L (nI (wf x k), M, L) (hM1 _ (by rw [ku_if (by omega) (by omega), hMk]))), hfin⟩
theorem sk_rings : SOK Ls xs (VV KP RPR) 142 311 [.int a1] := by
  intro kp nh rh tl rl I L hV
  have hV0 := hV
  obtain ⟨H, W, A, hB, hR, hW⟩ := hV
  have hB0 := hB
  obtain ⟨hT, hF, ho, hC, hM, hIm, hRw⟩ := hB
  have o0 : H.1 0 ≤ 1000 := ho.1.1
  have c0 : I 3 0 = nI (H.1 0) := chs hC (by decide)
  have m0 : u2 I 89 0 0 95 0 = nI (H.1 0) := (u2_c (by decide)).trans hM.1
  have z1 : (1 : Int32).toInt = 1 := rfl
  have z10 : (10 : Int32).toInt = 10 := rfl
  have w1 : (1 : Int64).toInt = 1 := rfl
  have w10 : (10 : Int64).toInt = 10 := rfl
  have out : (a1.toInt < 1 ∨ 10 < a1.toInt) → ∃ v kp1 nh1 rh1 tl1 rl1 I1 L1 I2 L2, pEN Ls xs 1000 142 (.ref 0 :: [.int a1]) (hp kp nh rh tl rl I L) = some (some (.int v), hp kp1 nh1 rh1 tl1 rl1 I1 L1) ∧ pEN Ls xs 1000 311 (.ref 89 :: [.int a1]) (hp kp1 nh1 rh1 tl1 rl1 I1 L1) = some (some (.int v), hp kp1 nh1 rh1 tl1 rl1 I2 L2) ∧ VV KP RPR kp1 nh1 rh1 tl1 rl1 I2 L2 := fun h => by
    refine ⟨-2, kp, nh, rh, tl, rl, I, L, u2 I 89 0 0, L, (t_142 Ls xs 930 kp tl rl nh rh 2000 a1 I L (-2, I, L) ?_), (t_311 Ls xs 929 kp tl rl nh rh 2000 a1 I L (-2, u2 I 89 0 0, L) ?_), VV_th hV0⟩
    · unfold f_142
      by_cases h1 : a1.toInt < 1
      · rw [if_pos (by rw [fa_lt]; omega)]
      · rw [if_neg (by rw [fa_lt]; omega), if_pos (by rw [fa_lt]; omega)]
    · unfold f_311
      by_cases h0 : H.1 0 = 0
      · rw [e236n m0 o0 h0, q_bs, if_pos rfl]
      · rw [e236y m0 o0 (by omega), q_bs, if_neg (by decide), e201, q_bs, q_b1, if_neg (by rw [Int32.toInt_toInt64, w1, w10]; omega)]
  rcases q_arg a1 (n := 11) (by omega) with h | ⟨N, hN, rfl⟩
  · exact out (by omega)
  · by_cases hz : N = 0
    · exact out (by rw [nI_toInt (by omega)]; omega)
    · have hin : ¬ nI N < 1 ∧ ¬ (10 : Int32) < nI N := by
        constructor
        · rw [fa_lt, nI_toInt (by omega)]; omega
        · rw [fa_lt, nI_toInt (by omega)]; omega
      by_cases h0 : H.1 0 = 0
      · exact ⟨-2, kp, nh, rh, tl, rl, I, L, u2 I 89 0 0, L, (t_142 Ls xs 930 kp tl rl nh rh 2000 (nI N) I L (-2, I, L) (by unfold f_142; rw [if_neg hin.1, if_neg hin.2, e177n c0 o0 h0, q_bs, if_neg (fun q => q rfl)])), (t_311 Ls xs 929 kp tl rl nh rh 2000 (nI N) I L (-2, u2 I 89 0 0, L) (by unfold f_311; rw [e236n m0 o0 h0, q_bs, if_pos rfl])), VV_th hV0⟩
      · obtain ⟨rfl, hP⟩ := rP hR h0
        obtain ⟨J, j1, j2, j3⟩ := e96 (n := 2000) (L := L) ho hC hP (by omega) (N := N) (by omega) (by omega)
        have hMJ : MH (u2 J 89 0 0) 0 H W A := MH_th (MH_fr ho hM (fun c hc i => j3 c i (by omega)))
        obtain ⟨M, m1, _, _, _, m3, m4⟩ := e307 (n := 2000) (L := L) ho hMJ (by omega) (N := N) (by omega) (by omega)
        refine ⟨nI (rgn H N), kp, nh, some 3, tl, rl, J, L, M, L, (t_142 Ls xs 930 kp tl rl nh (some 3) 2000 (nI N) I L (nI (rgn H N), J, L) ?_), (t_311 Ls xs 929 kp tl rl nh (some 3) 2000 (nI N) J L (nI (rgn H N), M, L) ?_), rfin hB0 hW (RPR_cg j2 (fun c i hc => by rw [m3 c i (by omega) (by omega) (by omega) (by omega) (by omega), u2_c (by omega)]) (by rw [m3 35 7 (by decide) (by decide) (by decide) (by decide) (by decide), u2_c (by decide)])) (fun c i h1 h2 h3 h4 h5 h6 => by rw [m3 c i h2 h3 h4 h5 h6, u2_c h2]; exact j3 c i h1) (fun i h1 h2 => by rw [m4 i h2, u2_o (by omega)]; exact j3 89 i (by omega))⟩
        · unfold f_142
          rw [if_neg hin.1, if_neg hin.2, e177y c0 o0 (by omega), q_bs, if_pos (by decide), if_pos rfl, j1, q_bs]
        · unfold f_311
          rw [e236y hMJ.1 o0 (by omega), q_bs, if_neg (by decide), e201, q_bs, q_b1, if_pos (by rw [Int32.toInt_toInt64, w1, w10, nI_toInt (by omega)]; omega), m1, q_bs]
/-- whether the round is a ring, by the model -/
theorem e312 (ho : HOK H W A) (hM : MH I 0 H W A) (hn : 1000 ≤ n) : ∃ b J, ((f_252 n I L).bind fun q1 => c_312_0 n n 0 q1.1 q1.2) = some (nI b, J, L) ∧ ((b = 1 ∧ RRD H) ∨ (b = 0 ∧ ¬ RRD H)) ∧ (∀ c i, c ≠ 89 → c ≠ 104 → c ≠ 105 → c ≠ 111 → c ≠ 112 → J c i = I c i) ∧ ∀ i, i < 25 → J 89 i = I 89 i := by
  have o7 : H.1 7 ≤ 12 := ho.1.2.2.2.2.2.2.2.1
  obtain ⟨J, j1, j2, j3, j4⟩ := mlay (L := L) ho hM hn
  rw [j1, q_bs]
  (try dsimp only)
  refine lpEk (fun m k (s : FI) => c_312_0 n m (nI k) s L) (H.1 7) (fun k s => (∀ i, i < k → s 111 i = nI (H.2 3 i)) ∧ ∀ c i, c ≠ 111 → s c i = J c i) (fun s => if nI (H.1 7) ≤ 0 then some (0, s, L) else (f_305 n (nI (H.1 7)) s L).bind fun q2 => if q2.1 = 0 then some (0, q2.2.1, q2.2.2) else some (1, q2.2.1, q2.2.2)) n 0 J (by omega) (by omega) ⟨fun i hi => absurd hi (by omega), fun _ _ _ => rfl⟩ (fun s hs e => ?_) (fun m s hs => ?_) (fun m k s hk hs => ?_)
  · obtain ⟨s1, s2⟩ := hs
    have hMs : MR H W A s := MK_fr j2 (fun c i hc => s2 c i (by omega))
    have e' : c_312_0 n n 0 J L = _ := e
    rw [e']
    by_cases hz : H.1 7 = 0
    · rw [if_pos (by rw [hz]; decide)]
      exact ⟨0, s, rfl, Or.inr ⟨rfl, fun q => by have := q.1; omega⟩, fun c i a1 a2 _ a4 _ => by rw [s2 c i a4]; exact j3 c i a1 a2, fun i hi => by rw [s2 89 i (by decide)]; exact j4 i (by omega)⟩
    · rw [if_neg (nI_nle (by omega) (by omega))]
      obtain ⟨b, K, k1, k2, k3⟩ := e305 (L := L) hMs (x := plw H (H.1 7)) (N := H.1 7) (by omega) o7 ⟨pls_l _, fun k hk => by rw [pls_w hk]; exact ho.2.2.2.1 k hk⟩ (fun i hi => by rw [pls_w hi]; exact s1 i hi) hn
      rw [k1, q_bs]
      (try dsimp only)
      refine ⟨b, K, ?_, ?_, fun c i a1 a2 a3 a4 _ => by rw [k3 c i a3, s2 c i a4]; exact j3 c i a1 a2, fun i hi => by rw [k3 89 i (by decide), s2 89 i (by decide)]; exact j4 i (by omega)⟩
      · rcases k2 with ⟨rfl, _⟩ | ⟨rfl, _⟩ <;> rfl
      · rcases k2 with ⟨h1, h2⟩ | ⟨h1, h2⟩
        · exact Or.inl ⟨h1, by omega, h2⟩
        · exact Or.inr ⟨h1, fun q => h2 q.2⟩
  · have hMs : MH s 0 H W A := MH_fr ho j2.2.1 (fun c hc i => hs.2 c i (by omega))
    show b_312_0 n (c_312_0 n m) (nI (H.1 7)) s L = _
    unfold b_312_0
    rw [show s 96 6 = nI (H.1 7) from mh96 hMs (by decide), if_pos (nI_le (Nat.le_refl _) (by omega))]
  · have hMs : MH s 0 H W A := MH_fr ho j2.2.1 (fun c hc i => hs.2 c i (by omega))
    refine ⟨u2 s 111 k (nI (H.2 3 k)), ⟨fun i hi => ?_, fun c i hc => by rw [u2_c hc]; exact hs.2 c i hc⟩, ?_⟩
    · by_cases e : i = k
      · subst e; exact u2_s
      · rw [u2_o e]; exact hs.1 i (by omega)
    · show b_312_0 n (c_312_0 n m) (nI k) s L = _
      unfold b_312_0
      rw [show s 96 6 = nI (H.1 7) from mh96 hMs (by decide), if_neg (nI_ge hk (by omega)), ku_if (show k < 60 by omega) (by omega), ku_if (show k < 12 by omega) (by omega), nI_clamp (by omega), mhpl hMs hk, nI_1]
theorem sk_isRing : SOK Ls xs (VV KP RPR) 143 312 [] := by
  intro kp nh rh tl rl I L hV
  have hV0 := hV
  obtain ⟨H, W, A, hB, hR, hW⟩ := hV
  have hB0 := hB
  obtain ⟨hT, hF, ho, hC, hM, hIm, hRw⟩ := hB
  have o0 : H.1 0 ≤ 1000 := ho.1.1
  have c0 : I 3 0 = nI (H.1 0) := chs hC (by decide)
  have m0 : u2 I 89 0 0 95 0 = nI (H.1 0) := (u2_c (by decide)).trans hM.1
  by_cases h0 : H.1 0 = 0
  · exact ⟨-2, kp, nh, rh, tl, rl, I, L, u2 I 89 0 0, L, (t_143 Ls xs 995 kp tl rl nh rh 2000 I L (-2, I, L) (by unfold f_143; rw [e177n c0 o0 h0, q_bs, if_neg (fun q => q rfl)])), (t_312 Ls xs 995 kp tl rl nh rh 2000 I L (-2, u2 I 89 0 0, L) (by unfold f_312; rw [e236n m0 o0 h0, q_bs, if_neg (fun q => q rfl)])), VV_th hV0⟩
  · obtain ⟨rfl, hP⟩ := rP hR h0
    obtain ⟨b, J, j1, j2, j3, j4⟩ := e98 (n := 2000) (L := L) ho hC (by omega)
    have hMJ : MH (u2 J 89 0 0) 0 H W A := MH_th (MH_fr ho hM (fun c hc i => j3 c i (by omega)))
    obtain ⟨b', M, m1, m2, m3, m4⟩ := e312 (n := 2000) (L := L) ho hMJ (by omega)
    have hbb := two_e m2 j2
    subst hbb
    have hb1 := two_l m2
    refine ⟨nI b', kp, nh, some 3, tl, rl, J, L, M, L, (t_143 Ls xs 995 kp tl rl nh (some 3) 2000 I L (nI b', J, L) ?_), (t_312 Ls xs 995 kp tl rl nh (some 3) 2000 J L (nI b', M, L) ?_), rfin hB0 hW (RPR_cg hP (fun c i hc => by rw [m3 c i (by omega) (by omega) (by omega) (by omega) (by omega), u2_c (by omega)]; exact j3 c i (by omega)) (by rw [m3 35 7 (by decide) (by decide) (by decide) (by decide) (by decide), u2_c (by decide)]; exact j4)) (fun c i h1 h2 h3 h4 h5 h6 => by rw [m3 c i h2 h3 h4 h5 h6, u2_c h2]; exact j3 c i (by omega)) (fun i h1 h2 => by rw [m4 i h2, u2_o (by omega)]; exact j3 89 i (by omega))⟩
    · unfold f_143
      rw [e177y c0 o0 (by omega), q_bs, if_pos (by decide), if_pos rfl, j1, q_bs]
      (try dsimp only)
      rcases (show b' = 0 ∨ b' = 1 by omega) with rfl | rfl <;> rfl
    · unfold f_312
      rw [e236y hMJ.1 o0 (by omega), q_bs, if_pos (by decide)]
      exact m1
end RSK
