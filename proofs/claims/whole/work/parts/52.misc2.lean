/-! LAYER 3: doors, far, count, density, even: the calls. Printed by wip/whole/gen52.py -/
section MISC2
variable {I : FI} {L : FL} {H : HD} {W : Nat → Nat} {A : AD} {n : Nat}
def rwk (I : FI) : Nat → Nat
  | 0 => 0
  | k + 1 => if I (81 + 2 * k) 3 = 0 then rwk I k else rwk I k + 1
theorem c185 (hn : 1000 ≤ n) : f_185 n I L = some (nI (rwk I 4)) := by
  obtain ⟨s', hs, e⟩ := lpE (fun m k (b : Nat) => c_185_0 n I L m (nI b) (nI k)) 4 (fun k b => b = rwk I k) (fun b => some (nI b)) (fun m s hs => by
      show b_185_0 n I L (c_185_0 n I L m) (nI s) (nI 4) = _
      unfold b_185_0
      rw [if_pos (by decide)]) (fun m k s hk hs => by
      refine ⟨rwk I (k + 1), rfl, ?_⟩
      show b_185_0 n I L (c_185_0 n I L m) (nI s) (nI k) = c_185_0 n I L m (nI (if I (81 + 2 * k) 3 = 0 then rwk I k else rwk I k + 1)) (nI (k + 1))
      unfold b_185_0 c_185_1
      rw [nI_1, hs]
      rcases (show k = 0 ∨ k = 1 ∨ k = 2 ∨ k = 3 by omega) with rfl | rfl | rfl | rfl
      · rw [if_neg (show ¬ (4 : Int32) ≤ nI 0 by decide), if_pos (show nI 0 = 0 from rfl)]
        show (if I 81 3 = 0 then _ else _) = c_185_0 n I L m (nI (if I 81 3 = 0 then _ else _)) _
        by_cases h : I 81 3 = 0
        · rw [if_pos h, if_pos h]; rfl
        · rw [if_neg h, if_neg h]; rfl
      · rw [if_neg (show ¬ (4 : Int32) ≤ nI 1 by decide), if_neg (show ¬ nI 1 = 0 by decide), if_pos (show nI 1 = 1 from rfl)]
        show (if I 83 3 = 0 then _ else _) = c_185_0 n I L m (nI (if I 83 3 = 0 then _ else _)) _
        by_cases h : I 83 3 = 0
        · rw [if_pos h, if_pos h]; rfl
        · rw [if_neg h, if_neg h]; rfl
      · rw [if_neg (show ¬ (4 : Int32) ≤ nI 2 by decide), if_neg (show ¬ nI 2 = 0 by decide), if_neg (show ¬ nI 2 = 1 by decide), if_pos (show nI 2 = 2 from rfl)]
        show (if I 85 3 = 0 then _ else _) = c_185_0 n I L m (nI (if I 85 3 = 0 then _ else _)) _
        by_cases h : I 85 3 = 0
        · rw [if_pos h, if_pos h]; rfl
        · rw [if_neg h, if_neg h]; rfl
      · rw [if_neg (show ¬ (4 : Int32) ≤ nI 3 by decide), if_neg (show ¬ nI 3 = 0 by decide), if_neg (show ¬ nI 3 = 1 by decide), if_neg (show ¬ nI 3 = 2 by decide), if_pos (show nI 3 = 3 from rfl)]
        show (if I 87 3 = 0 then _ else _) = c_185_0 n I L m (nI (if I 87 3 = 0 then _ else _)) _
        by_cases h : I 87 3 = 0
        · rw [if_pos h, if_pos h]; rfl
        · rw [if_neg h, if_neg h]; rfl
      ) n 0 0 (by omega) (by omega) rfl
  unfold f_185
  rw [show (0 : Int32) = nI 0 from rfl, e, hs]
theorem m355 (hR : ∀ k, k < 4 → VRw I L k) {J : FI} (hJ : ∀ i, J 90 i = I 90 i) (hn : 1000 ≤ n) : c_355_0 n n 0 0 J L = some (nI (rwk I 4), J, L) := by
  obtain ⟨s', hs, e⟩ := lpE (fun m k (b : Nat) => c_355_0 n m (nI b) (nI k) J L) 4 (fun k b => b = rwk I k) (fun b => some (nI b, J, L)) (fun m s hs => by
      show b_355_0 n (c_355_0 n m) (nI s) (nI 4) J L = _
      unfold b_355_0
      rw [if_pos (by decide)]) (fun m k s hk hs => by
      refine ⟨rwk I (k + 1), rfl, ?_⟩
      show b_355_0 n (c_355_0 n m) (nI s) (nI k) J L = c_355_0 n m (nI (if I (81 + 2 * k) 3 = 0 then rwk I k else rwk I k + 1)) (nI (k + 1)) J L
      unfold b_355_0 c_355_1
      rw [if_neg (show ¬ (4 : Int32) ≤ nI k from nI_ge (b := 4) hk (by omega)), ku_if (by omega) (by omega), nI_clamp (by omega), nI_1, hs, hJ]
      rcases hR k hk with ⟨h1, h2⟩ | ⟨h1, wd, m, hw, _, _, h2, _⟩
      · rw [if_pos h1, if_neg (by rw [h2]; exact fun q => q rfl), ku_0, nI_add, nI_1]; rfl
      · rw [if_pos (show ¬ I 90 k = -1 by rw [h2, ku_m, ku_on (by omega) (by omega)]; omega), if_neg (show ¬ I (81 + 2 * k) 3 = 0 by rw [h1]; decide), ku_1, nI_add]) n 0 0 (by omega) (by omega) rfl
  rw [show (0 : Int32) = nI 0 from rfl, e, hs]
end MISC2
section MISC3
variable {KP : KPT} {RP : RPT} {Ls : Nat} {xs : Nat → Int32} {a1 a2 a3 a4 a5 : Int32}
theorem sk_doors : SOK Ls xs (VV KP RP) 118 267 [.int a1] := by
  intro kp nh rh tl rl I L hV
  have hV0 := hV
  obtain ⟨H, W, A, ⟨hT, hF, ho, hC, hM, hIm, hRw⟩, hR, hW⟩ := hV
  have o0 : H.1 0 ≤ 1000 := ho.1.1
  have o3 : H.1 3 ≤ 30 := ho.1.2.2.2.1
  have o4 : H.1 4 ≤ 4 := ho.1.2.2.2.2.1
  have c0 : I 3 0 = nI (H.1 0) := chs hC (by decide)
  have c3 : I 3 3 = nI (H.1 3) := chs hC (by decide)
  have c4 : I 3 4 = nI (H.1 4) := chs hC (by decide)
  have m0 : u2 I 89 0 0 95 0 = nI (H.1 0) := (u2_c (by decide)).trans hM.1
  have m3 : u2 I 89 0 0 96 2 = nI (H.1 3) := (u2_c (by decide)).trans (mh96 hM (by decide))
  have m4 : u2 I 89 0 0 96 3 = nI (H.1 4) := (u2_c (by decide)).trans (mh96 hM (by decide))
  have hMt : MH (u2 I 89 0 0) 0 H W A := MH_th hM
  rcases q_arg a1 (n := H.1 4) (by omega) with h1 | ⟨r, hr, rfl⟩
  · exact ⟨-2, kp, nh, rh, tl, rl, I, L, u2 I 89 0 0, L, (t_118 Ls xs 998 kp tl rl nh rh a1 I L (-2) (by unfold f_118; rw [e178n c4 o4 h1, q_bs, q_00])), (t_267 Ls xs 997 kp tl rl nh rh 2000 a1 I L (-2, u2 I 89 0 0, L) (by unfold f_267; rw [e239n m4 o4 h1, q_bs, q_n00])), VV_th hV0⟩
  · exact ⟨nI (dms H r), kp, nh, rh, tl, rl, I, L, u2 I 89 0 0, L, (t_118 Ls xs 998 kp tl rl nh rh (nI r) I L (nI (dms H r)) (by unfold f_118; rw [e178y c4 o4 hr, q_bs, q_11, ku_if (by omega) (by omega), nI_clamp (by omega), ch_dm hC (by omega)])), (t_267 Ls xs 997 kp tl rl nh rh 2000 (nI r) I L (nI (dms H r), u2 I 89 0 0, L) (by unfold f_267; rw [e239y m4 o4 hr, q_bs, q_n11, m267 ho hMt (by omega) (by omega)])), VV_th hV0⟩
theorem sk_far : SOK Ls xs (VV KP RP) 119 268 [.int a1, .int a2] := by
  intro kp nh rh tl rl I L hV
  have hV0 := hV
  obtain ⟨H, W, A, ⟨hT, hF, ho, hC, hM, hIm, hRw⟩, hR, hW⟩ := hV
  have o0 : H.1 0 ≤ 1000 := ho.1.1
  have o3 : H.1 3 ≤ 30 := ho.1.2.2.2.1
  have o4 : H.1 4 ≤ 4 := ho.1.2.2.2.2.1
  have c0 : I 3 0 = nI (H.1 0) := chs hC (by decide)
  have c3 : I 3 3 = nI (H.1 3) := chs hC (by decide)
  have c4 : I 3 4 = nI (H.1 4) := chs hC (by decide)
  have m0 : u2 I 89 0 0 95 0 = nI (H.1 0) := (u2_c (by decide)).trans hM.1
  have m3 : u2 I 89 0 0 96 2 = nI (H.1 3) := (u2_c (by decide)).trans (mh96 hM (by decide))
  have m4 : u2 I 89 0 0 96 3 = nI (H.1 4) := (u2_c (by decide)).trans (mh96 hM (by decide))
  have hMt : MH (u2 I 89 0 0) 0 H W A := MH_th hM
  rcases q_arg a1 (n := H.1 4) (by omega) with h1 | ⟨r, hr, rfl⟩
  · exact ⟨-2, kp, nh, rh, tl, rl, I, L, u2 I 89 0 0, L, (t_119 Ls xs 998 kp tl rl nh rh a1 a2 I L (-2) (by unfold f_119; rw [e178n c4 o4 h1, q_bs, q_00])), (t_268 Ls xs 997 kp tl rl nh rh 2000 a1 a2 I L (-2, u2 I 89 0 0, L) (by unfold f_268; rw [e239n m4 o4 h1, q_bs, q_00])), VV_th hV0⟩
  · rcases q_arg a2 (n := H.1 4) (by omega) with h2 | ⟨q, hq, rfl⟩
    · exact ⟨-2, kp, nh, rh, tl, rl, I, L, u2 I 89 0 0, L, (t_119 Ls xs 998 kp tl rl nh rh (nI r) a2 I L (-2) (by unfold f_119; rw [e178y c4 o4 hr, q_bs, q_11, e178n c4 o4 h2, q_bs, q_n00])), (t_268 Ls xs 997 kp tl rl nh rh 2000 (nI r) a2 I L (-2, u2 I 89 0 0, L) (by unfold f_268; rw [e239y m4 o4 hr, q_bs, q_11, e239n m4 o4 h2, q_bs, q_n00])), VV_th hV0⟩
    · obtain ⟨J, j1, j2⟩ := m268 (n := 2000) (L := L) ho hMt hr hq (by omega)
      have ec : f_20 (nI r) (nI q) I L = some (oI (dst (dor H) r q)) := e20 (L := L) hC o4 hr hq
      exact ⟨oI (dst (dor H) r q), kp, nh, rh, tl, rl, I, L, J, L, (t_119 Ls xs 998 kp tl rl nh rh (nI r) (nI q) I L (oI (dst (dor H) r q)) (by unfold f_119; rw [e178y c4 o4 hr, q_bs, q_11, e178y c4 o4 hq, q_bs, q_n11, ec, q_bs])), (t_268 Ls xs 997 kp tl rl nh rh 2000 (nI r) (nI q) I L (oI (dst (dor H) r q), J, L) (by unfold f_268; rw [e239y m4 o4 hr, q_bs, q_11, e239y m4 o4 hq, q_bs, q_n11, j1])), VV_q hV0 (fun c i hc => by rw [j2 c i (by omega), u2_c (by omega)]) (fun i hi => by rw [j2 89 i (by omega), u2_o (by omega)])⟩
theorem sk_density : SOK Ls xs (VV KP RP) 148 320 [.int a1] := by
  intro kp nh rh tl rl I L hV
  have hV0 := hV
  obtain ⟨H, W, A, ⟨hT, hF, ho, hC, hM, hIm, hRw⟩, hR, hW⟩ := hV
  have o0 : H.1 0 ≤ 1000 := ho.1.1
  have o3 : H.1 3 ≤ 30 := ho.1.2.2.2.1
  have o4 : H.1 4 ≤ 4 := ho.1.2.2.2.2.1
  have c0 : I 3 0 = nI (H.1 0) := chs hC (by decide)
  have c3 : I 3 3 = nI (H.1 3) := chs hC (by decide)
  have c4 : I 3 4 = nI (H.1 4) := chs hC (by decide)
  have m0 : u2 I 89 0 0 95 0 = nI (H.1 0) := (u2_c (by decide)).trans hM.1
  have m3 : u2 I 89 0 0 96 2 = nI (H.1 3) := (u2_c (by decide)).trans (mh96 hM (by decide))
  have m4 : u2 I 89 0 0 96 3 = nI (H.1 4) := (u2_c (by decide)).trans (mh96 hM (by decide))
  have hMt : MH (u2 I 89 0 0) 0 H W A := MH_th hM
  by_cases h0 : H.1 0 = 0
  · exact ⟨-2, kp, nh, rh, tl, rl, I, L, u2 I 89 0 0, L, (t_148 Ls xs 998 kp tl rl nh rh 2000 a1 I L (-2) (by unfold f_148; rw [e177n c0 o0 h0, q_bs, q_00])), (t_320 Ls xs 933 kp tl rl nh rh 2000 a1 I L (-2, u2 I 89 0 0, L) (by unfold f_320; rw [e236n m0 o0 h0, q_bs, q_00])), VV_th hV0⟩
  · rcases q_arg a1 (n := 2) (by omega) with h1 | ⟨w, hw, rfl⟩
    · exact ⟨-2, kp, nh, rh, tl, rl, I, L, u2 I 89 0 0, L, (t_148 Ls xs 998 kp tl rl nh rh 2000 a1 I L (-2) (by unfold f_148; rw [e177y c0 o0 (by omega), q_bs, q_11, e182n h1, q_bs, q_n00])), (t_320 Ls xs 933 kp tl rl nh rh 2000 a1 I L (-2, u2 I 89 0 0, L) (by unfold f_320; rw [e236y m0 o0 (by omega), q_bs, q_11, e242n h1, q_bs, q_n00])), VV_th hV0⟩
    · exact ⟨nI (frc (dnk H (H.1 4)) 840 w), kp, nh, rh, tl, rl, I, L, u2 I 89 0 0, L, (t_148 Ls xs 998 kp tl rl nh rh 2000 (nI w) I L (nI (frc (dnk H (H.1 4)) 840 w)) (by unfold f_148; rw [e177y c0 o0 (by omega), q_bs, q_11, e182y hw, q_bs, q_n11, c148 ho hC hw (by omega)])), (t_320 Ls xs 933 kp tl rl nh rh 2000 (nI w) I L (nI (frc (dnk H (H.1 4)) 840 w), u2 I 89 0 0, L) (by unfold f_320; rw [e236y m0 o0 (by omega), q_bs, q_11, e242y hw, q_bs, q_n11, m320 ho hMt hw (by omega)])), VV_th hV0⟩
theorem sk_even : SOK Ls xs (VV KP RP) 149 321 [] := by
  intro kp nh rh tl rl I L hV
  have hV0 := hV
  obtain ⟨H, W, A, ⟨hT, hF, ho, hC, hM, hIm, hRw⟩, hR, hW⟩ := hV
  have o0 : H.1 0 ≤ 1000 := ho.1.1
  have o3 : H.1 3 ≤ 30 := ho.1.2.2.2.1
  have o4 : H.1 4 ≤ 4 := ho.1.2.2.2.2.1
  have c0 : I 3 0 = nI (H.1 0) := chs hC (by decide)
  have c3 : I 3 3 = nI (H.1 3) := chs hC (by decide)
  have c4 : I 3 4 = nI (H.1 4) := chs hC (by decide)
  have m0 : u2 I 89 0 0 95 0 = nI (H.1 0) := (u2_c (by decide)).trans hM.1
  have m3 : u2 I 89 0 0 96 2 = nI (H.1 3) := (u2_c (by decide)).trans (mh96 hM (by decide))
  have m4 : u2 I 89 0 0 96 3 = nI (H.1 4) := (u2_c (by decide)).trans (mh96 hM (by decide))
  have hMt : MH (u2 I 89 0 0) 0 H W A := MH_th hM
  by_cases h0 : H.1 0 = 0
  · exact ⟨-2, kp, nh, rh, tl, rl, I, L, u2 I 89 0 0, L, (t_149 Ls xs 998 kp tl rl nh rh 2000 I L (-2) (by unfold f_149; rw [e177n c0 o0 h0, q_bs, q_n00])), (t_321 Ls xs 998 kp tl rl nh rh 2000 I L (-2, u2 I 89 0 0, L) (by unfold f_321; rw [e236n m0 o0 h0, q_bs, q_n00])), VV_th hV0⟩
  · exact ⟨_, kp, nh, rh, tl, rl, I, L, u2 I 89 0 0, L, (t_149 Ls xs 998 kp tl rl nh rh 2000 I L (nI (if (List.range (H.1 4)).all (fun a => (List.range (H.1 4)).all fun b => !evQ H a b) = true then 1 else 0)) (by unfold f_149; rw [e177y c0 o0 (by omega), q_bs, q_n11, c149 ho hC (by omega)])), (t_321 Ls xs 998 kp tl rl nh rh 2000 I L (nI (if (List.range (H.1 4)).all (fun a => (List.range (H.1 4)).all fun b => !evQ H a b) = true then 1 else 0), u2 I 89 0 0, L) (by unfold f_321; rw [e236y m0 o0 (by omega), q_bs, q_n11, m321 ho hMt (by omega)])), VV_th hV0⟩
theorem sk_count : SOK Ls xs (VV KP RP) 171 355 [.int a1] := by
  intro kp nh rh tl rl I L hV
  have hV0 := hV
  obtain ⟨H, W, A, ⟨hT, hF, ho, hC, hM, hIm, hRw⟩, hR, hW⟩ := hV
  have o0 : H.1 0 ≤ 1000 := ho.1.1
  have o3 : H.1 3 ≤ 30 := ho.1.2.2.2.1
  have o4 : H.1 4 ≤ 4 := ho.1.2.2.2.2.1
  have c0 : I 3 0 = nI (H.1 0) := chs hC (by decide)
  have c3 : I 3 3 = nI (H.1 3) := chs hC (by decide)
  have c4 : I 3 4 = nI (H.1 4) := chs hC (by decide)
  have m0 : u2 I 89 0 0 95 0 = nI (H.1 0) := (u2_c (by decide)).trans hM.1
  have m3 : u2 I 89 0 0 96 2 = nI (H.1 3) := (u2_c (by decide)).trans (mh96 hM (by decide))
  have m4 : u2 I 89 0 0 96 3 = nI (H.1 4) := (u2_c (by decide)).trans (mh96 hM (by decide))
  have hMt : MH (u2 I 89 0 0) 0 H W A := MH_th hM
  obtain ⟨t, t1, t2, t3, t4⟩ := hT
  have fin : ∀ v, f_171 2000 a1 I L = some v → f_355 2000 a1 I L = some (v, u2 I 89 0 0, L) → ∃ v kp1 nh1 rh1 tl1 rl1 I1 L1 I2 L2, pEN Ls xs 1000 171 (.ref 0 :: [.int a1]) (hp kp nh rh tl rl I L) = some (some (.int v), hp kp1 nh1 rh1 tl1 rl1 I1 L1) ∧ pEN Ls xs 1000 355 (.ref 89 :: [.int a1]) (hp kp1 nh1 rh1 tl1 rl1 I1 L1) = some (some (.int v), hp kp1 nh1 rh1 tl1 rl1 I2 L2) ∧ VV KP RP kp1 nh1 rh1 tl1 rl1 I2 L2 := fun v h1 h2 => ⟨v, kp, nh, rh, tl, rl, I, L, u2 I 89 0 0, L, (t_171 Ls xs 998 kp tl rl nh rh 2000 a1 I L v h1), (t_355 Ls xs 998 kp tl rl nh rh 2000 a1 I L (v, u2 I 89 0 0, L) h2), VV_th hV0⟩
  rcases q_arg a1 (n := 11) (by omega) with h1 | ⟨j, hj, rfl⟩
  · refine fin (-1) ?_ ?_
    · unfold f_171
      rw [if_pos (by omega)]
    · unfold f_355
      rw [e201, q_bs, q_b1, if_neg (by rw [Int32.toInt_toInt64, l0, show (7 : Int64).toInt = 7 from rfl]; omega), if_pos (by omega)]
  · rcases (show j = 0 ∨ j = 1 ∨ j = 2 ∨ j = 3 ∨ j = 4 ∨ j = 5 ∨ j = 6 ∨ j = 7 ∨ j = 8 ∨ j = 9 ∨ j = 10 by omega) with rfl | rfl | rfl | rfl | rfl | rfl | rfl | rfl | rfl | rfl | rfl
    · refine fin (nI (H.1 1)) ?_ ?_
      · unfold f_171
        rw [if_neg (by decide), if_pos (show nI 0 = 0 from rfl), chs hC (by decide)]
      · unfold f_355
        rw [e201, q_bs, q_b1, if_pos (by decide), ku_if (by omega) (by omega), nI_clamp (by omega), mh96 hM (by decide)]
    · refine fin (nI (H.1 2)) ?_ ?_
      · unfold f_171
        rw [if_neg (by decide), if_neg (show ¬ nI 1 = 0 by decide), if_pos (show nI 1 = 1 from rfl), chs hC (by decide)]
      · unfold f_355
        rw [e201, q_bs, q_b1, if_pos (by decide), ku_if (by omega) (by omega), nI_clamp (by omega), mh96 hM (by decide)]
    · refine fin (nI (H.1 3)) ?_ ?_
      · unfold f_171
        rw [if_neg (by decide), if_neg (show ¬ nI 2 = 0 by decide), if_neg (show ¬ nI 2 = 1 by decide), if_pos (show nI 2 = 2 from rfl), chs hC (by decide)]
      · unfold f_355
        rw [e201, q_bs, q_b1, if_pos (by decide), ku_if (by omega) (by omega), nI_clamp (by omega), mh96 hM (by decide)]
    · refine fin (nI (H.1 4)) ?_ ?_
      · unfold f_171
        rw [if_neg (by decide), if_neg (show ¬ nI 3 = 0 by decide), if_neg (show ¬ nI 3 = 1 by decide), if_neg (show ¬ nI 3 = 2 by decide), if_pos (show nI 3 = 3 from rfl), chs hC (by decide)]
      · unfold f_355
        rw [e201, q_bs, q_b1, if_pos (by decide), ku_if (by omega) (by omega), nI_clamp (by omega), mh96 hM (by decide)]
    · refine fin (nI (H.1 5)) ?_ ?_
      · unfold f_171
        rw [if_neg (by decide), if_neg (show ¬ nI 4 = 0 by decide), if_neg (show ¬ nI 4 = 1 by decide), if_neg (show ¬ nI 4 = 2 by decide), if_neg (show ¬ nI 4 = 3 by decide), if_pos (show nI 4 = 4 from rfl), chs hC (by decide)]
      · unfold f_355
        rw [e201, q_bs, q_b1, if_pos (by decide), ku_if (by omega) (by omega), nI_clamp (by omega), mh96 hM (by decide)]
    · refine fin (nI (H.1 6)) ?_ ?_
      · unfold f_171
        rw [if_neg (by decide), if_neg (show ¬ nI 5 = 0 by decide), if_neg (show ¬ nI 5 = 1 by decide), if_neg (show ¬ nI 5 = 2 by decide), if_neg (show ¬ nI 5 = 3 by decide), if_neg (show ¬ nI 5 = 4 by decide), if_pos (show nI 5 = 5 from rfl), chs hC (by decide)]
      · unfold f_355
        rw [e201, q_bs, q_b1, if_pos (by decide), ku_if (by omega) (by omega), nI_clamp (by omega), mh96 hM (by decide)]
    · refine fin (nI (H.1 7)) ?_ ?_
      · unfold f_171
        rw [if_neg (by decide), if_neg (show ¬ nI 6 = 0 by decide), if_neg (show ¬ nI 6 = 1 by decide), if_neg (show ¬ nI 6 = 2 by decide), if_neg (show ¬ nI 6 = 3 by decide), if_neg (show ¬ nI 6 = 4 by decide), if_neg (show ¬ nI 6 = 5 by decide), if_pos (show nI 6 = 6 from rfl), chs hC (by decide)]
      · unfold f_355
        rw [e201, q_bs, q_b1, if_pos (by decide), ku_if (by omega) (by omega), nI_clamp (by omega), mh96 hM (by decide)]
    · refine fin (nI A.1) ?_ ?_
      · unfold f_171
        rw [if_neg (by decide), if_neg (show ¬ nI 7 = 0 by decide), if_neg (show ¬ nI 7 = 1 by decide), if_neg (show ¬ nI 7 = 2 by decide), if_neg (show ¬ nI 7 = 3 by decide), if_neg (show ¬ nI 7 = 4 by decide), if_neg (show ¬ nI 7 = 5 by decide), if_neg (show ¬ nI 7 = 6 by decide), if_pos (show nI 7 = 7 from rfl), ch_an hC]
      · unfold f_355
        rw [e201, q_bs, q_b1, if_pos (by decide), ku_if (by omega) (by omega), nI_clamp (by omega), mh96a hM]
    · refine fin (nI (H.1 0)) ?_ ?_
      · unfold f_171
        rw [if_neg (by decide), if_neg (show ¬ nI 8 = 0 by decide), if_neg (show ¬ nI 8 = 1 by decide), if_neg (show ¬ nI 8 = 2 by decide), if_neg (show ¬ nI 8 = 3 by decide), if_neg (show ¬ nI 8 = 4 by decide), if_neg (show ¬ nI 8 = 5 by decide), if_neg (show ¬ nI 8 = 6 by decide), if_neg (show ¬ nI 8 = 7 by decide), if_pos (show nI 8 = 8 from rfl), chs hC (by decide)]
      · unfold f_355
        rw [e201, q_bs, q_b1, if_neg (by decide), if_neg (by decide), if_pos (show nI 8 = 8 from rfl), hM.1]
    · refine fin (nI t) ?_ ?_
      · unfold f_171
        rw [if_neg (by decide), if_neg (show ¬ nI 9 = 0 by decide), if_neg (show ¬ nI 9 = 1 by decide), if_neg (show ¬ nI 9 = 2 by decide), if_neg (show ¬ nI 9 = 3 by decide), if_neg (show ¬ nI 9 = 4 by decide), if_neg (show ¬ nI 9 = 5 by decide), if_neg (show ¬ nI 9 = 6 by decide), if_neg (show ¬ nI 9 = 7 by decide), if_neg (show ¬ nI 9 = 8 by decide), if_pos (show nI 9 = 9 from rfl), t2]
      · unfold f_355
        rw [e201, q_bs, q_b1, if_neg (by decide), if_neg (by decide), if_neg (show ¬ nI 9 = 8 by decide), if_pos (show nI 9 = 9 from rfl), t3]
    · refine fin (nI (rwk I 4)) ?_ ?_
      · unfold f_171
        rw [if_neg (by decide), if_neg (show ¬ nI 10 = 0 by decide), if_neg (show ¬ nI 10 = 1 by decide), if_neg (show ¬ nI 10 = 2 by decide), if_neg (show ¬ nI 10 = 3 by decide), if_neg (show ¬ nI 10 = 4 by decide), if_neg (show ¬ nI 10 = 5 by decide), if_neg (show ¬ nI 10 = 6 by decide), if_neg (show ¬ nI 10 = 7 by decide), if_neg (show ¬ nI 10 = 8 by decide), if_neg (show ¬ nI 10 = 9 by decide), if_pos (show nI 10 = 10 from rfl), c185 (by omega), q_bs]
      · unfold f_355
        rw [e201, q_bs, q_b1, if_neg (by decide), if_neg (by decide), if_neg (show ¬ nI 10 = 8 by decide), if_neg (show ¬ nI 10 = 9 by decide), if_pos (show nI 10 = 10 from rfl), m355 hRw (fun i => u2_c (by decide)) (by omega)]
end MISC3
