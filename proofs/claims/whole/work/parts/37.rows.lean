/-! LAYER 3: rows: row, write, paste; count -/
theorem q_ix (a s k : Nat) : nI a * nI s + nI k = nI (a * s + k) := by rw [pk_mul, nI_add]
section ROWS
variable {KP : KPT} {RP : RPT} {Ls : Nat} {xs : Nat → Int32} {a1 a2 a3 a4 a5 : Int32} {I I' : FI} {L L' : FL}
/-- all is as it was, but for the rows -/
theorem VV_rw {kp nh rh : Option Nat} {tl : List (Nat × Nat)} {rl : List (List (Option Nat))} (hV : VV KP RP kp nh rh tl rl I L) (es : ∀ c, ¬ (81 ≤ c ∧ c ≤ 88) → c ≠ 89 → c ≠ 90 → c ≠ 91 → ∀ i, I' c i = I c i) (e9 : ∀ i, i ≠ 0 → I' 89 i = I 89 i) (eL : ∀ c, 114 ≤ c ∧ c ≤ 121 → ∀ i, L' c i = L c i) (hr : ∀ k, k < 4 → VRw I' L' k) : VV KP RP kp nh rh tl rl I' L' := by
  obtain ⟨H, W, A, ⟨⟨t, t1, t2, t3, t4⟩, ⟨f1, f2⟩, h3, h4, h5, h6, _⟩, hR, hW⟩ := hV
  have ev : ∀ c, ¬ (81 ≤ c ∧ c ≤ 91) → ∀ i, I' c i = I c i := fun c hc i => es c (by omega) (by omega) (by omega) (by omega) i
  refine ⟨H, W, A, ⟨⟨t, t1, ?_, ?_, ?_⟩, ⟨?_, ?_⟩, h3, CH_fr h4 (fun c hc i => ev c (by omega) i), MH_fr h3 h5 (fun c hc i => ev c (by omega) i), fun k hk => VIm_fr hk (h6 k hk) (fun c hc i => ev c (by omega) i), hr⟩, ?_, ?_⟩
  · rw [ev 1 (by omega)]; exact t2
  · rw [e9 6 (by omega)]; exact t3
  · intro i hi; rw [ev 2 (by omega), ev 94 (by omega)]; exact t4 i hi
  · rw [ev 14 (by omega), e9 14 (by omega)]; exact f1
  · rw [ev 14 (by omega), e9 15 (by omega)]; exact f2
  · intro h0
    rw [rgI_eq (f := I) (fun c hc i => ev c (by omega) i)]
    exact hR h0
  · unfold VWd at *
    rw [rgI_eq (f := I) (g := I') (fun c hc i => ev c (by omega) i), rgL_eq (f := L) (g := L') (fun c hc i => eL c (by omega) i)]
    exact hW
theorem e106 {x1 x2 : Int32} : ∃ L', f_106 100 x1 x2 I L = some (u2 (u2 (u2 I 81 1 x1) 81 2 x2) 81 3 1, L') ∧ (∀ i, i < 60 → L' 82 i = 0) ∧ ∀ c i, c ≠ 82 → L' c i = L c i := by
  unfold f_106
  obtain ⟨s, ⟨h1, h2⟩, e⟩ := lpE (fun m k (s : FL) => c_106_0 100 m (nI k) (u2 (u2 (u2 I 81 1 x1) 81 2 x2) 81 3 1) s) 60 (fun k s => (∀ i, i < k → s 82 i = 0) ∧ ∀ c i, c ≠ 82 → s c i = L c i) (fun s => some (u2 (u2 (u2 I 81 1 x1) 81 2 x2) 81 3 1, s)) (fun m s hi => by
      show b_106_0 100 (c_106_0 100 m) (nI 60) _ s = _
      unfold b_106_0
      rw [if_pos (show (60 : Int32) ≤ nI 60 from nI_le (a := 60) (b := 60) (by omega) (by omega))]) (fun m k s hk hi => ⟨u2 s 82 k 0, ⟨fun i h => by
          by_cases e : i = k
          · subst e; exact u2_s
          · rw [u2_o e]; exact hi.1 i (by omega), fun c i hc => by rw [u2_c hc]; exact hi.2 c i hc⟩, by
      show b_106_0 100 (c_106_0 100 m) (nI k) _ s = _
      unfold b_106_0
      rw [if_neg (show ¬ (60 : Int32) ≤ nI k from nI_ge (a := k) (b := 60) hk (by omega)), if_pos (q_pinN hk (by omega)), nI_clamp (by omega), nI_1]⟩) 100 0 L (by omega) (by omega) ⟨fun i h => by omega, fun _ _ _ => rfl⟩
  exact ⟨s, e, h1, h2⟩
theorem e106_1 {x1 x2 : Int32} : ∃ L', f_106_1 100 x1 x2 I L = some (u2 (u2 (u2 I 83 1 x1) 83 2 x2) 83 3 1, L') ∧ (∀ i, i < 60 → L' 84 i = 0) ∧ ∀ c i, c ≠ 84 → L' c i = L c i := by
  unfold f_106_1
  obtain ⟨s, ⟨h1, h2⟩, e⟩ := lpE (fun m k (s : FL) => c_106_1_0 100 m (nI k) (u2 (u2 (u2 I 83 1 x1) 83 2 x2) 83 3 1) s) 60 (fun k s => (∀ i, i < k → s 84 i = 0) ∧ ∀ c i, c ≠ 84 → s c i = L c i) (fun s => some (u2 (u2 (u2 I 83 1 x1) 83 2 x2) 83 3 1, s)) (fun m s hi => by
      show b_106_1_0 100 (c_106_1_0 100 m) (nI 60) _ s = _
      unfold b_106_1_0
      rw [if_pos (show (60 : Int32) ≤ nI 60 from nI_le (a := 60) (b := 60) (by omega) (by omega))]) (fun m k s hk hi => ⟨u2 s 84 k 0, ⟨fun i h => by
          by_cases e : i = k
          · subst e; exact u2_s
          · rw [u2_o e]; exact hi.1 i (by omega), fun c i hc => by rw [u2_c hc]; exact hi.2 c i hc⟩, by
      show b_106_1_0 100 (c_106_1_0 100 m) (nI k) _ s = _
      unfold b_106_1_0
      rw [if_neg (show ¬ (60 : Int32) ≤ nI k from nI_ge (a := k) (b := 60) hk (by omega)), if_pos (q_pinN hk (by omega)), nI_clamp (by omega), nI_1]⟩) 100 0 L (by omega) (by omega) ⟨fun i h => by omega, fun _ _ _ => rfl⟩
  exact ⟨s, e, h1, h2⟩
theorem e106_2 {x1 x2 : Int32} : ∃ L', f_106_2 100 x1 x2 I L = some (u2 (u2 (u2 I 85 1 x1) 85 2 x2) 85 3 1, L') ∧ (∀ i, i < 60 → L' 86 i = 0) ∧ ∀ c i, c ≠ 86 → L' c i = L c i := by
  unfold f_106_2
  obtain ⟨s, ⟨h1, h2⟩, e⟩ := lpE (fun m k (s : FL) => c_106_2_0 100 m (nI k) (u2 (u2 (u2 I 85 1 x1) 85 2 x2) 85 3 1) s) 60 (fun k s => (∀ i, i < k → s 86 i = 0) ∧ ∀ c i, c ≠ 86 → s c i = L c i) (fun s => some (u2 (u2 (u2 I 85 1 x1) 85 2 x2) 85 3 1, s)) (fun m s hi => by
      show b_106_2_0 100 (c_106_2_0 100 m) (nI 60) _ s = _
      unfold b_106_2_0
      rw [if_pos (show (60 : Int32) ≤ nI 60 from nI_le (a := 60) (b := 60) (by omega) (by omega))]) (fun m k s hk hi => ⟨u2 s 86 k 0, ⟨fun i h => by
          by_cases e : i = k
          · subst e; exact u2_s
          · rw [u2_o e]; exact hi.1 i (by omega), fun c i hc => by rw [u2_c hc]; exact hi.2 c i hc⟩, by
      show b_106_2_0 100 (c_106_2_0 100 m) (nI k) _ s = _
      unfold b_106_2_0
      rw [if_neg (show ¬ (60 : Int32) ≤ nI k from nI_ge (a := k) (b := 60) hk (by omega)), if_pos (q_pinN hk (by omega)), nI_clamp (by omega), nI_1]⟩) 100 0 L (by omega) (by omega) ⟨fun i h => by omega, fun _ _ _ => rfl⟩
  exact ⟨s, e, h1, h2⟩
theorem e106_3 {x1 x2 : Int32} : ∃ L', f_106_3 100 x1 x2 I L = some (u2 (u2 (u2 I 87 1 x1) 87 2 x2) 87 3 1, L') ∧ (∀ i, i < 60 → L' 88 i = 0) ∧ ∀ c i, c ≠ 88 → L' c i = L c i := by
  unfold f_106_3
  obtain ⟨s, ⟨h1, h2⟩, e⟩ := lpE (fun m k (s : FL) => c_106_3_0 100 m (nI k) (u2 (u2 (u2 I 87 1 x1) 87 2 x2) 87 3 1) s) 60 (fun k s => (∀ i, i < k → s 88 i = 0) ∧ ∀ c i, c ≠ 88 → s c i = L c i) (fun s => some (u2 (u2 (u2 I 87 1 x1) 87 2 x2) 87 3 1, s)) (fun m s hi => by
      show b_106_3_0 100 (c_106_3_0 100 m) (nI 60) _ s = _
      unfold b_106_3_0
      rw [if_pos (show (60 : Int32) ≤ nI 60 from nI_le (a := 60) (b := 60) (by omega) (by omega))]) (fun m k s hk hi => ⟨u2 s 88 k 0, ⟨fun i h => by
          by_cases e : i = k
          · subst e; exact u2_s
          · rw [u2_o e]; exact hi.1 i (by omega), fun c i hc => by rw [u2_c hc]; exact hi.2 c i hc⟩, by
      show b_106_3_0 100 (c_106_3_0 100 m) (nI k) _ s = _
      unfold b_106_3_0
      rw [if_neg (show ¬ (60 : Int32) ≤ nI k from nI_ge (a := k) (b := 60) hk (by omega)), if_pos (q_pinN hk (by omega)), nI_clamp (by omega), nI_1]⟩) 100 0 L (by omega) (by omega) ⟨fun i h => by omega, fun _ _ _ => rfl⟩
  exact ⟨s, e, h1, h2⟩
theorem e174 {s w N : Nat} (hs : s < 4) (hw : w ≤ 3) (hN : N ≤ 60) : ∃ L', f_174 100 (nI s) (nI w) (nI N) I L = some (0, u2 (u2 (u2 I (81 + 2 * s) 1 (nI w)) (81 + 2 * s) 2 (nI N)) (81 + 2 * s) 3 1, L') ∧ (∀ i, i < 60 → L' (82 + 2 * s) i = 0) ∧ ∀ c i, c ≠ 82 + 2 * s → L' c i = L c i := by
  have g : ∀ (X : Option (Int32 × FI × FL)), (if nI s = 0 then (f_106 100 (nI w) (nI N) I L).bind (fun q1 => some ((0 : Int32), q1.1, q1.2)) else if nI s = 1 then (f_106_1 100 (nI w) (nI N) I L).bind (fun q1 => some ((0 : Int32), q1.1, q1.2)) else if nI s = 2 then (f_106_2 100 (nI w) (nI N) I L).bind (fun q1 => some ((0 : Int32), q1.1, q1.2)) else if nI s = 3 then (f_106_3 100 (nI w) (nI N) I L).bind (fun q1 => some ((0 : Int32), q1.1, q1.2)) else none) = X → f_174 100 (nI s) (nI w) (nI N) I L = X := fun X h => by
    unfold f_174
    rw [e184y hs, q_bs, q_11, if_neg (nI_pos (by omega)), if_neg (show ¬ (3 : Int32) < nI w from nI_nlt (a := 3) (b := w) (by omega) (by omega)), if_pos (show nI N ≤ (60 : Int32) from nI_le (a := N) (b := 60) (by omega) (by omega)), if_pos (nI_pos' (by omega))]
    exact h
  rcases (show s = 0 ∨ s = 1 ∨ s = 2 ∨ s = 3 by omega) with rfl | rfl | rfl | rfl
  · obtain ⟨L1, h1, h2, h3⟩ := e106 (I := I) (L := L) (x1 := nI w) (x2 := nI N)
    exact ⟨L1, g _ (by rw [if_pos (show nI 0 = 0 by decide), h1, q_bs]), h2, h3⟩
  · obtain ⟨L1, h1, h2, h3⟩ := e106_1 (I := I) (L := L) (x1 := nI w) (x2 := nI N)
    exact ⟨L1, g _ (by rw [if_neg (show ¬ nI 1 = 0 by decide), if_pos (show nI 1 = 1 by decide), h1, q_bs]), h2, h3⟩
  · obtain ⟨L1, h1, h2, h3⟩ := e106_2 (I := I) (L := L) (x1 := nI w) (x2 := nI N)
    exact ⟨L1, g _ (by rw [if_neg (show ¬ nI 2 = 0 by decide), if_neg (show ¬ nI 2 = 1 by decide), if_pos (show nI 2 = 2 by decide), h1, q_bs]), h2, h3⟩
  · obtain ⟨L1, h1, h2, h3⟩ := e106_3 (I := I) (L := L) (x1 := nI w) (x2 := nI N)
    exact ⟨L1, g _ (by rw [if_neg (show ¬ nI 3 = 0 by decide), if_neg (show ¬ nI 3 = 1 by decide), if_neg (show ¬ nI 3 = 2 by decide), if_pos (show nI 3 = 3 by decide), h1, q_bs]), h2, h3⟩
theorem e203 {s w N : Nat} (hs : s < 4) (hw : w ≤ 3) (hN : N ≤ 60) : ∃ L', f_203 100 (nI s) (nI w) (nI N) I L = some (0, u2 (u2 (u2 I 89 0 0) 90 s (nI w)) 91 s (nI N), L') ∧ (∀ i, i < N → L' 92 (60 * s + i) = 0) ∧ (∀ i, i < 60 * s ∨ 60 * s + 60 ≤ i → L' 92 i = L 92 i) ∧ ∀ c i, c ≠ 92 → L' c i = L c i := by
  obtain ⟨r, ⟨h1, h2, h3⟩, e⟩ := lpE (fun m k (r : FL) => c_203_0 100 m (nI s) (nI N) (nI k) (u2 (u2 (u2 I 89 0 0) 90 s (nI w)) 91 s (nI N)) r) N (fun k r => (∀ i, i < k → r 92 (60 * s + i) = 0) ∧ (∀ i, i < 60 * s ∨ 60 * s + 60 ≤ i → r 92 i = L 92 i) ∧ ∀ c i, c ≠ 92 → r c i = L c i) (fun r => some (0, u2 (u2 (u2 I 89 0 0) 90 s (nI w)) 91 s (nI N), r)) (fun m r hi => by
      show b_203_0 100 (c_203_0 100 m) (nI s) (nI N) (nI N) _ r = _
      unfold b_203_0
      rw [if_pos (nI_le (Nat.le_refl N) (by omega))]) (fun m k r hk hi => ⟨u2 r 92 (60 * s + k) 0, ⟨fun i h => by
          by_cases e : i = k
          · subst e; exact u2_s
          · rw [u2_o (by omega)]; exact hi.1 i (by omega), fun i h => by rw [u2_o (by omega)]; exact hi.2.1 i h, fun c i hc => by rw [u2_c hc]; exact hi.2.2 c i hc⟩, by
      show b_203_0 100 (c_203_0 100 m) (nI s) (nI N) (nI k) _ r = _
      unfold b_203_0
      rw [if_neg (nI_ge hk (by omega)), show (60 : Int32) = nI 60 from rfl, q_ix, if_pos (q_pinN (by omega) (by omega)), nI_clamp (by omega), nI_1]⟩) 100 0 L (by omega) (by omega) ⟨fun i h => by omega, fun _ _ => rfl, fun _ _ _ => rfl⟩
  refine ⟨r, ?_, h1, h2, h3⟩
  unfold f_203
  rw [e202y hs, q_bs, q_11, show (3 : Int64) = (nI 3).toInt64 from rfl, e201y (by omega) hw, q_bs, q_11, if_pos (show nI N ≤ (60 : Int32) from nI_le (a := N) (b := 60) (by omega) (by omega)), if_pos (nI_pos' (by omega)), if_pos (q_pinN hs (by omega)), if_pos (q_pinN hs (by omega)), nI_clamp (by omega)]
  exact e
theorem sk_row : SOK Ls xs (VV KP RP) 174 203 [.int a1, .int a2, .int a3] := by
  intro kp nh rh tl rl I L hV
  have no : ∀ v, f_174 100 a1 a2 a3 I L = some (v, I, L) → f_203 100 a1 a2 a3 I L = some (v, u2 I 89 0 0, L) → ∃ v kp1 nh1 rh1 tl1 rl1 I1 L1 I2 L2, pEN Ls xs 1000 174 (.ref 0 :: [.int a1, .int a2, .int a3]) (hp kp nh rh tl rl I L) = some (some (.int v), hp kp1 nh1 rh1 tl1 rl1 I1 L1) ∧ pEN Ls xs 1000 203 (.ref 89 :: [.int a1, .int a2, .int a3]) (hp kp1 nh1 rh1 tl1 rl1 I1 L1) = some (some (.int v), hp kp1 nh1 rh1 tl1 rl1 I2 L2) ∧ VV KP RP kp1 nh1 rh1 tl1 rl1 I2 L2 := fun v h1 h2 => ⟨v, kp, nh, rh, tl, rl, I, L, u2 I 89 0 0, L, t_174 Ls xs 998 kp tl rl nh rh 100 a1 a2 a3 I L (v, I, L) h1, t_203 Ls xs 997 kp tl rl nh rh 100 a1 a2 a3 I L (v, u2 I 89 0 0, L) h2, VV_th hV⟩
  have e3 : (3 : Int64) = (nI 3).toInt64 := rfl
  rcases q_arg a1 (n := 4) (by omega) with h | ⟨s, hs, rfl⟩
  · exact no (-2) (by unfold f_174; rw [e184n h, q_bs, q_00]) (by unfold f_203; rw [e202n h, q_bs, q_00])
  · rcases q_arg a2 (n := 4) (by omega) with h | ⟨w, hw, rfl⟩
    · refine no (-2) ?_ (by unfold f_203; rw [e202y hs, q_bs, q_11, e3, e201n (by omega) (by omega), q_bs, q_00])
      unfold f_174; rw [e184y hs, q_bs, q_11]
      by_cases h1 : a2 < 0
      · rw [if_pos h1]
      · rw [if_neg h1, if_pos (show (3 : Int32) < a2 by rw [fa_lt]; rw [fa_lt, i0] at h1; show (3 : Int) < a2.toInt; omega)]
    · rcases q_any a3 with h | ⟨N, hN, rfl⟩
      · refine no (-3) ?_ ?_
        · unfold f_174; rw [e184y hs, q_bs, q_11, if_neg (nI_pos (by omega)), if_neg (show ¬ (3 : Int32) < nI w from nI_nlt (a := 3) (b := w) (by omega) (by omega)), if_pos (show a3 ≤ 60 by rw [fa_le]; show a3.toInt ≤ (60 : Int); omega), if_neg (show ¬ 0 ≤ a3 by rw [fa_le, i0]; omega)]
        · unfold f_203; rw [e202y hs, q_bs, q_11, e3, e201y (by omega) (by omega), q_bs, q_11, if_pos (show a3 ≤ 60 by rw [fa_le]; show a3.toInt ≤ (60 : Int); omega), if_neg (show ¬ 0 ≤ a3 by rw [fa_le, i0]; omega)]
      · by_cases h60 : N ≤ 60
        · obtain ⟨L1, h1, g2, g3⟩ := e174 (I := I) (L := L) hs (by omega : w ≤ 3) h60
          obtain ⟨L2, h2, k2, k3, k4⟩ := e203 (I := u2 (u2 (u2 I (81 + 2 * s) 1 (nI w)) (81 + 2 * s) 2 (nI N)) (81 + 2 * s) 3 1) (L := L1) hs (by omega : w ≤ 3) h60
          have hRw : ∀ k, k < 4 → VRw I L k := by obtain ⟨H, W, A, h, _⟩ := hV; exact h.2.2.2.2.2.2
          refine ⟨0, kp, nh, rh, tl, rl, u2 (u2 (u2 I (81 + 2 * s) 1 (nI w)) (81 + 2 * s) 2 (nI N)) (81 + 2 * s) 3 1, L1, u2 (u2 (u2 (u2 (u2 (u2 I (81 + 2 * s) 1 (nI w)) (81 + 2 * s) 2 (nI N)) (81 + 2 * s) 3 1) 89 0 0) 90 s (nI w)) 91 s (nI N), L2, t_174 Ls xs 998 kp tl rl nh rh 100 (nI s) (nI w) (nI N) I L (0, u2 (u2 (u2 I (81 + 2 * s) 1 (nI w)) (81 + 2 * s) 2 (nI N)) (81 + 2 * s) 3 1, L1) h1, t_203 Ls xs 997 kp tl rl nh rh 100 (nI s) (nI w) (nI N) (u2 (u2 (u2 I (81 + 2 * s) 1 (nI w)) (81 + 2 * s) 2 (nI N)) (81 + 2 * s) 3 1) L1 (0, u2 (u2 (u2 (u2 (u2 (u2 I (81 + 2 * s) 1 (nI w)) (81 + 2 * s) 2 (nI N)) (81 + 2 * s) 3 1) 89 0 0) 90 s (nI w)) 91 s (nI N), L2) h2, VV_rw hV (fun c c1 c2 c3 c4 i => ?_) (fun i hi => ?_) (fun c hc i => ?_) (fun k hk => ?_)⟩
          · rw [u2_c c4, u2_c c3, u2_c c2, u2_c (by omega), u2_c (by omega), u2_c (by omega)]
          · rw [u2_c (by decide), u2_c (by decide), u2_o hi, u2_c (by omega), u2_c (by omega), u2_c (by omega)]
          · rw [k4 c i (by omega), g3 c i (by omega)]
          · by_cases e : k = s
            · subst e
              refine Or.inr ⟨?_, w, N, by omega, h60, ?_, ?_, ?_, u2_s, fun i hi => ?_⟩
              · rw [u2_c (by omega), u2_c (by omega), u2_c (by omega), u2_s]
              · rw [u2_c (by omega), u2_c (by omega), u2_c (by omega), u2_o (by decide), u2_o (by decide), u2_s]
              · rw [u2_c (by decide), u2_s]
              · rw [u2_c (by omega), u2_c (by omega), u2_c (by omega), u2_o (by decide), u2_s]
              · rw [k4 _ _ (by omega), g2 i (by omega), k2 i hi]
            · have f : ∀ j, u2 (u2 (u2 (u2 (u2 (u2 I (81 + 2 * s) 1 (nI w)) (81 + 2 * s) 2 (nI N)) (81 + 2 * s) 3 1) 89 0 0) 90 s (nI w)) 91 s (nI N) (81 + 2 * k) j = I (81 + 2 * k) j := fun j => by
                rw [u2_c (by omega), u2_c (by omega), u2_c (by omega), u2_c (by omega), u2_c (by omega), u2_c (by omega)]
              have f90 : u2 (u2 (u2 (u2 (u2 (u2 I (81 + 2 * s) 1 (nI w)) (81 + 2 * s) 2 (nI N)) (81 + 2 * s) 3 1) 89 0 0) 90 s (nI w)) 91 s (nI N) 90 k = I 90 k := by
                rw [u2_c (by decide), u2_o e, u2_c (by omega), u2_c (by omega), u2_c (by omega), u2_c (by omega)]
              have f91 : u2 (u2 (u2 (u2 (u2 (u2 I (81 + 2 * s) 1 (nI w)) (81 + 2 * s) 2 (nI N)) (81 + 2 * s) 3 1) 89 0 0) 90 s (nI w)) 91 s (nI N) 91 k = I 91 k := by
                rw [u2_o e, u2_c (by omega), u2_c (by omega), u2_c (by omega), u2_c (by omega), u2_c (by omega)]
              have := hRw k hk
              unfold VRw at *
              rw [f, f, f, f90, f91]
              rcases this with h | ⟨h, w', n', q1, q2, q3, q4, q5, q6, q7⟩
              · exact Or.inl h
              · refine Or.inr ⟨h, w', n', q1, q2, q3, q4, q5, q6, fun i hi => ?_⟩
                rw [k4 _ _ (by omega), g3 _ _ (by omega), k3 _ (by omega), g3 _ _ (by omega)]; exact q7 i hi
        · refine no (-2) ?_ ?_
          · unfold f_174; rw [e184y hs, q_bs, q_11, if_neg (nI_pos (by omega)), if_neg (show ¬ (3 : Int32) < nI w from nI_nlt (a := 3) (b := w) (by omega) (by omega)), if_neg (show ¬ nI N ≤ (60 : Int32) from nI_ge (a := 60) (b := N) (by omega) (by omega))]
          · unfold f_203; rw [e202y hs, q_bs, q_11, e3, e201y (by omega) (by omega), q_bs, q_11, if_neg (show ¬ nI N ≤ (60 : Int32) from nI_ge (a := 60) (b := N) (by omega) (by omega))]
end ROWS
