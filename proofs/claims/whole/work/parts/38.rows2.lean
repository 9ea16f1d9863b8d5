/-! LAYER 3: write, paste -/
def p107 (c : Nat) (y1 : Int64) (I : FI) : Option Int64 := if (I c 1).toInt < 0 ∨ 2 < (I c 1).toInt then some (y1) else if I c 1 = (0 : Int32) then some (y1.toInt32.toInt8.toInt32.toInt64) else if I c 1 = (1 : Int32) then some (y1.toInt32.toInt16.toInt32.toInt64) else if I c 1 = (2 : Int32) then some (y1.toInt32.toInt64) else none
def wlf (c : Nat) (x2 : Int32) (y : Int64) (I : FI) (L : FL) : Option (Int32 × FI × FL) := if ¬ I c 3 = 0 then (if x2 < 0 then some (-7, I, L) else if x2 < I c 2 then (p107 c y I).bind fun q => if pin x2 60 = true then some (0, I, u2 L (c + 1) x2.toNatClampNeg q) else none else some (-7, I, L)) else some (-6, I, L)
def p108 (c : Nat) (x1 x2 : Int32) (I : FI) : Option Int32 := if x1 < 0 then some 0 else if x2 < 0 then some 0 else if 0 < lg_cmp (x1.toInt64 + x2.toInt64) (I c 2).toInt64 then some 0 else some 1
def plf (c d : Nat) (x2 x4 x5 : Int32) (I : FI) (L : FL) : Option (Int32 × FI × FL) := if I c 3 = 0 then some (-6, I, L) else if ¬ I d 3 = 0 then (if I c 1 = I d 1 then (p108 c x2 x5 I).bind fun q2 => if q2 = 0 then some (-7, I, L) else (p108 d x4 x5 I).bind fun q3 => if ¬ q3 = 0 then (if x2 < 0 ∨ x4 < 0 ∨ x5 < 0 ∨ 8 < pcat [] then none else if x2.toNatClampNeg + x5.toNatClampNeg ≤ 60 ∧ x4.toNatClampNeg + x5.toNatClampNeg ≤ 60 then some (0, I, c2 L (c + 1) (d + 1) x2.toNatClampNeg x4.toNatClampNeg x5.toNatClampNeg) else none) else some (-7, I, L) else some (-8, I, L)) else some (-6, I, L)
section ROWS2
variable {KP : KPT} {RP : RPT} {Ls : Nat} {xs : Nat → Int32} {a1 a2 a3 a4 a5 : Int32} {I I' : FI} {L L' : FL}
theorem e175 {s : Nat} (hs : s < 4) (x2 : Int32) (y : Int64) : f_175 (nI s) x2 y I L = wlf (81 + 2 * s) x2 y I L := by
  unfold f_175
  rw [e184y hs, q_bs, q_n11]
  rcases (show s = 0 ∨ s = 1 ∨ s = 2 ∨ s = 3 by omega) with rfl | rfl | rfl | rfl <;> rfl
theorem e176 {s t : Nat} (hs : s < 4) (ht : t < 4) (x2 x4 x5 : Int32) : f_176 (nI s) x2 (nI t) x4 x5 I L = plf (81 + 2 * s) (81 + 2 * t) x2 x4 x5 I L := by
  unfold f_176
  rw [e184y hs, q_bs, q_11, e184y ht, q_bs, q_n11]
  rcases (show s = 0 ∨ s = 1 ∨ s = 2 ∨ s = 3 by omega) with rfl | rfl | rfl | rfl <;> rcases (show t = 0 ∨ t = 1 ∨ t = 2 ∨ t = 3 by omega) with rfl | rfl | rfl | rfl <;> rfl
theorem e107 {c w : Nat} (hw : w ≤ 3) (h : I c 1 = nI w) (y : Int64) (I' : FI) (L' : FL) : ∃ z, p107 c y I = some z ∧ f_204 y (nI w) I' L' = some z := by
  unfold p107
  rw [h]
  rcases (show w = 0 ∨ w = 1 ∨ w = 2 ∨ w = 3 by omega) with rfl | rfl | rfl | rfl
  · exact ⟨_, rfl, rfl⟩
  · exact ⟨_, rfl, rfl⟩
  · exact ⟨_, rfl, rfl⟩
  · exact ⟨_, rfl, rfl⟩
theorem u2_sd {α : Type} {f : Nat → Nat → α} {k j a i : Nat} {x : α} (h1 : a = k) (h2 : i = j) : u2 f k j x a i = x := by subst h1; subst h2; exact u2_s
theorem sk_write {y3 : Int64} : SOK Ls xs (VV KP RP) 175 205 [.int a1, .int a2, .long y3] := by
  intro kp nh rh tl rl I L hV
  have hRw : ∀ k, k < 4 → VRw I L k := by obtain ⟨H, W, A, h, _⟩ := hV; exact h.2.2.2.2.2.2
  have no : ∀ v, f_175 a1 a2 y3 I L = some (v, I, L) → f_205 a1 a2 y3 I L = some (v, u2 I 89 0 0, L) → ∃ v kp1 nh1 rh1 tl1 rl1 I1 L1 I2 L2, pEN Ls xs 1000 175 (.ref 0 :: [.int a1, .int a2, .long y3]) (hp kp nh rh tl rl I L) = some (some (.int v), hp kp1 nh1 rh1 tl1 rl1 I1 L1) ∧ pEN Ls xs 1000 205 (.ref 89 :: [.int a1, .int a2, .long y3]) (hp kp1 nh1 rh1 tl1 rl1 I1 L1) = some (some (.int v), hp kp1 nh1 rh1 tl1 rl1 I2 L2) ∧ VV KP RP kp1 nh1 rh1 tl1 rl1 I2 L2 := fun v h1 h2 => ⟨v, kp, nh, rh, tl, rl, I, L, u2 I 89 0 0, L, t_175 Ls xs 998 kp tl rl nh rh a1 a2 y3 I L (v, I, L) h1, t_205 Ls xs 997 kp tl rl nh rh a1 a2 y3 I L (v, u2 I 89 0 0, L) h2, VV_th hV⟩
  rcases q_arg a1 (n := 4) (by omega) with h | ⟨s, hs, rfl⟩
  · exact no (-2) (by unfold f_175; rw [e184n h, q_bs, q_n00]) (by unfold f_205; rw [e202n h, q_bs, q_n00])
  · have hp := q_pinN (k := s) (n := 4) hs (by omega)
    have hcl := nI_clamp (n := s) (by omega)
    rcases hRw s hs with ⟨h1, h2⟩ | ⟨h1, w, n, hw, hn, w1, w2, n1, n2, hc⟩
    · refine no (-6) ?_ ?_
      · rw [e175 hs]; unfold wlf; rw [if_neg (show ¬ ¬ I (81 + 2 * s) 3 = 0 from fun q => q h1)]
      · unfold f_205; rw [e202y hs, q_bs, q_n11, if_pos hp, hcl, if_neg (show ¬ ¬ I 90 s = -1 from fun q => q h2)]
    · have k1 : ¬ I (81 + 2 * s) 3 = 0 := by rw [h1]; decide
      have k2 : ¬ I 90 s = -1 := by rw [w2, ← oI_0, ← oI_s, oI_eq (by omega) (by omega)]; omega
      have en : (nI n - 1).toInt = (n : Int) - 1 := pk_sub_toInt (a := n) (b := 1) (by omega) (by omega)
      rcases q_arg a2 (n := n) (by omega) with h | ⟨i, hi, rfl⟩
      · refine no (-7) ?_ ?_
        · rw [e175 hs]; unfold wlf; rw [if_pos k1, n1]
          by_cases q : a2 < 0
          · rw [if_pos q]
          · rw [if_neg q, if_neg (show ¬ a2 < nI n by rw [fa_lt, nI_toInt (by omega)]; rw [fa_lt, i0] at q; omega)]
        · unfold f_205; rw [e202y hs, q_bs, q_n11, if_pos hp, hcl, if_pos k2, if_pos hp, e201, q_bs, q_b2, n2, if_neg (by rw [Int32.toInt_toInt64, Int32.toInt_toInt64, en, l0]; omega)]
      · obtain ⟨z, z1, z2⟩ := e107 hw w1 y3 (u2 I 89 0 0) (u2 L (81 + 2 * s + 1) i 0)
        have z2' : ∀ L', f_204 y3 (nI w) (u2 I 89 0 0) L' = some z := fun L' => z2
        have h1' : f_175 (nI s) (nI i) y3 I L = some (0, I, u2 L (82 + 2 * s) i z) := by
          rw [e175 hs]; unfold wlf
          rw [if_pos k1, if_neg (nI_pos (by omega)), n1, if_pos (nI_lt hi (by omega)), z1, q_bs, if_pos (q_pinN (by omega) (by omega)), nI_clamp (by omega), show 81 + 2 * s + 1 = 82 + 2 * s by omega]
        have h2' : f_205 (nI s) (nI i) y3 I (u2 L (82 + 2 * s) i z) = some (0, u2 I 89 0 0, u2 (u2 L (82 + 2 * s) i z) 92 (60 * s + i) z) := by
          unfold f_205
          rw [e202y hs, q_bs, q_n11, if_pos hp, hcl, if_pos k2, if_pos hp, e201, q_bs, q_b2, n2, if_pos (by rw [Int32.toInt_toInt64, Int32.toInt_toInt64, en, l0, nI_toInt (by omega)]; omega), if_pos hp, w2, z2', q_bs, show (60 : Int32) = nI 60 from rfl, q_ix, if_pos (q_pinN (by omega) (by omega)), nI_clamp (by omega)]
        refine ⟨0, kp, nh, rh, tl, rl, I, u2 L (82 + 2 * s) i z, u2 I 89 0 0, u2 (u2 L (82 + 2 * s) i z) 92 (60 * s + i) z, t_175 Ls xs 998 kp tl rl nh rh (nI s) (nI i) y3 I L (0, I, u2 L (82 + 2 * s) i z) h1', t_205 Ls xs 997 kp tl rl nh rh (nI s) (nI i) y3 I (u2 L (82 + 2 * s) i z) (0, u2 I 89 0 0, u2 (u2 L (82 + 2 * s) i z) 92 (60 * s + i) z) h2', VV_rw hV (fun c c1 c2 c3 c4 j => u2_c c2) (fun j hj => u2_o hj) (fun c hc j => ?_) (fun k hk => ?_)⟩
        · rw [u2_c (by omega), u2_c (by omega)]
        · have := hRw k hk
          unfold VRw at *
          rw [u2_c (by omega), u2_c (by omega), u2_c (by omega), u2_c (by omega), u2_c (by omega)]
          rcases this with h | ⟨h, w', n', q1, q2, q3, q4, q5, q6, q7⟩
          · exact Or.inl h
          · refine Or.inr ⟨h, w', n', q1, q2, q3, q4, q5, q6, fun j hj => ?_⟩
            rw [u2_c (show 82 + 2 * k ≠ 92 by omega)]
            by_cases e : k = s ∧ j = i
            · rw [u2_sd (by omega) (by omega), u2_sd (by omega) (by omega)]
            · rw [u2_o (show 60 * k + j ≠ 60 * s + i by omega), u2_c (show 92 ≠ 82 + 2 * s by omega)]
              by_cases e2 : k = s
              · subst e2; rw [u2_o (by omega)]; exact q7 j hj
              · rw [u2_c (by omega)]; exact q7 j hj
theorem q_addL (x y : Int32) : (x.toInt64 + y.toInt64).toInt = x.toInt + y.toInt := by
  rw [Int64.toInt_add, Int32.toInt_toInt64, Int32.toInt_toInt64]
  have h1 := x.toInt_lt; have h2 := x.le_toInt; have h3 := y.toInt_lt; have h4 := y.le_toInt
  rw [Int.bmod_eq_of_le] <;> omega
theorem e108 {c n : Nat} (h : I c 2 = nI n) (hn : n ≤ 60) (x y : Int32) : p108 c x y I = some (bI (0 ≤ x.toInt ∧ 0 ≤ y.toInt ∧ x.toInt + y.toInt ≤ n)) := by
  unfold p108
  simp only [q_cmp_gt, q_addL, h, Int32.toInt_toInt64, nI_toInt (show n < 2 ^ 31 by omega)]
  simp only [fa_lt, i0]
  by_cases h1 : x.toInt < 0
  · rw [if_pos h1, bI_n (by omega)]
  · rw [if_neg h1]
    by_cases h2 : y.toInt < 0
    · rw [if_pos h2, bI_n (by omega)]
    · rw [if_neg h2]
      by_cases h3 : (n : Int) < x.toInt + y.toInt
      · rw [if_pos h3, bI_n (by omega)]
      · rw [if_neg h3, bI_p (by omega)]
theorem e206 {s t i k n : Nat} (hs : s < 4) (ht : t < 4) (hi : i + n ≤ 60) (hk : k + n ≤ 60) (I : FI) (L : FL) : ∃ L', c_206_0 100 100 (nI s) (nI i) (nI t) (nI k) (nI n) 0 I L = some (0, I, L') ∧ (∀ j, j < n → L' 92 (60 * t + k + j) = L 92 (60 * s + i + j)) ∧ (∀ j, j < 60 * t + k ∨ 60 * t + k + n ≤ j → L' 92 j = L 92 j) ∧ ∀ c j, c ≠ 92 → c ≠ 93 → L' c j = L c j := by
  obtain ⟨r, ⟨h1, h2⟩, e⟩ := lpE (fun m x (r : FL) => c_206_0 100 m (nI s) (nI i) (nI t) (nI k) (nI n) (nI x) I r) n (fun x r => (∀ j, j < x → r 93 j = L 92 (60 * s + i + j)) ∧ ∀ c j, c ≠ 93 → r c j = L c j) (fun r => c_206_1 100 100 (nI t) (nI k) (nI n) 0 I r) (fun m r _ => by
      show b_206_0 100 (c_206_0 100 m) (nI s) (nI i) (nI t) (nI k) (nI n) (nI n) I r = _
      unfold b_206_0
      rw [if_pos (nI_le (Nat.le_refl n) (by omega))]) (fun m x r hx hi' => ⟨u2 r 93 x (L 92 (60 * s + i + x)), ⟨fun j h => by
          by_cases e : j = x
          · subst e; exact u2_s
          · rw [u2_o e]; exact hi'.1 j (by omega), fun c j hc => by rw [u2_c hc]; exact hi'.2 c j hc⟩, by
      show b_206_0 100 (c_206_0 100 m) (nI s) (nI i) (nI t) (nI k) (nI n) (nI x) I r = _
      unfold b_206_0
      rw [if_neg (nI_ge hx (by omega)), show (60 : Int32) = nI 60 from rfl, q_ix, nI_add, if_pos (q_pinN (by omega) (by omega)), if_pos (q_pinN (by omega) (by omega)), nI_clamp (by omega), nI_clamp (by omega), nI_1, hi'.2 92 _ (by decide)]⟩) 100 0 L (by omega) (by omega) ⟨fun j h => by omega, fun _ _ _ => rfl⟩
  obtain ⟨r2, ⟨g1, g2, g3⟩, e2⟩ := lpE (fun m x (r : FL) => c_206_1 100 m (nI t) (nI k) (nI n) (nI x) I r) n (fun x q => (∀ j, j < x → q 92 (60 * t + k + j) = L 92 (60 * s + i + j)) ∧ (∀ j, j < 60 * t + k ∨ 60 * t + k + n ≤ j → q 92 j = L 92 j) ∧ ∀ c j, c ≠ 92 → q c j = r c j) (fun r => some (0, I, r)) (fun m r _ => by
      show b_206_1 100 (c_206_1 100 m) (nI t) (nI k) (nI n) (nI n) I r = _
      unfold b_206_1
      rw [if_pos (nI_le (Nat.le_refl n) (by omega))]) (fun m x q hx hq => ⟨u2 q 92 (60 * t + k + x) (L 92 (60 * s + i + x)), ⟨fun j h => by
          by_cases e : j = x
          · subst e; exact u2_s
          · rw [u2_o (by omega)]; exact hq.1 j (by omega), fun j h => by rw [u2_o (by omega)]; exact hq.2.1 j h, fun c j hc => by rw [u2_c hc]; exact hq.2.2 c j hc⟩, by
      show b_206_1 100 (c_206_1 100 m) (nI t) (nI k) (nI n) (nI x) I q = _
      unfold b_206_1
      rw [if_neg (nI_ge hx (by omega)), if_pos (q_pinN (by omega) (by omega)), show (60 : Int32) = nI 60 from rfl, q_ix, nI_add, if_pos (q_pinN (by omega) (by omega)), nI_clamp (by omega), nI_clamp (by omega), nI_1, hq.2.2 93 _ (by decide), h1 x hx]⟩) 100 0 r (by omega) (by omega) ⟨fun j h => by omega, fun j _ => h2 92 j (by decide), fun _ _ _ => rfl⟩
  exact ⟨r2, e.trans e2, g1, g2, fun c j c1 c2 => (g3 c j c1).trans (h2 c j c2)⟩
theorem sk_paste : SOK Ls xs (VV KP RP) 176 206 [.int a1, .int a2, .int a3, .int a4, .int a5] := by
  intro kp nh rh tl rl I L hV
  have hRw : ∀ k, k < 4 → VRw I L k := by obtain ⟨H, W, A, h, _⟩ := hV; exact h.2.2.2.2.2.2
  have no : ∀ v, f_176 a1 a2 a3 a4 a5 I L = some (v, I, L) → f_206 100 a1 a2 a3 a4 a5 I L = some (v, u2 I 89 0 0, L) → ∃ v kp1 nh1 rh1 tl1 rl1 I1 L1 I2 L2, pEN Ls xs 1000 176 (.ref 0 :: [.int a1, .int a2, .int a3, .int a4, .int a5]) (hp kp nh rh tl rl I L) = some (some (.int v), hp kp1 nh1 rh1 tl1 rl1 I1 L1) ∧ pEN Ls xs 1000 206 (.ref 89 :: [.int a1, .int a2, .int a3, .int a4, .int a5]) (hp kp1 nh1 rh1 tl1 rl1 I1 L1) = some (some (.int v), hp kp1 nh1 rh1 tl1 rl1 I2 L2) ∧ VV KP RP kp1 nh1 rh1 tl1 rl1 I2 L2 := fun v h1 h2 => ⟨v, kp, nh, rh, tl, rl, I, L, u2 I 89 0 0, L, t_176 Ls xs 998 kp tl rl nh rh a1 a2 a3 a4 a5 I L (v, I, L) h1, t_206 Ls xs 997 kp tl rl nh rh 100 a1 a2 a3 a4 a5 I L (v, u2 I 89 0 0, L) h2, VV_th hV⟩
  rcases q_arg a1 (n := 4) (by omega) with h | ⟨s, hs, rfl⟩
  · exact no (-2) (by unfold f_176; rw [e184n h, q_bs, q_00]) (by unfold f_206; rw [e202n h, q_bs, q_00])
  rcases q_arg a3 (n := 4) (by omega) with h | ⟨t, ht, rfl⟩
  · exact no (-2) (by unfold f_176; rw [e184y hs, q_bs, q_11, e184n h, q_bs, q_n00]) (by unfold f_206; rw [e202y hs, q_bs, q_11, e202n h, q_bs, q_n00])
  have ps := q_pinN (k := s) (n := 4) hs (by omega)
  have pt := q_pinN (k := t) (n := 4) ht (by omega)
  have cs := nI_clamp (n := s) (by omega)
  have ct := nI_clamp (n := t) (by omega)
  have nm : ∀ {w : Nat}, w ≤ 3 → ¬ nI w = -1 := fun {w} hw => by rw [← oI_0, ← oI_s, oI_eq (by omega) (by omega)]; omega
  rcases hRw s hs with ⟨h1, h2⟩ | ⟨h1, w, n1, hw, hn, w1, w2, m1, m2, hc⟩
  · refine no (-6) ?_ ?_
    · rw [e176 hs ht]; unfold plf; rw [if_pos h1]
    · unfold f_206; rw [e202y hs, q_bs, q_11, e202y ht, q_bs, q_n11, if_pos ps, cs, if_pos h2]
  have k1 : ¬ I (81 + 2 * s) 3 = 0 := by rw [h1]; decide
  have k2 : ¬ I 90 s = -1 := by rw [w2]; exact nm hw
  rcases hRw t ht with ⟨g1, g2⟩ | ⟨g1, v, n2, hv, hn2, v1, v2, u1, u2', hd⟩
  · refine no (-6) ?_ ?_
    · rw [e176 hs ht]; unfold plf; rw [if_neg k1, if_neg (fun q => q g1)]
    · unfold f_206; rw [e202y hs, q_bs, q_11, e202y ht, q_bs, q_n11, if_pos ps, cs, if_neg k2, if_pos pt, ct, if_neg (fun q => q g2)]
  have j1 : ¬ I (81 + 2 * t) 3 = 0 := by rw [g1]; decide
  have j2 : ¬ I 90 t = -1 := by rw [v2]; exact nm hv
  by_cases hwv : ¬ w = v
  · have ne : ¬ nI w = nI v := by rw [nI_eq (by omega) (by omega)]; exact hwv
    refine no (-8) ?_ ?_
    · rw [e176 hs ht]; unfold plf; rw [if_neg k1, if_pos j1, w1, v1, if_neg ne]
    · unfold f_206; rw [e202y hs, q_bs, q_11, e202y ht, q_bs, q_n11, if_pos ps, cs, if_neg k2, if_pos pt, ct, if_pos j2, if_pos ps, if_pos pt, w2, v2, if_neg ne]
  have hwv := Decidable.not_not.mp hwv
  subst hwv
  by_cases hg : ¬ ((0 ≤ a2.toInt ∧ 0 ≤ a5.toInt ∧ a2.toInt + a5.toInt ≤ n1) ∧ (0 ≤ a4.toInt ∧ 0 ≤ a5.toInt ∧ a4.toInt + a5.toInt ≤ n2))
  · refine no (-7) ?_ ?_
    · rw [e176 hs ht]; unfold plf; rw [if_neg k1, if_pos j1, w1, v1, if_pos rfl, e108 m1 hn, q_bs, q_b1, e108 u1 hn2, q_bs, q_b2]
      by_cases q : 0 ≤ a2.toInt ∧ 0 ≤ a5.toInt ∧ a2.toInt + a5.toInt ≤ n1
      · rw [if_pos q, if_neg (fun q2 => hg ⟨q, q2⟩)]
      · rw [if_neg q]
    · unfold f_206; rw [e202y hs, q_bs, q_11, e202y ht, q_bs, q_n11, if_pos ps, cs, if_neg k2, if_pos pt, ct, if_pos j2, if_pos ps, if_pos pt, w2, v2, if_pos rfl]
      simp only [fa_lt, i0]
      by_cases q1 : a2.toInt < 0
      · rw [if_pos q1]
      rw [if_neg q1]
      by_cases q2 : a4.toInt < 0
      · rw [if_pos q2]
      rw [if_neg q2]
      by_cases q3 : a5.toInt < 0
      · rw [if_pos q3]
      rw [if_neg q3, if_pos ps, m2]
      have c1 : (0 : Int32).toInt < (lg_cmp (a2.toInt64 + a5.toInt64) (nI n1).toInt64).toInt ↔ (n1 : Int) < a2.toInt + a5.toInt := by rw [← fa_lt, q_cmp_gt, q_addL, Int32.toInt_toInt64, nI_toInt (by omega)]
      have c2 : lg_cmp (a4.toInt64 + a5.toInt64) (nI n2).toInt64 ≤ 0 ↔ a4.toInt + a5.toInt ≤ (n2 : Int) := by rw [q_cmp_le, q_addL, Int32.toInt_toInt64, nI_toInt (by omega)]
      rw [i0] at c1
      simp only [c1]
      by_cases q4 : (n1 : Int) < a2.toInt + a5.toInt
      · rw [if_pos q4]
      rw [if_neg q4, if_pos pt, u2']
      simp only [c2]
      rw [if_neg (fun q5 => hg ⟨⟨by omega, by omega, by omega⟩, by omega, by omega, q5⟩)]
  obtain ⟨⟨q1, q2, q3⟩, q4, q5, q6⟩ := Decidable.not_not.mp hg
  rcases q_arg a2 (n := 61) (by omega) with h | ⟨i, hi, rfl⟩
  · omega
  rcases q_arg a4 (n := 61) (by omega) with h | ⟨k, hk, rfl⟩
  · omega
  rcases q_arg a5 (n := 61) (by omega) with h | ⟨n, hn5, rfl⟩
  · omega
  rw [nI_toInt (by omega), nI_toInt (by omega)] at q3 q6
  have h1' : f_176 (nI s) (nI i) (nI t) (nI k) (nI n) I L = some (0, I, c2 L (82 + 2 * s) (82 + 2 * t) i k n) := by
    rw [e176 hs ht]; unfold plf
    rw [if_neg k1, if_pos j1, w1, v1, if_pos rfl, e108 m1 hn, q_bs, q_b1, if_pos (by rw [nI_toInt (by omega), nI_toInt (by omega)]; omega), e108 u1 hn2, q_bs, q_b2, if_pos (by rw [nI_toInt (by omega), nI_toInt (by omega)]; omega), if_neg (by
      intro h
      rcases h with h | h | h | h
      · exact nI_pos (by omega) h
      · exact nI_pos (by omega) h
      · exact nI_pos (by omega) h
      · exact absurd h (by decide)), nI_clamp (by omega), nI_clamp (by omega), nI_clamp (by omega), if_pos (by omega), show 81 + 2 * s + 1 = 82 + 2 * s by omega, show 81 + 2 * t + 1 = 82 + 2 * t by omega]
  obtain ⟨L2, e2, y1, y2, y3⟩ := e206 hs ht (i := i) (k := k) (n := n) (by omega) (by omega) (u2 I 89 0 0) (c2 L (82 + 2 * s) (82 + 2 * t) i k n)
  have h2' : f_206 100 (nI s) (nI i) (nI t) (nI k) (nI n) I (c2 L (82 + 2 * s) (82 + 2 * t) i k n) = some (0, u2 I 89 0 0, L2) := by
    unfold f_206
    rw [e202y hs, q_bs, q_11, e202y ht, q_bs, q_n11, if_pos ps, cs, if_neg k2, if_pos pt, ct, if_pos j2, if_pos ps, if_pos pt, w2, v2, if_pos rfl, if_neg (nI_pos (n := i) (by omega)), if_neg (nI_pos (n := k) (by omega)), if_neg (nI_pos (n := n) (by omega)), if_pos ps, m2, if_neg (by rw [q_cmp_gt, q_addL, Int32.toInt_toInt64, nI_toInt (by omega), nI_toInt (by omega), nI_toInt (by omega)]; omega), if_pos pt, u2', if_pos (by rw [q_cmp_le, q_addL, Int32.toInt_toInt64, nI_toInt (by omega), nI_toInt (by omega), nI_toInt (by omega)]; omega)]
    exact e2
  have cin : ∀ j, c2 L (82 + 2 * s) (82 + 2 * t) i k n 92 j = L 92 j := fun j => by rw [c2_ne (by omega)]
  refine ⟨0, kp, nh, rh, tl, rl, I, c2 L (82 + 2 * s) (82 + 2 * t) i k n, u2 I 89 0 0, L2, t_176 Ls xs 998 kp tl rl nh rh (nI s) (nI i) (nI t) (nI k) (nI n) I L (0, I, c2 L (82 + 2 * s) (82 + 2 * t) i k n) h1', t_206 Ls xs 997 kp tl rl nh rh 100 (nI s) (nI i) (nI t) (nI k) (nI n) I (c2 L (82 + 2 * s) (82 + 2 * t) i k n) (0, u2 I 89 0 0, L2) h2', VV_rw hV (fun c c1 c2 c3 c4 j => u2_c c2) (fun j hj => u2_o hj) (fun c hc j => ?_) (fun x hx => ?_)⟩
  · rw [y3 c j (by omega) (by omega), c2_ne (by omega)]
  · have hx0 := hRw x hx
    have hx1 := hRw s hs
    unfold VRw at *
    rw [u2_c (by omega), u2_c (by omega), u2_c (by omega), u2_c (by omega), u2_c (by omega)]
    rcases hx0 with h | ⟨h, w', n', p1, p2, p3, p4, p5, p6, p7⟩
    · exact Or.inl h
    · refine Or.inr ⟨h, w', n', p1, p2, p3, p4, p5, p6, fun j hj => ?_⟩
      rw [y3 _ _ (by omega) (by omega)]
      by_cases e : x = t
      · subst e
        by_cases ej : k ≤ j ∧ j < k + n
        · have e1 : c2 L (82 + 2 * s) (82 + 2 * x) i k n (82 + 2 * x) j = L (82 + 2 * s) (i + (j - k)) := by
            unfold c2; rw [if_pos rfl]; exact pk_cpy_in ej.1 ej.2
          rw [e1, show 60 * x + j = 60 * x + k + (j - k) by omega, y1 (j - k) (by omega), cin, hc _ (by omega), show 60 * s + (i + (j - k)) = 60 * s + i + (j - k) by omega]
        · have e1 : c2 L (82 + 2 * s) (82 + 2 * x) i k n (82 + 2 * x) j = L (82 + 2 * x) j := by
            unfold c2; rw [if_pos rfl]; exact pk_cpy_out (by omega)
          rw [e1, y2 _ (by omega), cin]; exact p7 j hj
      · rw [c2_ne (by omega), y2 _ (by omega), cin]; exact p7 j hj
end ROWS2
