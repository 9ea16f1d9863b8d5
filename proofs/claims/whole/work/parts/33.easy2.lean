/-! LAYER 3: feed, room, round, undo, anew, rate -/
def bt (x s : Int32) : Int32 := vp_nar .byte ((x >>> (s &&& 31)).toInt8.toInt32)
theorem e111s {n m t : Nat} {x s : Int32} {I : FI} {L : FL} (hs : ¬ s < 0) (h : I 1 1 = nI t) (ht : t < 500) : c_111_0 n (m + 1) x s I L = c_111_0 n m x (s + (-8 : Int32)) (u2 (u2 I 2 t (bt x s)) 1 1 (nI (t + 1))) L := by
  show b_111_0 n (c_111_0 n m) x s I L = _
  unfold b_111_0
  rw [if_neg hs, if_neg (by rw [h]; exact nI_ge (a := t) (b := 500) (by omega) (by omega)), h, if_pos (q_pinN (by omega) (by omega)), nI_clamp (by omega), nI_1]; rfl
theorem e208s {n m t : Nat} {x s : Int32} {I : FI} {L : FL} (hs : ¬ s < 0) (h : I 89 6 = nI t) (ht : t < 500) : c_208_0 n (m + 1) x s I L = c_208_0 n m x (s + (-8 : Int32)) (u2 (u2 I 94 t (bt x s)) 89 6 (nI (t + 1))) L := by
  show b_208_0 n (c_208_0 n m) x s I L = _
  unfold b_208_0
  rw [if_neg hs, h, if_pos (q_pinN (by omega) (by omega)), nI_clamp (by omega), nI_1]; rfl
theorem e111 {t : Nat} {x : Int32} {I : FI} {L : FL} (h : I 1 1 = nI t) (ht : t + 4 ≤ 500) : ∃ I', f_111 100 x I L = some (I', L) ∧ I' 1 1 = nI (t + 4) ∧ (∀ i, i < t → I' 2 i = I 2 i) ∧ (∀ k, k < 4 → I' 2 (t + k) = bt x (nI (24 - 8 * k))) ∧ ∀ c i, c ≠ 1 → c ≠ 2 → I' c i = I c i := by
  unfold f_111
  rw [e111s (by decide) h (by omega), show (24 : Int32) + (-8 : Int32) = 16 by decide, e111s (t := t + 1) (by decide) u2_s (by omega), show (16 : Int32) + (-8 : Int32) = 8 by decide, e111s (t := t + 2) (by decide) u2_s (by omega), show (8 : Int32) + (-8 : Int32) = 0 by decide, e111s (t := t + 3) (by decide) u2_s (by omega), show (0 : Int32) + (-8 : Int32) = -8 by decide]
  refine ⟨_, rfl, u2_s, fun i hi => ?_, fun k hk => ?_, fun c i c1 c2 => ?_⟩
  · rw [u2_c (by decide), u2_o (by omega), u2_c (by decide), u2_o (by omega), u2_c (by decide), u2_o (by omega), u2_c (by decide), u2_o (by omega)]
  · rcases (show k = 0 ∨ k = 1 ∨ k = 2 ∨ k = 3 by omega) with rfl | rfl | rfl | rfl
    · rw [u2_c (by decide), u2_o (by omega), u2_c (by decide), u2_o (by omega), u2_c (by decide), u2_o (by omega), u2_c (by decide)]; exact u2_s
    · rw [u2_c (by decide), u2_o (by omega), u2_c (by decide), u2_o (by omega), u2_c (by decide)]; exact u2_s
    · rw [u2_c (by decide), u2_o (by omega), u2_c (by decide)]; exact u2_s
    · rw [u2_c (by decide)]; exact u2_s
  · simp only [u2, if_neg c1, if_neg c2]
theorem e208 {t : Nat} {x : Int32} {I : FI} {L : FL} (h : I 89 6 = nI t) (ht : t + 4 ≤ 500) : ∃ I', f_208 100 x I L = some (I', L) ∧ I' 89 6 = nI (t + 4) ∧ (∀ i, i < t → I' 94 i = I 94 i) ∧ (∀ k, k < 4 → I' 94 (t + k) = bt x (nI (24 - 8 * k))) ∧ (∀ c i, c ≠ 89 → c ≠ 94 → I' c i = I c i) ∧ ∀ i, i ≠ 6 → I' 89 i = I 89 i := by
  unfold f_208
  rw [e208s (by decide) h (by omega), show (24 : Int32) + (-8 : Int32) = 16 by decide, e208s (t := t + 1) (by decide) u2_s (by omega), show (16 : Int32) + (-8 : Int32) = 8 by decide, e208s (t := t + 2) (by decide) u2_s (by omega), show (8 : Int32) + (-8 : Int32) = 0 by decide, e208s (t := t + 3) (by decide) u2_s (by omega), show (0 : Int32) + (-8 : Int32) = -8 by decide]
  refine ⟨_, rfl, u2_s, fun i hi => ?_, fun k hk => ?_, fun c i c1 c2 => ?_, fun i hi => ?_⟩
  · rw [u2_c (by decide), u2_o (by omega), u2_c (by decide), u2_o (by omega), u2_c (by decide), u2_o (by omega), u2_c (by decide), u2_o (by omega)]
  · rcases (show k = 0 ∨ k = 1 ∨ k = 2 ∨ k = 3 by omega) with rfl | rfl | rfl | rfl
    · rw [u2_c (by decide), u2_o (by omega), u2_c (by decide), u2_o (by omega), u2_c (by decide), u2_o (by omega), u2_c (by decide)]; exact u2_s
    · rw [u2_c (by decide), u2_o (by omega), u2_c (by decide), u2_o (by omega), u2_c (by decide)]; exact u2_s
    · rw [u2_c (by decide), u2_o (by omega), u2_c (by decide)]; exact u2_s
    · rw [u2_c (by decide)]; exact u2_s
  · simp only [u2, if_neg c1, if_neg c2]
  · simp [u2, hi]
section EASY2
variable {KP : KPT} {RP : RPT} {Ls : Nat} {xs : Nat → Int32} {a1 a2 a3 a4 a5 : Int32}
theorem e113 {t : Nat} {I : FI} {L : FL} (h : I 1 1 = nI t) (ht : t + 20 ≤ 500) : ∃ I', f_113 100 a1 a2 a3 a4 a5 I L = some (nI (t + 20), I', L) ∧ I' 1 1 = nI (t + 20) ∧ (∀ i, i < t → I' 2 i = I 2 i) ∧ (∀ k, k < 4 → I' 2 (t + k) = bt a1 (nI (24 - 8 * k)) ∧ I' 2 (t + 4 + k) = bt a2 (nI (24 - 8 * k)) ∧ I' 2 (t + 8 + k) = bt a3 (nI (24 - 8 * k)) ∧ I' 2 (t + 12 + k) = bt a4 (nI (24 - 8 * k)) ∧ I' 2 (t + 16 + k) = bt a5 (nI (24 - 8 * k))) ∧ ∀ c i, c ≠ 1 → c ≠ 2 → I' c i = I c i := by
  obtain ⟨I1, p1, q1, r1, s1, z1⟩ := e111 (x := a1) (L := L) h (by omega)
  obtain ⟨I2, p2, q2, r2, s2, z2⟩ := e111 (x := a2) (L := L) q1 (by omega)
  obtain ⟨I3, p3, q3, r3, s3, z3⟩ := e111 (x := a3) (L := L) q2 (by omega)
  obtain ⟨I4, p4, q4, r4, s4, z4⟩ := e111 (x := a4) (L := L) q3 (by omega)
  obtain ⟨I5, p5, q5, r5, s5, z5⟩ := e111 (x := a5) (L := L) q4 (by omega)
  refine ⟨I5, ?_, q5, fun i hi => ?_, fun k hk => ⟨?_, ?_, ?_, ?_, ?_⟩, fun c i c1 c2 => ?_⟩
  · unfold f_113
    rw [if_pos (by rw [h]; show nI t + nI 20 ≤ nI 500; rw [nI_add]; exact nI_le (by omega) (by omega)), p1, q_bs, p2, q_bs, p3, q_bs, p4, q_bs, p5, q_bs]
    show some (I5 1 1, I5, L) = _
    rw [q5]
  · rw [r5 i (by omega), r4 i (by omega), r3 i (by omega), r2 i (by omega), r1 i hi]
  · rw [r5 _ (by omega), r4 _ (by omega), r3 _ (by omega), r2 _ (by omega), s1 k hk]
  · rw [r5 _ (by omega), r4 _ (by omega), r3 _ (by omega), s2 k hk]
  · rw [r5 _ (by omega), r4 _ (by omega), s3 k hk]
  · rw [r5 _ (by omega), s4 k hk]
  · rw [s5 k hk]
  · rw [z5 c i c1 c2, z4 c i c1 c2, z3 c i c1 c2, z2 c i c1 c2, z1 c i c1 c2]
theorem e207 {t : Nat} {I : FI} {L : FL} (h : I 89 6 = nI t) (ht : t + 20 ≤ 500) : ∃ I', f_207 100 a1 a2 a3 a4 a5 I L = some (nI (t + 20), I', L) ∧ I' 89 6 = nI (t + 20) ∧ (∀ i, i < t → I' 94 i = I 94 i) ∧ (∀ k, k < 4 → I' 94 (t + k) = bt a1 (nI (24 - 8 * k)) ∧ I' 94 (t + 4 + k) = bt a2 (nI (24 - 8 * k)) ∧ I' 94 (t + 8 + k) = bt a3 (nI (24 - 8 * k)) ∧ I' 94 (t + 12 + k) = bt a4 (nI (24 - 8 * k)) ∧ I' 94 (t + 16 + k) = bt a5 (nI (24 - 8 * k))) ∧ (∀ c i, c ≠ 89 → c ≠ 94 → I' c i = I c i) ∧ ∀ i, i ≠ 0 → i ≠ 6 → I' 89 i = I 89 i := by
  obtain ⟨I1, p1, q1, r1, s1, z1, w1⟩ := e208 (x := a1) (I := u2 I 89 0 0) (L := L) ((u2_o (by decide)).trans h) (by omega)
  obtain ⟨I2, p2, q2, r2, s2, z2, w2⟩ := e208 (x := a2) (L := L) q1 (by omega)
  obtain ⟨I3, p3, q3, r3, s3, z3, w3⟩ := e208 (x := a3) (L := L) q2 (by omega)
  obtain ⟨I4, p4, q4, r4, s4, z4, w4⟩ := e208 (x := a4) (L := L) q3 (by omega)
  obtain ⟨I5, p5, q5, r5, s5, z5, w5⟩ := e208 (x := a5) (L := L) q4 (by omega)
  refine ⟨I5, ?_, q5, fun i hi => ?_, fun k hk => ⟨?_, ?_, ?_, ?_, ?_⟩, fun c i c1 c2 => ?_, fun i i0 i6 => ?_⟩
  · unfold f_207
    rw [if_pos (by rw [h]; show nI t + nI 20 ≤ nI 500; rw [nI_add]; exact nI_le (by omega) (by omega)), p1, q_bs, p2, q_bs, p3, q_bs, p4, q_bs, p5, q_bs]
    show some (I5 89 6, I5, L) = _
    rw [q5]
  · rw [r5 i (by omega), r4 i (by omega), r3 i (by omega), r2 i (by omega), r1 i hi, u2_c (by decide)]
  · rw [r5 _ (by omega), r4 _ (by omega), r3 _ (by omega), r2 _ (by omega), s1 k hk]
  · rw [r5 _ (by omega), r4 _ (by omega), r3 _ (by omega), s2 k hk]
  · rw [r5 _ (by omega), r4 _ (by omega), s3 k hk]
  · rw [r5 _ (by omega), s4 k hk]
  · rw [s5 k hk]
  · rw [z5 c i c1 c2, z4 c i c1 c2, z3 c i c1 c2, z2 c i c1 c2, z1 c i c1 c2, u2_c c1]
  · rw [w5 i i6, w4 i i6, w3 i i6, w2 i i6, w1 i i6, u2_o i0]
theorem sk_feed : SOK Ls xs (VV KP RP) 113 207 [.int a1, .int a2, .int a3, .int a4, .int a5] := by
  intro kp nh rh tl rl I L hV
  obtain ⟨t, t1, t2, t3, t4⟩ : VT I := by obtain ⟨H, W, A, h, _⟩ := hV; exact h.1
  by_cases ht : t + 20 ≤ 500
  · obtain ⟨I1, p1, q1, r1, s1, z1⟩ := e113 (a1 := a1) (a2 := a2) (a3 := a3) (a4 := a4) (a5 := a5) (L := L) t2 ht
    obtain ⟨I2, p2, q2, r2, s2, z2, w2⟩ := e207 (a1 := a1) (a2 := a2) (a3 := a3) (a4 := a4) (a5 := a5) (L := L) ((z1 89 6 (by decide) (by decide)).trans t3) ht
    refine ⟨_, kp, nh, rh, tl, rl, I1, L, I2, L, t_113 Ls xs 998 kp tl rl nh rh 100 a1 a2 a3 a4 a5 I L _ p1, t_207 Ls xs 998 kp tl rl nh rh 100 a1 a2 a3 a4 a5 I1 L _ p2, VV_tp hV ⟨t + 20, ht, ?_, q2, fun i hi => ?_⟩ (fun c c1 c2 c3 c4 i => ?_) (fun i i0 i6 => ?_)⟩
    · rw [z2 1 1 (by decide) (by decide), q1]
    · rw [z2 2 i (by decide) (by decide)]
      by_cases h : i < t
      · rw [r1 i h, r2 i h, z1 94 i (by decide) (by decide)]; exact t4 i h
      · obtain ⟨k, hk, j, hj, rfl⟩ : ∃ k, k < 4 ∧ ∃ j, j < 5 ∧ i = t + 4 * j + k := ⟨(i - t) % 4, by omega, (i - t) / 4, by omega, by omega⟩
        obtain ⟨g1, g2, g3, g4, g5⟩ := s1 k hk
        obtain ⟨k1, k2, k3, k4, k5⟩ := s2 k hk
        rcases (show j = 0 ∨ j = 1 ∨ j = 2 ∨ j = 3 ∨ j = 4 by omega) with rfl | rfl | rfl | rfl | rfl
        · exact g1.trans k1.symm
        · exact g2.trans k2.symm
        · exact g3.trans k3.symm
        · exact g4.trans k4.symm
        · exact g5.trans k5.symm
    · rw [z2 c i c3 c4, z1 c i c1 c2]
    · rw [w2 i i0 i6, z1 89 i (by decide) (by decide)]
  · have h1 : f_113 100 a1 a2 a3 a4 a5 I L = some (-1, I, L) := by
      unfold f_113
      rw [if_neg (by rw [t2]; show ¬ nI t + nI 20 ≤ nI 500; rw [nI_add]; exact nI_ge (by omega) (by omega))]
    have h2 : f_207 100 a1 a2 a3 a4 a5 I L = some (-1, u2 I 89 0 0, L) := by
      unfold f_207
      rw [if_neg (by rw [t3]; show ¬ nI t + nI 20 ≤ nI 500; rw [nI_add]; exact nI_ge (by omega) (by omega))]
    exact ⟨-1, kp, nh, rh, tl, rl, I, L, _, _, t_113 Ls xs 998 kp tl rl nh rh 100 a1 a2 a3 a4 a5 I L _ h1, t_207 Ls xs 998 kp tl rl nh rh 100 a1 a2 a3 a4 a5 I L _ h2, VV_th hV⟩
end EASY2
