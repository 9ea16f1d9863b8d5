/-! LAYER 3: room, round, undo, anew, rate -/
section ACC
variable {I : FI} {L : FL} {H : HD} {W : Nat → Nat} {A : AD}
theorem mh96 (h : MH I 0 H W A) {j : Nat} (hj : j < 7) : I 96 j = nI (H.1 (j + 1)) := by have := h.2.1 j hj; simpa using this
theorem mh96a (h : MH I 0 H W A) : I 96 7 = nI A.1 := by have := h.2.2.1; simpa using this
theorem mhwt (h : MH I 0 H W A) {r : Nat} (hr : r < H.1 4) : I 97 (2 * r) = nI (H.2 0 r) := by have := h.2.2.2.1 r hr; simpa using this
theorem mhwo (h : MH I 0 H W A) {r : Nat} (hr : r < H.1 4) : I 97 (2 * r + 1) = nI (W r) := by have := h.2.2.2.2.1 r hr; simpa using this
theorem mhw1 (h : MH I 0 H W A) {k : Nat} (hk : k < H.1 5) : I 98 (2 * k) = nI (H.2 4 k) := by have := h.2.2.2.2.2.1 k hk; simpa using this
theorem mhw2 (h : MH I 0 H W A) {k : Nat} (hk : k < H.1 5) : I 98 (2 * k + 1) = nI (H.2 5 k) := by have := h.2.2.2.2.2.2.1 k hk; simpa using this
theorem mhgr (h : MH I 0 H W A) {v : Nat} (hv : v < H.1 6) : I 99 (2 * v) = nI (H.2 1 v) := by have := h.2.2.2.2.2.2.2.1 v hv; simpa using this
theorem mhgm (h : MH I 0 H W A) {v : Nat} (hv : v < H.1 6) : I 99 (2 * v + 1) = nI (H.2 2 v) := by have := h.2.2.2.2.2.2.2.2.1 v hv; simpa using this
theorem mhpl (h : MH I 0 H W A) {i : Nat} (hi : i < H.1 7) : I 100 i = nI (H.2 3 i) := by have := h.2.2.2.2.2.2.2.2.2.1 i hi; simpa using this
theorem mhar (h : MH I 0 H W A) {i : Nat} (hi : i < A.1) : I 101 (2 * i) = oI (A.2.1 i) := by have := h.2.2.2.2.2.2.2.2.2.2.1 i hi; simpa using this
theorem mham (h : MH I 0 H W A) {i : Nat} (hi : i < A.1) : I 101 (2 * i + 1) = nI (A.2.2 i) := by have := h.2.2.2.2.2.2.2.2.2.2.2 i hi; simpa using this
theorem chs {h a : Nat} (hh : CH I h a H W A) {j : Nat} (hj : j < 8) : I h j = nI (H.1 j) := hh.1 j hj
theorem MH_th (h : MH I 0 H W A) {x : Int32} : MH (u2 I 89 0 x) 0 H W A := by
  obtain ⟨h1, h2, h3, h4, h5, h6, h7, h8, h9, h10, h11, h12⟩ := h
  refine ⟨?_, fun j hj => ?_, ?_, fun j hj => ?_, fun j hj => ?_, fun j hj => ?_, fun j hj => ?_, fun j hj => ?_, fun j hj => ?_, fun j hj => ?_, fun j hj => ?_, fun j hj => ?_⟩
  · rw [u2_c (by decide)]; exact h1
  · rw [u2_c (by decide)]; exact h2 j hj
  · rw [u2_c (by decide)]; exact h3
  · rw [u2_c (by decide)]; exact h4 j hj
  · rw [u2_c (by decide)]; exact h5 j hj
  · rw [u2_c (by decide)]; exact h6 j hj
  · rw [u2_c (by decide)]; exact h7 j hj
  · rw [u2_c (by decide)]; exact h8 j hj
  · rw [u2_c (by decide)]; exact h9 j hj
  · rw [u2_c (by decide)]; exact h10 j hj
  · rw [u2_c (by decide)]; exact h11 j hj
  · rw [u2_c (by decide)]; exact h12 j hj
end ACC
theorem q_two (x : Int32) : (x.toInt < 0 ∨ 2 ≤ x.toInt) ∨ x = 0 ∨ x = 1 := by
  rcases q_arg x (n := 2) (by omega) with h | ⟨j, hj, rfl⟩
  · exact Or.inl (by omega)
  · rcases (show j = 0 ∨ j = 1 by omega) with rfl | rfl
    · exact Or.inr (Or.inl rfl)
    · exact Or.inr (Or.inr rfl)
/-- any int: below 0, or a number -/
theorem q_any (x : Int32) : x.toInt < 0 ∨ ∃ j : Nat, j < 2 ^ 31 ∧ x = nI j := by
  rcases q_arg x (n := 2 ^ 31 - 1) (by omega) with (h | h) | ⟨j, hj, e⟩
  · exact Or.inl h
  · exact Or.inr ⟨2 ^ 31 - 1, by omega, by rw [fa_eq, nI_toInt (by omega)]; have := x.toInt_lt; omega⟩
  · exact Or.inr ⟨j, by omega, e⟩
section EASY3
variable {KP : KPT} {RP : RPT} {Ls : Nat} {xs : Nat → Int32} {a1 a2 a3 a4 a5 : Int32}
theorem sk_room : SOK Ls xs (VV KP RP) 117 266 [.int a1, .int a2] := by
  intro kp nh rh tl rl I L hV
  obtain ⟨v, h1, h2⟩ : ∃ v, f_117 a1 a2 I L = some v ∧ f_266 a1 a2 I L = some (v, u2 I 89 0 0, L) := by
    obtain ⟨H, W, A, ⟨_, _, ho, hC, hM, _, _⟩, _, _⟩ := hV
    have o4 : H.1 4 ≤ 4 := ho.1.2.2.2.2.1
    have c4 := chs hC (j := 4) (by decide)
    have m4 : u2 I 89 0 0 96 3 = nI (H.1 4) := (u2_c (by decide)).trans (mh96 hM (by decide))
    rcases q_arg a1 (n := H.1 4) (by omega) with h | ⟨r, hr, rfl⟩
    · exact ⟨-2, by unfold f_117; rw [e178n c4 o4 h, q_bs, q_00], by unfold f_266; rw [e239n m4 o4 h, q_bs, q_00]⟩
    · rcases q_arg a2 (n := 2) (by omega) with h | ⟨w, hw, rfl⟩
      · exact ⟨-2, by unfold f_117; rw [e178y c4 o4 hr, q_bs, q_11, e182n h, q_bs, q_n00], by unfold f_266; rw [e239y m4 o4 hr, q_bs, q_11, e242n h, q_bs, q_00]⟩
      · have e : (2 : Int32) * nI r + nI w = nI (2 * r + w) := by rw [show (2 : Int32) = nI 2 from rfl, pk_mul, nI_add]
        have h2 : ∀ v, I 97 (2 * r + w) = v → f_266 (nI r) (nI w) I L = some (v, u2 I 89 0 0, L) := fun v hv => by
          unfold f_266
          rw [e239y m4 o4 hr, q_bs, q_11, e242y hw, q_bs, q_11, e, if_pos (q_pinN (by omega) (by omega)), nI_clamp (by omega), hv]
        rcases (show w = 0 ∨ w = 1 by omega) with rfl | rfl
        · refine ⟨nI (H.2 0 r), ?_, h2 _ (mhwt hM hr)⟩
          unfold f_117
          rw [e178y c4 o4 hr, q_bs, q_11, e182y (by omega), q_bs, q_n11, if_neg (show ¬ ¬ nI 0 = 0 by decide), if_pos (q_pinN (by omega) (by omega)), nI_clamp (by omega)]
          exact congrArg some (hC.2.1 r hr)
        · refine ⟨nI (W r), ?_, h2 _ (mhwo hM hr)⟩
          unfold f_117
          rw [e178y c4 o4 hr, q_bs, q_11, e182y (by omega), q_bs, q_n11, if_pos (show ¬ nI 1 = 0 by decide), if_pos (q_pinN (by omega) (by omega)), nI_clamp (by omega)]
          exact congrArg some (hC.2.2.1 r hr)
  exact ⟨v, kp, nh, rh, tl, rl, I, L, _, _, t_117 Ls xs 998 kp tl rl nh rh a1 a2 I L v h1, t_266 Ls xs 997 kp tl rl nh rh a1 a2 I L _ h2, VV_th hV⟩
theorem sk_round : SOK Ls xs (VV KP RP) 120 269 [.int a1] := by
  intro kp nh rh tl rl I L hV
  obtain ⟨v, h1, h2⟩ : ∃ v, f_120 a1 I L = some v ∧ f_269 a1 I L = some (v, u2 I 89 0 0, L) := by
    obtain ⟨H, W, A, ⟨_, _, ho, hC, hM, _, _⟩, _, _⟩ := hV
    have o0 : H.1 0 ≤ 1000 := ho.1.1
    have o7 : H.1 7 ≤ 12 := ho.1.2.2.2.2.2.2.2.1
    have c0 := chs hC (j := 0) (by decide)
    have c7 := chs hC (j := 7) (by decide)
    have m0 : u2 I 89 0 0 95 0 = nI (H.1 0) := (u2_c (by decide)).trans hM.1
    have m7 : I 96 6 = nI (H.1 7) := mh96 hM (by decide)
    by_cases h0 : 0 < H.1 0
    · rcases q_any a1 with h | ⟨j, hj, rfl⟩
      · refine ⟨-2, ?_, ?_⟩
        · unfold f_120; rw [if_pos (show a1 < 0 by rw [fa_lt, i0]; omega)]
        · unfold f_269; rw [e236y m0 o0 h0, q_bs, q_11, if_neg (show ¬ 0 ≤ a1 by rw [fa_le, i0]; omega)]
      · by_cases h7 : H.1 7 ≤ j
        · refine ⟨-1, ?_, ?_⟩
          · unfold f_120; rw [if_neg (nI_pos hj), e177y c0 o0 h0, q_bs, q_n11, c7, if_pos (nI_le h7 hj)]
          · unfold f_269; rw [e236y m0 o0 h0, q_bs, q_11, if_pos (nI_pos' hj), m7, if_pos (nI_le h7 hj)]
        · refine ⟨nI (H.2 3 j), ?_, ?_⟩
          · unfold f_120; rw [if_neg (nI_pos hj), e177y c0 o0 h0, q_bs, q_n11, c7, if_neg (nI_ge (a := j) (b := H.1 7) (by omega) (by omega)), if_pos (q_pinN (by omega) (by omega)), nI_clamp hj]
            exact congrArg some (hC.2.2.2.2.2.2.2.1 j (by omega))
          · unfold f_269; rw [e236y m0 o0 h0, q_bs, q_11, if_pos (nI_pos' hj), m7, if_neg (nI_ge (a := j) (b := H.1 7) (by omega) (by omega)), if_pos (q_pinN (by omega) (by omega)), nI_clamp hj, mhpl hM (by omega)]
    · refine ⟨-2, ?_, ?_⟩
      · unfold f_120; rw [e177n c0 o0 (by omega), q_bs, q_n00]; split <;> rfl
      · unfold f_269; rw [e236n m0 o0 (by omega), q_bs, q_00]
  exact ⟨v, kp, nh, rh, tl, rl, I, L, _, _, t_120 Ls xs 998 kp tl rl nh rh a1 I L v h1, t_269 Ls xs 998 kp tl rl nh rh a1 I L _ h2, VV_th hV⟩
end EASY3
