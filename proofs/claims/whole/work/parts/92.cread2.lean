/-! LAYER 3: the class reads a line, all lines -/
section CRL
variable {I : FI} {L : FL} {t : Nat → Int32} {N J n p : Nat} {o : Nat × Nat} {H : HD} {W : Nat → Nat}
/-- the end of a line -/
theorem e75_2 {H' : HD} {W' : Nat → Nat} (h : CQ t N J I o) (hD : o.1 = 0 → DRC I H' W') (hl : H'.1 0 = H.1 0) : ∃ A, c_75_2 n I L = some (A, L) ∧ CQ t N J A (xp t N 3 o) ∧ ((xp t N 3 o).1 = 0 → DRC A (hs H' 0 (H.1 0 + 1)) W') ∧ ∀ c i, c ≠ 14 → c ≠ 15 → A c i = I c i := by
  obtain ⟨A1, a1, a2, a3⟩ := e83 (L := L) h (k := 3) (by omega)
  refine ⟨u2 A1 15 0 (A1 15 0 + 1), ?_, CQ_fr a2 (fun c i hc => u2_c (by omega)), fun hg => ?_, fun c i h1 h2 => by rw [u2_c h2]; exact a3 c i h1⟩
  · unfold c_75_2
    rw [show f_83 3 I L = some (A1, L) from a1, q_bs]
  · have hd := hD (xp_1 hg)
    have hd1 : DRC A1 H' W' := DRC_fr hd (fun c i _ _ => a3 c i (by omega))
    rw [hd1.1 0 (by omega), nI_1, hl]
    exact DRC_hs hd1 (by omega)
/-- a line that can't be -/
theorem e75_x (h : CQ t N J I (0, p)) : ∃ A, ((f_85 1 I L).bind fun q0 => c_75_2 n q0.1 q0.2) = some (A, L) ∧ CQ t N J A (1, p) ∧ ∀ c i, c ≠ 14 → c ≠ 15 → A c i = I c i := by
  obtain ⟨A, a1, a2, a3⟩ := e85 (L := L) h (k := 1) (by omega) (by omega)
  have e : flo 1 (0, p) = (1, p) := rfl
  rw [e] at a2
  obtain ⟨B, b1, b2, b3, b4⟩ := e75_2 (L := L) (n := n) (o := (1, p)) (H := (fun _ => 0, fun _ _ => 0)) (H' := (fun _ => 0, fun _ _ => 0)) (W' := fun _ => 0) a2 (fun q => absurd q (show ¬ (1 : Nat) = 0 by omega)) rfl
  rw [xp_f (show (1, p).1 ≠ 0 from Nat.one_ne_zero)] at b2
  refine ⟨B, ?_, b2, fun c i h1 h2 => (b4 c i h1 h2).trans (a3 c i h1)⟩
  rw [show f_85 1 I L = some (A, L) from a1, q_bs]
  exact b1
theorem e75 (h : CQ t N J I (0, p)) (hp : p < N) (hD : DRC I H W) (ho : HOK H W AD0) (hn : 1000 ≤ n) : ∃ A, f_75 n I L = some (A, L) ∧ CQ t N J A (lnO t N p H) ∧ ((lnO t N p H).1 = 0 → DRC A (lnH t N p H) (lnW t N p H W)) ∧ ∀ c i, (c < 14 ∨ 22 < c) → A c i = I c i := by
  have q0 : H.1 0 ≤ 1000 := ho.1.1
  have q4 : H.1 4 ≤ 4 := ho.1.2.2.2.2.1
  have q5 : H.1 5 ≤ 6 := ho.1.2.2.2.2.2.1
  have q6 : H.1 6 ≤ 5 := ho.1.2.2.2.2.2.2.1
  have q7 : H.1 7 ≤ 12 := ho.1.2.2.2.2.2.2.2.1
  obtain ⟨j, j1, j2, j3⟩ := CQ_at h
  obtain ⟨k1, k2⟩ := j3 rfl
  have k1 : I 23 j = nI (tk t N p) := k1
  have h15 := tk_le (t := t) (n := N) (p := p)
  have hne : tk t N p ≠ 0 := fun q => by have := tk_0.mp q; omega
  have i0 : I 15 0 = nI (H.1 0) := hD.1 0 (by omega)
  have i5 : I 15 5 = nI (H.1 5) := hD.1 5 (by omega)
  have i4 : I 15 4 = nI (H.1 4) := hD.1 4 (by omega)
  have i6 : I 15 6 = nI (H.1 6) := hD.1 6 (by omega)
  have i7 : I 15 7 = nI (H.1 7) := hD.1 7 (by omega)
  -- a wrong opening
  have wrong : lnO t N p H = (1, p) → ∃ A, ((f_85 1 I L).bind fun q14 => some (q14.1, q14.2)) = some (A, L) ∧ CQ t N J A (lnO t N p H) ∧ ((lnO t N p H).1 = 0 → DRC A (lnH t N p H) (lnW t N p H W)) ∧ ∀ c i, (c < 14 ∨ 22 < c) → A c i = I c i := fun e => by
    obtain ⟨A, a1, a2, a3⟩ := e85 (L := L) h (k := 1) (by omega) (by omega)
    rw [e]
    exact ⟨A, by rw [show f_85 1 I L = some (A, L) from a1, q_bs], a2, fun q => absurd q (show ¬ (1 : Nat) = 0 by omega), fun c i hc => a3 c i (by omega)⟩
  have cant : lnO t N p H = (1, p) → ∃ A, ((f_85 1 I L).bind fun q0 => c_75_2 n q0.1 q0.2) = some (A, L) ∧ CQ t N J A (lnO t N p H) ∧ ((lnO t N p H).1 = 0 → DRC A (lnH t N p H) (lnW t N p H W)) ∧ ∀ c i, (c < 14 ∨ 22 < c) → A c i = I c i := fun e => by
    obtain ⟨A, a1, a2, a3⟩ := e75_x (L := L) (n := n) h
    rw [e]
    exact ⟨A, a1, a2, fun q => absurd q (show ¬ (1 : Nat) = 0 by omega), fun c i hc => a3 c i (by omega) (by omega)⟩
  -- too many
  have many : ∀ (F : FI → FL → Option (FI × FL)), lnO t N p H = (3, p) → F I L = ((f_85 3 I L).bind fun q5 => some (q5.1, q5.2)) → ∃ A, ((F I L).bind fun q0 => c_75_2 n q0.1 q0.2) = some (A, L) ∧ CQ t N J A (lnO t N p H) ∧ ((lnO t N p H).1 = 0 → DRC A (lnH t N p H) (lnW t N p H W)) ∧ ∀ c i, (c < 14 ∨ 22 < c) → A c i = I c i := fun F e hF => by
    obtain ⟨A, a1, a2, a3⟩ := e85 (L := L) h (k := 3) (by omega) (by omega)
    have e3 : flo 3 (0, p) = (3, p) := rfl
    rw [e3] at a2
    obtain ⟨B, b1, b2, b3, b4⟩ := e75_2 (L := L) (n := n) (o := (3, p)) (H := (fun _ => 0, fun _ _ => 0)) (H' := (fun _ => 0, fun _ _ => 0)) (W' := fun _ => 0) a2 (fun q => absurd q (show ¬ (3 : Nat) = 0 by omega)) rfl
    rw [xp_f (show (3, p).1 ≠ 0 from by show (3 : Nat) ≠ 0; omega)] at b2
    rw [e]
    refine ⟨B, ?_, b2, fun q => absurd q (show ¬ (3 : Nat) = 0 by omega), fun c i hc => (b4 c i (by omega) (by omega)).trans (a3 c i (by omega))⟩
    rw [hF, show f_85 3 I L = some (A, L) from a1, q_bs, q_bs]
    exact b1
  -- a line's body is read
  have body : ∀ (F : FI → FL → Option (FI × FL)) (o1 : Nat × Nat) (H1 : HD) (W1 : Nat → Nat), (∃ A, F I L = some (A, L) ∧ CQ t N J A o1 ∧ (o1.1 = 0 → DRC A H1 W1) ∧ ∀ c i, (c < 14 ∨ 22 < c) → A c i = I c i) → H1.1 0 = H.1 0 → lnO t N p H = xp t N 3 o1 → lnH t N p H = hs H1 0 (H.1 0 + 1) → lnW t N p H W = W1 → ∃ A, ((F I L).bind fun q0 => c_75_2 n q0.1 q0.2) = some (A, L) ∧ CQ t N J A (lnO t N p H) ∧ ((lnO t N p H).1 = 0 → DRC A (lnH t N p H) (lnW t N p H W)) ∧ ∀ c i, (c < 14 ∨ 22 < c) → A c i = I c i := fun F o1 H1 W1 ⟨A, a1, a2, a3, a4⟩ hl eO eH eW => by
    obtain ⟨B, b1, b2, b3, b4⟩ := e75_2 (L := L) (n := n) (H := H) a2 a3 hl
    rw [eO, eH, eW, a1, q_bs]
    exact ⟨B, b1, b2, b3, fun c i hc => (b4 c i (by omega) (by omega)).trans (a4 c i hc)⟩
  unfold f_75
  rw [i0]
  by_cases hz : H.1 0 = 0
  · rw [if_neg (fun q => q (by rw [hz]; rfl))]
    unfold c_75_0
    rw [j2, ku_if (by omega) (by omega), nI_clamp (by omega), k1]
    by_cases h4 : tk t N p = 4
    · rw [if_neg (fun q => q (by rw [h4]; rfl))]
      unfold c_75_1
      rw [if_pos rfl, j2, ku_if (by omega) (by omega), nI_clamp (by omega), k1, h4]
      have eO : lnO t N p H = xp t N 3 (hdO t N (0, p)) := by unfold lnO; rw [if_pos hz, if_pos h4]
      have eH : lnH t N p H = hs (hdH t N (0, p) H) 0 (H.1 0 + 1) := by unfold lnH lnH0; rw [if_pos hz]
      have eW : lnW t N p H W = W := by unfold lnW; rw [if_pos hz]
      obtain ⟨A, a1, a2, a3, a4⟩ := e76 (L := L) h hD
      exact body f_76 _ _ W ⟨A, a1, a2, fun _ => a3, fun c i hc => a4 c i (by omega) (by omega)⟩ (by
        show (hs (hs (hs H 1 _) 2 _) 3 _).1 0 = _
        rw [hs_o (by decide), hs_o (by decide), hs_o (by decide)]) eO eH eW
    · rw [if_pos (by rw [ku_4, nI_eq (by omega) (by omega)]; exact h4)]
      unfold c_75_1
      rw [if_neg (by decide)]
      exact wrong (by unfold lnO; rw [if_pos hz, if_neg h4])
  · rw [if_pos (nI_ne0 (by omega) (by omega))]
    unfold c_75_0
    rw [j2, ku_if (by omega) (by omega), nI_clamp (by omega), k1]
    by_cases h4 : tk t N p = 4
    · rw [if_neg (fun q => q (by rw [h4]; rfl))]
      unfold c_75_1
      rw [if_neg (by decide)]
      exact wrong (by unfold lnO; rw [if_neg hz, h4]; rfl)
    · rw [if_pos (by rw [ku_4, nI_eq (by omega) (by omega)]; exact h4)]
      unfold c_75_1
      rw [if_pos rfl, j2, ku_if (by omega) (by omega), nI_clamp (by omega), k1]
      by_cases h8 : tk t N p = 8
      · have eH : lnH t N p H = hs (rmH t N (0, p) H) 0 (H.1 0 + 1) := by unfold lnH lnH0; rw [if_neg hz, if_pos h8]
        have eW : lnW t N p H W = rmW t N (0, p) H W := by unfold lnW; rw [if_neg hz, if_pos h8]
        rw [h8]
        by_cases hR : H.1 4 < 4
        · have eO : lnO t N p H = xp t N 3 (rmO t N (0, p)) := by unfold lnO; rw [if_neg hz, if_pos h8, if_pos hR]
          obtain ⟨A, a1, a2, a3, a4⟩ := e77 (L := L) h hD hR
          exact body f_77 _ _ _ ⟨A, a1, a2, fun _ => a3, fun c i hc => a4 c i (by omega) (by omega) (by omega) (by omega)⟩ (hs_o (by decide)) eO eH eW
        · have eO : lnO t N p H = (3, p) := by unfold lnO; rw [if_neg hz, if_pos h8, if_neg hR]
          exact many f_77 eO (by unfold f_77; rw [i4, ku_4, if_neg (nI_nlt (by omega) (by omega))])
      · by_cases h11 : tk t N p = 11
        · have eH : lnH t N p H = hs (wyH t N (0, p) H) 0 (H.1 0 + 1) := by unfold lnH lnH0; rw [if_neg hz, if_neg h8, if_pos h11]
          have eW : lnW t N p H W = W := by unfold lnW; rw [if_neg hz, if_neg h8]
          rw [h11]
          by_cases hR : H.1 5 < 6
          · have eO : lnO t N p H = xp t N 3 (wyO t N (H.1 4) (0, p)) := by unfold lnO; rw [if_neg hz, if_neg h8, if_pos h11, if_pos hR]
            obtain ⟨A, a1, a2, a3, a4⟩ := e78 (L := L) h hD q4 hR
            exact body f_78 _ _ _ ⟨A, a1, a2, a3, fun c i hc => a4 c i (by omega) (by omega) (by omega)⟩ (hs_o (by decide)) eO eH eW
          · have eO : lnO t N p H = (3, p) := by unfold lnO; rw [if_neg hz, if_neg h8, if_pos h11, if_neg hR]
            exact many f_78 eO (by unfold f_78; rw [i5, show (6 : Int32) = nI 6 from rfl, if_neg (nI_nlt (by omega) (by omega))])
        · by_cases h12 : tk t N p = 12
          · have eH : lnH t N p H = hs (vsH t N (0, p) H) 0 (H.1 0 + 1) := by unfold lnH lnH0; rw [if_neg hz, if_neg h8, if_neg h11, if_pos h12]
            have eW : lnW t N p H W = W := by unfold lnW; rw [if_neg hz, if_neg h8]
            rw [h12]
            by_cases hR : H.1 6 < 5
            · have eO : lnO t N p H = xp t N 3 (vsO t N (H.1 4) (0, p)) := by unfold lnO; rw [if_neg hz, if_neg h8, if_neg h11, if_pos h12, if_pos hR]
              obtain ⟨A, a1, a2, a3, a4⟩ := e79 (L := L) h hD q4 hR
              exact body f_79 _ _ _ ⟨A, a1, a2, fun _ => a3, fun c i hc => a4 c i (by omega) (by omega) (by omega) (by omega)⟩ (hs_o (by decide)) eO eH eW
            · have eO : lnO t N p H = (3, p) := by unfold lnO; rw [if_neg hz, if_neg h8, if_neg h11, if_pos h12, if_neg hR]
              exact many f_79 eO (by unfold f_79; rw [i6, ku_5, if_neg (nI_nlt (by omega) (by omega))])
          · by_cases h15' : tk t N p = 15
            · have eH : lnH t N p H = hs (rdS t N (0, p) H).2 0 (H.1 0 + 1) := by unfold lnH lnH0; rw [if_neg hz, if_neg h8, if_neg h11, if_neg h12]
              have eW : lnW t N p H W = W := by unfold lnW; rw [if_neg hz, if_neg h8]
              rw [h15']
              by_cases hR : H.1 7 = 0
              · have eO : lnO t N p H = xp t N 3 (rdS t N (0, p) H).1 := by unfold lnO; rw [if_neg hz, if_neg h8, if_neg h11, if_neg h12, if_pos h15', if_pos hR]
                obtain ⟨A, a1, a2, a3, a4⟩ := e80 (L := L) h hD q4 hR hn
                have hi := rdS_i (H := H) h15' hp hR
                exact body (f_80 n) _ _ _ ⟨A, a1, a2, fun _ => a3, fun c i hc => a4 c i (by omega) (by omega) (by omega)⟩ (hi.1.2.1 0 (by decide)) eO eH eW
              · have eO : lnO t N p H = (3, p) := by unfold lnO; rw [if_neg hz, if_neg h8, if_neg h11, if_neg h12, if_pos h15', if_neg hR]
                exact many (f_80 n) eO (by unfold f_80; rw [i7, if_neg (nI_nle (by omega) (by omega))])
            · have eO : lnO t N p H = (1, p) := by unfold lnO; rw [if_neg hz, if_neg h8, if_neg h11, if_neg h12, if_neg h15']
              have hc := cant eO
              rcases (show tk t N p = 1 ∨ tk t N p = 2 ∨ tk t N p = 3 ∨ tk t N p = 5 ∨ tk t N p = 6 ∨ tk t N p = 7 ∨ tk t N p = 9 ∨ tk t N p = 10 ∨ tk t N p = 13 ∨ tk t N p = 14 by omega) with e | e | e | e | e | e | e | e | e | e <;> rw [e] <;> exact hc
/-- the empty house -/
def HD0 : HD := (fun _ => 0, fun _ _ => 0)
theorem HOK_0 (W : Nat → Nat) : HOK HD0 W AD0 := by
  refine ⟨⟨by decide, by decide, by decide, by decide, by decide, by decide, by decide, by decide, by decide⟩, ?_, ?_, ?_, ?_, ?_, fun _ => ⟨rfl, rfl, rfl, rfl, rfl⟩, fun h => absurd h (Nat.lt_irrefl 0)⟩
  · intro r hr; exact absurd hr (Nat.not_lt_zero r)
  · intro r hr; exact absurd hr (Nat.not_lt_zero r)
  · intro r hr; exact absurd hr (Nat.not_lt_zero r)
  · intro r hr; exact absurd hr (Nat.not_lt_zero r)
  · intro r hr; exact absurd hr (Nat.not_lt_zero r)
theorem e16 (hn : 1000 ≤ n) (W : Nat → Nat) : ∃ A, f_16 n I L = some (A, L) ∧ DRC A HD0 W ∧ ∀ c i, c ≠ 15 → c ≠ 18 → A c i = I c i := by
  unfold f_16
  refine lpEk (fun m k (s : FI) => c_16_0 n m (nI k) s L) 4 (fun k s => (∀ r, r < k → s 18 r = nI 0) ∧ ∀ c i, c ≠ 18 → s c i = u2 (u2 (u2 (u2 (u2 (u2 (u2 (u2 I 15 0 0) 15 1 0) 15 2 0) 15 3 0) 15 4 0) 15 5 0) 15 6 0) 15 7 0 c i) (fun s => some (s, L)) n 0 _ (by omega) (by omega) ⟨fun r hr => absurd hr (by omega), fun _ _ _ => rfl⟩ (fun s hs e => ?_) (fun m s hs => ?_) (fun m k s hk hs => ?_)
  · refine ⟨s, e, ⟨fun j hj => ?_, fun r hr => absurd hr (Nat.not_lt_zero r), fun r hr => absurd hr (Nat.not_lt_zero r), fun r hr => ?_, fun r hr => absurd hr (Nat.not_lt_zero r), fun r hr => absurd hr (Nat.not_lt_zero r), fun r hr => absurd hr (Nat.not_lt_zero r)⟩, fun c i h1 h2 => by rw [hs.2 c i h2, u2_c h1, u2_c h1, u2_c h1, u2_c h1, u2_c h1, u2_c h1, u2_c h1, u2_c h1]⟩
    · rw [hs.2 15 j (by decide)]
      rcases (show j = 0 ∨ j = 1 ∨ j = 2 ∨ j = 3 ∨ j = 4 ∨ j = 5 ∨ j = 6 ∨ j = 7 by omega) with rfl | rfl | rfl | rfl | rfl | rfl | rfl | rfl <;> rfl
    · rw [hs.1 r hr]; rfl
  · show b_16_0 n (c_16_0 n m) (nI 4) s L = _
    unfold b_16_0
    rw [if_pos (by decide)]
  · refine ⟨u2 s 18 k (nI 0), ⟨fun r hr => ?_, fun c i hc => by rw [u2_c hc]; exact hs.2 c i hc⟩, ?_⟩
    · by_cases e : r = k
      · subst e; exact u2_s
      · rw [u2_o e]; exact hs.1 r (by omega)
    · show b_16_0 n (c_16_0 n m) (nI k) s L = _
      unfold b_16_0
      rw [ku_4, if_neg (nI_ge hk (by omega)), ku_if hk (by omega), nI_clamp (by omega), nI_1]; rfl
/-- what all lines come to -/
def rdR (t : Nat → Int32) (N : Nat) : (Nat × Nat) × HD × (Nat → Nat) := lns t N 501 ((0, tP t N 0), HD0, fun _ => 0)
/-- the state of a reading, from line to line -/
def LNI (N i : Nat) (s : (Nat × Nat) × HD × (Nat → Nat)) : Prop := s.1.1 = 0 → HOK s.2.1 s.2.2 AD0 ∧ s.2.1.1 0 ≤ s.1.2 ∧ i ≤ s.1.2 ∧ s.1.2 ≤ N
theorem LNI_s {i : Nat} {s : (Nat × Nat) × HD × (Nat → Nat)} (hN : N ≤ 500) (h : LNI N i s) (hg : s.1.1 = 0) (hk : tk t N s.1.2 ≠ 0) : LNI N (i + 1) (lnO t N s.1.2 s.2.1, lnH t N s.1.2 s.2.1, lnW t N s.1.2 s.2.1 s.2.2) := fun hg2 => by
  obtain ⟨h1, h2, h3, h4⟩ := h hg
  have hp : s.1.2 < N := by
    rcases Nat.lt_or_ge s.1.2 N with q | q
    · exact q
    · exact absurd (tk_0.mpr q) hk
  obtain ⟨a, b, c, d⟩ := ln_ok h1 h2 hp hN hg2
  exact ⟨a, b, by show i + 1 ≤ (lnO t N s.1.2 s.2.1).2; omega, d⟩
theorem LNI_0 : LNI N 0 ((0, tP t N 0), HD0, fun _ => 0) := fun _ => ⟨HOK_0 _, Nat.zero_le _, Nat.zero_le _, tP_le 0⟩
/-- the class has read -/
theorem e74 (ht : ∀ i, i < N → I 2 i = t i) (hN : N ≤ 500) (h1 : I 1 1 = nI N) (hn : 1000 ≤ n) : ∃ A, f_74 n I L = some (A, L) ∧ A 14 1 = nI (rdR t N).1.1 ∧ (rdR t N).1.1 ≤ 3 ∧ ((rdR t N).1.1 ≠ 0 → A 14 2 = nI (rdR t N).1.2) ∧ ((rdR t N).1.1 = 0 → A 14 2 = -1 ∧ DRC A (rdR t N).2.1 (rdR t N).2.2 ∧ HOK (rdR t N).2.1 (rdR t N).2.2 AD0) ∧ ∀ c i, (c < 14 ∨ 25 < c) → A c i = I c i := by
  have hmin : f_359 (I 1 1) 500 I L = some (nI N) := by
    unfold f_359
    rw [h1, show (500 : Int32) = nI 500 from rfl, if_neg (nI_nlt (by omega) (by omega))]
  obtain ⟨J, A1, a1, a2, a3⟩ := e86 (L := L) ht hN hn
  obtain ⟨A2, b1, b2, b3⟩ := e16 (I := u2 (u2 (u2 A1 14 6 0) 14 1 0) 14 2 (-1)) (L := L) hn (fun _ => 0)
  have hCQ : CQ t N J A2 (0, tP t N 0) := by
    refine ⟨hN, ARR_fr a2 (fun c i hc => by rw [b3 c i (by omega) (by omega), u2_c (by omega), u2_c (by omega), u2_c (by omega)]), ⟨0, Nat.zero_le _, ?_, fun _ => rfl⟩, ?_, by show 0 ≤ 3; omega, fun q => absurd rfl q, fun _ => ?_, tP_le 0⟩
    · rw [b3 14 6 (by decide) (by decide), u2_o (by decide), u2_o (by decide), u2_s]; rfl
    · rw [b3 14 1 (by decide) (by decide), u2_o (by decide), u2_s]; rfl
    · rw [b3 14 2 (by decide) (by decide), u2_s]
  have hfr : ∀ c i, (c < 14 ∨ 25 < c) → A2 c i = I c i := fun c i hc => by rw [b3 c i (by omega) (by omega), u2_c (by omega), u2_c (by omega), u2_c (by omega)]; exact a3 c i (by omega) (by omega) (by omega)
  have key : ∀ (d i m : Nat) (s : (Nat × Nat) × HD × (Nat → Nat)) (B : FI), i + d = 501 → d < m → LNI N i s → CQ t N J B s.1 → (s.1.1 = 0 → DRC B s.2.1 s.2.2) → (∀ c i, (c < 14 ∨ 25 < c) → B c i = I c i) → ∃ A, c_74_0 n m (nI i) B L = some (A, L) ∧ CQ t N J A (lns t N d s).1 ∧ ((lns t N d s).1.1 = 0 → DRC A (lns t N d s).2.1 (lns t N d s).2.2 ∧ HOK (lns t N d s).2.1 (lns t N d s).2.2 AD0) ∧ ∀ c i, (c < 14 ∨ 25 < c) → A c i = I c i := by
    intro d
    induction d with
    | zero =>
      intro i m s B hi hm k0 k1 k2 k3
      obtain ⟨m, rfl⟩ : ∃ m', m = m' + 1 := ⟨m - 1, by omega⟩
      refine ⟨B, ?_, k1, fun q => ⟨k2 q, (k0 q).1⟩, k3⟩
      show b_74_0 n (c_74_0 n m) (nI i) B L = _
      unfold b_74_0
      rw [if_pos (by rw [show i = 501 by omega]; decide)]
    | succ d ih =>
      intro i m s B hi hm k0 k1 k2 k3
      obtain ⟨m, rfl⟩ : ∃ m', m = m' + 1 := ⟨m - 1, by omega⟩
      obtain ⟨j, j1, j2, j3⟩ := CQ_at k1
      obtain ⟨f1, f2⟩ := CQ_f k1
      have h15 := tk_le (t := t) (n := N) (p := s.1.2)
      have er : lns t N (d + 1) s = if s.1.1 = 0 ∧ tk t N s.1.2 ≠ 0 then lns t N d (lnO t N s.1.2 s.2.1, lnH t N s.1.2 s.2.1, lnW t N s.1.2 s.2.1 s.2.2) else s := rfl
      show ∃ A, b_74_0 n (c_74_0 n m) (nI i) B L = some (A, L) ∧ _
      unfold b_74_0
      rw [show (500 : Int32) = nI 500 from rfl, if_neg (nI_nlt (by omega) (by omega)), f1, j2, ku_if (by omega) (by omega), nI_clamp (by omega)]
      by_cases z : s.1.1 = 0
      · rw [if_neg (fun q => q (by rw [z]; rfl)), (j3 z).1]
        by_cases q : tk t N s.1.2 = 0
        · rw [if_neg (fun x => x.2 q)] at er
          rw [if_pos (by rw [q]; rfl), er]
          exact ⟨B, rfl, k1, fun q => ⟨k2 q, (k0 q).1⟩, k3⟩
        · rw [if_pos ⟨z, q⟩] at er
          obtain ⟨u1, u2', u3, u4⟩ := k0 z
          have hp : s.1.2 < N := by
            rcases Nat.lt_or_ge s.1.2 N with x | x
            · exact x
            · exact absurd (tk_0.mpr x) q
          have hs1 : s.1 = (0, s.1.2) := by rw [← z]
          obtain ⟨C, c1, c2, c3, c4⟩ := e75 (L := L) (p := s.1.2) (by rw [← hs1]; exact k1) hp (k2 z) u1 hn
          rw [if_neg (nI_ne0 (by omega) (by omega)), c1, q_bs, nI_1, er]
          exact ih (i + 1) m (lnO t N s.1.2 s.2.1, lnH t N s.1.2 s.2.1, lnW t N s.1.2 s.2.1 s.2.2) C (by omega) (by omega) (LNI_s hN k0 z q) c2 c3 (fun c i hc => by rw [c4 c i (by omega)]; exact k3 c i hc)
      · rw [if_neg (fun x => z x.1)] at er
        rw [if_pos (nI_ne0 (by omega) (by omega)), er]
        exact ⟨B, rfl, k1, fun q => absurd q z, k3⟩
  obtain ⟨A, r1, r2, r3, r4⟩ := key 501 0 n ((0, tP t N 0), HD0, fun _ => 0) A2 (by omega) (by omega) LNI_0 hCQ (fun _ => b2) hfr
  refine ⟨A, ?_, r2.2.2.2.1, r2.2.2.2.2.1, r2.2.2.2.2.2.1, fun q => ⟨r2.2.2.2.2.2.2.1 q, r3 q⟩, r4⟩
  unfold f_74
  rw [hmin, q_bs, a1, q_bs]
  (first | dsimp +instances only | skip)
  rw [b1, q_bs]
  exact r1
/-- all lines are read: at the end, or at a fault -/
theorem lns_end : ∀ (d i : Nat) {s : (Nat × Nat) × HD × (Nat → Nat)}, N ≤ 500 → i + d = 501 → LNI N i s → ¬ ((lns t N d s).1.1 = 0 ∧ tk t N (lns t N d s).1.2 ≠ 0)
  | 0, i, s, hN, hi, h => fun ⟨q1, _⟩ => by
    have q1' : s.1.1 = 0 := q1
    have := h q1'
    omega
  | d + 1, i, s, hN, hi, h => by
    have er : lns t N (d + 1) s = if s.1.1 = 0 ∧ tk t N s.1.2 ≠ 0 then lns t N d (lnO t N s.1.2 s.2.1, lnH t N s.1.2 s.2.1, lnW t N s.1.2 s.2.1 s.2.2) else s := rfl
    by_cases q : s.1.1 = 0 ∧ tk t N s.1.2 ≠ 0
    · rw [if_pos q] at er
      rw [er]
      exact lns_end d (i + 1) hN (by omega) (LNI_s hN h q.1 q.2)
    · rw [if_neg q] at er
      rw [er]; exact q
end CRL
