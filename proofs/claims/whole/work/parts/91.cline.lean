/-! LAYER 3: a line told well keeps a house; the class reads all lines -/
section LNK
variable {I : FI} {L : FL} {t : Nat → Int32} {N J n p : Nat} {o : Nat × Nat} {H : HD} {W : Nat → Nat}
theorem flo_1 {k : Nat} (hk : k ≠ 0) : (flo k o).1 ≠ 0 := by
  unfold flo
  by_cases z : o.1 = 0
  · rw [if_pos z]; exact hk
  · rw [if_neg z]; exact z
/-- what a round's places keep -/
def RDI (N : Nat) (H : HD) (q : Nat) (s : (Nat × Nat) × HD) : Prop := s.2.1 7 ≤ 12 ∧ (∀ j, j ≠ 7 → s.2.1 j = H.1 j) ∧ (∀ b i, b ≠ 3 → s.2.2 b i = H.2 b i) ∧ (s.1.1 = 0 → ∀ i, i < s.2.1 7 → s.2.2 3 i < H.1 4) ∧ q ≤ s.1.2 ∧ s.1.2 ≤ N
theorem RDI_p {q : Nat} {s : (Nat × Nat) × HD} (h : RDI N H q s) : RDI N H q (plq t N s) ∧ 1 ≤ (plq t N s).2.1 7 := by
  obtain ⟨h1, h2, h3, h4, h5, h6⟩ := h
  unfold plq
  by_cases z : s.2.1 7 < 12
  · rw [if_pos z]
    have hle := nmo_le (t := t) (lo := 0) (hx := s.2.1 4) h6
    refine ⟨⟨?_, fun j hj => ?_, fun b i hb => ?_, fun hg i hi => ?_, by show q ≤ (nmo t N 0 (s.2.1 4) s.1).2; omega, hle.2⟩, ?_⟩
    · show (hs _ 7 _).1 7 ≤ 12
      rw [hs_s]; omega
    · show (hs _ 7 _).1 j = _
      rw [hs_o hj]; exact h2 j hj
    · show (ha s.2 3 (s.2.1 7) _).2 b i = _
      rw [ha_o (Or.inl hb)]; exact h3 b i hb
    · have hg' : (nmo t N 0 (s.2.1 4) s.1).1 = 0 := hg
      have hi' : i < (hs (ha s.2 3 (s.2.1 7) (nmv t N 0 (s.2.1 4) s.1)) 7 (s.2.1 7 + 1)).1 7 := hi
      rw [hs_s] at hi'
      show (ha s.2 3 (s.2.1 7) (nmv t N 0 (s.2.1 4) s.1)).2 3 i < H.1 4
      by_cases e : i = s.2.1 7
      · subst e
        rw [ha_s, ← h2 4 (by decide)]; exact (nmv_1 hg').2
      · rw [ha_o (Or.inr e)]; exact h4 (nmo_1 hg').1 i (by omega)
    · show 1 ≤ (hs _ 7 _).1 7
      rw [hs_s]; omega
  · rw [if_neg z]
    refine ⟨⟨h1, h2, h3, fun hg => absurd hg ?_, ?_, ?_⟩, ?_⟩
    · exact flo_1 (by split <;> omega)
    · show q ≤ (flo _ s.1).2; rw [flo_2]; exact h5
    · show (flo _ s.1).2 ≤ N; rw [flo_2]; exact h6
    · show 1 ≤ s.2.1 7; omega
theorem RDI_r {q : Nat} : ∀ (d : Nat) {s : (Nat × Nat) × HD}, RDI N H q s → 1 ≤ s.2.1 7 → RDI N H q (rds t N d s) ∧ 1 ≤ (rds t N d s).2.1 7
  | 0, s, h, h1 => ⟨h, h1⟩
  | d + 1, s, h, h1 => by
    show RDI N H q (if s.1.1 = 0 ∧ tk t N s.1.2 = 2 then rds t N d (plq t N s) else s) ∧ 1 ≤ (if s.1.1 = 0 ∧ tk t N s.1.2 = 2 then rds t N d (plq t N s) else s).2.1 7
    split
    · have := RDI_p (t := t) h
      exact RDI_r d this.1 this.2
    · exact ⟨h, h1⟩
theorem rdS_i (h15 : tk t N p = 15) (hp : p < N) (hz : H.1 7 = 0) : RDI N H (nx t N p) (rdS t N (0, p) H) ∧ 1 ≤ (rdS t N (0, p) H).2.1 7 := by
  unfold rdS
  have h0 : RDI N H (nx t N p) (xp t N 15 (0, p), H) := by
    rw [xp_g h15]
    exact ⟨by show H.1 7 ≤ 12; omega, fun _ _ => rfl, fun _ _ _ => rfl, fun _ i hi => by have hi' : i < H.1 7 := hi; omega, Nat.le_refl _, (nx_le (by omega)).2⟩
  have h1 := RDI_p (t := t) h0
  exact RDI_r 13 h1.1 h1.2
/-- a line told well -/
theorem ln_ok (ho : HOK H W AD0) (hl : H.1 0 ≤ p) (hp : p < N) (hN : N ≤ 500) (hg : (lnO t N p H).1 = 0) : HOK (lnH t N p H) (lnW t N p H W) AD0 ∧ (lnH t N p H).1 0 ≤ (lnO t N p H).2 ∧ p < (lnO t N p H).2 ∧ (lnO t N p H).2 ≤ N := by
  have hnx := nx_gt (t := t) hp
  have hnl := (nx_le (t := t) (show p ≤ N by omega)).2
  have o2 := ho.1
  obtain ⟨⟨q0, q1, q2, q3, q4, q5, q6, q7, q8⟩, w1, w2, w3, w4, w5, w6, w7⟩ := ho
  have l0 : (lnH t N p H).1 0 = H.1 0 + 1 := hs_s
  have lo : ∀ j, j ≠ 0 → (lnH t N p H).1 j = (lnH0 t N p H).1 j := fun j hj => hs_o hj
  have l2 : ∀ b i, (lnH t N p H).2 b i = (lnH0 t N p H).2 b i := fun _ _ => rfl
  -- enough to look at what was added
  have fin : (∃ q, p < q ∧ q ≤ (lnO t N p H).2 ∧ (lnO t N p H).2 ≤ N) → ((lnH0 t N p H).1 1 ≤ 3 ∧ (lnH0 t N p H).1 2 ≤ 10 ∧ (lnH0 t N p H).1 3 ≤ 30 ∧ (lnH0 t N p H).1 4 ≤ 4 ∧ (lnH0 t N p H).1 5 ≤ 6 ∧ (lnH0 t N p H).1 6 ≤ 5 ∧ (lnH0 t N p H).1 7 ≤ 12 ∧ 0 < (lnH0 t N p H).1 3) → (∀ r, r < (lnH0 t N p H).1 4 → 1 ≤ (lnH0 t N p H).2 0 r ∧ (lnH0 t N p H).2 0 r ≤ 7 ∧ lnW t N p H W r ≤ 99) → (∀ v, v < (lnH0 t N p H).1 6 → (lnH0 t N p H).2 1 v < (lnH0 t N p H).1 4 ∧ (lnH0 t N p H).2 2 v < 30) → (∀ i, i < (lnH0 t N p H).1 7 → (lnH0 t N p H).2 3 i < (lnH0 t N p H).1 4) → (∀ k, k < (lnH0 t N p H).1 5 → (lnH0 t N p H).2 4 k < (lnH0 t N p H).1 4 ∧ (lnH0 t N p H).2 5 k < (lnH0 t N p H).1 4 ∧ (lnH0 t N p H).2 4 k ≠ (lnH0 t N p H).2 5 k) → HOK (lnH t N p H) (lnW t N p H W) AD0 ∧ (lnH t N p H).1 0 ≤ (lnO t N p H).2 ∧ p < (lnO t N p H).2 ∧ (lnO t N p H).2 ≤ N := fun ⟨q, g1, g2, g3⟩ b0 b1 b2 b3 b4 => by
    refine ⟨⟨⟨by rw [l0]; omega, by rw [lo 1 (by decide)]; omega, by rw [lo 2 (by decide)]; omega, by rw [lo 3 (by decide)]; omega, by rw [lo 4 (by decide)]; omega, by rw [lo 5 (by decide)]; omega, by rw [lo 6 (by decide)]; omega, by rw [lo 7 (by decide)]; omega, by show 0 ≤ 30; omega⟩, ?_, ?_, ?_, ?_, fun i hi => by have hi' : i < 0 := hi; omega, fun z => by rw [l0] at z; omega, fun _ => by rw [lo 3 (by decide)]; omega⟩, by rw [l0]; omega, by omega, g3⟩
    · intro r hr; rw [lo 4 (by decide)] at hr; exact b1 r hr
    · intro v hv; rw [lo 6 (by decide)] at hv; rw [lo 4 (by decide)]; exact b2 v hv
    · intro v hv; rw [lo 7 (by decide)] at hv; rw [lo 4 (by decide)]; exact b3 v hv
    · intro v hv; rw [lo 5 (by decide)] at hv; rw [lo 4 (by decide)]; exact b4 v hv
  by_cases hz : H.1 0 = 0
  · have z := w6 hz
    have eO : lnO t N p H = if tk t N p = 4 then xp t N 3 (hdO t N (0, p)) else (1, p) := by unfold lnO; rw [if_pos hz]
    have eH : lnH0 t N p H = hdH t N (0, p) H := by unfold lnH0; rw [if_pos hz]
    have h4 : tk t N p = 4 := by
      apply Classical.byContradiction
      intro q
      rw [eO, if_neg q] at hg
      exact absurd hg (show ¬ (1 : Nat) = 0 by omega)
    rw [if_pos h4] at eO
    have v1 := nmv_b (t := t) (N := N) (lo := 0) (hx := 4) (o := hdA t N (0, p)) (by omega)
    have v2 := nmv_b (t := t) (N := N) (lo := 0) (hx := 11) (o := hdB t N (0, p)) (by omega)
    have v3 := nmv_b (t := t) (N := N) (lo := 1) (hx := 31) (o := hdC t N (0, p)) (by omega)
    have m0 : (xp t N 4 (0, p)).2 = nx t N p := by rw [xp_g h4]
    have m1 := xp_le (t := t) (N := N) (k := 5) (o := xp t N 4 (0, p)) (by omega)
    have m2 := nmo_le (t := t) (N := N) (lo := 0) (hx := 4) (o := hdA t N (0, p)) m1.2
    have m3 := xp_le (t := t) (N := N) (k := 6) (o := nmo t N 0 4 (hdA t N (0, p))) m2.2
    have m4 := nmo_le (t := t) (N := N) (lo := 0) (hx := 11) (o := hdB t N (0, p)) m3.2
    have m5 := xp_le (t := t) (N := N) (k := 7) (o := nmo t N 0 11 (hdB t N (0, p))) m4.2
    have m6 := nmo_le (t := t) (N := N) (lo := 1) (hx := 31) (o := hdC t N (0, p)) m5.2
    have m7 := xp_le (t := t) (N := N) (k := 3) (o := hdO t N (0, p)) m6.2
    rw [eH] at fin
    have f1 : (hdH t N (0, p) H).1 1 = nmv t N 0 4 (hdA t N (0, p)) := by
      show (hs (hs (hs H 1 _) 2 _) 3 _).1 1 = _
      rw [hs_o (by decide), hs_o (by decide), hs_s]
    have f2 : (hdH t N (0, p) H).1 2 = nmv t N 0 11 (hdB t N (0, p)) := by
      show (hs (hs (hs H 1 _) 2 _) 3 _).1 2 = _
      rw [hs_o (by decide), hs_s]
    have f3 : (hdH t N (0, p) H).1 3 = nmv t N 1 31 (hdC t N (0, p)) := hs_s
    have fo : ∀ j, j ≠ 1 → j ≠ 2 → j ≠ 3 → (hdH t N (0, p) H).1 j = H.1 j := fun j a b c => by
      show (hs (hs (hs H 1 _) 2 _) 3 _).1 j = _
      rw [hs_o c, hs_o b, hs_o a]
    have fv : ∀ b i, (hdH t N (0, p) H).2 b i = H.2 b i := fun _ _ => rfl
    have eW : lnW t N p H W = W := by unfold lnW; rw [if_pos hz]
    refine fin ⟨nx t N p, hnx, ?_, ?_⟩ ?_ ?_ ?_ ?_ ?_
    · rw [eO]
      have a1 : (xp t N 5 (xp t N 4 (0, p))).2 = (hdA t N (0, p)).2 := rfl
      have a2 : (xp t N 6 (nmo t N 0 4 (hdA t N (0, p)))).2 = (hdB t N (0, p)).2 := rfl
      have a3 : (xp t N 7 (nmo t N 0 11 (hdB t N (0, p)))).2 = (hdC t N (0, p)).2 := rfl
      have a4 : (nmo t N 1 31 (hdC t N (0, p))).2 = (hdO t N (0, p)).2 := rfl
      omega
    · rw [eO]; exact m7.2
    · rw [f1, f2, f3, fo 4 (by decide) (by decide) (by decide), fo 5 (by decide) (by decide) (by decide), fo 6 (by decide) (by decide) (by decide), fo 7 (by decide) (by decide) (by decide)]
      omega
    · intro r hr
      rw [fo 4 (by decide) (by decide) (by decide)] at hr
      rw [fv, eW]; exact w1 r hr
    · intro r hr
      rw [fo 6 (by decide) (by decide) (by decide)] at hr
      rw [fv, fv, fo 4 (by decide) (by decide) (by decide)]; exact w2 r hr
    · intro r hr
      rw [fo 7 (by decide) (by decide) (by decide)] at hr
      rw [fv, fo 4 (by decide) (by decide) (by decide)]; exact w3 r hr
    · intro r hr
      rw [fo 5 (by decide) (by decide) (by decide)] at hr
      rw [fv, fv, fo 4 (by decide) (by decide) (by decide)]; exact w4 r hr
  · have q3' := w7 (by omega)
    by_cases h8 : tk t N p = 8
    · have eO : lnO t N p H = if H.1 4 < 4 then xp t N 3 (rmO t N (0, p)) else (3, p) := by unfold lnO; rw [if_neg hz, if_pos h8]
      have eH : lnH0 t N p H = rmH t N (0, p) H := by unfold lnH0; rw [if_neg hz, if_pos h8]
      have eW : lnW t N p H W = rmW t N (0, p) H W := by unfold lnW; rw [if_neg hz, if_pos h8]
      have h4 : H.1 4 < 4 := by
        apply Classical.byContradiction
        intro q
        rw [eO, if_neg q] at hg
        exact absurd hg (show ¬ (3 : Nat) = 0 by omega)
      rw [if_pos h4] at eO
      have v1 := nmv_b (t := t) (N := N) (lo := 1) (hx := 8) (o := rmA t N (0, p)) (by omega)
      have v2 := nmv_b (t := t) (N := N) (lo := 0) (hx := 100) (o := rmB t N (0, p)) (by omega)
      have m0 : (xp t N 8 (0, p)).2 = nx t N p := by rw [xp_g h8]
      have m1 := xp_le (t := t) (N := N) (k := 9) (o := xp t N 8 (0, p)) (by omega)
      have m2 := nmo_le (t := t) (N := N) (lo := 1) (hx := 8) (o := rmA t N (0, p)) m1.2
      have m3 := xp_le (t := t) (N := N) (k := 10) (o := nmo t N 1 8 (rmA t N (0, p))) m2.2
      have m4 := nmo_le (t := t) (N := N) (lo := 0) (hx := 100) (o := rmB t N (0, p)) m3.2
      have m7 := xp_le (t := t) (N := N) (k := 3) (o := rmO t N (0, p)) m4.2
      rw [eH, eW] at fin
      have f4 : (rmH t N (0, p) H).1 4 = H.1 4 + 1 := hs_s
      have fo : ∀ j, j ≠ 4 → (rmH t N (0, p) H).1 j = H.1 j := fun j a => hs_o a
      have fv : ∀ b i, (b ≠ 0 ∨ i ≠ H.1 4) → (rmH t N (0, p) H).2 b i = H.2 b i := fun b i h => ha_o h
      rw [eW]
      refine fin ⟨nx t N p, hnx, ?_, ?_⟩ ?_ ?_ ?_ ?_ ?_
      · rw [eO]
        have a1 : (xp t N 9 (xp t N 8 (0, p))).2 = (rmA t N (0, p)).2 := rfl
        have a2 : (xp t N 10 (nmo t N 1 8 (rmA t N (0, p)))).2 = (rmB t N (0, p)).2 := rfl
        have a4 : (nmo t N 0 100 (rmB t N (0, p))).2 = (rmO t N (0, p)).2 := rfl
        omega
      · rw [eO]; exact m7.2
      · rw [f4, fo 1 (by decide), fo 2 (by decide), fo 3 (by decide), fo 5 (by decide), fo 6 (by decide), fo 7 (by decide)]
        omega
      · intro r hr
        rw [f4] at hr
        by_cases e : r = H.1 4
        · subst e
          have e1 : (rmH t N (0, p) H).2 0 (H.1 4) = nmv t N 1 8 (rmA t N (0, p)) := ha_s
          have e2 : rmW t N (0, p) H W (H.1 4) = nmv t N 0 100 (rmB t N (0, p)) := if_pos rfl
          rw [e1, e2]; omega
        · have e2 : rmW t N (0, p) H W r = W r := if_neg e
          rw [fv 0 r (Or.inr e), e2]; exact w1 r (by omega)
      · intro r hr
        rw [fo 6 (by decide)] at hr
        rw [fv 1 r (Or.inl (by decide)), fv 2 r (Or.inl (by decide)), f4]
        have := w2 r hr; omega
      · intro r hr
        rw [fo 7 (by decide)] at hr
        rw [fv 3 r (Or.inl (by decide)), f4]
        have := w3 r hr; omega
      · intro r hr
        rw [fo 5 (by decide)] at hr
        rw [fv 4 r (Or.inl (by decide)), fv 5 r (Or.inl (by decide)), f4]
        have := w4 r hr; omega
    · have eW : lnW t N p H W = W := by unfold lnW; rw [if_neg hz, if_neg h8]
      by_cases h11 : tk t N p = 11
      · have eO : lnO t N p H = if H.1 5 < 6 then xp t N 3 (wyO t N (H.1 4) (0, p)) else (3, p) := by unfold lnO; rw [if_neg hz, if_neg h8, if_pos h11]
        have eH : lnH0 t N p H = wyH t N (0, p) H := by unfold lnH0; rw [if_neg hz, if_neg h8, if_pos h11]
        have h4 : H.1 5 < 6 := by
          apply Classical.byContradiction
          intro q
          rw [eO, if_neg q] at hg
          exact absurd hg (show ¬ (3 : Nat) = 0 by omega)
        rw [if_pos h4] at eO
        have hgw : (wyO t N (H.1 4) (0, p)).1 = 0 := by rw [eO] at hg; exact xp_1 hg
        have v := wy_ne hgw
        have m0 : (xp t N 11 (0, p)).2 = nx t N p := by rw [xp_g h11]
        have m1 := nmo_le (t := t) (N := N) (lo := 0) (hx := H.1 4) (o := xp t N 11 (0, p)) (by omega)
        have m2 : (wyB t N (H.1 4) (0, p)).2 = (wyA t N (H.1 4) (0, p)).2 := by
          unfold wyB
          split
          · exact flo_2
          · rfl
        have a1 : (nmo t N 0 (H.1 4) (xp t N 11 (0, p))).2 = (wyA t N (H.1 4) (0, p)).2 := rfl
        have m4 := nmo_le (t := t) (N := N) (lo := 0) (hx := H.1 4) (o := wyB t N (H.1 4) (0, p)) (by omega)
        have m7 := xp_le (t := t) (N := N) (k := 3) (o := wyO t N (H.1 4) (0, p)) m4.2
        rw [eH, eW] at fin
        have f4 : (wyH t N (0, p) H).1 5 = H.1 5 + 1 := hs_s
        have fo : ∀ j, j ≠ 5 → (wyH t N (0, p) H).1 j = H.1 j := fun j a => hs_o a
        have fv : ∀ b i, ((b ≠ 4 ∧ b ≠ 5) ∨ i ≠ H.1 5) → (wyH t N (0, p) H).2 b i = H.2 b i := fun b i h => by
          show (ha (ha H 4 (H.1 5) _) 5 (H.1 5) _).2 b i = _
          rw [ha_o (by omega), ha_o (by omega)]
        rw [eW]
        refine fin ⟨nx t N p, hnx, ?_, ?_⟩ ?_ ?_ ?_ ?_ ?_
        · rw [eO]
          have a4 : (nmo t N 0 (H.1 4) (wyB t N (H.1 4) (0, p))).2 = (wyO t N (H.1 4) (0, p)).2 := rfl
          omega
        · rw [eO]; exact m7.2
        · rw [f4, fo 1 (by decide), fo 2 (by decide), fo 3 (by decide), fo 4 (by decide), fo 6 (by decide), fo 7 (by decide)]
          omega
        · intro r hr
          rw [fo 4 (by decide)] at hr
          rw [fv 0 r (Or.inl (by decide))]; exact w1 r hr
        · intro r hr
          rw [fo 6 (by decide)] at hr
          rw [fv 1 r (Or.inl (by decide)), fv 2 r (Or.inl (by decide)), fo 4 (by decide)]; exact w2 r hr
        · intro r hr
          rw [fo 7 (by decide)] at hr
          rw [fv 3 r (Or.inl (by decide)), fo 4 (by decide)]; exact w3 r hr
        · intro r hr
          rw [f4] at hr
          rw [fo 4 (by decide)]
          by_cases e : r = H.1 5
          · subst e
            have e1 : (wyH t N (0, p) H).2 4 (H.1 5) = wy1 t N (H.1 4) (0, p) := by
              show (ha (ha H 4 (H.1 5) (wy1 t N (H.1 4) (0, p))) 5 (H.1 5) (nmv t N 0 (H.1 4) (wyB t N (H.1 4) (0, p)))).2 4 (H.1 5) = _
              rw [ha_o (Or.inl (by decide)), ha_s]
            have e2 : (wyH t N (0, p) H).2 5 (H.1 5) = nmv t N 0 (H.1 4) (wyB t N (H.1 4) (0, p)) := ha_s
            rw [e1, e2]; exact v
          · rw [fv 4 r (Or.inr e), fv 5 r (Or.inr e)]; exact w4 r (by omega)
      · by_cases h12 : tk t N p = 12
        · have eO : lnO t N p H = if H.1 6 < 5 then xp t N 3 (vsO t N (H.1 4) (0, p)) else (3, p) := by unfold lnO; rw [if_neg hz, if_neg h8, if_neg h11, if_pos h12]
          have eH : lnH0 t N p H = vsH t N (0, p) H := by unfold lnH0; rw [if_neg hz, if_neg h8, if_neg h11, if_pos h12]
          have h4 : H.1 6 < 5 := by
            apply Classical.byContradiction
            intro q
            rw [eO, if_neg q] at hg
            exact absurd hg (show ¬ (3 : Nat) = 0 by omega)
          rw [if_pos h4] at eO
          have hgw : (vsO t N (H.1 4) (0, p)).1 = 0 := by rw [eO] at hg; exact xp_1 hg
          have hgb : (nmo t N 0 (H.1 4) (vsA t N (0, p))).1 = 0 := xp_1 (nmo_1 hgw).1
          have v1 := nmv_1 hgb
          have v2 := nmv_b (t := t) (N := N) (lo := 0) (hx := 30) (o := vsB t N (H.1 4) (0, p)) (by omega)
          have m0 : (xp t N 12 (0, p)).2 = nx t N p := by rw [xp_g h12]
          have m1 := xp_le (t := t) (N := N) (k := 13) (o := xp t N 12 (0, p)) (by omega)
          have m2 := nmo_le (t := t) (N := N) (lo := 0) (hx := H.1 4) (o := vsA t N (0, p)) m1.2
          have m3 := xp_le (t := t) (N := N) (k := 14) (o := nmo t N 0 (H.1 4) (vsA t N (0, p))) m2.2
          have m4 := nmo_le (t := t) (N := N) (lo := 0) (hx := 30) (o := vsB t N (H.1 4) (0, p)) m3.2
          have m7 := xp_le (t := t) (N := N) (k := 3) (o := vsO t N (H.1 4) (0, p)) m4.2
          rw [eH, eW] at fin
          have f4 : (vsH t N (0, p) H).1 6 = H.1 6 + 1 := hs_s
          have fo : ∀ j, j ≠ 6 → (vsH t N (0, p) H).1 j = H.1 j := fun j a => hs_o a
          have fv : ∀ b i, ((b ≠ 1 ∧ b ≠ 2) ∨ i ≠ H.1 6) → (vsH t N (0, p) H).2 b i = H.2 b i := fun b i h => by
            show (ha (ha H 1 (H.1 6) _) 2 (H.1 6) _).2 b i = _
            rw [ha_o (by omega), ha_o (by omega)]
          rw [eW]
          refine fin ⟨nx t N p, hnx, ?_, ?_⟩ ?_ ?_ ?_ ?_ ?_
          · rw [eO]
            have a1 : (xp t N 13 (xp t N 12 (0, p))).2 = (vsA t N (0, p)).2 := rfl
            have a2 : (xp t N 14 (nmo t N 0 (H.1 4) (vsA t N (0, p)))).2 = (vsB t N (H.1 4) (0, p)).2 := rfl
            have a4 : (nmo t N 0 30 (vsB t N (H.1 4) (0, p))).2 = (vsO t N (H.1 4) (0, p)).2 := rfl
            omega
          · rw [eO]; exact m7.2
          · rw [f4, fo 1 (by decide), fo 2 (by decide), fo 3 (by decide), fo 4 (by decide), fo 5 (by decide), fo 7 (by decide)]
            omega
          · intro r hr
            rw [fo 4 (by decide)] at hr
            rw [fv 0 r (Or.inl (by decide))]; exact w1 r hr
          · intro r hr
            rw [f4] at hr
            rw [fo 4 (by decide)]
            by_cases e : r = H.1 6
            · subst e
              have e1 : (vsH t N (0, p) H).2 1 (H.1 6) = nmv t N 0 (H.1 4) (vsA t N (0, p)) := by
                show (ha (ha H 1 (H.1 6) (nmv t N 0 (H.1 4) (vsA t N (0, p)))) 2 (H.1 6) (nmv t N 0 30 (vsB t N (H.1 4) (0, p)))).2 1 (H.1 6) = _
                rw [ha_o (Or.inl (by decide)), ha_s]
              have e2 : (vsH t N (0, p) H).2 2 (H.1 6) = nmv t N 0 30 (vsB t N (H.1 4) (0, p)) := ha_s
              rw [e1, e2]; omega
            · rw [fv 1 r (Or.inr e), fv 2 r (Or.inr e)]; exact w2 r (by omega)
          · intro r hr
            rw [fo 7 (by decide)] at hr
            rw [fv 3 r (Or.inl (by decide)), fo 4 (by decide)]; exact w3 r hr
          · intro r hr
            rw [fo 5 (by decide)] at hr
            rw [fv 4 r (Or.inl (by decide)), fv 5 r (Or.inl (by decide)), fo 4 (by decide)]; exact w4 r hr
        · by_cases h15 : tk t N p = 15
          · have eO : lnO t N p H = if H.1 7 = 0 then xp t N 3 (rdS t N (0, p) H).1 else (3, p) := by unfold lnO; rw [if_neg hz, if_neg h8, if_neg h11, if_neg h12, if_pos h15]
            have eH : lnH0 t N p H = (rdS t N (0, p) H).2 := by unfold lnH0; rw [if_neg hz, if_neg h8, if_neg h11, if_neg h12]
            have h4 : H.1 7 = 0 := by
              apply Classical.byContradiction
              intro q
              rw [eO, if_neg q] at hg
              exact absurd hg (show ¬ (3 : Nat) = 0 by omega)
            rw [if_pos h4] at eO
            have hgw : (rdS t N (0, p) H).1.1 = 0 := by rw [eO] at hg; exact xp_1 hg
            obtain ⟨⟨r1, r2, r3, r4, r5, r6⟩, _⟩ := rdS_i (H := H) h15 hp h4
            have m7 := xp_le (t := t) (N := N) (k := 3) (o := (rdS t N (0, p) H).1) r6
            rw [eH, eW] at fin
            rw [eW]
            refine fin ⟨nx t N p, hnx, by rw [eO]; omega, by rw [eO]; exact m7.2⟩ ?_ ?_ ?_ ?_ ?_
            · rw [r2 1 (by decide), r2 2 (by decide), r2 3 (by decide), r2 4 (by decide), r2 5 (by decide), r2 6 (by decide)]
              omega
            · intro r hr
              rw [r2 4 (by decide)] at hr
              rw [r3 0 r (by decide)]; exact w1 r hr
            · intro r hr
              rw [r2 6 (by decide)] at hr
              rw [r3 1 r (by decide), r3 2 r (by decide), r2 4 (by decide)]; exact w2 r hr
            · intro r hr
              rw [r2 4 (by decide)]; exact r4 hgw r hr
            · intro r hr
              rw [r2 5 (by decide)] at hr
              rw [r3 4 r (by decide), r3 5 r (by decide), r2 4 (by decide)]; exact w4 r hr
          · have eO : lnO t N p H = (1, p) := by unfold lnO; rw [if_neg hz, if_neg h8, if_neg h11, if_neg h12, if_neg h15]
            rw [eO] at hg
            exact absurd hg (show ¬ (1 : Nat) = 0 by omega)
end LNK
