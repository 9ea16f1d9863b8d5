/-! LAYER 3: the class reads lines -/
theorem oI_4 : oI 4 = 3 := by decide +kernel
theorem oI_11 : oI 11 = 10 := by decide +kernel
theorem oI_31 : oI 31 = 30 := by decide +kernel
theorem oI_8 : oI 8 = 7 := by decide +kernel
theorem oI_100 : oI 100 = 99 := by decide +kernel
theorem oI_30 : oI 30 = 29 := by decide +kernel
def AD0 : AD := (0, fun _ => 0, fun _ => 0)
section CRD
variable {I : FI} {L : FL} {t : Nat → Int32} {N J n : Nat} {o : Nat × Nat} {H : HD} {W : Nat → Nat}
/-- the class's draft -/
def DRC (I : FI) (H : HD) (W : Nat → Nat) : Prop := (∀ j, j < 8 → I 15 j = nI (H.1 j)) ∧ (∀ r, r < H.1 4 → I 16 r = nI (H.2 0 r)) ∧ (∀ r, r < H.1 4 → I 17 r = nI (W r)) ∧ (∀ r, r < 4 → I 18 r = nI (dms H r)) ∧ (∀ v, v < H.1 6 → I 20 v = nI (H.2 1 v)) ∧ (∀ v, v < H.1 6 → I 21 v = nI (H.2 2 v)) ∧ (∀ i, i < H.1 7 → I 22 i = nI (H.2 3 i))
theorem DRC_fr {K : FI} (h : DRC I H W) (e : ∀ c i, 15 ≤ c → c ≤ 22 → K c i = I c i) : DRC K H W := by
  obtain ⟨h1, h2, h3, h4, h5, h6, h7⟩ := h
  exact ⟨fun j hj => by rw [e 15 j (by omega) (by omega)]; exact h1 j hj, fun j hj => by rw [e 16 j (by omega) (by omega)]; exact h2 j hj, fun j hj => by rw [e 17 j (by omega) (by omega)]; exact h3 j hj, fun j hj => by rw [e 18 j (by omega) (by omega)]; exact h4 j hj, fun j hj => by rw [e 20 j (by omega) (by omega)]; exact h5 j hj, fun j hj => by rw [e 21 j (by omega) (by omega)]; exact h6 j hj, fun j hj => by rw [e 22 j (by omega) (by omega)]; exact h7 j hj⟩
/-- a count told anew -/
theorem DRC_hs {j v : Nat} (h : DRC I H W) (hj : j = 0 ∨ j = 1 ∨ j = 2 ∨ j = 3) : DRC (u2 I 15 j (nI v)) (hs H j v) W := by
  obtain ⟨h1, h2, h3, h4, h5, h6, h7⟩ := h
  have e4 : (hs H j v).1 4 = H.1 4 := hs_o (by omega)
  have e6 : (hs H j v).1 6 = H.1 6 := hs_o (by omega)
  have e7 : (hs H j v).1 7 = H.1 7 := hs_o (by omega)
  refine ⟨fun i hi => ?_, fun r hr => ?_, fun r hr => ?_, fun r hr => ?_, fun r hr => ?_, fun r hr => ?_, fun r hr => ?_⟩
  · by_cases e : i = j
    · subst e; rw [u2_s, hs_s]
    · rw [u2_o e, hs_o e]; exact h1 i hi
  · rw [e4] at hr; rw [u2_c (by decide)]; exact h2 r hr
  · rw [e4] at hr; rw [u2_c (by decide)]; exact h3 r hr
  · rw [u2_c (by decide), dms_hs (by omega)]; exact h4 r hr
  · rw [e6] at hr; rw [u2_c (by decide)]; exact h5 r hr
  · rw [e6] at hr; rw [u2_c (by decide)]; exact h6 r hr
  · rw [e7] at hr; rw [u2_c (by decide)]; exact h7 r hr
theorem e76 (h : CQ t N J I o) (hD : DRC I H W) : ∃ A, f_76 I L = some (A, L) ∧ CQ t N J A (hdO t N o) ∧ DRC A (hdH t N o H) W ∧ ∀ c i, c ≠ 14 → c ≠ 15 → A c i = I c i := by
  obtain ⟨A1, a1, a2, a3⟩ := e83 (L := L) h (k := 4) (by omega)
  obtain ⟨A2, b1, b2, b3⟩ := e83 (L := L) a2 (k := 5) (by omega)
  obtain ⟨A3, c1, c2, c3⟩ := e82 (L := L) b2 (lo := 0) (hx := 4) (by omega) (by omega)
  rw [oI_4] at c1
  have c4 := CQ_fr (K := u2 A3 15 1 (nI (nmv t N 0 4 (hdA t N o)))) c2 (fun c i hc => u2_c (by omega))
  obtain ⟨A4, d1, d2, d3⟩ := e83 (L := L) c4 (k := 6) (by omega)
  obtain ⟨A5, e1, e2, e3⟩ := e82 (L := L) d2 (lo := 0) (hx := 11) (by omega) (by omega)
  rw [oI_11] at e1
  have e4 := CQ_fr (K := u2 A5 15 2 (nI (nmv t N 0 11 (hdB t N o)))) e2 (fun c i hc => u2_c (by omega))
  obtain ⟨A6, f1, f2, f3⟩ := e83 (L := L) e4 (k := 7) (by omega)
  obtain ⟨A7, g1, g2, g3⟩ := e82 (L := L) f2 (lo := 1) (hx := 31) (by omega) (by omega)
  rw [oI_31] at g1
  have g4 := CQ_fr (K := u2 A7 15 3 (nI (nmv t N 1 31 (hdC t N o)))) g2 (fun c i hc => u2_c (by omega))
  have q1 : DRC A3 H W := DRC_fr hD (fun c i h1 h2 => by rw [c3 c i (by omega), b3 c i (by omega), a3 c i (by omega)])
  have q2 := DRC_hs (j := 1) (v := nmv t N 0 4 (hdA t N o)) q1 (by omega)
  have q3 : DRC A5 _ W := DRC_fr q2 (fun c i h1 h2 => by rw [e3 c i (by omega), d3 c i (by omega)])
  have q4 := DRC_hs (j := 2) (v := nmv t N 0 11 (hdB t N o)) q3 (by omega)
  have q5 : DRC A7 _ W := DRC_fr q4 (fun c i h1 h2 => by rw [g3 c i (by omega), f3 c i (by omega)])
  have q6 := DRC_hs (j := 3) (v := nmv t N 1 31 (hdC t N o)) q5 (by omega)
  refine ⟨_, ?_, g4, q6, fun c i h1 h2 => ?_⟩
  · unfold f_76
    rw [show f_83 4 I L = some (A1, L) from a1, q_bs]
    (first | dsimp +instances only | skip)
    rw [show f_83 5 A1 L = some (A2, L) from b1, q_bs]
    (first | dsimp +instances only | skip)
    rw [show f_82 0 3 A2 L = some (nI (nmv t N 0 4 (hdA t N o)), A3, L) from c1, q_bs]
    (first | dsimp +instances only | skip)
    rw [show f_83 6 (u2 A3 15 1 (nI (nmv t N 0 4 (hdA t N o)))) L = some (A4, L) from d1, q_bs]
    (first | dsimp +instances only | skip)
    rw [show f_82 0 10 A4 L = some (nI (nmv t N 0 11 (hdB t N o)), A5, L) from e1, q_bs]
    (first | dsimp +instances only | skip)
    rw [show f_83 7 (u2 A5 15 2 (nI (nmv t N 0 11 (hdB t N o)))) L = some (A6, L) from f1, q_bs]
    (first | dsimp +instances only | skip)
    rw [show f_82 1 30 A6 L = some (nI (nmv t N 1 31 (hdC t N o)), A7, L) from g1, q_bs]
  · rw [u2_c h2, g3 c i h1, f3 c i h1, u2_c h2, e3 c i h1, d3 c i h1, u2_c h2, c3 c i h1, b3 c i h1, a3 c i h1]
theorem e77 (h : CQ t N J I o) (hD : DRC I H W) (hR : H.1 4 < 4) : ∃ A, f_77 I L = some (A, L) ∧ CQ t N J A (rmO t N o) ∧ DRC A (rmH t N o H) (rmW t N o H W) ∧ ∀ c i, c ≠ 14 → c ≠ 15 → c ≠ 16 → c ≠ 17 → A c i = I c i := by
  obtain ⟨A1, a1, a2, a3⟩ := e83 (L := L) h (k := 8) (by omega)
  obtain ⟨A2, b1, b2, b3⟩ := e83 (L := L) a2 (k := 9) (by omega)
  obtain ⟨A3, c1, c2, c3⟩ := e82 (L := L) b2 (lo := 1) (hx := 8) (by omega) (by omega)
  rw [oI_8] at c1
  have c4 := CQ_fr (K := u2 A3 16 (H.1 4) (nI (nmv t N 1 8 (rmA t N o)))) c2 (fun c i hc => u2_c (by omega))
  obtain ⟨A4, d1, d2, d3⟩ := e83 (L := L) c4 (k := 10) (by omega)
  obtain ⟨A5, e1, e2, e3⟩ := e82 (L := L) d2 (lo := 0) (hx := 100) (by omega) (by omega)
  rw [oI_100] at e1
  have i4 : I 15 4 = nI (H.1 4) := hD.1 4 (by omega)
  have i42 : A2 15 4 = nI (H.1 4) := by rw [b3 15 4 (by decide), a3 15 4 (by decide)]; exact i4
  have i44 : A4 15 4 = nI (H.1 4) := by rw [d3 15 4 (by decide), u2_c (by decide), c3 15 4 (by decide)]; exact i42
  have i45 : A5 15 4 = nI (H.1 4) := by rw [e3 15 4 (by decide)]; exact i44
  have hA : ∀ c i, c ≠ 14 → c ≠ 16 → A5 c i = I c i := fun c i h1 h2 => by rw [e3 c i h1, d3 c i h1, u2_c h2, c3 c i h1, b3 c i h1, a3 c i h1]
  have hA16 : ∀ i, A5 16 i = u2 I 16 (H.1 4) (nI (nmv t N 1 8 (rmA t N o))) 16 i := fun i => by
    rw [e3 16 i (by decide), d3 16 i (by decide)]
    by_cases q : i = H.1 4
    · subst q; rw [u2_s, u2_s]
    · rw [u2_o q, u2_o q, c3 16 i (by decide), b3 16 i (by decide), a3 16 i (by decide)]
  refine ⟨u2 (u2 A5 17 (H.1 4) (nI (nmv t N 0 100 (rmB t N o)))) 15 4 (nI (H.1 4 + 1)), ?_, CQ_fr e2 (fun c i hc => by rw [u2_c (by omega), u2_c (by omega)]), ?_, fun c i h1 h2 h3 h4 => by rw [u2_c h2, u2_c h4]; exact hA c i h1 h3⟩
  · unfold f_77
    rw [i4, ku_4, if_pos (nI_lt hR (by omega)), show f_83 8 I L = some (A1, L) from a1, q_bs]
    (first | dsimp +instances only | skip)
    rw [show f_83 9 A1 L = some (A2, L) from b1, q_bs]
    (first | dsimp +instances only | skip)
    rw [show f_82 1 7 A2 L = some (nI (nmv t N 1 8 (rmA t N o)), A3, L) from c1, q_bs]
    (first | dsimp +instances only | skip)
    rw [i42, ku_if (by omega) (by omega), nI_clamp (by omega), show f_83 10 (u2 A3 16 (H.1 4) (nI (nmv t N 1 8 (rmA t N o)))) L = some (A4, L) from d1, q_bs]
    (first | dsimp +instances only | skip)
    rw [show f_82 0 99 A4 L = some (nI (nmv t N 0 100 (rmB t N o)), A5, L) from e1, q_bs]
    (first | dsimp +instances only | skip)
    rw [i44, ku_if (by omega) (by omega), nI_clamp (by omega), i45, nI_1]
  · obtain ⟨h1, h2, h3, h4, h5, h6, h7⟩ := hD
    have e4 : (rmH t N o H).1 4 = H.1 4 + 1 := hs_s
    have eo : ∀ j, j ≠ 4 → (rmH t N o H).1 j = H.1 j := fun j hj => hs_o hj
    refine ⟨fun i hi => ?_, fun r hr => ?_, fun r hr => ?_, fun r hr => ?_, fun r hr => ?_, fun r hr => ?_, fun r hr => ?_⟩
    · by_cases e : i = 4
      · subst e; rw [u2_s, e4]
      · rw [u2_o e, u2_c (by decide), eo i e, hA 15 i (by decide) (by decide)]; exact h1 i hi
    · rw [e4] at hr
      rw [u2_c (by decide), u2_c (by decide), hA16]
      show _ = nI ((ha H 0 (H.1 4) (nmv t N 1 8 (rmA t N o))).2 0 r)
      by_cases e : r = H.1 4
      · subst e; rw [u2_s, ha_s]
      · rw [u2_o e, ha_o (Or.inr e)]; exact h2 r (by omega)
    · rw [e4] at hr
      rw [u2_c (by decide)]
      unfold rmW
      by_cases e : r = H.1 4
      · subst e; rw [u2_s, if_pos rfl]
      · rw [u2_o e, if_neg e, hA 17 r (by decide) (by decide)]; exact h3 r (by omega)
    · rw [u2_c (by decide), u2_c (by decide), hA 18 r (by decide) (by decide)]
      show _ = nI (dms (hs (ha H 0 (H.1 4) (nmv t N 1 8 (rmA t N o))) 4 (H.1 4 + 1)) r)
      rw [dms_hs (by omega), dms_ha (by omega)]; exact h4 r hr
    · rw [eo 6 (by decide)] at hr
      rw [u2_c (by decide), u2_c (by decide), hA 20 r (by decide) (by decide)]
      show _ = nI ((ha H 0 (H.1 4) (nmv t N 1 8 (rmA t N o))).2 1 r)
      rw [ha_o (Or.inl (by decide))]; exact h5 r hr
    · rw [eo 6 (by decide)] at hr
      rw [u2_c (by decide), u2_c (by decide), hA 21 r (by decide) (by decide)]
      show _ = nI ((ha H 0 (H.1 4) (nmv t N 1 8 (rmA t N o))).2 2 r)
      rw [ha_o (Or.inl (by decide))]; exact h6 r hr
    · rw [eo 7 (by decide)] at hr
      rw [u2_c (by decide), u2_c (by decide), hA 22 r (by decide) (by decide)]
      show _ = nI ((ha H 0 (H.1 4) (nmv t N 1 8 (rmA t N o))).2 3 r)
      rw [ha_o (Or.inl (by decide))]; exact h7 r hr
theorem e79 (h : CQ t N J I o) (hD : DRC I H W) (o4 : H.1 4 ≤ 4) (hR : H.1 6 < 5) : ∃ A, f_79 I L = some (A, L) ∧ CQ t N J A (vsO t N (H.1 4) o) ∧ DRC A (vsH t N o H) W ∧ ∀ c i, c ≠ 14 → c ≠ 15 → c ≠ 20 → c ≠ 21 → A c i = I c i := by
  obtain ⟨A1, a1, a2, a3⟩ := e83 (L := L) h (k := 12) (by omega)
  obtain ⟨A2, b1, b2, b3⟩ := e83 (L := L) a2 (k := 13) (by omega)
  obtain ⟨A3, c1, c2, c3⟩ := e82 (L := L) b2 (lo := 0) (hx := H.1 4) (by omega) (by omega)
  have c4 := CQ_fr (K := u2 A3 20 (H.1 6) (nI (nmv t N 0 (H.1 4) (vsA t N o)))) c2 (fun c i hc => u2_c (by omega))
  obtain ⟨A4, d1, d2, d3⟩ := e83 (L := L) c4 (k := 14) (by omega)
  obtain ⟨A5, e1, e2, e3⟩ := e82 (L := L) d2 (lo := 0) (hx := 30) (by omega) (by omega)
  rw [oI_30] at e1
  have i4 : I 15 4 = nI (H.1 4) := hD.1 4 (by omega)
  have i6 : I 15 6 = nI (H.1 6) := hD.1 6 (by omega)
  have i42 : A2 15 4 = nI (H.1 4) := by rw [b3 15 4 (by decide), a3 15 4 (by decide)]; exact i4
  have i62 : A2 15 6 = nI (H.1 6) := by rw [b3 15 6 (by decide), a3 15 6 (by decide)]; exact i6
  have i64 : A4 15 6 = nI (H.1 6) := by rw [d3 15 6 (by decide), u2_c (by decide), c3 15 6 (by decide)]; exact i62
  have i65 : A5 15 6 = nI (H.1 6) := by rw [e3 15 6 (by decide)]; exact i64
  have hA : ∀ c i, c ≠ 14 → c ≠ 20 → A5 c i = I c i := fun c i h1 h2 => by rw [e3 c i h1, d3 c i h1, u2_c h2, c3 c i h1, b3 c i h1, a3 c i h1]
  have hA16 : ∀ i, A5 20 i = u2 I 20 (H.1 6) (nI (nmv t N 0 (H.1 4) (vsA t N o))) 20 i := fun i => by
    rw [e3 20 i (by decide), d3 20 i (by decide)]
    by_cases q : i = H.1 6
    · subst q; rw [u2_s, u2_s]
    · rw [u2_o q, u2_o q, c3 20 i (by decide), b3 20 i (by decide), a3 20 i (by decide)]
  refine ⟨u2 (u2 A5 21 (H.1 6) (nI (nmv t N 0 30 (vsB t N (H.1 4) o)))) 15 6 (nI (H.1 6 + 1)), ?_, CQ_fr e2 (fun c i hc => by rw [u2_c (by omega), u2_c (by omega)]), ?_, fun c i h1 h2 h3 h4 => by rw [u2_c h2, u2_c h4]; exact hA c i h1 h3⟩
  · unfold f_79
    rw [i6, ku_5, if_pos (nI_lt hR (by omega)), show f_83 12 I L = some (A1, L) from a1, q_bs]
    (first | dsimp +instances only | skip)
    rw [show f_83 13 A1 L = some (A2, L) from b1, q_bs]
    (first | dsimp +instances only | skip)
    rw [i42, show f_82 0 (nI (H.1 4) - 1) A2 L = some (nI (nmv t N 0 (H.1 4) (vsA t N o)), A3, L) from c1, q_bs]
    (first | dsimp +instances only | skip)
    rw [i62, ku_if (by omega) (by omega), nI_clamp (by omega), show f_83 14 (u2 A3 20 (H.1 6) (nI (nmv t N 0 (H.1 4) (vsA t N o)))) L = some (A4, L) from d1, q_bs]
    (first | dsimp +instances only | skip)
    rw [show f_82 0 29 A4 L = some (nI (nmv t N 0 30 (vsB t N (H.1 4) o)), A5, L) from e1, q_bs]
    (first | dsimp +instances only | skip)
    rw [i64, ku_if (by omega) (by omega), nI_clamp (by omega), i65, nI_1]
  · obtain ⟨h1, h2, h3, h4, h5, h6, h7⟩ := hD
    have e4 : (vsH t N o H).1 6 = H.1 6 + 1 := hs_s
    have eo : ∀ j, j ≠ 6 → (vsH t N o H).1 j = H.1 j := fun j hj => hs_o hj
    have ev : ∀ b i, (vsH t N o H).2 b i = (ha (ha H 1 (H.1 6) (nmv t N 0 (H.1 4) (vsA t N o))) 2 (H.1 6) (nmv t N 0 30 (vsB t N (H.1 4) o))).2 b i := fun _ _ => rfl
    refine ⟨fun i hi => ?_, fun r hr => ?_, fun r hr => ?_, fun r hr => ?_, fun r hr => ?_, fun r hr => ?_, fun r hr => ?_⟩
    · by_cases e : i = 6
      · subst e; rw [u2_s, e4]
      · rw [u2_o e, u2_c (by decide), eo i e, hA 15 i (by decide) (by decide)]; exact h1 i hi
    · rw [eo 4 (by decide)] at hr
      rw [u2_c (by decide), u2_c (by decide), hA 16 r (by decide) (by decide), ev, ha_o (Or.inl (by decide)), ha_o (Or.inl (by decide))]; exact h2 r hr
    · rw [eo 4 (by decide)] at hr
      rw [u2_c (by decide), u2_c (by decide), hA 17 r (by decide) (by decide)]; exact h3 r hr
    · rw [u2_c (by decide), u2_c (by decide), hA 18 r (by decide) (by decide)]
      show _ = nI (dms (hs (ha (ha H 1 (H.1 6) (nmv t N 0 (H.1 4) (vsA t N o))) 2 (H.1 6) (nmv t N 0 30 (vsB t N (H.1 4) o))) 6 (H.1 6 + 1)) r)
      rw [dms_hs (by omega), dms_ha (by omega), dms_ha (by omega)]; exact h4 r hr
    · rw [e4] at hr
      rw [u2_c (by decide), u2_c (by decide), hA16, ev, ha_o (Or.inl (by decide))]
      by_cases e : r = H.1 6
      · subst e; rw [u2_s, ha_s]
      · rw [u2_o e, ha_o (Or.inr e)]; exact h5 r (by omega)
    · rw [e4] at hr
      rw [u2_c (by decide), ev]
      by_cases e : r = H.1 6
      · subst e; rw [u2_s, ha_s]
      · rw [u2_o e, ha_o (Or.inr e), ha_o (Or.inl (by decide)), hA 21 r (by decide) (by decide)]; exact h6 r (by omega)
    · rw [eo 7 (by decide)] at hr
      rw [u2_c (by decide), u2_c (by decide), hA 22 r (by decide) (by decide), ev, ha_o (Or.inl (by decide)), ha_o (Or.inl (by decide))]; exact h7 r hr
/-- a way -/
theorem wy_ne {R : Nat} (h : (wyO t N R o).1 = 0) : wy1 t N R o < R ∧ nmv t N 0 R (wyB t N R o) < R ∧ wy1 t N R o ≠ nmv t N 0 R (wyB t N R o) := by
  have h1 := nmo_1 h
  have h2 := nmv_1 h
  unfold wyB at h1
  by_cases q : tk t N (wyA t N R o).2 = 2 ∧ va t N (wyA t N R o).2 = wy1 t N R o
  · rw [if_pos q] at h1
    have := h1.1
    unfold flo at this
    by_cases z : (wyA t N R o).1 = 0
    · rw [if_pos z] at this; exact absurd this (show ¬ (2 : Nat) = 0 by omega)
    · rw [if_neg z] at this; exact absurd this z
  · rw [if_neg q] at h1
    have e : wyB t N R o = wyA t N R o := by unfold wyB; rw [if_neg q]
    have h3 : (nmo t N 0 R (xp t N 11 o)).1 = 0 := h1.1
    have h4 := nmv_1 h3
    refine ⟨h4.2, h2.2, fun z => q ⟨h1.2.1, ?_⟩⟩
    rw [z, e]
    unfold nmv
    rw [if_pos h1]
theorem dms_wy {H : HD} {a b r : Nat} : dms (hs (ha (ha H 4 (H.1 5) a) 5 (H.1 5) b) 5 (H.1 5 + 1)) r = if a = r then dms H r ||| 2 ^ b else if b = r then dms H r ||| 2 ^ a else dms H r := by
  have e0 : dmk (hs (ha (ha H 4 (H.1 5) a) 5 (H.1 5) b) 5 (H.1 5 + 1)) (H.1 5) r = dms H r := by
    unfold dms
    refine dmk_cg (fun i hi => ⟨?_, ?_⟩)
    · show (ha (ha H 4 (H.1 5) a) 5 (H.1 5) b).2 4 i = H.2 4 i
      rw [ha_o (Or.inl (by decide)), ha_o (Or.inr (by omega))]
    · show (ha (ha H 4 (H.1 5) a) 5 (H.1 5) b).2 5 i = H.2 5 i
      rw [ha_o (Or.inr (by omega)), ha_o (Or.inl (by decide))]
  have e1 : (hs (ha (ha H 4 (H.1 5) a) 5 (H.1 5) b) 5 (H.1 5 + 1)).2 4 (H.1 5) = a := by
    show (ha (ha H 4 (H.1 5) a) 5 (H.1 5) b).2 4 (H.1 5) = a
    rw [ha_o (Or.inl (by decide)), ha_s]
  have e2 : (hs (ha (ha H 4 (H.1 5) a) 5 (H.1 5) b) 5 (H.1 5 + 1)).2 5 (H.1 5) = b := ha_s
  have e3 : (hs (ha (ha H 4 (H.1 5) a) 5 (H.1 5) b) 5 (H.1 5 + 1)).1 5 = H.1 5 + 1 := hs_s
  show dmk _ ((hs (ha (ha H 4 (H.1 5) a) 5 (H.1 5) b) 5 (H.1 5 + 1)).1 5) r = _
  rw [e3]
  unfold dmk
  rw [e0, e1, e2]
theorem e78 (h : CQ t N J I o) (hD : DRC I H W) (o4 : H.1 4 ≤ 4) (hR : H.1 5 < 6) : ∃ A, f_78 I L = some (A, L) ∧ CQ t N J A (wyO t N (H.1 4) o) ∧ ((wyO t N (H.1 4) o).1 = 0 → DRC A (wyH t N o H) W) ∧ ∀ c i, c ≠ 14 → c ≠ 15 → c ≠ 18 → A c i = I c i := by
  obtain ⟨A1, a1, a2, a3⟩ := e83 (L := L) h (k := 11) (by omega)
  obtain ⟨A2, b1, b2, b3⟩ := e82 (L := L) a2 (lo := 0) (hx := H.1 4) (by omega) (by omega)
  have i4 : I 15 4 = nI (H.1 4) := hD.1 4 (by omega)
  have i5 : I 15 5 = nI (H.1 5) := hD.1 5 (by omega)
  have i41 : A1 15 4 = nI (H.1 4) := by rw [a3 15 4 (by decide)]; exact i4
  have b2' : CQ t N J A2 (wyA t N (H.1 4) o) := b2
  have i42 : A2 15 4 = nI (H.1 4) := by rw [b3 15 4 (by decide)]; exact i41
  have hx1 : nmv t N 0 (H.1 4) (xp t N 11 o) < 100 := by
    by_cases z : 0 < H.1 4
    · have := nmv_b (t := t) (N := N) (o := xp t N 11 o) z; omega
    · unfold nmv; rw [if_neg (fun q => by omega)]; omega
  -- behind both numbers
  have fin : ∀ A3 : FI, CQ t N J A3 (wyB t N (H.1 4) o) → (∀ c i, c ≠ 14 → A3 c i = I c i) → ∃ A, c_78_0 (nI (wy1 t N (H.1 4) o)) A3 L = some (A, L) ∧ CQ t N J A (wyO t N (H.1 4) o) ∧ ((wyO t N (H.1 4) o).1 = 0 → DRC A (wyH t N o H) W) ∧ ∀ c i, c ≠ 14 → c ≠ 15 → c ≠ 18 → A c i = I c i := fun A3 k1 k2 => by
    obtain ⟨A4, c1, c2, c3⟩ := e82 (L := L) k1 (lo := 0) (hx := H.1 4) (by omega) (by omega)
    have c2' : CQ t N J A4 (wyO t N (H.1 4) o) := c2
    have hA : ∀ c i, c ≠ 14 → A4 c i = I c i := fun c i hc => by rw [c3 c i hc]; exact k2 c i hc
    obtain ⟨f1, f2⟩ := CQ_f c2'
    unfold c_78_0
    rw [k2 15 4 (by decide), i4, show f_82 0 (nI (H.1 4) - 1) A3 L = some (nI (nmv t N 0 (H.1 4) (wyB t N (H.1 4) o)), A4, L) from c1, q_bs]
    (first | dsimp +instances only | skip)
    rw [f1]
    by_cases z : (wyO t N (H.1 4) o).1 = 0
    · obtain ⟨w1, w2, w3⟩ := wy_ne z
      have hd1 : A4 18 (wy1 t N (H.1 4) o) = nI (dms H (wy1 t N (H.1 4) o)) := by rw [hA 18 _ (by decide)]; exact hD.2.2.2.1 _ (by omega)
      have hd2 : A4 18 (nmv t N 0 (H.1 4) (wyB t N (H.1 4) o)) = nI (dms H (nmv t N 0 (H.1 4) (wyB t N (H.1 4) o))) := by rw [hA 18 _ (by decide)]; exact hD.2.2.2.1 _ (by omega)
      have hd5 : A4 15 5 = nI (H.1 5) := by rw [hA 15 5 (by decide)]; exact i5
      rw [if_neg (fun q => q (by rw [z]; rfl)), ku_if (show wy1 t N (H.1 4) o < 4 by omega) (by omega), ku_if (show wy1 t N (H.1 4) o < 4 by omega) (by omega), ku_if (show nmv t N 0 (H.1 4) (wyB t N (H.1 4) o) < 4 by omega) (by omega), ku_if (show nmv t N 0 (H.1 4) (wyB t N (H.1 4) o) < 4 by omega) (by omega), nI_clamp (show wy1 t N (H.1 4) o < 2 ^ 31 by omega), nI_clamp (show nmv t N 0 (H.1 4) (wyB t N (H.1 4) o) < 2 ^ 31 by omega), hd1, ku_or (show nmv t N 0 (H.1 4) (wyB t N (H.1 4) o) < 31 by omega), u2_o (Ne.symm w3), hd2, ku_or (show wy1 t N (H.1 4) o < 31 by omega), hd5, nI_1]
      refine ⟨_, rfl, CQ_fr c2' (fun c i hc => by rw [u2_c (by omega), u2_c (by omega), u2_c (by omega)]), fun _ => ?_, fun c i h1 h2 h3 => by rw [u2_c h2, u2_c h3, u2_c h3]; exact hA c i h1⟩
      obtain ⟨h1, h2, h3, h4, h5, h6, h7⟩ := hD
      have e4 : (wyH t N o H).1 5 = H.1 5 + 1 := hs_s
      have eo : ∀ j, j ≠ 5 → (wyH t N o H).1 j = H.1 j := fun j hj => hs_o hj
      have ev : ∀ b i, b ≠ 4 → b ≠ 5 → (wyH t N o H).2 b i = H.2 b i := fun b i x y => by
        show (ha (ha H 4 (H.1 5) _) 5 (H.1 5) _).2 b i = _
        rw [ha_o (Or.inl y), ha_o (Or.inl x)]
      refine ⟨fun i hi => ?_, fun r hr => ?_, fun r hr => ?_, fun r hr => ?_, fun r hr => ?_, fun r hr => ?_, fun r hr => ?_⟩
      · by_cases e : i = 5
        · subst e; rw [u2_s, e4]
        · rw [u2_o e, u2_c (by decide), u2_c (by decide), eo i e, hA 15 i (by decide)]; exact h1 i hi
      · rw [eo 4 (by decide)] at hr
        rw [u2_c (by decide), u2_c (by decide), u2_c (by decide), hA 16 r (by decide), ev 0 r (by decide) (by decide)]; exact h2 r hr
      · rw [eo 4 (by decide)] at hr
        rw [u2_c (by decide), u2_c (by decide), u2_c (by decide), hA 17 r (by decide)]; exact h3 r hr
      · rw [u2_c (by decide)]
        unfold wyH
        rw [dms_wy]
        by_cases q1 : wy1 t N (H.1 4) o = r
        · rw [if_pos q1, ← q1, u2_o w3, u2_s]
        · rw [if_neg q1]
          by_cases q2 : nmv t N 0 (H.1 4) (wyB t N (H.1 4) o) = r
          · rw [if_pos q2, ← q2, u2_s]
          · rw [if_neg q2, u2_o (fun x => q2 x.symm), u2_o (fun x => q1 x.symm), hA 18 r (by decide)]; exact h4 r hr
      · rw [eo 6 (by decide)] at hr
        rw [u2_c (by decide), u2_c (by decide), u2_c (by decide), hA 20 r (by decide), ev 1 r (by decide) (by decide)]; exact h5 r hr
      · rw [eo 6 (by decide)] at hr
        rw [u2_c (by decide), u2_c (by decide), u2_c (by decide), hA 21 r (by decide), ev 2 r (by decide) (by decide)]; exact h6 r hr
      · rw [eo 7 (by decide)] at hr
        rw [u2_c (by decide), u2_c (by decide), u2_c (by decide), hA 22 r (by decide), ev 3 r (by decide) (by decide)]; exact h7 r hr
    · rw [if_pos (nI_ne0 (by omega) (by omega))]
      exact ⟨A4, rfl, c2', fun q => absurd q z, fun c i h1 _ _ => hA c i h1⟩
  obtain ⟨j, j1, j2, j3⟩ := CQ_at b2'
  have h15 := tk_le (t := t) (n := N) (p := (wyA t N (H.1 4) o).2)
  have hva := va_le (t := t) (N := N) (o := wyA t N (H.1 4) o)
  have hx1' : wy1 t N (H.1 4) o < 100 := hx1
  have hA2 : ∀ c i, c ≠ 14 → A2 c i = I c i := fun c i hc => by rw [b3 c i hc, a3 c i hc]
  unfold f_78
  rw [i5, show (6 : Int32) = nI 6 from rfl, if_pos (nI_lt hR (by omega)), show f_83 11 I L = some (A1, L) from a1, q_bs]
  (first | dsimp +instances only | skip)
  rw [i41, show f_82 0 (nI (H.1 4) - 1) A1 L = some (nI (wy1 t N (H.1 4) o), A2, L) from b1, q_bs]
  (first | dsimp +instances only | skip)
  rw [j2, ku_if (by omega) (by omega), nI_clamp (by omega)]
  by_cases z : (wyA t N (H.1 4) o).1 = 0
  · obtain ⟨k1, k2⟩ := j3 z
    rw [k1, k2]
    by_cases q1 : tk t N (wyA t N (H.1 4) o).2 = 2
    · rw [if_neg (fun q => q (by rw [q1]; rfl)), ku_if (by omega) (by omega)]
      by_cases q2 : va t N (wyA t N (H.1 4) o).2 = wy1 t N (H.1 4) o
      · rw [if_neg (fun q => q (by rw [q2]))]
        obtain ⟨A3, d1, d2, d3⟩ := e85 (L := L) b2' (k := 2) (by omega) (by omega)
        rw [show f_85 2 A2 L = some (A3, L) from d1, q_bs]
        have e : wyB t N (H.1 4) o = flo 2 (wyA t N (H.1 4) o) := by unfold wyB; rw [if_pos ⟨q1, q2⟩]
        exact fin A3 (by rw [e]; exact d2) (fun c i hc => by rw [d3 c i hc]; exact hA2 c i hc)
      · rw [if_pos (by rw [nI_eq (by omega) (by omega)]; exact q2)]
        have e : wyB t N (H.1 4) o = wyA t N (H.1 4) o := by unfold wyB; rw [if_neg (fun q => q2 q.2)]
        exact fin A2 (by rw [e]; exact b2') hA2
    · rw [if_pos (by rw [ku_2, nI_eq (by omega) (by omega)]; exact q1)]
      have e : wyB t N (H.1 4) o = wyA t N (H.1 4) o := by unfold wyB; rw [if_neg (fun q => q1 q.1)]
      exact fin A2 (by rw [e]; exact b2') hA2
  · have e : wyB t N (H.1 4) o = wyA t N (H.1 4) o := by
      unfold wyB
      rw [flo_f z]
      split <;> rfl
    have k1 := fin A2 (by rw [e]; exact b2') hA2
    by_cases q1 : A2 23 j = 2
    · rw [if_neg (fun q => q q1), ku_if (by omega) (by omega)]
      by_cases q2 : A2 25 j = nI (wy1 t N (H.1 4) o)
      · rw [if_neg (fun q => q q2)]
        have : f_85 2 A2 L = some (A2, L) := by
          unfold f_85
          rw [if_pos (by rw [(CQ_f b2').1]; exact nI_ne0 (by omega) (by have := (CQ_f b2').2; omega))]
        rw [this, q_bs]
        exact k1
      · rw [if_pos q2]; exact k1
    · rw [if_pos q1]; exact k1
/-- a place of the round -/
theorem e81 (h : CQ t N J I o) (hD : DRC I H W) (o4 : H.1 4 ≤ 4) (o7 : H.1 7 ≤ 12) : ∃ A, f_81 I L = some (A, L) ∧ CQ t N J A (plq t N (o, H)).1 ∧ DRC A (plq t N (o, H)).2 W ∧ ∀ c i, c ≠ 14 → c ≠ 15 → c ≠ 22 → A c i = I c i := by
  have i4 : I 15 4 = nI (H.1 4) := hD.1 4 (by omega)
  have i7 : I 15 7 = nI (H.1 7) := hD.1 7 (by omega)
  unfold f_81 plq
  (first | dsimp +instances only | skip)
  by_cases hR : H.1 7 < 12
  · obtain ⟨A1, a1, a2, a3⟩ := e82 (L := L) h (lo := 0) (hx := H.1 4) (by omega) (by omega)
    have i71 : A1 15 7 = nI (H.1 7) := by rw [a3 15 7 (by decide)]; exact i7
    rw [if_pos hR, i7, ku_12, if_pos (nI_lt hR (by omega)), i4, show f_82 0 (nI (H.1 4) - 1) I L = some (nI (nmv t N 0 (H.1 4) o), A1, L) from a1, q_bs]
    (first | dsimp +instances only | skip)
    rw [ku_if (by omega) (by omega), nI_clamp (by omega), i71, nI_1]
    refine ⟨_, rfl, CQ_fr a2 (fun c i hc => by rw [u2_c (by omega), u2_c (by omega)]), ?_, fun c i h1 h2 h3 => by rw [u2_c h2, u2_c h3]; exact a3 c i h1⟩
    obtain ⟨h1, h2, h3, h4, h5, h6, h7⟩ := hD
    have e4 : (hs (ha H 3 (H.1 7) (nmv t N 0 (H.1 4) o)) 7 (H.1 7 + 1)).1 7 = H.1 7 + 1 := hs_s
    have eo : ∀ j, j ≠ 7 → (hs (ha H 3 (H.1 7) (nmv t N 0 (H.1 4) o)) 7 (H.1 7 + 1)).1 j = H.1 j := fun j hj => hs_o hj
    have ev : ∀ b i, (hs (ha H 3 (H.1 7) (nmv t N 0 (H.1 4) o)) 7 (H.1 7 + 1)).2 b i = (ha H 3 (H.1 7) (nmv t N 0 (H.1 4) o)).2 b i := fun _ _ => rfl
    refine ⟨fun i hi => ?_, fun r hr => ?_, fun r hr => ?_, fun r hr => ?_, fun r hr => ?_, fun r hr => ?_, fun r hr => ?_⟩
    · by_cases e : i = 7
      · subst e; rw [u2_s, e4]
      · rw [u2_o e, u2_c (by decide), eo i e, a3 15 i (by decide)]; exact h1 i hi
    · rw [eo 4 (by decide)] at hr
      rw [u2_c (by decide), u2_c (by decide), a3 16 r (by decide), ev, ha_o (Or.inl (by decide))]; exact h2 r hr
    · rw [eo 4 (by decide)] at hr
      rw [u2_c (by decide), u2_c (by decide), a3 17 r (by decide)]; exact h3 r hr
    · rw [u2_c (by decide), u2_c (by decide), a3 18 r (by decide), dms_hs (by omega), dms_ha (by omega)]; exact h4 r hr
    · rw [eo 6 (by decide)] at hr
      rw [u2_c (by decide), u2_c (by decide), a3 20 r (by decide), ev, ha_o (Or.inl (by decide))]; exact h5 r hr
    · rw [eo 6 (by decide)] at hr
      rw [u2_c (by decide), u2_c (by decide), a3 21 r (by decide), ev, ha_o (Or.inl (by decide))]; exact h6 r hr
    · rw [e4] at hr
      rw [u2_c (by decide), ev]
      by_cases e : r = H.1 7
      · subst e; rw [u2_s, ha_s]
      · rw [u2_o e, ha_o (Or.inr e), a3 22 r (by decide)]; exact h7 r (by omega)
  · obtain ⟨j, j1, j2, j3⟩ := CQ_at h
    have hva := va_le (t := t) (N := N) (o := o)
    rw [if_neg hR, i7, ku_12, if_neg (nI_nlt (by omega) (by omega)), j2, ku_if (by omega) (by omega), nI_clamp (by omega), i4]
    by_cases z : o.1 = 0
    · rw [(j3 z).2]
      by_cases q : va t N o.2 < H.1 4
      · rw [if_neg (nI_ge q (by omega)), if_pos q]
        obtain ⟨A, a1, a2, a3⟩ := e85 (L := L) h (k := 3) (by omega) (by omega)
        refine ⟨A, ?_, a2, DRC_fr hD (fun c i _ _ => a3 c i (by omega)), fun c i h1 _ _ => a3 c i h1⟩
        unfold c_81_0
        rw [show f_85 3 I L = some (A, L) from a1, q_bs]
      · rw [if_pos (nI_le (by omega) (by omega)), if_neg q]
        obtain ⟨A, a1, a2, a3⟩ := e85 (L := L) h (k := 2) (by omega) (by omega)
        refine ⟨A, ?_, a2, DRC_fr hD (fun c i _ _ => a3 c i (by omega)), fun c i h1 _ _ => a3 c i h1⟩
        unfold c_81_0
        rw [show f_85 2 I L = some (A, L) from a1, q_bs]
    · have e5 : ∀ x, f_85 x I L = some (I, L) := fun x => by
        unfold f_85
        rw [if_pos (by rw [(CQ_f h).1]; exact nI_ne0 (by omega) (by have := (CQ_f h).2; omega))]
      refine ⟨I, ?_, by rw [flo_f z]; exact h, hD, fun _ _ _ _ _ => rfl⟩
      unfold c_81_0
      rw [e5, e5, q_bs]
      split <;> rfl
theorem plq_b {s : (Nat × Nat) × HD} (h : s.2.1 7 ≤ 12) : (plq t N s).2.1 7 ≤ 12 ∧ (plq t N s).2.1 4 = s.2.1 4 := by
  unfold plq
  split
  · exact ⟨by show (hs _ 7 _).1 7 ≤ 12; rw [hs_s]; omega, hs_o (by decide)⟩
  · exact ⟨h, rfl⟩
theorem e80 (h : CQ t N J I o) (hD : DRC I H W) (o4 : H.1 4 ≤ 4) (hz : H.1 7 = 0) (hn : 1000 ≤ n) : ∃ A, f_80 n I L = some (A, L) ∧ CQ t N J A (rdS t N o H).1 ∧ DRC A (rdS t N o H).2 W ∧ ∀ c i, c ≠ 14 → c ≠ 15 → c ≠ 22 → A c i = I c i := by
  have i7 : I 15 7 = nI (H.1 7) := hD.1 7 (by omega)
  obtain ⟨A1, a1, a2, a3⟩ := e83 (L := L) h (k := 15) (by omega)
  have hD1 : DRC A1 H W := DRC_fr hD (fun c i _ _ => a3 c i (by omega))
  obtain ⟨A2, b1, b2, b3, b4⟩ := e81 (L := L) a2 hD1 o4 (by omega)
  have key : ∀ (d i m : Nat) (s : (Nat × Nat) × HD) (B : FI), i + d = 13 → d < m → CQ t N J B s.1 → DRC B s.2 W → s.2.1 4 ≤ 4 → s.2.1 7 ≤ 12 → (∀ c i, c ≠ 14 → c ≠ 15 → c ≠ 22 → B c i = I c i) → ∃ A, c_80_0 n m (nI i) B L = some (A, L) ∧ CQ t N J A (rds t N d s).1 ∧ DRC A (rds t N d s).2 W ∧ ∀ c i, c ≠ 14 → c ≠ 15 → c ≠ 22 → A c i = I c i := by
    intro d
    induction d with
    | zero =>
      intro i m s B hi hm k1 k2 k3 k4 k5
      obtain ⟨m, rfl⟩ : ∃ m', m = m' + 1 := ⟨m - 1, by omega⟩
      refine ⟨B, ?_, k1, k2, k5⟩
      show b_80_0 n (c_80_0 n m) (nI i) B L = _
      unfold b_80_0
      rw [if_pos (by rw [show i = 13 by omega]; decide)]
    | succ d ih =>
      intro i m s B hi hm k1 k2 k3 k4 k5
      obtain ⟨m, rfl⟩ : ∃ m', m = m' + 1 := ⟨m - 1, by omega⟩
      obtain ⟨j, j1, j2, j3⟩ := CQ_at k1
      obtain ⟨f1, f2⟩ := CQ_f k1
      have h15 := tk_le (t := t) (n := N) (p := s.1.2)
      show ∃ A, b_80_0 n (c_80_0 n m) (nI i) B L = some (A, L) ∧ _
      unfold b_80_0
      rw [ku_12, if_neg (nI_nlt (by omega) (by omega)), f1, j2, ku_if (by omega) (by omega), nI_clamp (by omega)]
      by_cases z : s.1.1 = 0
      · rw [if_neg (fun q => q (by rw [z]; rfl)), (j3 z).1]
        by_cases q : tk t N s.1.2 = 2
        · have er : rds t N (d + 1) s = rds t N d (plq t N s) := by
            show (if s.1.1 = 0 ∧ tk t N s.1.2 = 2 then rds t N d (plq t N s) else s) = _
            rw [if_pos ⟨z, q⟩]
          obtain ⟨C, c1, c2, c3, c4⟩ := e81 (L := L) (o := s.1) (H := s.2) k1 k2 k3 k4
          have pb := plq_b (t := t) (N := N) k4
          rw [if_neg (fun x => x (by rw [q]; rfl)), c1, q_bs, nI_1, er]
          exact ih (i + 1) m (plq t N s) C (by omega) (by omega) c2 c3 (by rw [pb.2]; exact k3) pb.1 (fun c i h1 h2 h3 => by rw [c4 c i h1 h2 h3]; exact k5 c i h1 h2 h3)
        · have er : rds t N (d + 1) s = s := by
            show (if s.1.1 = 0 ∧ tk t N s.1.2 = 2 then rds t N d (plq t N s) else s) = _
            rw [if_neg (fun x => q x.2)]
          rw [if_pos (by rw [ku_2, nI_eq (by omega) (by omega)]; exact q), er]
          exact ⟨B, rfl, k1, k2, k5⟩
      · have er : rds t N (d + 1) s = s := by
          show (if s.1.1 = 0 ∧ tk t N s.1.2 = 2 then rds t N d (plq t N s) else s) = _
          rw [if_neg (fun x => z x.1)]
        rw [if_pos (nI_ne0 (by omega) (by omega)), er]
        exact ⟨B, rfl, k1, k2, k5⟩
  have pb := plq_b (t := t) (N := N) (s := (xp t N 15 o, H)) (by show H.1 7 ≤ 12; omega)
  obtain ⟨A, r1, r2, r3, r4⟩ := key 13 0 n (plq t N (xp t N 15 o, H)) A2 (by omega) (by omega) b2 b3 (by rw [pb.2]; exact o4) pb.1 (fun c i h1 h2 h3 => by rw [b4 c i h1 h2 h3]; exact a3 c i h1)
  refine ⟨A, ?_, r2, r3, r4⟩
  unfold f_80
  rw [i7, if_pos (by rw [hz]; decide), show f_83 15 I L = some (A1, L) from a1, q_bs]
  (first | dsimp +instances only | skip)
  rw [b1, q_bs]
  exact r1
end CRD
