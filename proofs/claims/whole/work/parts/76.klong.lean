/-! LAYER 3: longest. Printed by wip/whole/gen76.py -/
section KLO
variable {I : FI} {L : FL} {H : HD} {W : Nat → Nat} {A : AD} {l : Nat} {wt : Nat → Nat} {n : Nat}
def SRC (H : HD) (l : Nat) (wt X : Nat → Nat) (k j u : Nat) : Prop := (∃ t, t < k ∧ X t = 1 ∧ ∃ to, to < H.1 4 ∧ GO H l (evr H) wt t to ∧ mch H l (evr H) t to = u) ∨ (X k = 1 ∧ ∃ to, to < j ∧ GO H l (evr H) wt k to ∧ mch H l (evr H) k to = u)
/-- the states a minute later so far -/
def STP (H : HD) (l : Nat) (wt X : Nat → Nat) (k j b : Nat) (s : FI) : Prop := ∃ Y : Nat → Nat, (∀ u, u < msz H → s 110 u = nI (Y u) ∧ Y u ≤ 1 ∧ (Y u = 1 ↔ SRC H l wt X k j u)) ∧ ((b = 1 ∧ ∃ u, u < msz H ∧ Y u = 1) ∨ (b = 0 ∧ ∀ u, u < msz H → Y u = 0))
theorem STP_cg {X : Nat → Nat} {k j k' j' b : Nat} {s s' : FI} (h : STP H l wt X k j b s) (e : ∀ u, u < msz H → (SRC H l wt X k j u ↔ SRC H l wt X k' j' u)) (e2 : ∀ u, s' 110 u = s 110 u) : STP H l wt X k' j' b s' := by
  obtain ⟨Y, y1, y2⟩ := h
  exact ⟨Y, fun u hu => by rw [e2 u, ← e u hu]; exact y1 u hu, y2⟩
theorem e303 (hM : MK H W A l wt I) (hn : 20000 ≤ n) {X : Nat → Nat} (hX : LIV H I X) : ∃ b J Y, f_303 n I L = some (nI b, J, L) ∧ LIV H J Y ∧ (∀ u, u < msz H → (Y u = 1 ↔ ∃ t, t < msz H ∧ X t = 1 ∧ ∃ to, to < H.1 4 ∧ GO H l (evr H) wt t to ∧ mch H l (evr H) t to = u)) ∧ ((b = 1 ∧ ∃ u, u < msz H ∧ Y u = 1) ∨ (b = 0 ∧ ∀ u, u < msz H → Y u = 0)) ∧ ∀ c i, c ≠ 105 → c ≠ 109 → c ≠ 110 → J c i = I c i := by
  have ho := hM.1
  have o4 : H.1 4 ≤ 4 := ho.1.2.2.2.2.1
  have hm := msz_le o4
  have hev := evr_lt H
  have hw := hM.2.2.2.2.2.1
  -- all are cleared
  obtain ⟨J0, ⟨z1, z2⟩, e0⟩ := lpE (fun m k (s : FI) => c_303_0 n m (nI 0) (nI k) s L) (msz H) (fun k s => (∀ u, u < k → s 110 u = nI 0) ∧ ∀ c i, c ≠ 110 → s c i = I c i) (fun s => c_303_1 n n (nI 0) (nI 0) s L) (fun m s hI => by
      have hMs : MK H W A l wt s := MK_fr hM (fun c i hc => hI.2 c i (by omega))
      show b_303_0 n (c_303_0 n m) (nI 0) (nI (msz H)) s L = _
      unfold b_303_0
      rw [e293 hMs (by omega), q_bs, if_pos (nI_le (Nat.le_refl _) (by omega))]; rfl) (fun m k s hk hI => by
      have hMs : MK H W A l wt s := MK_fr hM (fun c i hc => hI.2 c i (by omega))
      refine ⟨u2 s 110 k (nI 0), ⟨fun u hu => ?_, fun c i hc => by rw [u2_c hc]; exact hI.2 c i hc⟩, ?_⟩
      · by_cases e : u = k
        · subst e; exact u2_s
        · rw [u2_o e]; exact hI.1 u (by omega)
      · show b_303_0 n (c_303_0 n m) (nI 0) (nI k) s L = _
        unfold b_303_0
        rw [e293 hMs (by omega), q_bs, if_neg (nI_ge hk (by omega)), ku_if (by omega) (by omega), nI_clamp (by omega), nI_1]; rfl) n 0 I (by omega) (by omega) ⟨fun u hu => absurd hu (by omega), fun _ _ _ => rfl⟩
  -- the next states
  obtain ⟨⟨b, J1⟩, ⟨y0, y3⟩, e1⟩ := lpE (fun m k (s : Nat × FI) => c_303_1 n m (nI s.1) (nI k) s.2 L) (msz H) (fun k s => STP H l wt X k 0 s.1 s.2 ∧ ∀ c i, c ≠ 105 → c ≠ 110 → s.2 c i = I c i) (fun s => c_303_2 n n (nI s.1) (nI 0) s.2 L) (fun m s hI => by
      have hMs : MK H W A l wt s.2 := MK_fr hM (fun c i hc => hI.2 c i (by omega) (by omega))
      show b_303_1 n (c_303_1 n m) (nI s.1) (nI (msz H)) s.2 L = _
      unfold b_303_1
      rw [e293 hMs (by omega), q_bs, if_pos (nI_le (Nat.le_refl _) (by omega))]; rfl) (fun m k s hk hI => by
      have hMs : MK H W A l wt s.2 := MK_fr hM (fun c i hc => hI.2 c i (by omega) (by omega))
      obtain ⟨x1, x2⟩ := hX k hk
      have hb0 : c_303_1 n (m + 1) (nI s.1) (nI k) s.2 L = c_303_3 n (c_303_1 n m) n (nI s.1) (nI k) (nI 0) s.2 L := by
        show b_303_1 n (c_303_1 n m) (nI s.1) (nI k) s.2 L = _
        unfold b_303_1
        rw [e293 hMs (by omega), q_bs, if_neg (nI_ge hk (by omega))]; rfl
      by_cases hx0 : X k = 0
      · refine ⟨s, ⟨STP_cg hI.1 (fun u hu => ?_) (fun _ => rfl), hI.2⟩, ?_⟩
        · unfold SRC
          constructor
          · rintro (⟨t, t1, t2⟩ | ⟨t1, _⟩)
            · exact Or.inl ⟨t, by omega, t2⟩
            · omega
          · rintro (⟨t, t1, t2, t3⟩ | ⟨_, to, t1, _⟩)
            · rcases (show t < k ∨ t = k by omega) with h | rfl
              · exact Or.inl ⟨t, h, t2, t3⟩
              · omega
            · omega
        · rw [hb0]
          obtain ⟨n', rfl⟩ : ∃ n', n = n' + 1 := ⟨n - 1, by omega⟩
          show b_303_3 (n' + 1) (c_303_1 (n' + 1) m) (c_303_3 (n' + 1) (c_303_1 (n' + 1) m) n') (nI s.1) (nI k) (nI 0) s.2 L = _
          unfold b_303_3 c_303_4
          rw [e237 hMs.2.1, q_bs]
          by_cases z : H.1 4 = 0
          · rw [if_pos (by rw [z]; decide), nI_1]
          · rw [if_neg (nI_ge (by omega) (by omega)), ku_if (by omega) (by omega), nI_clamp (by omega), if_pos (by rw [hI.2 109 k (by decide) (by decide), x1, hx0]; decide), nI_1]
      · have hx1 : X k = 1 := by omega
        obtain ⟨s', ⟨i1, i2⟩, e2⟩ := lpE (fun m' j (s : Nat × FI) => c_303_3 n (c_303_1 n m) m' (nI s.1) (nI k) (nI j) s.2 L) (H.1 4) (fun j s => STP H l wt X k j s.1 s.2 ∧ ∀ c i, c ≠ 105 → c ≠ 110 → s.2 c i = I c i) (fun s => c_303_1 n m (nI s.1) (nI (k + 1)) s.2 L) (fun m' s hI => by
            have hMs : MK H W A l wt s.2 := MK_fr hM (fun c i hc => hI.2 c i (by omega) (by omega))
            show b_303_3 n (c_303_1 n m) (c_303_3 n (c_303_1 n m) m') (nI s.1) (nI k) (nI (H.1 4)) s.2 L = _
            unfold b_303_3 c_303_4
            rw [e237 hMs.2.1, q_bs, if_pos (nI_le (Nat.le_refl _) (by omega)), nI_1]) (fun m' j s hj hI => by
            have hMs : MK H W A l wt s.2 := MK_fr hM (fun c i hc => hI.2 c i (by omega) (by omega))
            have hh := msz_he hk
            have hno : ¬ GO H l (evr H) wt k j → ∀ u, u < msz H → (SRC H l wt X k j u ↔ SRC H l wt X k (j + 1) u) := fun hg u hu => by
              unfold SRC
              constructor
              · rintro (h | ⟨h, to, t1, t2⟩)
                · exact Or.inl h
                · exact Or.inr ⟨h, to, by omega, t2⟩
              · rintro (h | ⟨h, to, t1, t2, t3⟩)
                · exact Or.inl h
                · rcases (show to < j ∨ to = j by omega) with q | rfl
                  · exact Or.inr ⟨h, to, q, t2, t3⟩
                  · exact absurd t2 hg
            have hpre : ∀ r, (if (k / 8 ^ (H.1 4) = j ∨ dor H (k / 8 ^ (H.1 4)) j = true) then ((f_288 n (nI k) s.2 L).bind fun q6 => (f_289 n (nI k) q6.1 q6.2).bind fun q7 => (f_253 n (nI j) q7 0 q6.1 q6.2).bind fun q8 => (f_298 q8.1 q8.2).bind fun q9 => (f_290 n q9 q8.1 q8.2).bind fun q10 => if ¬ q10 = 0 then (f_298 q8.1 q8.2).bind fun q11 => (f_287 n (nI j) q11 q8.1 q8.2).bind fun q12 => if pin q12 16384 = true then c_303_5 n (c_303_1 n m) (c_303_3 n (c_303_1 n m) m') 1 (nI k) (nI j) (u2 q8.1 110 q12.toNatClampNeg (vp_nar .boolean 1)) q8.2 else none else c_303_5 n (c_303_1 n m) (c_303_3 n (c_303_1 n m) m') (nI s.1) (nI k) (nI j) q8.1 q8.2) else c_303_5 n (c_303_1 n m) (c_303_3 n (c_303_1 n m) m') (nI s.1) (nI k) (nI j) s.2 L) = r → c_303_3 n (c_303_1 n m) (m' + 1) (nI s.1) (nI k) (nI j) s.2 L = r := fun r hr => by
              show b_303_3 n (c_303_1 n m) (c_303_3 n (c_303_1 n m) m') (nI s.1) (nI k) (nI j) s.2 L = _
              unfold b_303_3
              rw [e237 hMs.2.1, q_bs, if_neg (nI_ge hj (by omega)), ku_if (by omega) (by omega), nI_clamp (by omega), if_neg (by rw [hI.2 109 k (by decide) (by decide), x1, hx1]; decide), e289 hMs (by omega) (by omega), q_bs, e250 ho hMs.2.1 (by omega) (by omega) (by omega), q_bs, q_b2]
              exact hr
            by_cases hd : k / 8 ^ (H.1 4) = j ∨ dor H (k / 8 ^ (H.1 4)) j = true
            · obtain ⟨J, K, b, j1, k1, b1, b2, j3, k3⟩ := e291a (L := L) (n := n) hMs hev hk hj hd (by omega)
              have hMJ : MK H W A l wt J := MK_fr hMs (fun c i hc => j3 c i (by omega))
              have hMK : MK H W A l wt K := MK_fr hMs (fun c i hc => k3 c i (by omega))
              rw [if_pos hd, j1, q_bs] at hpre
              dsimp only at hpre
              rw [e289 hMJ (by omega) (by omega), q_bs, k1, q_bs] at hpre
              dsimp only at hpre
              rw [e298 hMK, q_bs, b1, q_bs] at hpre
              rcases b2 with ⟨rfl, hg, h7⟩ | ⟨rfl, hg⟩
              · have hml := mch_lt hev hw hj hg
                rw [if_pos (by decide), q_bs, h7, q_bs, ku_if (by omega) (by omega), nI_clamp (by omega)] at hpre
                obtain ⟨Y, y1, y2⟩ := hI.1
                refine ⟨(1, u2 K 110 (mch H l (evr H) k j) (nI 1)), ⟨⟨fun u => if u = mch H l (evr H) k j then 1 else Y u, fun u hu => ?_, Or.inl ⟨rfl, mch H l (evr H) k j, hml, if_pos rfl⟩⟩, fun c i h1 h2 => ?_⟩, hpre _ ?_⟩
                · show u2 K 110 (mch H l (evr H) k j) (nI 1) 110 u = nI (if u = mch H l (evr H) k j then 1 else Y u) ∧ (if u = mch H l (evr H) k j then 1 else Y u) ≤ 1 ∧ ((if u = mch H l (evr H) k j then 1 else Y u) = 1 ↔ _)
                  by_cases e : u = mch H l (evr H) k j
                  · rw [if_pos e, e, u2_s]
                    exact ⟨rfl, by omega, fun _ => Or.inr ⟨hx1, j, by omega, hg, rfl⟩, fun _ => rfl⟩
                  · rw [if_neg e, u2_o e, k3 110 u (by decide)]
                    obtain ⟨w1, w2, w3⟩ := y1 u hu
                    refine ⟨w1, w2, w3.trans ?_⟩
                    unfold SRC
                    constructor
                    · rintro (h | ⟨h, to, t1, t2⟩)
                      · exact Or.inl h
                      · exact Or.inr ⟨h, to, by omega, t2⟩
                    · rintro (h | ⟨h, to, t1, t2, t3⟩)
                      · exact Or.inl h
                      · rcases (show to < j ∨ to = j by omega) with q | rfl
                        · exact Or.inr ⟨h, to, q, t2, t3⟩
                        · exact absurd t3.symm e
                · show u2 K 110 (mch H l (evr H) k j) (nI 1) c i = _
                  rw [u2_c h2, k3 c i h1]; exact hI.2 c i h1 h2
                · unfold c_303_5; rw [nI_1]; rfl
              · rw [if_neg (by decide)] at hpre
                exact ⟨(s.1, K), ⟨STP_cg hI.1 (hno hg) (fun u => k3 110 u (by decide)), fun c i h1 h2 => (k3 c i h1).trans (hI.2 c i h1 h2)⟩, hpre _ (by unfold c_303_5; rw [nI_1])⟩
            · rw [if_neg hd] at hpre
              exact ⟨s, ⟨STP_cg hI.1 (hno (fun q => hd q.1)) (fun _ => rfl), hI.2⟩, hpre _ (by unfold c_303_5; rw [nI_1])⟩) n 0 s (by omega) (by omega) hI
        refine ⟨s', ⟨STP_cg i1 (fun u hu => ?_) (fun _ => rfl), i2⟩, by rw [hb0]; exact e2⟩
        unfold SRC
        constructor
        · rintro (⟨t, t1, t2⟩ | ⟨h, t2⟩)
          · exact Or.inl ⟨t, by omega, t2⟩
          · exact Or.inl ⟨k, by omega, h, t2⟩
        · rintro (⟨t, t1, t2, t3⟩ | ⟨_, to, t1, _⟩)
          · rcases (show t < k ∨ t = k by omega) with h | rfl
            · exact Or.inl ⟨t, h, t2, t3⟩
            · exact Or.inr ⟨t2, t3⟩
          · omega) n 0 (0, J0) (by omega) (by omega) ⟨⟨fun _ => 0, fun u hu => ⟨z1 u hu, Nat.zero_le _, fun q => absurd (show (0 : Nat) = 1 from q) (by decide), fun q => by
      rcases q with ⟨t, t1, _⟩ | ⟨_, to, t1, _⟩
      · omega
      · omega⟩, Or.inr ⟨rfl, fun _ _ => rfl⟩⟩, fun c i h1 h2 => z2 c i h2⟩
  dsimp only at y0 y3 e1
  obtain ⟨Y, y1, y2⟩ := y0
  have hb1 : b ≤ 1 := by rcases y2 with ⟨h, _⟩ | ⟨h, _⟩ <;> omega
  -- they take the place of those before
  obtain ⟨J2, ⟨w1, w2⟩, e2⟩ := lpE (fun m k (s : FI) => c_303_2 n m (nI b) (nI k) s L) (msz H) (fun k s => (∀ u, u < k → s 109 u = nI (Y u)) ∧ ∀ c i, c ≠ 109 → s c i = J1 c i) (fun s => some (nI b, s, L)) (fun m s hI => by
      have hMs : MK H W A l wt s := MK_fr hM (fun c i hc => by rw [hI.2 c i (by omega), y3 c i (by omega) (by omega)])
      show b_303_2 n (c_303_2 n m) (nI b) (nI (msz H)) s L = _
      unfold b_303_2
      rw [e293 hMs (by omega), q_bs, if_pos (nI_le (Nat.le_refl _) (by omega))]
      rcases (show b = 0 ∨ b = 1 by omega) with rfl | rfl
      · rw [if_pos (by decide)]
      · rw [if_pos (by decide)]) (fun m k s hk hI => by
      have hMs : MK H W A l wt s := MK_fr hM (fun c i hc => by rw [hI.2 c i (by omega), y3 c i (by omega) (by omega)])
      refine ⟨u2 s 109 k (nI (Y k)), ⟨fun u hu => ?_, fun c i hc => by rw [u2_c hc]; exact hI.2 c i hc⟩, ?_⟩
      · by_cases e : u = k
        · subst e; exact u2_s
        · rw [u2_o e]; exact hI.1 u (by omega)
      · show b_303_2 n (c_303_2 n m) (nI b) (nI k) s L = _
        unfold b_303_2
        rw [e293 hMs (by omega), q_bs, if_neg (nI_ge hk (by omega)), ku_if (by omega) (by omega), ku_if (by omega) (by omega), nI_clamp (by omega), hI.2 110 k (by decide), (y1 k hk).1, nar_b (y1 k hk).2.1, nI_1]) n 0 J1 (by omega) (by omega) ⟨fun u hu => absurd hu (by omega), fun _ _ _ => rfl⟩
  refine ⟨b, J2, Y, ?_, fun u hu => ⟨w1 u hu, (y1 u hu).2.1⟩, fun u hu => (y1 u hu).2.2.trans ?_, y2, fun c i h1 h2 h3 => by rw [w2 c i h2, y3 c i h1 h3]⟩
  · unfold f_303
    rw [show (0 : Int32) = nI 0 from rfl]
    exact e0.trans (e1.trans e2)
  · unfold SRC
    constructor
    · rintro (h | ⟨_, to, t1, _⟩)
      · exact h
      · omega
    · exact fun h => Or.inl h
/-- reached in so many minutes -/
def RCH (H : HD) (l : Nat) (wt : Nat → Nat) (u : Nat) : Nat → Nat → Prop
  | 0, t => t = u
  | k + 1, t' => ∃ t, t < msz H ∧ RCH H l wt u k t ∧ ∃ to, to < H.1 4 ∧ GO H l (evr H) wt t to ∧ mch H l (evr H) t to = t'
theorem RCH_p (o4 : H.1 4 ≤ 4) (hw : ∀ r, r < H.1 4 → 1 ≤ wt r ∧ wt r ≤ 7) {u : Nat} (hu : u < msz H) : ∀ k j, (∃ t, t < msz H ∧ RCH H l wt u k t ∧ pth H l (evr H) wt j (cv (H.1 4) t) = true) ↔ pth H l (evr H) wt (k + j) (cv (H.1 4) u) = true := by
  intro k
  induction k with
  | zero =>
    intro j
    rw [Nat.zero_add]
    constructor
    · rintro ⟨t, _, rfl, h⟩; exact h
    · exact fun h => ⟨u, hu, rfl, h⟩
  | succ k ih =>
    intro j
    rw [show k + 1 + j = k + (j + 1) by omega, ← ih (j + 1)]
    constructor
    · rintro ⟨t', t1, ⟨t, t2, t3, to, t4, t5, rfl⟩, h⟩
      refine ⟨t, t2, t3, pth_s.mpr ⟨to, t4, ?_⟩⟩
      rcases nxt_cv (l := l) (t := t) (to := to) o4 (evr_lt H) hw with ⟨_, e⟩ | ⟨g, _⟩
      · rw [e, Nat.add_sub_cancel]; exact ⟨by omega, h⟩
      · exact absurd t5 g
    · rintro ⟨t, t2, t3, h⟩
      obtain ⟨to, t4, h1, h2⟩ := pth_s.mp h
      rcases nxt_cv (l := l) (t := t) (to := to) o4 (evr_lt H) hw with ⟨g, e⟩ | ⟨_, e⟩
      · rw [e, Nat.add_sub_cancel] at h2
        exact ⟨mch H l (evr H) t to, mch_lt (evr_lt H) hw t4 g, ⟨t, t2, t3, to, t4, g, rfl⟩, h2⟩
      · exact absurd e h1
theorem RCH_0 (o4 : H.1 4 ≤ 4) (hw : ∀ r, r < H.1 4 → 1 ≤ wt r ∧ wt r ≤ 7) {u : Nat} (hu : u < msz H) (k : Nat) : (∃ t, t < msz H ∧ RCH H l wt u k t) ↔ pth H l (evr H) wt k (cv (H.1 4) u) = true := by
  rw [← Nat.add_zero k, ← RCH_p (l := l) o4 hw hu k 0, Nat.add_zero]
  constructor
  · rintro ⟨t, a, b⟩; exact ⟨t, a, b, rfl⟩
  · rintro ⟨t, a, b, _⟩; exact ⟨t, a, b⟩
/-- how long, by the model -/
theorem m302 (hM : MK H W A (H.1 1) (H.2 0) I) (h4 : 0 < H.1 4) (hn : 20000 ≤ n) : ∃ v K, c_302_0 n n (nI 0) I L = some (nI v, K, L) ∧ SPN H (H.1 1) (evr H) (H.2 0) (st0 H (H.1 1) (evr H) (fpl H)) v ∧ ∀ c i, c ≠ 105 → c ≠ 109 → c ≠ 110 → K c i = I c i := by
  have ho := hM.1
  have o4 : H.1 4 ≤ 4 := ho.1.2.2.2.2.1
  have hm := msz_le o4
  have hev := evr_lt H
  have hf := fpl_lt ho h4
  have hw := hM.2.2.2.2.2.1
  -- cleared
  obtain ⟨J0, ⟨z1, z2⟩, e0⟩ := lpE (fun m k (s : FI) => c_302_0 n m (nI k) s L) (msz H) (fun k s => (∀ u, u < k → s 109 u = nI 0) ∧ ∀ c i, c ≠ 109 → s c i = I c i) (fun s => (f_256 s L).bind fun q4 => (f_298 s L).bind fun q5 => (f_296 n q4 q5 s L).bind fun q6 => if pin q6.1 16384 = true then c_302_1 n n 1 (u2 q6.2.1 109 q6.1.toNatClampNeg (vp_nar .boolean 1)) q6.2.2 else none) (fun m s hI => by
      have hMs : MK H W A (H.1 1) (H.2 0) s := MK_fr hM (fun c i hc => hI.2 c i (by omega))
      show b_302_0 n (c_302_0 n m) (nI (msz H)) s L = _
      unfold b_302_0
      rw [e293 hMs (by omega), q_bs, if_pos (nI_le (Nat.le_refl _) (by omega))]) (fun m k s hk hI => by
      have hMs : MK H W A (H.1 1) (H.2 0) s := MK_fr hM (fun c i hc => hI.2 c i (by omega))
      refine ⟨u2 s 109 k (nI 0), ⟨fun u hu => ?_, fun c i hc => by rw [u2_c hc]; exact hI.2 c i hc⟩, ?_⟩
      · by_cases e : u = k
        · subst e; exact u2_s
        · rw [u2_o e]; exact hI.1 u (by omega)
      · show b_302_0 n (c_302_0 n m) (nI k) s L = _
        unfold b_302_0
        rw [e293 hMs (by omega), q_bs, if_neg (nI_ge hk (by omega)), ku_if (by omega) (by omega), nI_clamp (by omega), nI_1]; rfl) n 0 I (by omega) (by omega) ⟨fun u hu => absurd hu (by omega), fun _ _ _ => rfl⟩
  have hM0 : MK H W A (H.1 1) (H.2 0) J0 := MK_fr hM (fun c i hc => z2 c i (by omega))
  obtain ⟨u, K0, k1, k2, k3, k4⟩ := e296 (L := L) hM0 hev hf (show 1000 ≤ n by omega)
  have hMK : MK H W A (H.1 1) (H.2 0) (u2 K0 109 u (nI 1)) := MK_fr hM0 (fun c i hc => by rw [u2_c (by omega), k4 c i (by omega)])
  have hpre : ∀ r, c_302_1 n n (nI 1) (u2 K0 109 u (nI 1)) L = r → c_302_0 n n (nI 0) I L = r := fun r hr => by
    refine e0.trans ?_
    rw [e256k hM0, q_bs, if_neg (by omega), e298 hM0, q_bs, k1, q_bs]
    dsimp only
    rw [ku_if (by omega) (by omega), nI_clamp (by omega)]
    exact hr
  rw [← k3]
  rcases lpG (fun m k (s : FI) => c_302_1 n m (nI (k + 1)) s L) 99 (fun k s => (∃ X, LIV H s X ∧ (∀ t, t < msz H → (X t = 1 ↔ RCH H (H.1 1) (H.2 0) u k t)) ∧ ∃ t, t < msz H ∧ X t = 1) ∧ ∀ c i, c ≠ 105 → c ≠ 109 → c ≠ 110 → s c i = u2 K0 109 u (nI 1) c i) (fun s => some (nI 100, s, L)) (fun r => ∃ v K, r = some (nI v, K, L) ∧ SPN H (H.1 1) (evr H) (H.2 0) (cv (H.1 4) u) v ∧ ∀ c i, c ≠ 105 → c ≠ 109 → c ≠ 110 → K c i = u2 K0 109 u (nI 1) c i) (fun m s hI => by
      show b_302_1 n (c_302_1 n m) (nI 100) s L = _
      unfold b_302_1
      rw [if_pos (by decide)]) (fun m k s hk hI => by
      obtain ⟨⟨X, x1, x2, t, t1, t2⟩, x4⟩ := hI
      have hMs : MK H W A (H.1 1) (H.2 0) s := MK_fr hMK (fun c i hc => x4 c i (by omega) (by omega) (by omega))
      obtain ⟨b, J, Y, j1, j2, j3, j4, j5⟩ := e303 (L := L) hMs hn x1
      have hstep : c_302_1 n (m + 1) (nI (k + 1)) s L = if nI b = 0 then some (nI (k + 1), J, L) else c_302_1 n m (nI (k + 1 + 1)) J L := by
        show b_302_1 n (c_302_1 n m) (nI (k + 1)) s L = _
        unfold b_302_1
        rw [if_neg (show ¬ (100 : Int32) ≤ nI (k + 1) from nI_ge (b := 100) (by omega) (by omega)), j1, q_bs, nI_1]
      have hr : ∀ v, v < msz H → (Y v = 1 ↔ RCH H (H.1 1) (H.2 0) u (k + 1) v) := fun v hv => by
        rw [j3 v hv]
        constructor
        · rintro ⟨t, a, b, c⟩; exact ⟨t, a, (x2 t a).mp b, c⟩
        · rintro ⟨t, a, b, c⟩; exact ⟨t, a, (x2 t a).mpr b, c⟩
      rcases j4 with ⟨rfl, v, v1, v2⟩ | ⟨rfl, h0⟩
      · exact Or.inr ⟨J, ⟨⟨Y, j2, hr, v, v1, v2⟩, fun c i a b d => (j5 c i a b d).trans (x4 c i a b d)⟩, by rw [hstep, if_neg (by decide)]⟩
      · refine Or.inl ⟨k + 1, J, by rw [hstep, if_pos (by decide)], ⟨by omega, by omega, ?_, fun _ => ?_⟩, fun c i a b d => (j5 c i a b d).trans (x4 c i a b d)⟩
        · exact (RCH_0 o4 hw k2 k).mp ⟨t, t1, (x2 t t1).mp t2⟩
        · cases e : pth H (H.1 1) (evr H) (H.2 0) (k + 1) (cv (H.1 4) u)
          · rfl
          · obtain ⟨v, v1, v2⟩ := (RCH_0 (l := H.1 1) o4 hw k2 (k + 1)).mpr e
            have := (hr v v1).mpr v2
            rw [h0 v v1] at this; omega) n 0 (u2 K0 109 u (nI 1)) (by omega) (by omega) ⟨⟨fun t => if t = u then 1 else 0, fun t ht => by
      dsimp only
      by_cases e : t = u
      · subst e; rw [if_pos rfl, u2_s]; exact ⟨rfl, by omega⟩
      · rw [if_neg e, u2_o e, k4 109 t (by decide), z1 t ht]; exact ⟨rfl, by omega⟩, fun t ht => by
      dsimp only
      by_cases e : t = u
      · rw [if_pos e]; exact ⟨fun _ => e, fun _ => rfl⟩
      · rw [if_neg e]; exact ⟨fun q => absurd q (by omega), fun q => absurd q e⟩, u, k2, if_pos rfl⟩, fun _ _ _ _ _ => rfl⟩ with ⟨v, K, h1, h2, h3⟩ | ⟨K, ⟨⟨X, x1, x2, t, t1, t2⟩, h2⟩, h3⟩
  · exact ⟨v, K, hpre _ h1, h2, fun c i a b d => by rw [h3 c i a b d, u2_c b, k4 c i a, z2 c i b]⟩
  · exact ⟨100, K, hpre _ h3, ⟨by omega, by omega, (RCH_0 o4 hw k2 99).mp ⟨t, t1, (x2 t t1).mp t2⟩, fun q => absurd q (by omega)⟩, fun c i a b d => by rw [h2 c i a b d, u2_c b, k4 c i a, z2 c i b]⟩
end KLO
section KSK6
variable {RP : RPT} {Ls : Nat} {xs : Nat → Int32} {a1 a2 a3 a4 a5 : Int32}
theorem sk_longest : SOK Ls xs (VV KPK RP) 139 302 [] := by
  intro kp nh rh tl rl I L hV
  have hV0 := hV
  obtain ⟨H, W, A, J, M, hB, hRg, hP, hCJ, fI, fL, hw⟩ := kw hV
  have hB0 := hB
  obtain ⟨hT, hF, ho, hC, hM, hIm, hRw⟩ := hB
  have o0 : H.1 0 ≤ 1000 := ho.1.1
  have o4 : H.1 4 ≤ 4 := ho.1.2.2.2.2.1
  have c0 : I 3 0 = nI (H.1 0) := chs hC (by decide)
  have c4 : I 3 4 = nI (H.1 4) := chs hC (by decide)
  have hpw := pw5 _ (show H.1 4 < 5 by omega)
  have hp0 : 0 < 2 ^ (H.1 4) := Nat.pow_pos (by omega)
  have hM0 : MH (u2 I 89 0 0) 0 H W A := MH_th hM
  have m4 : u2 I 89 0 0 96 3 = nI (H.1 4) := mh96 hM0 (by decide)
  by_cases h0 : H.1 0 = 0
  · rcases hw with ⟨rfl, rfl, rfl, rfl, rfl⟩ | ⟨rfl, rfl, rfl, hf⟩
    · exact ⟨-2, some 114, nh, rh, TK, RK (some 3), I, L, u2 I 89 0 0, L, (t_139_1 Ls xs 994 nh rh 200000 I L (-2, I, L) (by unfold f_139_1; rw [e177n c0 o0 h0, q_bs, if_pos rfl])), (t_302 Ls xs 996 (some 114) TK (RK (some 3)) nh rh 200000 I L (-2, u2 I 89 0 0, L) (by unfold f_302; rw [e236n hM0.1 o0 h0, q_bs, if_neg (fun q => q rfl)])), VV_th hV0⟩
    · exact ⟨-2, none, nh, rh, [], [], I, L, u2 I 89 0 0, L, (t_139 Ls xs 994 nh rh 200000 I L (-2, false, I, L) (by unfold f_139; rw [e177n c0 o0 h0, q_bs, if_pos rfl])), (t_302 Ls xs 996 none [] [] nh rh 200000 I L (-2, u2 I 89 0 0, L) (by unfold f_302; rw [e236n hM0.1 o0 h0, q_bs, if_neg (fun q => q rfl)])), VV_th hV0⟩
  · obtain ⟨x, I', L', e1, e3, e4, e5, e6⟩ := e35 (n := 200000) (L := M) (by omega) ho hCJ hP
    have hMJ : MH (u2 I' 89 0 0) 0 H W A := MH_th (MH_fr ho hM (fun c hc i => by rw [e5 c i (by omega), fI c i (by omega)]))
    obtain ⟨J2, p1, p2, p3, p4⟩ := mlay (n := 200000) (L := L') ho hMJ (by omega)
    have hmod : ∃ K, f_302 200000 I' L' = some (nI x, K, L') ∧ ∀ c i, c ≠ 105 → c ≠ 109 → c ≠ 110 → K c i = J2 c i := by
      unfold f_302
      rw [e236y hMJ.1 o0 (by omega), q_bs, if_pos (by decide), p1, q_bs]
      dsimp only
      rw [e237 p2.2.1, q_bs]
      by_cases z : H.1 4 = 0
      · rw [if_neg (by rw [z]; decide)]
        have hx : x = 100 := by
          rcases e3 with h | h
          · exact h.2
          · omega
        exact ⟨J2, by rw [hx]; rfl, fun _ _ _ _ _ => rfl⟩
      · rw [if_pos (by rw [ku_0, nI_eq (by omega) (by omega)]; exact z)]
        obtain ⟨y, K, k1, k2, k3⟩ := m302 (n := 200000) (L := L') p2 (by omega) (by omega)
        rcases e3 with h | h
        · omega
        · have := SPN_u h.2 k2
          subst this
          exact ⟨K, k1, k3⟩
    obtain ⟨K, k1, k3⟩ := hmod
    have hK : ∀ c i, c ≠ 89 → c ≠ 104 → c ≠ 105 → c ≠ 109 → c ≠ 110 → K c i = I' c i := fun c i h1 h2 h3 h4 h5 => by rw [k3 c i h3 h4 h5, p3 c i h1 h2, u2_c h1]
    have hK9 : ∀ i, (i = 6 ∨ i = 14 ∨ i = 15) → K 89 i = I' 89 i := fun i hi => by rw [k3 89 i (by decide) (by decide) (by decide), p4 i (by omega), u2_o (by omega)]
    refine ⟨nI x, some 114, nh, rh, TK, RK (some 3), I', L', K, L', ?_, ?_, kfin hB0 hRg (KPK_cg e4 (fun c i a b => hK c i (by omega) (by omega) (by omega) (by omega) (by omega)) (fun _ => rfl)) (fun c i h1 h2 h3 h4 h5 h6 => by rw [hK c i h1 h2 h3 h4 h5, e5 c i h6, fI c i h6]) (fun i hi => by rw [hK9 i hi, e5 89 i (by omega), fI 89 i (by omega)]) (fun c i hc => by rw [e6 c i (by omega), fL c i hc])⟩
    · rcases hw with ⟨rfl, rfl, rfl, rfl, rfl⟩ | ⟨rfl, rfl, rfl, hf⟩
      · exact (t_139_1 Ls xs 994 nh rh 200000 I L (nI x, I', L') (by
          unfold f_139_1
          rw [e177y c0 o0 (by omega), q_bs, if_neg (by decide), show f_187 I L = some (I, L) from rfl, q_bs]
          dsimp only
          rw [e1, q_bs]))
      · exact (t_139 Ls xs 994 nh rh 200000 I L (nI x, true, I', L') (by
          unfold f_139
          rw [e177y c0 o0 (by omega), q_bs, if_neg (by decide), hf, q_bs]
          dsimp only
          rw [e1, q_bs]))
    · exact (t_302 Ls xs 996 (some 114) TK (RK (some 3)) nh rh 200000 I' L' (nI x, K, L') k1)
end KSK6
