/-! LAYER 3: the class's night: flames -/
section CPASS
variable {I : FI} {L : FL} {H : HD} {W : Nat → Nat} {A : AD} {g : NG} {n : Nat}
theorem e59 (ho : HOK H W A) (hC : CH I 3 11 H W A) (hg : GOK H g) (r3 : I 26 6 = nI g.1.1) (r6 : I 26 9 = nI g.1.2.2.2) {t w e r a : Nat} (ht : t < 30) (r8 : I 28 t = nI (g.2.2 t)) (hr : r < 4) (ha : a ≤ 7) (hw : w ≤ 4) (h29 : I 29 t = oI w) (h30 : I 30 t = nI (lok g t w)) (he : f_57 (nI t - 1) I L = some (oI e)) (hel : e ≤ 4) : f_59 (nI r) (nI t) (nI a) I L = some (nI (agb H g t w e r a)) := by
  obtain ⟨g1, g2, g3, g4, g5, g6⟩ := hg
  have hl := lok_lt (g6 t ht) hw
  have hy := eyn_le g t w
  have hgs := g6 t ht
  unfold f_59
  rw [e57 ht r6 g4 h29, q_bs, ku_if ht (by omega), nI_clamp (by omega), h30, ku_bit2 (by omega) (by omega), q_b2]
  unfold agb
  by_cases h : (lok g t w).testBit r = true
  · rw [if_pos h, if_pos h, r3]
    by_cases h1 : g.1.1 = 1
    · rw [if_neg (by rw [h1]; decide), if_pos h1, ku_2, pk_div (by omega) (by omega) (by omega)]
    · rw [if_pos (by rw [ku_1, nI_eq (by omega) (by omega)]; exact h1), if_neg h1, ku_if ht (by omega), r8, ku_bit2 (by omega) (by omega), q_b1]
      by_cases h2 : g.1.1 = 2
      · by_cases h3 : (g.2.2 t).testBit r = true
        · rw [if_pos h3, if_neg (fun q => by rw [h3] at q; exact absurd q.2.1 (by decide))]
          unfold c_59_0
          rw [r3, if_neg (by rw [h2]; decide), if_pos (by decide)]; rfl
        · rw [if_neg h3]
          unfold c_59_0
          rw [r3, if_neg (by rw [h2]; decide), if_neg (by decide), he, q_bs]
          by_cases h4 : e = r + 1
          · rw [if_pos (by rw [h4, oI_s]), if_neg (fun q => q.2.2 h4)]; rfl
          · rw [if_neg (by rw [oI_nI (by omega) (by omega)]; exact h4), if_pos ⟨h2, by simpa using h3, h4⟩]
      · rw [if_neg (c := g.1.1 = 2 ∧ (g.2.2 t).testBit r = false ∧ e ≠ r + 1) (fun q => h2 q.1)]
        have : ∀ x, c_59_0 I L (nI r) (nI t) (nI a) x = some (nI 0) := fun x => by
          unfold c_59_0
          rw [r3, if_pos (by rw [ku_2, nI_eq (by omega) (by omega)]; exact h2)]; rfl
        split <;> exact this _
  · rw [if_neg h, if_neg h, r3]
    by_cases h3 : g.1.1 = 3
    · rw [if_neg (by rw [h3]; decide)]
      by_cases h0 : eyn g t w = 0
      · rw [if_pos (by rw [h0]; exact oI_0), if_neg (fun q => q.2.1 h0)]
        unfold c_59_1 c_59_2
        rw [if_pos rfl, nI_1]
      · rw [if_neg (by rw [oI_m1 (by omega)]; exact h0), ku_o1 (a := eyn g t w) (by omega), e21 ho hC (by omega) hr, q_bs, q_b1]
        have hne : ¬ eyn g t w - 1 = r := fun q => h (by
          unfold lok
          rw [tb_or, if_neg h0, tb_pw, Bool.or_eq_true, decide_eq_true_eq]; exact Or.inr q)
        by_cases hd : dor H (eyn g t w - 1) r = true
        · rw [if_pos (Or.inr hd), if_pos ⟨h3, h0, hd⟩]
          unfold c_59_2
          rw [if_neg (by decide)]
        · rw [if_neg (fun q => q.elim hne hd), if_neg (fun q => hd q.2.2)]
          unfold c_59_1 c_59_2
          rw [if_pos rfl, nI_1]
    · rw [if_pos (by rw [ku_3, nI_eq (by omega) (by omega)]; exact h3), if_neg (fun q => h3 q.1)]
      unfold c_59_1 c_59_2
      rw [if_pos rfl, nI_1]
theorem agb_le {t w e r a : Nat} (ha : a ≤ 7) : agb H g t w e r a ≤ 8 := by
  unfold agb
  split
  · split
    · omega
    · split <;> omega
  · split <;> omega
/-- flames of a minute: e: the eye of the minute ahead -/
theorem e58 (ho : HOK H W A) (hC : CH I 3 11 H W A) (hg : GOK H g) (hr : NRd I H g) {t w e : Nat} (ht : t < H.1 3) (hw : w ≤ H.1 4) (h29 : I 29 t = oI w) (a : Nat → Nat) (ha : ∀ r, r < H.1 4 → a r = 99 ∨ a r ≤ g.2.1 r) (hz : (t = 0 ∧ (∀ r, a r = 0) ∧ e = 0) ∨ ∃ s v, t = s + 1 ∧ I 29 s = oI v ∧ v ≤ 4 ∧ e = eyn g s v ∧ ∀ r, r < H.1 4 → I 31 (4 * s + r) = nI (a r)) (ou : Nat → Nat) (h32 : ∀ r, r < H.1 4 → I 32 r = oI (ou r)) (hn : 1000 ≤ n) :
    ∃ I', f_58 n (nI t) I L = some (I', L) ∧ I' 30 t = nI (lok g t w) ∧ (∀ r, r < H.1 4 → I' 31 (4 * t + r) = nI (agn H g t w e r (a r))) ∧ (∀ r, r < H.1 4 → I' 32 r = if a r ≠ 99 ∧ agn H g t w e r (a r) = 99 then nI t else oI (ou r)) ∧ (∀ b i, (b ≠ 30 ∨ i ≠ t) → (b ≠ 31 ∨ i < 4 * t) → b ≠ 32 → I' b i = I b i) := by
  have o4 : H.1 4 ≤ 4 := ho.1.2.2.2.2.1
  have o3 : H.1 3 ≤ 30 := ho.1.2.2.2.1
  obtain ⟨r1, r2, r3, r4, r5, r6, r7, r8⟩ := hr
  have hg' := hg
  obtain ⟨g1, g2, g3, g4, g5, g6⟩ := hg
  have hel : e ≤ 4 := by
    rcases hz with ⟨_, _, h⟩ | ⟨s, v, _, _, hv, h, _⟩
    · omega
    · have := eyn_le g s v; omega
  have hy := eyn_le g t w
  have hgs := g6 t (by omega)
  have hl := lok_lt hgs (show w ≤ 4 by omega)
  -- the row of looks
  have key : ∃ I', ((∀ r, r < H.1 4 → I' 31 (4 * t + r) = nI (agn H g t w e r (a r))) ∧ (∀ r, r < H.1 4 → I' 32 r = if a r ≠ 99 ∧ agn H g t w e r (a r) = 99 then nI t else oI (ou r)) ∧ (∀ b i, (b ≠ 31 ∨ i < 4 * t) → b ≠ 32 → I' b i = u2 I 30 t (nI (lok g t w)) b i)) ∧ c_58_1 n n (nI t) (nI 0) (u2 I 30 t (nI (lok g t w))) L = some (I', L) := by
    refine (lpE (fun m k (s : FI) => c_58_1 n m (nI t) (nI k) s L) (H.1 4) (fun k s => (∀ r, r < k → s 31 (4 * t + r) = nI (agn H g t w e r (a r))) ∧ (∀ r, r < H.1 4 → s 32 r = if r < k ∧ a r ≠ 99 ∧ agn H g t w e r (a r) = 99 then nI t else oI (ou r)) ∧ (∀ b i, (b ≠ 31 ∨ i < 4 * t) → b ≠ 32 → s b i = u2 I 30 t (nI (lok g t w)) b i)) (fun s => some (s, L)) (fun m s hs => ?_) (fun m k s hk hs => ?_) n 0 (u2 I 30 t (nI (lok g t w))) (by omega) (by omega) ⟨fun r hr => absurd hr (by omega), fun r hr => ?_, fun _ _ _ _ => rfl⟩).imp (fun I' h => ⟨⟨h.1.1, fun r hr => ?_, h.1.2.2⟩, h.2⟩)
    · obtain ⟨s1, s2, s3⟩ := hs
      show b_58_1 n (c_58_1 n m) (nI t) (nI (H.1 4)) s L = _
      unfold b_58_1
      rw [s3 26 10 (Or.inl (by decide)) (by decide), u2_c (by decide), r1, if_pos (nI_le (Nat.le_refl _) (by omega))]
    · obtain ⟨s1, s2, s3⟩ := hs
      have f0 : ∀ b i, b ≠ 30 → b ≠ 31 → b ≠ 32 → s b i = I b i := fun b i h0 h1 h2 => by rw [s3 b i (Or.inl h1) h2, u2_c h0]
      have q30 : s 30 t = nI (lok g t w) := by rw [s3 30 t (Or.inl (by decide)) (by decide), u2_s]
      have q29 : s 29 t = oI w := by rw [f0 29 t (by decide) (by decide) (by decide), h29]
      have q6 : s 26 6 = nI g.1.1 := by rw [f0 26 6 (by decide) (by decide) (by decide), r3]
      have q9 : s 26 9 = nI g.1.2.2.2 := by rw [f0 26 9 (by decide) (by decide) (by decide), r6]
      have q28 : s 28 t = nI (g.2.2 t) := by rw [f0 28 t (by decide) (by decide) (by decide), r8 t (by omega)]
      have q27 : s 27 k = nI (g.2.1 k) := by rw [f0 27 k (by decide) (by decide) (by decide), r7 k hk]
      have hCs : CH s 3 11 H W A := CH_u hC (fun a i h => f0 a i (by omega) (by omega) (by omega))
      have he : f_57 (nI t - 1) s L = some (oI e) := by
        rcases hz with ⟨rfl, _, h⟩ | ⟨p, v, rfl, hv, hv4, h, _⟩
        · rw [h]; exact e57z
        · rw [nI_pred, h]
          exact e57 (by omega) q9 g4 (by rw [f0 29 p (by decide) (by decide) (by decide), hv])
      have hak := ha k hk
      have hgk := g5 k hk
      -- the age ahead
      have hwas : (if ¬ nI t = 0 then (f_60 (nI k) (nI t - 1) s L).bind fun q1 => c_58_2 n (c_58_1 n m) (nI t) (nI k) q1 s L else c_58_2 n (c_58_1 n m) (nI t) (nI k) 0 s L) = c_58_2 n (c_58_1 n m) (nI t) (nI k) (nI (a k)) s L := by
        rcases hz with ⟨rfl, h, _⟩ | ⟨p, v, rfl, hv, hv4, _, h⟩
        · rw [if_neg (by decide), h k]; rfl
        · rw [if_pos (by rw [ku_0, nI_eq (by omega) (by omega)]; omega), nI_pred, e60 (by omega) (by omega), q_bs, s3 31 _ (Or.inr (by omega)) (by decide), u2_c (by decide), h k hk]
      -- the step
      have hfin : ∀ (s' : FI) (v : Nat), c_58_4 n (c_58_1 n m) (nI t) (nI k) (nI v) s' L = c_58_1 n m (nI t) (nI (k + 1)) (u2 s' 31 (4 * t + k) (nI v)) L := fun s' v => by
        unfold c_58_4
        rw [ku_4, pk_mul, nI_add, show t * 4 + k = 4 * t + k by omega, ku_if (by omega) (by omega), nI_clamp (by omega), nI_1]
      have hstep : c_58_1 n (m + 1) (nI t) (nI k) s L = c_58_1 n m (nI t) (nI (k + 1)) (u2 (if a k ≠ 99 ∧ agn H g t w e k (a k) = 99 then u2 s 32 k (nI t) else s) 31 (4 * t + k) (nI (agn H g t w e k (a k)))) L := by
        show b_58_1 n (c_58_1 n m) (nI t) (nI k) s L = _
        unfold b_58_1
        rw [f0 26 10 (by decide) (by decide) (by decide), r1, if_neg (nI_ge hk (by omega)), hwas]
        unfold c_58_2
        by_cases h99 : a k = 99
        · have hag : agn H g t w e k (a k) = 99 := by unfold agn; rw [if_pos h99]
          rw [if_neg (by rw [h99]; decide), if_neg (fun q => q.1 h99), hag]
          unfold c_58_3
          rw [if_pos rfl, ku_99, hfin]
        · have hbl := agb_le (H := H) (g := g) (t := t) (w := w) (e := e) (r := k) (a := a k) (by omega)
          rw [if_pos (by rw [ku_99, nI_eq (by omega) (by omega)]; exact h99), e59 ho hCs hg' q6 q9 (by omega) q28 (by omega) (by omega) (by omega) q29 q30 he hel, q_bs]
          unfold c_58_3
          rw [if_neg (by rw [ku_99, nI_eq (by omega) (by omega)]; omega), ku_if (by omega) (by omega), nI_clamp (by omega), q27]
          by_cases hlt : g.2.1 k < agb H g t w e k (a k)
          · have hag : agn H g t w e k (a k) = 99 := by unfold agn; rw [if_neg h99, if_pos hlt]
            rw [if_neg (nI_ge hlt (by omega)), ku_if (by omega) (by omega), if_pos ⟨h99, hag⟩, hag, ku_99, hfin]
          · have hag : agn H g t w e k (a k) = agb H g t w e k (a k) := by unfold agn; rw [if_neg h99, if_neg hlt]
            rw [if_pos (nI_le (by omega) (by omega)), if_neg (fun q => by rw [hag] at q; omega), hag, hfin]
      refine ⟨_, ⟨fun r hr => ?_, fun r hr => ?_, fun b i hb hb2 => ?_⟩, hstep⟩
      · by_cases hrk : r = k
        · subst hrk; exact u2_s
        · rw [u2_o (by omega)]
          have : ∀ (c : Prop) [Decidable c], (if c then u2 s 32 k (nI t) else s) 31 (4 * t + r) = s 31 (4 * t + r) := fun c _ => by
            split
            · exact u2_c (by decide)
            · rfl
          rw [this]; exact s1 r (by omega)
      · rw [u2_c (by decide)]
        by_cases hrk : r = k
        · subst hrk
          by_cases hc : a r ≠ 99 ∧ agn H g t w e r (a r) = 99
          · rw [if_pos hc, u2_s, if_pos ⟨by omega, hc⟩]
          · rw [if_neg hc, s2 r hr, if_neg (fun q => by omega), if_neg (fun q => hc q.2)]
        · have : ∀ (c : Prop) [Decidable c], (if c then u2 s 32 k (nI t) else s) 32 r = s 32 r := fun c _ => by
            split
            · exact u2_o hrk
            · rfl
          rw [this, s2 r hr]
          by_cases hc : r < k ∧ a r ≠ 99 ∧ agn H g t w e r (a r) = 99
          · rw [if_pos hc, if_pos ⟨by omega, hc.2⟩]
          · rw [if_neg hc, if_neg (fun q => hc ⟨by omega, q.2⟩)]
      · have e1 : ∀ (s' : FI) v, u2 s' 31 (4 * t + k) v b i = s' b i := fun s' v => by
          rcases hb with hb | hb
          · exact u2_c hb
          · by_cases hb3 : b = 31
            · subst hb3; exact u2_o (by omega)
            · exact u2_c hb3
        rw [e1, ← s3 b i hb hb2]
        split
        · exact u2_c hb2
        · rfl
    · rw [u2_c (by decide), h32 r hr, if_neg (fun q => by omega)]
    · rw [h.1.2.1 r hr]
      by_cases hc : a r ≠ 99 ∧ agn H g t w e r (a r) = 99
      · rw [if_pos ⟨hr, hc⟩, if_pos hc]
      · rw [if_neg (fun q => hc q.2), if_neg hc]
  obtain ⟨I', ⟨k1, k2, k3⟩, ke⟩ := key
  refine ⟨I', ?_, ?_, k1, k2, fun b i h0 h1 h2 => ?_⟩
  · unfold f_58
    rw [e57 (by omega) r6 g4 h29, q_bs, ku_if (by omega) (by omega), nI_clamp (by omega), r8 t (by omega)]
    by_cases h0 : eyn g t w = 0
    · rw [h0, if_neg (by rw [oI_0]; decide)]
      unfold c_58_0
      rw [ku_if (by omega) (by omega), nI_clamp (by omega), ku_0, fa_or, ← ke]
      congr 2
      unfold lok; rw [if_pos h0]
    · rw [if_pos (by rw [oI_m1 (by omega)]; exact h0)]
      unfold c_58_0
      rw [ku_if (by omega) (by omega), nI_clamp (by omega), ku_o1 (a := eyn g t w) (by omega), ku_or (by omega), ← ke]
      congr 2
      unfold lok; rw [if_neg h0]
  · rw [k3 30 t (Or.inl (by decide)) (by decide), u2_s]
  · rw [k3 b i h1 h2]
    rcases h0 with h0 | h0
    · exact u2_c h0
    · by_cases hb : b = 30
      · subst hb; exact u2_o h0
      · exact u2_c hb
/-- the night is gone through -/
def NDn (I : FI) (H : HD) (g : NG) : Prop := NRd I H g ∧ NDk I H g (H.1 3) ∧ ∀ r, r < H.1 4 → I 32 r = oI (nou H g (H.1 3) r)
theorem NRd_fr {I' : FI} (h : NRd I H g) (e : ∀ a i, 26 ≤ a → a ≤ 28 → I' a i = I a i) : NRd I' H g := by
  obtain ⟨r1, r2, r3, r4, r5, r6, r7, r8⟩ := h
  exact ⟨by rw [e _ _ (by decide) (by decide)]; exact r1, by rw [e _ _ (by decide) (by decide)]; exact r2, by rw [e _ _ (by decide) (by decide)]; exact r3, by rw [e _ _ (by decide) (by decide)]; exact r4, by rw [e _ _ (by decide) (by decide)]; exact r5, by rw [e _ _ (by decide) (by decide)]; exact r6, fun r hr => by rw [e _ _ (by decide) (by decide)]; exact r7 r hr, fun r hr => by rw [e _ _ (by decide) (by decide)]; exact r8 r hr⟩
theorem l55_1 (ho : HOK H W A) (hC : CH I 3 11 H W A) (hg : GOK H g) (hr : NRd I H g) (h32 : ∀ r, r < 4 → I 32 r = oI 0) (hn : 1000 ≤ n) :
    ∃ I', (NDk I' H g (H.1 3) ∧ (∀ r, r < H.1 4 → I' 32 r = oI (nou H g (H.1 3) r)) ∧ ∀ b i, b < 29 ∨ 32 < b → I' b i = I b i) ∧ c_55_1 n n (nI 0) I L = some (I', L) := by
  have o4 : H.1 4 ≤ 4 := ho.1.2.2.2.2.1
  have o3 : H.1 3 ≤ 30 := ho.1.2.2.2.1
  refine lpE (fun m k (s : FI) => c_55_1 n m (nI k) s L) (H.1 3) (fun k s => NDk s H g k ∧ (∀ r, r < H.1 4 → s 32 r = oI (nou H g k r)) ∧ ∀ b i, b < 29 ∨ 32 < b → s b i = I b i) (fun s => some (s, L)) (fun m s hs => ?_) (fun m k s hk hs => ?_) n 0 I (by omega) (by omega) ⟨fun t ht => absurd ht (by omega), fun r hr => h32 r (by omega), fun _ _ _ => rfl⟩
  · obtain ⟨s1, s2, s3⟩ := hs
    show b_55_1 n (c_55_1 n m) (nI (H.1 3)) s L = _
    unfold b_55_1
    rw [s3 26 11 (Or.inl (by decide)), hr.2.1, if_pos (nI_le (Nat.le_refl _) (by omega))]
  · obtain ⟨s1, s2, s3⟩ := hs
    have hCs : CH s 3 11 H W A := CH_u hC (fun a i h => s3 a i (by omega))
    have hrs : NRd s H g := NRd_fr hr (fun a i h1 h2 => s3 a i (by omega))
    have hw := nw_le ho hg k
    have hC1 : CH (u2 s 29 k (oI (nw H g k))) 3 11 H W A := CH_u hCs (fun a i h => u2_c (by omega))
    have hr1 : NRd (u2 s 29 k (oI (nw H g k))) H g := NRd_fr hrs (fun a i h1 h2 => u2_c (by omega))
    obtain ⟨J, j0, j1, j2, j3, j4⟩ := e58 (n := n) (L := L) (I := u2 s 29 k (oI (nw H g k))) (w := nw H g k) (e := if k = 0 then 0 else eyn g (k - 1) (nw H g (k - 1))) ho hC1 hg hr1 hk hw.1 u2_s (if k = 0 then fun _ => 0 else na H g (k - 1)) (fun r hr => by
        cases k with
        | zero => rw [if_pos rfl]; exact Or.inr (Nat.zero_le _)
        | succ k => rw [if_neg (by omega)]; exact na_b H g r k) (by
        cases k with
        | zero => exact Or.inl ⟨rfl, fun r => by rw [if_pos rfl], by rw [if_pos rfl]⟩
        | succ k =>
          obtain ⟨d1, d2, d3⟩ := s1 k (by omega)
          have hw2 := nw_le ho hg k
          refine Or.inr ⟨k, nw H g k, rfl, ?_, by omega, ?_, fun r hr => ?_⟩
          · rw [u2_o (by omega)]; exact d1
          · rw [if_neg (by omega)]; rfl
          · rw [u2_c (by decide), if_neg (by omega)]; exact d3 r hr) (fun r => nou H g k r) (fun r hr => by rw [u2_c (by decide)]; exact s2 r hr) hn
    have hna : ∀ r, agn H g k (nw H g k) (if k = 0 then 0 else eyn g (k - 1) (nw H g (k - 1))) r ((if k = 0 then fun _ => 0 else na H g (k - 1)) r) = na H g k r := fun r => by
      cases k with
      | zero => rw [if_pos rfl, if_pos rfl]; rfl
      | succ k => rw [if_neg (by omega), if_neg (by omega)]; rfl
    refine ⟨J, ⟨fun t ht => ?_, fun r hr => ?_, fun b i hb => ?_⟩, ?_⟩
    · by_cases htk : t = k
      · subst htk
        refine ⟨?_, j1, fun r hr => ?_⟩
        · rw [j4 29 t (Or.inl (by decide)) (Or.inl (by decide)) (by decide), u2_s]
        · rw [j2 r hr, hna]
      · obtain ⟨d1, d2, d3⟩ := s1 t (by omega)
        refine ⟨?_, ?_, fun r hr => ?_⟩
        · rw [j4 29 t (Or.inl (by decide)) (Or.inl (by decide)) (by decide), u2_o htk]; exact d1
        · rw [j4 30 t (Or.inr htk) (Or.inl (by decide)) (by decide), u2_c (by decide)]; exact d2
        · rw [j4 31 _ (Or.inl (by decide)) (Or.inr (by omega)) (by decide), u2_c (by decide)]; exact d3 r hr
    · rw [j3 r hr, hna]
      by_cases h0 : nou H g k r = 0
      · have hp := fnd_0.mp h0
        have hne : (if k = 0 then fun _ => 0 else na H g (k - 1)) r ≠ 99 := by
          cases k with
          | zero => rw [if_pos rfl]; decide
          | succ k =>
            rw [if_neg (by omega)]
            have := hp k (by omega)
            simpa using this
        by_cases h9 : na H g k r = 99
        · rw [if_pos ⟨hne, h9⟩]
          have : nou H g (k + 1) r = k + 1 := fnd_p h0 (by simpa using h9)
          rw [this, oI_s]
        · rw [if_neg (fun q => h9 q.2), h0]
          have : nou H g (k + 1) r = 0 := fnd_n h0 (by simpa using h9)
          rw [this]
      · have h1 : nou H g (k + 1) r = nou H g k r := fnd_st h0
        obtain ⟨j, hj⟩ : ∃ j, nou H g k r = j + 1 := ⟨nou H g k r - 1, by omega⟩
        have hj2 := fnd_s.mp hj
        have h99 : na H g (k - 1) r = 99 := by
          have h5 : na H g j r = 99 := by simpa using hj2.2.1
          have h6 := na_99m H g r j h5 (k - 1 - j)
          rwa [show j + (k - 1 - j) = k - 1 by omega] at h6
        rw [if_neg (fun q => by rw [if_neg (by omega)] at q; exact q.1 h99), h1]
    · rw [j4 b i (Or.inl (by omega)) (Or.inl (by omega)) (by omega), u2_c (by omega)]; exact s3 b i hb
    · show b_55_1 n (c_55_1 n m) (nI k) s L = _
      unfold b_55_1
      rw [s3 26 11 (Or.inl (by decide)), hr.2.1, if_neg (nI_ge hk (by omega)), e56 ho hCs hg hrs hk s1 hn, q_bs, ku_if (by omega) (by omega), nI_clamp (by omega), j0, q_bs, nI_1]
theorem e55 (ho : HOK H W A) (hC : CH I 3 11 H W A) (hg : GOK H g) (hr : NRd I H g) (hn : 1000 ≤ n) :
    ∃ I', f_55 n I L = some (I', L) ∧ NDn I' H g ∧ ∀ b i, b < 29 ∨ 32 < b → I' b i = I b i := by
  obtain ⟨J, ⟨j1, j2⟩, je⟩ := lpE (fun m k (s : FI) => c_55_0 n m (nI k) s L) 4 (fun k s => (∀ r, r < k → s 32 r = oI 0) ∧ ∀ b i, b ≠ 32 → s b i = I b i) (fun s => c_55_1 n n (nI 0) s L) (fun m s hs => by
      show b_55_0 n (c_55_0 n m) (nI 4) s L = _
      unfold b_55_0
      rw [if_pos (by decide)]; rfl) (fun m k s hk hs => by
      refine ⟨u2 s 32 k (oI 0), ⟨fun r hr => ?_, fun b i hb => ?_⟩, ?_⟩
      · by_cases e : r = k
        · subst e; exact u2_s
        · rw [u2_o e]; exact hs.1 r (by omega)
      · rw [u2_c hb]; exact hs.2 b i hb
      · show b_55_0 n (c_55_0 n m) (nI k) s L = _
        unfold b_55_0
        rw [ku_4, if_neg (nI_ge hk (by omega)), ku_if (by omega) (by omega), nI_clamp (by omega), nI_1, ku_m]) n 0 I (by omega) (by omega) ⟨fun r hr => absurd hr (by omega), fun _ _ _ => rfl⟩
  have hCs : CH J 3 11 H W A := CH_u hC (fun a i h => j2 a i (by omega))
  have hrs : NRd J H g := NRd_fr hr (fun a i h1 h2 => j2 a i (by omega))
  obtain ⟨K, ⟨k1, k2, k3⟩, ke⟩ := l55_1 (n := n) (L := L) ho hCs hg hrs j1 hn
  refine ⟨K, ?_, ⟨NRd_fr hrs (fun a i h1 h2 => k3 a i (by omega)), k1, k2⟩, fun b i hb => by rw [k3 b i hb, j2 b i (by omega)]⟩
  unfold f_55
  rw [show (0 : Int32) = nI 0 from rfl, je, ke]
end CPASS
