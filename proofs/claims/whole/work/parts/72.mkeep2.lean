/-! LAYER 3: the model's search for what lives -/
section MLV
variable {I : FI} {L : FL} {H : HD} {W : Nat → Nat} {A : AD} {l set : Nat} {wt : Nat → Nat} {n : Nat}
def mag (H : HD) (l set t to r : Nat) : Nat := if set.testBit r = true then agc H l (to + 1) (t / 8 ^ (H.1 4) + 1) 0 r (mdg (H.1 4) t r) else 0
def mch (H : HD) (l set t to : Nat) : Nat := mid (mag H l set t to) to (H.1 4)
def GO (H : HD) (l set : Nat) (wt : Nat → Nat) (t to : Nat) : Prop := (t / 8 ^ (H.1 4) = to ∨ dor H (t / 8 ^ (H.1 4)) to = true) ∧ ∀ r, r < H.1 4 → set.testBit r = true → mag H l set t to r ≤ wt r
theorem mag_8 (hs : set < 2 ^ (H.1 4)) (hw : ∀ r, r < H.1 4 → 1 ≤ wt r ∧ wt r ≤ 7) {t to : Nat} (hg : GO H l set wt t to) (r : Nat) : mag H l set t to r < 8 := by
  by_cases hb : set.testBit r = true
  · have := hg.2 r (hsb hs hb) hb
    have := hw r (hsb hs hb)
    omega
  · unfold mag; rw [if_neg hb]; omega
theorem nxt_cv (o4 : H.1 4 ≤ 4) (hs : set < 2 ^ (H.1 4)) (hw : ∀ r, r < H.1 4 → 1 ≤ wt r ∧ wt r ≤ 7) {t to : Nat} : (GO H l set wt t to ∧ nxt H l set wt (cv (H.1 4) t) to = cv (H.1 4) (mch H l set t to) + 1) ∨ (¬ GO H l set wt t to ∧ nxt H l set wt (cv (H.1 4) t) to = 0) := by
  have hk : ∀ r, r < 4 → kst H l set (cv (H.1 4) t / 4096 + 1) to (dg (cv (H.1 4) t)) r = mag H l set t to r := fun r hr => by
    unfold kst mag
    by_cases hb : set.testBit r = true
    · rw [if_pos hb, if_pos hb, cv_he, cv_dg _ _ hr]
      unfold cdg
      rw [if_pos (hsb hs hb)]
    · rw [if_neg hb, if_neg hb]
  have hG : ((cv (H.1 4) t / 4096 = to ∨ dor H (cv (H.1 4) t / 4096) to = true) ∧ kbB set wt (kst H l set (cv (H.1 4) t / 4096 + 1) to (dg (cv (H.1 4) t))) = true) ↔ GO H l set wt t to := by
    unfold GO
    rw [kbB_p, cv_he]
    rw [cv_he] at hk
    constructor
    · rintro ⟨h1, h2⟩
      exact ⟨h1, fun r hr hb => by rw [← hk r (by omega)]; exact h2 r (by omega) hb⟩
    · rintro ⟨h1, h2⟩
      exact ⟨h1, fun r hr hb => by rw [hk r hr]; exact h2 r (hsb hs hb) hb⟩
  unfold nxt
  by_cases h : GO H l set wt t to
  · left
    refine ⟨h, ?_⟩
    rw [if_pos (hG.mpr h)]
    unfold mch
    rw [cv_mid (mag_8 hs hw h) (fun r hr => by
      unfold mag
      rw [if_neg (fun q => by have := hsb hs q; omega)]), sid_cg hk]
  · right
    exact ⟨h, by rw [if_neg (fun q => h (hG.mp q))]⟩
theorem mch_lt (hs : set < 2 ^ (H.1 4)) (hw : ∀ r, r < H.1 4 → 1 ≤ wt r ∧ wt r ≤ 7) {t to : Nat} (ht : to < H.1 4) (hg : GO H l set wt t to) : mch H l set t to < msz H := mid_msz (fun r _ => mag_8 hs hw hg r) ht
theorem agm_le {he was v r a w : Nat} (hw : wt r = w) (hw7 : w ≤ 7) (ha : a ≤ 7) : (agm H l wt he was v r a ≤ w ↔ agc H l he was v r a ≤ w) ∧ (agc H l he was v r a ≤ w → agm H l wt he was v r a = agc H l he was v r a) ∧ agm H l wt he was v r a ≤ 99 := by
  have h8 := agc_le (H := H) (l := l) (he := he) (was := was) (v := v) (r := r) ha
  unfold agm
  rw [if_neg (show ¬ a = 99 by omega), hw]
  by_cases h : w < agc H l he was v r a
  · rw [if_pos h]; exact ⟨⟨fun q => absurd q (by omega), fun q => absurd q (by omega)⟩, fun q => absurd q (by omega), by omega⟩
  · rw [if_neg h]; exact ⟨Iff.rfl, fun _ => rfl, by omega⟩
theorem mdg_7 (R t r : Nat) : mdg R t r ≤ 7 := by unfold mdg; omega
theorem s16 (o4 : H.1 4 ≤ 4) (hs : set < 2 ^ (H.1 4)) : set < 16 := Nat.lt_of_lt_of_le hs (show 2 ^ (H.1 4) ≤ 2 ^ 4 from Nat.pow_le_pow_right (by omega) o4)
/-- the ages behind a minute, by the model; whether all burn; the state -/
theorem e291a (hM : MK H W A l wt I) (hs : set < 2 ^ (H.1 4)) {t to : Nat} (ht : t < msz H) (hto : to < H.1 4) (hdo : t / 8 ^ (H.1 4) = to ∨ dor H (t / 8 ^ (H.1 4)) to = true) (hn : 1000 ≤ n) : ∃ J K b, f_288 n (nI t) I L = some (J, L) ∧ f_253 n (nI to) (nI (t / 8 ^ (H.1 4))) 0 J L = some (K, L) ∧ f_290 n (nI set) K L = some (nI b) ∧ ((b = 1 ∧ GO H l set wt t to ∧ f_287 n (nI to) (nI set) K L = some (nI (mch H l set t to))) ∨ (b = 0 ∧ ¬ GO H l set wt t to)) ∧ (∀ c i, c ≠ 105 → J c i = I c i) ∧ ∀ c i, c ≠ 105 → K c i = I c i := by
  have ho := hM.1
  have o4 : H.1 4 ≤ 4 := ho.1.2.2.2.2.1
  have hm := msz_le o4
  have hh := msz_he ht
  have hs16 := s16 o4 hs
  obtain ⟨J, j1, j2, j3⟩ := e288 (L := L) hM (show t < 16384 by omega) hn
  have hMJ : MK H W A l wt J := MK_fr hM (fun c i hc => j3 c i (by omega))
  obtain ⟨K, k1, k2, k3⟩ := e253 (L := L) (he := to + 1) (was := t / 8 ^ (H.1 4) + 1) (v := 0) ho hMJ.2.1 hMJ.2.2.1 hM.2.2.2.1 hMJ.2.2.2.2.1 j2 (fun r hr => (hM.2.2.2.2.2.1 r hr).2) (fun r hr => Or.inr (mdg_7 _ _ _)) (by omega) (by omega) (by omega) hn
  rw [oI_s, oI_s] at k1
  have hMK : MK H W A l wt K := MK_fr hMJ (fun c i hc => k3 c i (by omega))
  have ha := fun r (hr : r < H.1 4) => agm_le (H := H) (l := l) (wt := wt) (he := to + 1) (was := t / 8 ^ (H.1 4) + 1) (v := 0) (r := r) (a := mdg (H.1 4) t r) rfl (hM.2.2.2.2.2.1 r hr).2 (mdg_7 _ _ _)
  obtain ⟨b, b1, b2⟩ := e290 (L := L) (set := set) hMK hs16 k2 (fun r hr => (ha r hr).2.2) hn
  have hGO : (∀ r, r < H.1 4 → set.testBit r = true → agm H l wt (to + 1) (t / 8 ^ (H.1 4) + 1) 0 r (mdg (H.1 4) t r) ≤ wt r) ↔ GO H l set wt t to := by
    unfold GO
    constructor
    · exact fun h => ⟨hdo, fun r hr hb => by unfold mag; rw [if_pos hb]; exact (ha r hr).1.mp (h r hr hb)⟩
    · exact fun h r hr hb => by
        have := h.2 r hr hb
        unfold mag at this
        rw [if_pos hb] at this
        exact (ha r hr).1.mpr this
  refine ⟨J, K, b, j1, k1, b1, ?_, j3, fun c i hc => (k3 c i hc).trans (j3 c i hc)⟩
  rcases b2 with ⟨rfl, b2⟩ | ⟨rfl, b2⟩
  · have hg := hGO.mp b2
    refine Or.inl ⟨rfl, hg, ?_⟩
    rw [e287 hMK hto hs16 k2 (fun r hr hb => by have := b2 r hr hb; have := (hM.2.2.2.2.2.1 r hr).2; omega) hn]
    unfold mch
    rw [mid_cg (b := mag H l set t to) (fun r hr => ?_)]
    unfold mag
    by_cases hb : set.testBit r = true
    · rw [if_pos hb, if_pos hb]
      exact (ha r hr).2.1 ((ha r hr).1.mp (b2 r hr hb))
    · rw [if_neg hb, if_neg hb]
  · exact Or.inr ⟨rfl, fun q => b2 (hGO.mpr q)⟩
theorem e291 (hM : MK H W A l wt I) (hs : set < 2 ^ (H.1 4)) {X : Nat → Nat} (hX : ∀ t, t < msz H → I 109 t = nI (X t) ∧ X t ≤ 1) {t to : Nat} (ht : t < msz H) (hto : to < H.1 4) (hn : 1000 ≤ n) : ∃ b J, f_291 n (nI t) (nI to) (nI set) I L = some (nI b, J, L) ∧ ((b = 1 ∧ GO H l set wt t to ∧ X (mch H l set t to) = 1) ∨ (b = 0 ∧ ¬ (GO H l set wt t to ∧ X (mch H l set t to) = 1))) ∧ ∀ c i, c ≠ 105 → J c i = I c i := by
  have ho := hM.1
  have o4 : H.1 4 ≤ 4 := ho.1.2.2.2.2.1
  have hm := msz_le o4
  have hh := msz_he ht
  unfold f_291
  rw [e289 hM (by omega) hn, q_bs, e250 ho hM.2.1 (by omega) (by omega) hn, q_bs, q_b2]
  by_cases hd : t / 8 ^ (H.1 4) = to ∨ dor H (t / 8 ^ (H.1 4)) to = true
  · rw [if_pos hd]
    obtain ⟨J, K, b, j1, k1, b1, b2, j3, k3⟩ := e291a (L := L) hM hs ht hto hd hn
    rw [j1, q_bs]
    dsimp only
    rw [k1, q_bs]
    dsimp only
    rw [b1, q_bs]
    rcases b2 with ⟨rfl, hg, h7⟩ | ⟨rfl, hg⟩
    · have hml := mch_lt hs hM.2.2.2.2.2.1 hto hg
      obtain ⟨x1, x2⟩ := hX _ hml
      rw [if_neg (by decide), h7, q_bs, ku_if (by omega) (by omega), nI_clamp (by omega)]
      have x0 : K 109 (mch H l set t to) = nI (X (mch H l set t to)) := (k3 109 _ (by decide)).trans x1
      by_cases hx : X (mch H l set t to) = 1
      · exact ⟨1, K, by rw [if_neg (by rw [x0, hx]; decide)]; rfl, Or.inl ⟨rfl, hg, hx⟩, k3⟩
      · exact ⟨0, K, by rw [if_pos (by rw [x0, show X (mch H l set t to) = 0 by omega]; decide)]; rfl, Or.inr ⟨rfl, fun q => hx q.2⟩, k3⟩
    · exact ⟨0, K, by rw [if_pos (by decide)]; rfl, Or.inr ⟨rfl, fun q => hg q.1⟩, k3⟩
  · rw [if_neg hd]
    exact ⟨0, I, rfl, Or.inr ⟨rfl, fun q => hd q.1.1⟩, fun _ _ _ => rfl⟩
def LVG (H : HD) (l set : Nat) (wt X : Nat → Nat) (t : Nat) : Prop := ∃ to, to < H.1 4 ∧ GO H l set wt t to ∧ X (mch H l set t to) = 1
theorem e292 (hM : MK H W A l wt I) (hs : set < 2 ^ (H.1 4)) {X : Nat → Nat} (hX : ∀ t, t < msz H → I 109 t = nI (X t) ∧ X t ≤ 1) {t : Nat} (ht : t < msz H) (hn : 1000 ≤ n) : ∃ b J, f_292 n (nI t) (nI set) I L = some (nI b, J, L) ∧ ((b = 1 ∧ LVG H l set wt X t) ∨ (b = 0 ∧ ¬ LVG H l set wt X t)) ∧ ∀ c i, c ≠ 105 → J c i = I c i := by
  have o4 : H.1 4 ≤ 4 := hM.1.1.2.2.2.2.1
  rcases lpG (fun m k (s : FI) => c_292_0 n m (nI t) (nI set) (nI k) s L) (H.1 4) (fun k s => (∀ to, to < k → ¬ (GO H l set wt t to ∧ X (mch H l set t to) = 1)) ∧ ∀ c i, c ≠ 105 → s c i = I c i) (fun s => some (nI 0, s, L)) (fun r => ∃ J, r = some (nI 1, J, L) ∧ LVG H l set wt X t ∧ ∀ c i, c ≠ 105 → J c i = I c i) (fun m s hs => by
      have hMs : MK H W A l wt s := MK_fr hM (fun c i hc => hs.2 c i (by omega))
      show b_292_0 n (c_292_0 n m) (nI t) (nI set) (nI (H.1 4)) s L = _
      unfold b_292_0
      rw [e237 hMs.2.1, q_bs, if_pos (nI_le (Nat.le_refl _) (by omega))]; rfl) (fun m k s hk hI => by
      have hMs : MK H W A l wt s := MK_fr hM (fun c i hc => hI.2 c i (by omega))
      obtain ⟨b, J, j1, j2, j3⟩ := e291 (L := L) hMs hs (X := X) (fun t ht => by rw [hI.2 109 t (by decide)]; exact hX t ht) ht hk hn
      have hstep : c_292_0 n (m + 1) (nI t) (nI set) (nI k) s L = if nI b = 0 then c_292_0 n m (nI t) (nI set) (nI (k + 1)) J L else some (1, J, L) := by
        show b_292_0 n (c_292_0 n m) (nI t) (nI set) (nI k) s L = _
        unfold b_292_0
        rw [e237 hMs.2.1, q_bs, if_neg (nI_ge hk (by omega)), j1, q_bs, nI_1]
      rcases j2 with ⟨rfl, g1, g2⟩ | ⟨rfl, g⟩
      · exact Or.inl ⟨J, by rw [hstep, if_neg (by decide)]; rfl, ⟨k, hk, g1, g2⟩, fun c i hc => (j3 c i hc).trans (hI.2 c i hc)⟩
      · refine Or.inr ⟨J, ⟨fun to ht => ?_, fun c i hc => (j3 c i hc).trans (hI.2 c i hc)⟩, by rw [hstep, if_pos (by decide)]⟩
        rcases (show to < k ∨ to = k by omega) with h1 | rfl
        · exact hI.1 to h1
        · exact g) n 0 I (by omega) (by omega) ⟨fun to ht => absurd ht (by omega), fun _ _ _ => rfl⟩ with ⟨J, h1, h2, h3⟩ | ⟨J, ⟨h1, h2⟩, h3⟩
  · exact ⟨1, J, h1, Or.inl ⟨rfl, h2⟩, h3⟩
  · exact ⟨0, J, h3, Or.inr ⟨rfl, fun ⟨to, a, b⟩ => h1 to a b⟩, h2⟩
theorem VSt_cv (o4 : H.1 4 ≤ 4) (hs : set < 2 ^ (H.1 4)) {t : Nat} (ht : t < msz H) : VSt H set wt (cv (H.1 4) t) ↔ ∀ r, r < H.1 4 → mdg (H.1 4) t r ≤ if set.testBit r = true then wt r else 0 := by
  constructor
  · intro h r hr
    have h1 := h.2 r (by omega)
    rw [cv_dg _ _ (show r < 4 by omega)] at h1
    unfold cdg at h1
    rw [if_pos hr] at h1
    split
    · rename_i hb; exact h1.1 hb
    · rename_i hb
      rcases h1.2 with h2 | h2
      · exact absurd h2 hb
      · omega
  · intro h
    refine ⟨by rw [cv_he]; exact msz_he ht, fun r hr => ?_⟩
    rw [cv_dg _ _ hr]
    unfold cdg
    by_cases hb : set.testBit r = true
    · have hrR := hsb hs hb
      have h1 := h r hrR
      rw [if_pos hb] at h1
      rw [if_pos hrR]
      exact ⟨fun _ => h1, Or.inl hb⟩
    · refine ⟨fun q => absurd q hb, Or.inr ?_⟩
      split
      · rename_i hrR
        have h1 := h r hrR
        rw [if_neg hb] at h1
        omega
      · rfl
theorem e294 (hM : MK H W A l wt I) (hs : set < 2 ^ (H.1 4)) {t : Nat} (ht : t < msz H) (hn : 1000 ≤ n) : ∃ b J, f_294 n (nI t) (nI set) I L = some (nI b, J, L) ∧ ((b = 1 ∧ VSt H set wt (cv (H.1 4) t)) ∨ (b = 0 ∧ ¬ VSt H set wt (cv (H.1 4) t))) ∧ ∀ c i, c ≠ 105 → J c i = I c i := by
  have o4 : H.1 4 ≤ 4 := hM.1.1.2.2.2.2.1
  have hm := msz_le o4
  have hs16 := s16 o4 hs
  obtain ⟨J, j1, j2, j3⟩ := e288 (L := L) hM (show t < 16384 by omega) hn
  have hMJ : MK H W A l wt J := MK_fr hM (fun c i hc => j3 c i (by omega))
  unfold f_294
  rw [j1, q_bs]
  dsimp only
  rw [VSt_cv o4 hs ht]
  rcases lpG (fun m k (_ : Unit) => c_294_0 n m (nI set) (nI k) J L) (H.1 4) (fun k _ => ∀ r, r < k → mdg (H.1 4) t r ≤ if set.testBit r = true then wt r else 0) (fun _ => some (nI 1, J, L)) (fun r => r = some (nI 0, J, L) ∧ ¬ ∀ r, r < H.1 4 → mdg (H.1 4) t r ≤ if set.testBit r = true then wt r else 0) (fun m s hs => by
      show b_294_0 n (c_294_0 n m) (nI set) (nI (H.1 4)) J L = _
      unfold b_294_0
      rw [e237 hMJ.2.1, q_bs, if_pos (nI_le (Nat.le_refl _) (by omega))]; rfl) (fun m k s hk hI => by
      have hd := mdg_7 (H.1 4) t k
      have hw := hM.2.2.2.2.2.1 k hk
      have hstep : c_294_0 n (m + 1) (nI set) (nI k) J L = if mdg (H.1 4) t k ≤ (if set.testBit k = true then wt k else 0) then c_294_0 n m (nI set) (nI (k + 1)) J L else some (nI 0, J, L) := by
        show b_294_0 n (c_294_0 n m) (nI set) (nI k) J L = _
        unfold b_294_0 c_294_1
        rw [e237 hMJ.2.1, q_bs, if_neg (nI_ge hk (by omega)), ku_if (by omega) (by omega), e247 (by omega) (by omega), q_bs, q_b1, ku_if (by omega) (by omega), nI_clamp (by omega), j2 k hk, hMJ.2.2.2.2.1 k hk, nI_1]
        by_cases hb : set.testBit k = true
        · rw [if_pos hb, if_pos hb]
          by_cases h : mdg (H.1 4) t k ≤ wt k
          · rw [if_pos (nI_le h (by omega)), if_pos h]
          · rw [if_neg (nI_ge (by omega) (by omega)), if_neg h]; rfl
        · rw [if_neg hb, if_neg hb]
          by_cases h : mdg (H.1 4) t k ≤ 0
          · rw [if_pos (show nI (mdg (H.1 4) t k) ≤ 0 from nI_le (b := 0) h (by omega)), if_pos h]
          · rw [if_neg (show ¬ nI (mdg (H.1 4) t k) ≤ 0 from nI_ge (a := 0) (by omega) (by omega)), if_neg h]; rfl
      by_cases h : mdg (H.1 4) t k ≤ (if set.testBit k = true then wt k else 0)
      · rw [if_pos h] at hstep
        exact Or.inr ⟨(), fun r hr => by
          rcases (show r < k ∨ r = k by omega) with h1 | rfl
          · exact hI r h1
          · exact h, hstep⟩
      · rw [if_neg h] at hstep
        exact Or.inl ⟨hstep, fun q => h (q k hk)⟩) n 0 () (by omega) (by omega) (fun r hr => absurd hr (by omega)) with ⟨h1, h2⟩ | ⟨_, h1, h2⟩
  · exact ⟨0, J, h1, Or.inr ⟨rfl, h2⟩, j3⟩
  · exact ⟨1, J, h2, Or.inl ⟨rfl, h1⟩, j3⟩
end MLV
