/-! LAYER 3: what lives, by the model -/
theorem sma_b2 {F : Nat → Nat} {b : Nat} : ∀ {N : Nat}, (∀ k, k < N → F k ≤ b) → sma F N ≤ b * N
  | 0, _ => Nat.zero_le _
  | N + 1, h => by
    show sma F N + F N ≤ b * (N + 1)
    have := sma_b2 (fun k hk => h k (by omega) : ∀ k, k < N → F k ≤ b)
    have := h N (by omega)
    rw [Nat.mul_succ]; omega
theorem nar_b {b : Nat} (h : b ≤ 1) : vp_nar .boolean (nI b) = nI b := by
  rcases (show b = 0 ∨ b = 1 by omega) with rfl | rfl
  · rfl
  · rfl
section MLV3
variable {I : FI} {L : FL} {H : HD} {W : Nat → Nat} {A : AD} {l set : Nat} {wt : Nat → Nat} {n : Nat}
def LIV (H : HD) (I : FI) (X : Nat → Nat) : Prop := ∀ t, t < msz H → I 109 t = nI (X t) ∧ X t ≤ 1
def LSO (H : HD) (l set : Nat) (wt X : Nat → Nat) : Prop := (∀ t, t < msz H → X t = 1 → VSt H set wt (cv (H.1 4) t)) ∧ ∀ t, t < msz H → VSt H set wt (cv (H.1 4) t) → Kept H l set wt (cv (H.1 4) t) → X t = 1
theorem LSO_lv (o4 : H.1 4 ≤ 4) (hs : set < 2 ^ (H.1 4)) (hw : ∀ r, r < H.1 4 → 1 ≤ wt r ∧ wt r ≤ 7) {X : Nat → Nat} (hS : LSO H l set wt X) {t : Nat} (hk : Kept H l set wt (cv (H.1 4) t)) : LVG H l set wt X t := by
  obtain ⟨to, t1, t2, t3⟩ := Kept_ch hk
  rcases nxt_cv (l := l) (t := t) (to := to) o4 hs hw with ⟨g, e⟩ | ⟨_, e⟩
  · have hV := (nxt_V (fun r hr hb => (hw r (hsb hs hb)).2) o4 t1 e).1
    rw [e, Nat.add_sub_cancel] at t3
    exact ⟨to, t1, g, hS.2 _ (mch_lt hs hw t1 g) hV t3⟩
  · exact absurd e t2
theorem LSO_k (o4 : H.1 4 ≤ 4) (hs : set < 2 ^ (H.1 4)) (hw : ∀ r, r < H.1 4 → 1 ≤ wt r ∧ wt r ≤ 7) {X : Nat → Nat} (hS : LSO H l set wt X) (hL : ∀ t, t < msz H → X t = 1 → LVG H l set wt X t) {t : Nat} (ht : t < msz H) : X t = 1 ↔ VSt H set wt (cv (H.1 4) t) ∧ Kept H l set wt (cv (H.1 4) t) := by
  constructor
  · intro h
    refine ⟨hS.1 t ht h, ?_⟩
    refine Kept_co (X := fun s => ∃ t, t < msz H ∧ cv (H.1 4) t = s ∧ X t = 1) (fun s ⟨u, u1, u2, u3⟩ => ?_) _ ⟨t, ht, rfl, h⟩
    obtain ⟨to, t1, t2, t3⟩ := hL u u1 u3
    subst u2
    rcases nxt_cv (l := l) (t := u) (to := to) o4 hs hw with ⟨g, e⟩ | ⟨g, _⟩
    · refine ⟨to, t1, by rw [e]; omega, Or.inl ⟨mch H l set u to, mch_lt hs hw t1 t2, by rw [e]; rfl, t3⟩⟩
    · exact absurd t2 g
  · exact fun h => hS.2 t ht h.1 h.2
/-- a pass -/
theorem e295p (hM : MK H W A l wt I) (hs : set < 2 ^ (H.1 4)) (hn : 20000 ≤ n) {X : Nat → Nat} (hX : LIV H I X) (hS : LSO H l set wt X) (K1 : Int32 → Int32 → FI → FL → Option (FI × FL)) : ∃ f J Y, c_295_2 n K1 n (nI set) (nI 0) (nI 0) I L = K1 (nI set) (nI f) J L ∧ LIV H J Y ∧ LSO H l set wt Y ∧ ((f = 0 ∧ ∀ t, t < msz H → Y t = 1 → LVG H l set wt Y t) ∨ (f = 1 ∧ sma Y (msz H) < sma X (msz H))) ∧ ∀ c i, c ≠ 105 → c ≠ 109 → J c i = I c i := by
  have o4 : H.1 4 ≤ 4 := hM.1.1.2.2.2.2.1
  have hm := msz_le o4
  have hw := hM.2.2.2.2.2.1
  obtain ⟨⟨f, J⟩, ⟨Y, y1, y2, y3, y4⟩, e⟩ := lpE (fun m k (s : Nat × FI) => c_295_2 n K1 m (nI set) (nI s.1) (nI k) s.2 L) (msz H) (fun k s => ∃ Y, LIV H s.2 Y ∧ LSO H l set wt Y ∧ ((s.1 = 0 ∧ Y = X ∧ ∀ t, t < k → Y t = 1 → LVG H l set wt Y t) ∨ (s.1 = 1 ∧ sma Y (msz H) < sma X (msz H))) ∧ ∀ c i, c ≠ 105 → c ≠ 109 → s.2 c i = I c i) (fun s => K1 (nI set) (nI s.1) s.2 L) (fun m s hI => by
      obtain ⟨Y, _, _, _, y4⟩ := hI
      have hMs : MK H W A l wt s.2 := MK_fr hM (fun c i hc => y4 c i (by omega) (by omega))
      show b_295_2 n K1 (c_295_2 n K1 m) (nI set) (nI s.1) (nI (msz H)) s.2 L = _
      unfold b_295_2
      rw [e293 hMs (by omega), q_bs, if_pos (nI_le (Nat.le_refl _) (by omega))]) (fun m k s hk hI => by
      obtain ⟨Y, y1, y2, y3, y4⟩ := hI
      have hMs : MK H W A l wt s.2 := MK_fr hM (fun c i hc => y4 c i (by omega) (by omega))
      obtain ⟨z1, z2⟩ := y1 k hk
      by_cases h0 : Y k = 0
      · refine ⟨s, ⟨Y, y1, y2, ?_, y4⟩, ?_⟩
        · rcases y3 with ⟨a, b, c⟩ | h
          · refine Or.inl ⟨a, b, fun t ht hy => ?_⟩
            rcases (show t < k ∨ t = k by omega) with h1 | rfl
            · exact c t h1 hy
            · omega
          · exact Or.inr h
        · show b_295_2 n K1 (c_295_2 n K1 m) (nI set) (nI s.1) (nI k) s.2 L = _
          unfold b_295_2 c_295_3
          rw [e293 hMs (by omega), q_bs, if_neg (nI_ge hk (by omega)), ku_if (by omega) (by omega), nI_clamp (by omega), if_pos (by rw [z1, h0]; rfl), nI_1]
      · obtain ⟨b, J, j1, j2, j3⟩ := e292 (L := L) hMs hs y1 hk (show 1000 ≤ n by omega)
        have hstep : ∀ r, (if nI b = 0 then c_295_3 n K1 (c_295_2 n K1 m) (nI set) 1 (nI k) (u2 J 109 k (vp_nar .boolean 0)) L else c_295_3 n K1 (c_295_2 n K1 m) (nI set) (nI s.1) (nI k) J L) = r → c_295_2 n K1 (m + 1) (nI set) (nI s.1) (nI k) s.2 L = r := fun r hr => by
          show b_295_2 n K1 (c_295_2 n K1 m) (nI set) (nI s.1) (nI k) s.2 L = _
          unfold b_295_2
          rw [e293 hMs (by omega), q_bs, if_neg (nI_ge hk (by omega)), ku_if (by omega) (by omega), nI_clamp (by omega), if_neg (by rw [z1, ku_0, nI_eq (by omega) (by omega)]; exact h0), j1, q_bs]
          dsimp only
          rw [ku_if (by omega) (by omega)]
          exact hr
        rcases j2 with ⟨rfl, j2⟩ | ⟨rfl, j2⟩
        · refine ⟨(s.1, J), ⟨Y, fun t ht => by show J 109 t = _ ∧ _; rw [j3 109 t (by decide)]; exact y1 t ht, y2, ?_, fun c i h1 h2 => (j3 c i h1).trans (y4 c i h1 h2)⟩, hstep _ (by rw [if_neg (by decide)]; unfold c_295_3; rw [nI_1])⟩
          rcases y3 with ⟨a, b, c⟩ | h
          · refine Or.inl ⟨a, b, fun t ht hy => ?_⟩
            rcases (show t < k ∨ t = k by omega) with h1 | rfl
            · exact c t h1 hy
            · exact j2
          · exact Or.inr h
        · refine ⟨(1, u2 J 109 k (nI 0)), ⟨fun t => if t = k then 0 else Y t, fun t ht => ?_, ⟨fun t ht hy => ?_, fun t ht hv hkp => ?_⟩, Or.inr ⟨rfl, ?_⟩, fun c i h1 h2 => ?_⟩, hstep _ (by rw [if_pos (by decide)]; unfold c_295_3; rw [nI_1]; rfl)⟩
          · show u2 J 109 k (nI 0) 109 t = nI (if t = k then 0 else Y t) ∧ (if t = k then 0 else Y t) ≤ 1
            by_cases e : t = k
            · subst e; rw [if_pos rfl, u2_s]; exact ⟨rfl, by omega⟩
            · rw [if_neg e, u2_o e, j3 109 t (by decide)]; exact y1 t ht
          · dsimp only at hy
            by_cases e : t = k
            · rw [if_pos e] at hy; omega
            · rw [if_neg e] at hy; exact y2.1 t ht hy
          · dsimp only
            by_cases e : t = k
            · subst e
              exact absurd (LSO_lv o4 hs hw y2 hkp) j2
            · rw [if_neg e]; exact y2.2 t ht hv hkp
          · have h := sma_upd (F := Y) (G := fun t => if t = k then 0 else Y t) (j := k) (fun t ht => if_neg ht) hk
            (try dsimp only at h)
            rw [if_pos rfl] at h
            rcases y3 with ⟨a, b, c⟩ | h2
            · rw [b] at h h0 ⊢
              have := (y1 k hk).2
              omega
            · omega
          · show u2 J 109 k (nI 0) c i = _
            rw [u2_c h2, j3 c i h1]; exact y4 c i h1 h2) n 0 (0, I) (by omega) (by omega) ⟨X, hX, hS, Or.inl ⟨rfl, rfl, fun t ht => absurd ht (by omega)⟩, fun _ _ _ _ => rfl⟩
  dsimp only at e y1 y3 y4
  refine ⟨f, J, Y, e, y1, y2, ?_, y4⟩
  rcases y3 with ⟨a, _, c⟩ | h
  · exact Or.inl ⟨a, c⟩
  · exact Or.inr h
theorem e295o (hs : set < 2 ^ (H.1 4)) (hn : 20000 ≤ n) : ∀ (P : Nat) (X : Nat → Nat) (I : FI) (m : Nat), MK H W A l wt I → LIV H I X → LSO H l set wt X → sma X (msz H) ≤ P → P + 1 < m → ∃ J Y, c_295_1 n m (nI set) (nI 1) I L = some (J, L) ∧ LIV H J Y ∧ LSO H l set wt Y ∧ (∀ t, t < msz H → Y t = 1 → LVG H l set wt Y t) ∧ ∀ c i, c ≠ 105 → c ≠ 109 → J c i = I c i := by
  intro P
  induction P with
  | zero =>
    intro X I m hM hX hS hP hm
    obtain ⟨m', rfl⟩ : ∃ m', m = m' + 2 := ⟨m - 2, by omega⟩
    obtain ⟨f, J, Y, e, y1, y2, y3, y4⟩ := e295p (L := L) hM hs hn hX hS (c_295_1 n (m' + 1))
    rcases y3 with ⟨rfl, y3⟩ | ⟨_, y3⟩
    · refine ⟨J, Y, ?_, y1, y2, y3, y4⟩
      show b_295_1 n (c_295_1 n (m' + 1)) (nI set) (nI 1) I L = _
      unfold b_295_1
      rw [if_neg (by decide)]
      refine Eq.trans e ?_
      show b_295_1 n (c_295_1 n m') (nI set) (nI 0) J L = _
      unfold b_295_1
      rw [if_pos (by decide)]
    · omega
  | succ P ih =>
    intro X I m hM hX hS hP hm
    obtain ⟨m', rfl⟩ : ∃ m', m = m' + 2 := ⟨m - 2, by omega⟩
    obtain ⟨f, J, Y, e, y1, y2, y3, y4⟩ := e295p (L := L) hM hs hn hX hS (c_295_1 n (m' + 1))
    have e0 : c_295_1 n (m' + 2) (nI set) (nI 1) I L = c_295_1 n (m' + 1) (nI set) (nI f) J L := by
      show b_295_1 n (c_295_1 n (m' + 1)) (nI set) (nI 1) I L = _
      unfold b_295_1
      rw [if_neg (by decide)]
      exact e
    rcases y3 with ⟨rfl, y3⟩ | ⟨rfl, y3⟩
    · refine ⟨J, Y, ?_, y1, y2, y3, y4⟩
      rw [e0]
      show b_295_1 n (c_295_1 n m') (nI set) (nI 0) J L = _
      unfold b_295_1
      rw [if_pos (by decide)]
    · obtain ⟨K, Z, a, b, c, d, g⟩ := ih Y J (m' + 1) (MK_fr hM (fun c i hc => y4 c i (by omega) (by omega))) y1 y2 (by omega) (by omega)
      exact ⟨K, Z, by rw [e0]; exact a, b, c, d, fun c i h1 h2 => (g c i h1 h2).trans (y4 c i h1 h2)⟩
/-- what lives -/
theorem e295 (hM : MK H W A l wt I) (hs : set < 2 ^ (H.1 4)) (hn : 20000 ≤ n) : ∃ J Y, f_295 n (nI set) I L = some (J, L) ∧ LIV H J Y ∧ (∀ t, t < msz H → (Y t = 1 ↔ VSt H set wt (cv (H.1 4) t) ∧ Kept H l set wt (cv (H.1 4) t))) ∧ ∀ c i, c ≠ 105 → c ≠ 109 → J c i = I c i := by
  have o4 : H.1 4 ≤ 4 := hM.1.1.2.2.2.2.1
  have hm := msz_le o4
  have hw := hM.2.2.2.2.2.1
  obtain ⟨J, ⟨X, x1, x2⟩, e⟩ := lpE (fun m k (s : FI) => c_295_0 n m (nI set) (nI k) s L) (msz H) (fun k s => ∃ X, (∀ t, t < k → s 109 t = nI (X t) ∧ X t ≤ 1 ∧ (X t = 1 ↔ VSt H set wt (cv (H.1 4) t))) ∧ ∀ c i, c ≠ 105 → c ≠ 109 → s c i = I c i) (fun s => c_295_1 n n (nI set) (nI 1) s L) (fun m s hI => by
      obtain ⟨X, _, y4⟩ := hI
      have hMs : MK H W A l wt s := MK_fr hM (fun c i hc => y4 c i (by omega) (by omega))
      show b_295_0 n (c_295_0 n m) (nI set) (nI (msz H)) s L = _
      unfold b_295_0
      rw [e293 hMs (by omega), q_bs, if_pos (nI_le (Nat.le_refl _) (by omega))]; rfl) (fun m k s hk hI => by
      obtain ⟨X, y1, y4⟩ := hI
      have hMs : MK H W A l wt s := MK_fr hM (fun c i hc => y4 c i (by omega) (by omega))
      obtain ⟨b, J, j1, j2, j3⟩ := e294 (L := L) hMs hs hk (show 1000 ≤ n by omega)
      have hb : b ≤ 1 := by rcases j2 with ⟨h, _⟩ | ⟨h, _⟩ <;> omega
      refine ⟨u2 J 109 k (nI b), ⟨fun t => if t = k then b else X t, fun t ht => ?_, fun c i h1 h2 => by rw [u2_c h2, j3 c i h1]; exact y4 c i h1 h2⟩, ?_⟩
      · dsimp only
        by_cases e : t = k
        · subst e
          rw [if_pos rfl, u2_s]
          refine ⟨rfl, hb, ?_⟩
          rcases j2 with ⟨rfl, h⟩ | ⟨rfl, h⟩
          · exact ⟨fun _ => h, fun _ => rfl⟩
          · exact ⟨fun q => absurd q (by omega), fun q => absurd q h⟩
        · rw [if_neg e, u2_o e, j3 109 t (by decide)]; exact y1 t (by omega)
      · show b_295_0 n (c_295_0 n m) (nI set) (nI k) s L = _
        unfold b_295_0
        rw [e293 hMs (by omega), q_bs, if_neg (nI_ge hk (by omega)), j1, q_bs]
        dsimp only
        rw [ku_if (by omega) (by omega), nI_clamp (by omega), nar_b hb, nI_1]) n 0 I (by omega) (by omega) ⟨fun _ => 0, fun t ht => absurd ht (by omega), fun _ _ _ _ => rfl⟩
  have hMJ : MK H W A l wt J := MK_fr hM (fun c i hc => x2 c i (by omega) (by omega))
  have hb := sma_b2 (F := X) (b := 1) (N := msz H) (fun t ht => (x1 t ht).2.1)
  obtain ⟨K, Y, k1, k2, k3, k4, k5⟩ := e295o (L := L) hs hn (msz H) X J n hMJ (fun t ht => ⟨(x1 t ht).1, (x1 t ht).2.1⟩) ⟨fun t ht h => (x1 t ht).2.2.mp h, fun t ht h _ => (x1 t ht).2.2.mpr h⟩ (by omega) (by omega)
  refine ⟨K, Y, ?_, k2, fun t ht => LSO_k o4 hs hw k3 k4 ht, fun c i h1 h2 => (k5 c i h1 h2).trans (x2 c i h1 h2)⟩
  unfold f_295
  rw [show (0 : Int32) = nI 0 from rfl]
  exact e.trans k1
theorem agc_0 {w r was was' : Nat} : agc H l (w + 1) was 0 r 0 = agc H l (w + 1) was' 0 r 0 := by
  unfold agc
  by_cases h : w + 1 = r + 1 ∨ (0 : Nat).testBit r = true
  · rw [if_pos h, if_pos h]
    split
    · rfl
    · split <;> split <;> rfl
  · rw [if_neg h, if_neg h]
theorem agc_01 {w r was : Nat} : agc H l (w + 1) was 0 r 0 ≤ 1 := by
  unfold agc
  split
  · split
    · omega
    · split <;> omega
  · split <;> omega
/-- the first state -/
theorem e296 (hM : MK H W A l wt I) (hs : set < 2 ^ (H.1 4)) {w : Nat} (hw4 : w < H.1 4) (hn : 1000 ≤ n) : ∃ u J, f_296 n (nI w) (nI set) I L = some (nI u, J, L) ∧ u < msz H ∧ cv (H.1 4) u = st0 H l set w ∧ ∀ c i, c ≠ 105 → J c i = I c i := by
  have ho := hM.1
  have o4 : H.1 4 ≤ 4 := ho.1.2.2.2.2.1
  have hs16 := s16 o4 hs
  obtain ⟨J, ⟨j1, j3⟩, e⟩ := lpE (fun m k (s : FI) => c_296_0 n m (nI w) (nI set) (nI k) s L) (H.1 4) (fun k s => (∀ r, r < k → s 105 r = nI 0) ∧ ∀ c i, c ≠ 105 → s c i = I c i) (fun s => (f_253 n (nI w) (nI w) 0 s L).bind fun q1 => (f_287 n (nI w) (nI set) q1.1 q1.2).bind fun q2 => some (q2, q1.1, q1.2)) (fun m s hI => by
      have hMs : MK H W A l wt s := MK_fr hM (fun c i hc => hI.2 c i (by omega))
      show b_296_0 n (c_296_0 n m) (nI w) (nI set) (nI (H.1 4)) s L = _
      unfold b_296_0
      rw [e237 hMs.2.1, q_bs, if_pos (nI_le (Nat.le_refl _) (by omega))]) (fun m k s hk hI => by
      have hMs : MK H W A l wt s := MK_fr hM (fun c i hc => hI.2 c i (by omega))
      refine ⟨u2 s 105 k (nI 0), ⟨fun r hr => ?_, fun c i hc => by rw [u2_c hc]; exact hI.2 c i hc⟩, ?_⟩
      · by_cases e : r = k
        · subst e; exact u2_s
        · rw [u2_o e]; exact hI.1 r (by omega)
      · show b_296_0 n (c_296_0 n m) (nI w) (nI set) (nI k) s L = _
        unfold b_296_0
        rw [e237 hMs.2.1, q_bs, if_neg (nI_ge hk (by omega)), ku_if (by omega) (by omega), nI_clamp (by omega), nI_1]; rfl) n 0 I (by omega) (by omega) ⟨fun r hr => absurd hr (by omega), fun _ _ _ => rfl⟩
  have hMJ : MK H W A l wt J := MK_fr hM (fun c i hc => j3 c i (by omega))
  obtain ⟨K, k1, k2, k3⟩ := e253 (L := L) (he := w + 1) (was := w + 1) (v := 0) ho hMJ.2.1 hMJ.2.2.1 hM.2.2.2.1 hMJ.2.2.2.2.1 j1 (fun r hr => (hM.2.2.2.2.2.1 r hr).2) (fun r hr => Or.inr (by omega)) (by omega) (by omega) (by omega) hn
  rw [oI_s] at k1
  have hMK : MK H W A l wt K := MK_fr hMJ (fun c i hc => k3 c i (by omega))
  have ha := fun r (hr : r < H.1 4) => agm_le (H := H) (l := l) (wt := wt) (he := w + 1) (was := w + 1) (v := 0) (r := r) (a := 0) rfl (hM.2.2.2.2.2.1 r hr).2 (by omega)
  have hag : ∀ r, r < H.1 4 → agm H l wt (w + 1) (w + 1) 0 r 0 = agc H l (w + 1) 0 0 r 0 := fun r hr => by
    rw [(ha r hr).2.1 (by have := agc_01 (H := H) (l := l) (w := w) (r := r) (was := w + 1); have := (hM.2.2.2.2.2.1 r hr).1; omega)]
    exact agc_0
  have h8 : ∀ r, (if set.testBit r = true then agc H l (w + 1) 0 0 r 0 else 0) < 8 := fun r => by
    split
    · have := agc_01 (H := H) (l := l) (w := w) (r := r) (was := 0); omega
    · omega
  have h7 := e287 (L := L) hMK hw4 hs16 k2 (fun r hr hb => by rw [hag r hr]; have := agc_01 (H := H) (l := l) (w := w) (r := r) (was := 0); omega) hn
  rw [mid_cg (b := fun r => if set.testBit r = true then agc H l (w + 1) 0 0 r 0 else 0) (fun r hr => by rw [hag r hr])] at h7
  refine ⟨_, K, ?_, mid_msz (fun r _ => h8 r) hw4, ?_, fun c i hc => (k3 c i hc).trans (j3 c i hc)⟩
  · unfold f_296
    rw [show (0 : Int32) = nI 0 from rfl]
    refine e.trans ?_
    rw [show (0 : Int32) = nI 0 from rfl, k1, q_bs]
    dsimp only
    rw [h7, q_bs]
  · rw [cv_mid h8 (fun r hr => if_neg (fun q => by have := hsb hs q; omega))]
    rfl
/-- a set is kept from a place -/
theorem e297 (hM : MK H W A l wt I) (hs : set < 2 ^ (H.1 4)) {w : Nat} (hw4 : w < H.1 4) (hn : 20000 ≤ n) : ∃ b J, f_297 n (nI w) (nI set) I L = some (nI b, J, L) ∧ ((b = 1 ∧ Kept H l set wt (st0 H l set w)) ∨ (b = 0 ∧ ¬ Kept H l set wt (st0 H l set w))) ∧ ∀ c i, c ≠ 105 → c ≠ 109 → J c i = I c i := by
  have o4 : H.1 4 ≤ 4 := hM.1.1.2.2.2.2.1
  have hm := msz_le o4
  obtain ⟨J, Y, j1, j2, j3, j4⟩ := e295 (L := L) hM hs hn
  have hMJ : MK H W A l wt J := MK_fr hM (fun c i hc => j4 c i (by omega) (by omega))
  obtain ⟨u, K, k1, k2, k3, k4⟩ := e296 (L := L) hMJ hs hw4 (show 1000 ≤ n by omega)
  obtain ⟨z1, z2⟩ := j2 u k2
  have z3 := j3 u k2
  have z0 : K 109 u = nI (Y u) := (k4 109 u (by decide)).trans z1
  have hv := st0_V (l := l) (H := H) (set := set) (wt := wt) (fun r _ hb => hM.2.2.2.2.2.1 r (hsb hs hb)) hw4
  rw [k3] at z3
  have hfin : f_297 n (nI w) (nI set) I L = some (nI (Y u), K, L) := by
    unfold f_297
    rw [e237 hM.2.1, q_bs, if_pos (by rw [ku_0, nI_eq (by omega) (by omega)]; omega), j1, q_bs]
    dsimp only
    rw [k1, q_bs]
    dsimp only
    rw [ku_if (by omega) (by omega), nI_clamp (by omega)]
    rcases (show Y u = 0 ∨ Y u = 1 by omega) with h | h
    · rw [if_pos (by rw [z0, h]; decide), z0]
    · rw [if_pos (by rw [z0, h]; decide), z0]
  refine ⟨Y u, K, hfin, ?_, fun c i h1 h2 => (k4 c i h1).trans (j4 c i h1 h2)⟩
  rcases (show Y u = 0 ∨ Y u = 1 by omega) with h | h
  · exact Or.inr ⟨h, fun q => by have := z3.mpr ⟨hv, q⟩; omega⟩
  · exact Or.inl ⟨h, (z3.mp h).2⟩
end MLV3
