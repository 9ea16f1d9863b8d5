/-! LAYER 3: next, states, longer. Printed by wip/whole/gen75.py -/
theorem sma_inj {c : Nat → Nat} {M : Nat} : ∀ {N : Nat} {F : Nat → Nat}, (∀ t, t < N → c t < M) → (∀ t u, t < N → u < N → c t = c u → t = u) → (∀ s, s < M → (∀ t, t < N → c t ≠ s) → F s = 0) → sma (fun t => F (c t)) N = sma F M
  | 0, F, _, _, hz => by
    have h : ∀ {M : Nat}, (∀ s, s < M → F s = 0) → sma F M = 0 := fun {M} h => by
      induction M with
      | zero => rfl
      | succ M ih =>
        show sma F M + F M = 0
        rw [ih (fun s hs => h s (by omega)), h M (by omega)]
    exact (h (fun s hs => hz s hs (fun t ht => absurd ht (by omega)))).symm
  | N + 1, F, hc, hi, hz => by
    have ih := sma_inj (N := N) (F := fun s => if s = c N then 0 else F s) (fun t ht => hc t (by omega)) (fun t u ht hu => hi t u (by omega) (by omega)) (fun s hs hn => by
      (try dsimp only)
      by_cases e : s = c N
      · rw [if_pos e]
      · rw [if_neg e]
        exact hz s hs (fun t ht => by
          rcases (show t < N ∨ t = N by omega) with h | rfl
          · exact hn t h
          · exact Ne.symm e))
    have hu := sma_upd (F := F) (G := fun s => if s = c N then 0 else F s) (j := c N) (fun k hk => if_neg hk) (hc N (by omega))
    rw [if_pos rfl] at hu
    have e1 : sma (fun t => if c t = c N then 0 else F (c t)) N = sma (fun t => F (c t)) N := sma_cg (fun t ht => if_neg (fun e => by have := hi t N (by omega) (by omega) e; omega))
    show sma (fun t => F (c t)) N + F (c N) = _
    rw [← e1]
    have ih' : sma (fun t => if c t = c N then 0 else F (c t)) N = sma (fun s => if s = c N then 0 else F s) M := ih
    rw [ih']
    omega
section KQ5
variable {I : FI} {L : FL} {H : HD} {W : Nat → Nat} {A : AD} {l set : Nat} {wt : Nat → Nat} {n : Nat}
theorem GMV_u {x y : Nat} (h1 : GMV H x) (h2 : GMV H y) : x = y := by
  rcases h1 with ⟨a, b⟩ | ⟨t, a, b, c, d, e⟩ <;> rcases h2 with ⟨a', b'⟩ | ⟨t', a', b', c', d', e'⟩
  · omega
  · rcases b (by omega) t' b' with h | h
    · exact absurd h c'
    · exact absurd d' h
  · rcases b' (by omega) t b with h | h
    · exact absurd h c
    · exact absurd d h
  · rcases Nat.lt_trichotomy t t' with h | h | h
    · rcases e' t h with q | q
      · exact absurd q c
      · exact absurd d q
    · omega
    · rcases e t' h with q | q
      · exact absurd q c'
      · exact absurd d' q
theorem MWT_u {q x y : Nat} (h1 : MWT H q x) (h2 : MWT H q y) : x = y := by
  rcases h1 with ⟨a, b⟩ | ⟨t, a, b, c, d⟩ <;> rcases h2 with ⟨a', b'⟩ | ⟨t', a', b', c', d'⟩
  · omega
  · exact absurd c' (b t' b')
  · exact absurd c (b' t b)
  · rcases Nat.lt_trichotomy t t' with h | h | h
    · exact absurd c (d' t h)
    · omega
    · exact absurd c' (d t' h)
/-- the first good move, by the model -/
theorem m301 (hM : MK H W A (H.1 1) (H.2 0) I) (h4 : 0 < H.1 4) (hn : 20000 ≤ n) : ∃ x K, ((f_298 I L).bind fun q3 => (f_295 n q3 I L).bind fun q4 => (f_256 q4.1 q4.2).bind fun q5 => (f_298 q4.1 q4.2).bind fun q6 => (f_296 n q5 q6 q4.1 q4.2).bind fun q7 => c_301_0 n n q7.1 0 q7.2.1 q7.2.2) = some (oI x, K, L) ∧ GMV H x ∧ ∀ c i, c ≠ 105 → c ≠ 109 → K c i = I c i := by
  have o4 : H.1 4 ≤ 4 := hM.1.1.2.2.2.2.1
  have hm := msz_le o4
  have hev := evr_lt H
  have hf := fpl_lt hM.1 h4
  have hw := hM.2.2.2.2.2.1
  obtain ⟨J, Y, j1, j2, j3, j4⟩ := e295 (L := L) hM hev hn
  have hMJ : MK H W A (H.1 1) (H.2 0) J := MK_fr hM (fun c i hc => j4 c i (by omega) (by omega))
  obtain ⟨u, K0, k1, k2, k3, k4⟩ := e296 (L := L) hMJ hev hf (show 1000 ≤ n by omega)
  have hMK : MK H W A (H.1 1) (H.2 0) K0 := MK_fr hMJ (fun c i hc => k4 c i (by omega))
  have hiff : ∀ to, to < H.1 4 → ((GO H (H.1 1) (evr H) (H.2 0) u to ∧ Y (mch H (H.1 1) (evr H) u to) = 1) ↔ (nxt H (H.1 1) (evr H) (H.2 0) (st0 H (H.1 1) (evr H) (fpl H)) to ≠ 0 ∧ Kept H (H.1 1) (evr H) (H.2 0) (nxt H (H.1 1) (evr H) (H.2 0) (st0 H (H.1 1) (evr H) (fpl H)) to - 1))) := fun to hto => by
    rw [← k3]
    rcases nxt_cv (l := H.1 1) (t := u) (to := to) o4 hev hw with ⟨g, e⟩ | ⟨g, e⟩
    · have hl := mch_lt hev hw hto g
      have hV := (nxt_V (fun r hr hb => (hw r (hsb hev hb)).2) o4 hto e).1
      rw [e, Nat.add_sub_cancel]
      constructor
      · exact fun h => ⟨by omega, ((j3 _ hl).mp h.2).2⟩
      · exact fun h => ⟨g, (j3 _ hl).mpr ⟨hV, h.2⟩⟩
    · constructor
      · exact fun h => absurd h.1 g
      · exact fun h => absurd e h.1
  have hor : ∀ to, to < H.1 4 → ¬ (GO H (H.1 1) (evr H) (H.2 0) u to ∧ Y (mch H (H.1 1) (evr H) u to) = 1) → nxt H (H.1 1) (evr H) (H.2 0) (st0 H (H.1 1) (evr H) (fpl H)) to = 0 ∨ ¬ Kept H (H.1 1) (evr H) (H.2 0) (nxt H (H.1 1) (evr H) (H.2 0) (st0 H (H.1 1) (evr H) (fpl H)) to - 1) := fun to hto h => by
    by_cases h0 : nxt H (H.1 1) (evr H) (H.2 0) (st0 H (H.1 1) (evr H) (fpl H)) to = 0
    · exact Or.inl h0
    · exact Or.inr (fun q => h ((hiff to hto).mpr ⟨h0, q⟩))
  have hpre : ∀ r, c_301_0 n n (nI u) (nI 0) K0 L = r → ((f_298 I L).bind fun q3 => (f_295 n q3 I L).bind fun q4 => (f_256 q4.1 q4.2).bind fun q5 => (f_298 q4.1 q4.2).bind fun q6 => (f_296 n q5 q6 q4.1 q4.2).bind fun q7 => c_301_0 n n q7.1 0 q7.2.1 q7.2.2) = r := fun r hr => by
    rw [e298 hM, q_bs, j1, q_bs]
    dsimp only
    rw [e256k hMJ, q_bs, if_neg (by omega), e298 hMJ, q_bs, k1, q_bs]
    exact hr
  rcases lpG (fun m k (s : FI) => c_301_0 n m (nI u) (nI k) s L) (H.1 4) (fun k s => (∀ to, to < k → ¬ (GO H (H.1 1) (evr H) (H.2 0) u to ∧ Y (mch H (H.1 1) (evr H) u to) = 1)) ∧ ∀ c i, c ≠ 105 → s c i = K0 c i) (fun s => some (oI 0, s, L)) (fun r => ∃ k K, r = some (oI (k + 1), K, L) ∧ k < H.1 4 ∧ (GO H (H.1 1) (evr H) (H.2 0) u k ∧ Y (mch H (H.1 1) (evr H) u k) = 1) ∧ (∀ to, to < k → ¬ (GO H (H.1 1) (evr H) (H.2 0) u to ∧ Y (mch H (H.1 1) (evr H) u to) = 1)) ∧ ∀ c i, c ≠ 105 → K c i = K0 c i) (fun m s hs => by
      have hMs : MK H W A (H.1 1) (H.2 0) s := MK_fr hMK (fun c i hc => hs.2 c i (by omega))
      show b_301_0 n (c_301_0 n m) (nI u) (nI (H.1 4)) s L = _
      unfold b_301_0
      rw [e237 hMs.2.1, q_bs, if_pos (nI_le (Nat.le_refl _) (by omega)), oI_0]) (fun m k s hk hI => by
      have hMs : MK H W A (H.1 1) (H.2 0) s := MK_fr hMK (fun c i hc => hI.2 c i (by omega))
      obtain ⟨b, J', a1, a2, a3⟩ := e291 (L := L) hMs hev (X := Y) (fun t ht => by rw [hI.2 109 t (by decide), k4 109 t (by decide)]; exact j2 t ht) k2 hk (show 1000 ≤ n by omega)
      have hstep : c_301_0 n (m + 1) (nI u) (nI k) s L = if nI b = 0 then c_301_0 n m (nI u) (nI (k + 1)) J' L else some (nI k, J', L) := by
        show b_301_0 n (c_301_0 n m) (nI u) (nI k) s L = _
        unfold b_301_0
        rw [e237 hMs.2.1, q_bs, if_neg (nI_ge hk (by omega)), e298 hMs, q_bs, a1, q_bs, nI_1]
      rcases a2 with ⟨rfl, g⟩ | ⟨rfl, g⟩
      · exact Or.inl ⟨k, J', by rw [hstep, if_neg (by decide), oI_s], hk, g, hI.1, fun c i hc => (a3 c i hc).trans (hI.2 c i hc)⟩
      · refine Or.inr ⟨J', ⟨fun to ht => ?_, fun c i hc => (a3 c i hc).trans (hI.2 c i hc)⟩, by rw [hstep, if_pos (by decide)]⟩
        rcases (show to < k ∨ to = k by omega) with h1 | rfl
        · exact hI.1 to h1
        · exact g) n 0 K0 (by omega) (by omega) ⟨fun to ht => absurd ht (by omega), fun _ _ _ => rfl⟩ with ⟨k, K, h1, h2, h3, h4', h5⟩ | ⟨K, ⟨h1, h2⟩, h3⟩
  · refine ⟨k + 1, K, hpre _ h1, Or.inr ⟨k, rfl, h2, ((hiff k h2).mp h3).1, ((hiff k h2).mp h3).2, fun t ht => hor t (by omega) (h4' t ht)⟩, fun c i a b => by rw [h5 c i a, k4 c i a, j4 c i a b]⟩
  · refine ⟨0, K, hpre _ h3, Or.inl ⟨rfl, fun _ to hto => hor to hto (h1 to hto)⟩, fun c i a b => by rw [h2 c i a, k4 c i a, j4 c i a b]⟩
theorem cv_lt {t : Nat} (ht : t < msz H) : cv (H.1 4) t < 4096 * H.1 4 := by
  have h1 := cv_he (H.1 4) t
  have h2 := msz_he ht
  omega
theorem cv_sur (o4 : H.1 4 ≤ 4) {s : Nat} (hv : VSt H (evr H) wt s) : ∃ t, t < msz H ∧ cv (H.1 4) t = s := by
  have hb : ∀ r, (fun r => if r < H.1 4 then dg s r else 0) r < 8 := fun r => by
    dsimp only
    split
    · exact dg_lt s r
    · omega
  refine ⟨mid (fun r => if r < H.1 4 then dg s r else 0) (s / 4096) (H.1 4), mid_msz (fun r _ => hb r) hv.1, ?_⟩
  rw [cv_mid hb (fun r hr => if_neg (by omega))]
  refine Eq.trans (sid_cg (fun r hr => ?_)) (sid_dg s)
  (try dsimp only)
  by_cases h : r < H.1 4
  · rw [if_pos h]
  · rw [if_neg h]
    rcases (hv.2 r hr).2 with q | q
    · rw [evr_b] at q; exact absurd (of_decide_eq_true q) h
    · exact q.symm
/-- how many states live -/
theorem m300 (hM : MK H W A (H.1 1) (H.2 0) I) (hn : 20000 ≤ n) : ∃ x K, ((f_298 I L).bind fun q3 => (f_295 n q3 I L).bind fun q4 => c_300_0 n n 0 0 q4.1 q4.2) = some (nI x, K, L) ∧ TLY H x ∧ ∀ c i, c ≠ 105 → c ≠ 109 → K c i = I c i := by
  have o4 : H.1 4 ≤ 4 := hM.1.1.2.2.2.2.1
  have hm := msz_le o4
  have hev := evr_lt H
  obtain ⟨J, Y, j1, j2, j3, j4⟩ := e295 (L := L) hM hev hn
  have hMJ : MK H W A (H.1 1) (H.2 0) J := MK_fr hM (fun c i hc => j4 c i (by omega) (by omega))
  obtain ⟨a, ha, e⟩ := lpE (fun m k (a : Nat) => c_300_0 n m (nI a) (nI k) J L) (msz H) (fun k a => a = sma Y k) (fun a => some (nI a, J, L)) (fun m a ha => by
      show b_300_0 n (c_300_0 n m) (nI a) (nI (msz H)) J L = _
      unfold b_300_0
      rw [e293 hMJ (by omega), q_bs, if_pos (nI_le (Nat.le_refl _) (by omega))]) (fun m k a hk ha => by
      obtain ⟨z1, z2⟩ := j2 k hk
      refine ⟨a + Y k, by rw [ha]; rfl, ?_⟩
      show b_300_0 n (c_300_0 n m) (nI a) (nI k) J L = _
      unfold b_300_0 c_300_1
      rw [e293 hMJ (by omega), q_bs, if_neg (nI_ge hk (by omega)), ku_if (by omega) (by omega), nI_clamp (by omega), nI_1]
      rcases (show Y k = 0 ∨ Y k = 1 by omega) with h | h
      · rw [if_pos (by rw [z1, h]; decide), h, ku_0, nI_add]
      · rw [if_neg (by rw [z1, h]; decide), h, nI_1]) n 0 0 (by omega) (by omega) rfl
  refine ⟨sma Y (msz H), J, ?_, ?_, j4⟩
  · rw [e298 hM, q_bs, j1, q_bs]
    rw [ha] at e
    exact e
  · have hc : ∀ s, ∃ v, (v = 1 ∧ VSt H (evr H) (H.2 0) s ∧ Kept H (H.1 1) (evr H) (H.2 0) s) ∨ (v = 0 ∧ ¬ (VSt H (evr H) (H.2 0) s ∧ Kept H (H.1 1) (evr H) (H.2 0) s)) := fun s => by
      by_cases h : VSt H (evr H) (H.2 0) s ∧ Kept H (H.1 1) (evr H) (H.2 0) s
      · exact ⟨1, Or.inl ⟨rfl, h⟩⟩
      · exact ⟨0, Or.inr ⟨rfl, h⟩⟩
    have hF : ∃ F : Nat → Nat, ∀ s, (F s = 1 ∧ VSt H (evr H) (H.2 0) s ∧ Kept H (H.1 1) (evr H) (H.2 0) s) ∨ (F s = 0 ∧ ¬ (VSt H (evr H) (H.2 0) s ∧ Kept H (H.1 1) (evr H) (H.2 0) s)) := ⟨fun s => (hc s).choose, fun s => (hc s).choose_spec⟩
    obtain ⟨F, hF⟩ := hF
    refine ⟨F, fun s _ => hF s, ?_⟩
    rw [← sma_inj (c := cv (H.1 4)) (N := msz H) (F := F) (fun t ht => cv_lt ht) (fun t u _ _ e => cv_inj o4 e) (fun s hs hne => by
      rcases hF s with h | h
      · obtain ⟨t, t1, t2⟩ := cv_sur o4 h.2.1
        exact absurd t2 (hne t t1)
      · exact h.1)]
    refine sma_cg (fun t ht => ?_)
    have h3 := j3 t ht
    have h2 := (j2 t ht).2
    rcases hF (cv (H.1 4) t) with ⟨h, q⟩ | ⟨h, q⟩
    · rw [h]; exact h3.mpr q
    · rw [h]
      rcases (show Y t = 0 ∨ Y t = 1 by omega) with e | e
      · exact e
      · exact absurd (h3.mp e) q
theorem TLY_u {x y : Nat} (h1 : TLY H x) (h2 : TLY H y) : x = y := by
  obtain ⟨F, f1, rfl⟩ := h1
  obtain ⟨G, g1, rfl⟩ := h2
  refine sma_cg (fun s hs => ?_)
  rcases f1 s hs with ⟨a, b⟩ | ⟨a, b⟩ <;> rcases g1 s hs with ⟨c, d⟩ | ⟨c, d⟩
  · omega
  · exact absurd b d
  · exact absurd d b
  · omega
/-- how much longer, by the model -/
theorem m317 (hM : MK H W A (H.1 1) (H.2 0) I) {q : Nat} (hq : q < H.1 4) (hn : 20000 ≤ n) : ∃ x K, c_317_0 n n (nI q) (nI 0) I L = some (oI x, K, L) ∧ MWT H q x ∧ ∀ c i, c ≠ 104 → c ≠ 105 → c ≠ 109 → K c i = I c i := by
  have ho := hM.1
  have o4 : H.1 4 ≤ 4 := ho.1.2.2.2.2.1
  have hf := fpl_lt ho (by omega)
  have hev := evr_lt H
  have hw := ho.2.1 q hq
  rcases lpG (fun m k (s : FI) => c_317_0 n m (nI q) (nI k) s L) (8 - H.2 0 q) (fun k s => (∀ y, y < k → ¬ KWL H q y) ∧ (∀ r, r < H.1 4 → r ≠ q → s 104 r = I 104 r) ∧ ∀ c i, c ≠ 104 → c ≠ 105 → c ≠ 109 → s c i = I c i) (fun s => some (oI 0, s, L)) (fun r => ∃ k K, r = some (oI (k + 1), K, L) ∧ k ≤ 7 - H.2 0 q ∧ KWL H q k ∧ (∀ y, y < k → ¬ KWL H q y) ∧ ∀ c i, c ≠ 104 → c ≠ 105 → c ≠ 109 → K c i = I c i) (fun m s hs => by
      have hMs : MH s 0 H W A := MH_fr ho hM.2.1 (fun c hc i => hs.2.2 c i (by omega) (by omega) (by omega))
      show b_317_0 n (c_317_0 n m) (nI q) (nI (8 - H.2 0 q)) s L = _
      unfold b_317_0
      rw [ku_2, pk_mul, ku_if (by omega) (by omega), nI_clamp (by omega), mhwt hMs hq, nI_add, if_pos (show (7 : Int32) < nI (H.2 0 q + (8 - H.2 0 q)) from nI_lt (a := 7) (by omega) (by omega)), oI_0]) (fun m k s hk hI => by
      obtain ⟨s1, s2, s3⟩ := hI
      have hMs : MH s 0 H W A := MH_fr ho hM.2.1 (fun c hc i => s3 c i (by omega) (by omega) (by omega))
      have hMK : MK H W A (H.1 1) (wlo H q k) (u2 s 104 q (nI (H.2 0 q + k))) := by
        refine ⟨ho, MH_fr ho hMs (fun c hc i => u2_c (by omega)), ?_, hM.2.2.2.1, fun r hr => ?_, fun r hr => ?_, ?_⟩
        · rw [u2_c (by decide), s3 89 25 (by decide) (by decide) (by decide)]; exact hM.2.2.1
        · unfold wlo
          by_cases e : r = q
          · subst e; rw [if_pos rfl, u2_s]
          · rw [if_neg e, u2_o e, s2 r hr e]; exact hM.2.2.2.2.1 r hr
        · have := ho.2.1 r hr
          unfold wlo
          by_cases e : r = q
          · subst e; rw [if_pos rfl]; omega
          · rw [if_neg e]; omega
        · rw [u2_c (by decide), s3 89 27 (by decide) (by decide) (by decide)]; exact hM.2.2.2.2.2.2
      obtain ⟨b, K, k1, k2, k3⟩ := e297 (L := L) hMK hev hf hn
      have hstep : c_317_0 n (m + 1) (nI q) (nI k) s L = if nI b = 0 then c_317_0 n m (nI q) (nI (k + 1)) K L else some (nI k, K, L) := by
        show b_317_0 n (c_317_0 n m) (nI q) (nI k) s L = _
        unfold b_317_0
        rw [ku_2, pk_mul, ku_if (by omega) (by omega), nI_clamp (by omega), mhwt hMs hq, nI_add, if_neg (show ¬ (7 : Int32) < nI (H.2 0 q + k) from nI_nlt (a := 7) (by omega) (by omega)), ku_if (by omega) (by omega), ku_if (by omega) (by omega), nI_clamp (by omega), e256k hMK, q_bs, if_neg (by omega), e298 hMK, q_bs, k1, q_bs, nI_1]
      have hfr : ∀ c i, c ≠ 104 → c ≠ 105 → c ≠ 109 → K c i = I c i := fun c i h1 h2 h3 => by rw [k3 c i h2 h3, u2_c h1]; exact s3 c i h1 h2 h3
      rcases k2 with ⟨rfl, g⟩ | ⟨rfl, g⟩
      · exact Or.inl ⟨k, K, by rw [hstep, if_neg (by decide), oI_s], by omega, g, s1, hfr⟩
      · refine Or.inr ⟨K, ⟨fun y hy => ?_, fun r hr hne => by rw [k3 104 r (by decide) (by decide), u2_o hne]; exact s2 r hr hne, hfr⟩, by rw [hstep, if_pos (by decide)]⟩
        rcases (show y < k ∨ y = k by omega) with h1 | rfl
        · exact s1 y h1
        · exact g) n 0 I (by omega) (by omega) ⟨fun y hy => absurd hy (by omega), fun _ _ _ => rfl, fun _ _ _ _ _ => rfl⟩ with ⟨k, K, h1, h2, h3, h4, h5⟩ | ⟨K, ⟨h1, _, h2⟩, h3⟩
  · exact ⟨k + 1, K, h1, Or.inr ⟨k, rfl, h2, h3, h4⟩, h5⟩
  · exact ⟨0, K, h3, Or.inl ⟨rfl, fun x hx => h1 x (by omega)⟩, h2⟩
end KQ5
section KSK5
variable {RP : RPT} {Ls : Nat} {xs : Nat → Int32} {a1 a2 a3 a4 a5 : Int32}
theorem sk_next : SOK Ls xs (VV KPK RP) 138 301 [] := by
  intro kp nh rh tl rl I L hV
  have hV0 := hV
  obtain ⟨H, W, A, J, M, hB, hRg, hP, hCJ, fI, fL, hw⟩ := kw hV
  have hB0 := hB
  obtain ⟨hT, hF, ho, hC, hM, hIm, hRw⟩ := hB
  have o0 : H.1 0 ≤ 1000 := ho.1.1
  have o4 : H.1 4 ≤ 4 := ho.1.2.2.2.2.1
  have c0 : I 3 0 = nI (H.1 0) := chs hC (by decide)
  have c4 : I 3 4 = nI (H.1 4) := chs hC (by decide)
  have hpw := pw5 _ (show H.1 4 < 5 by omega)
  have hp0 : 0 < 2 ^ (H.1 4) := Nat.pow_pos (by omega)
  have hM0 : MH (u2 I 89 0 0) 0 H W A := MH_th hM
  have m4 : u2 I 89 0 0 96 3 = nI (H.1 4) := mh96 hM0 (by decide)
  by_cases h0 : H.1 0 = 0
  · rcases hw with ⟨rfl, rfl, rfl, rfl, rfl⟩ | ⟨rfl, rfl, rfl, hf⟩
    · exact ⟨-2, some 114, nh, rh, TK, RK (some 3), I, L, u2 I 89 0 0, L, (t_138_1 Ls xs 994 nh rh 200000 I L (-2, I, L) (by unfold f_138_1; rw [e177n c0 o0 h0, q_bs, if_pos rfl])), (t_301 Ls xs 994 (some 114) TK (RK (some 3)) nh rh 200000 I L (-2, u2 I 89 0 0, L) (by unfold f_301; rw [e236n hM0.1 o0 h0, q_bs, if_neg (fun q => q rfl)])), VV_th hV0⟩
    · exact ⟨-2, none, nh, rh, [], [], I, L, u2 I 89 0 0, L, (t_138 Ls xs 994 nh rh 200000 I L (-2, false, I, L) (by unfold f_138; rw [e177n c0 o0 h0, q_bs, if_pos rfl])), (t_301 Ls xs 994 none [] [] nh rh 200000 I L (-2, u2 I 89 0 0, L) (by unfold f_301; rw [e236n hM0.1 o0 h0, q_bs, if_neg (fun q => q rfl)])), VV_th hV0⟩
  · obtain ⟨x, I', L', e1, e3, e4, e5, e6⟩ := e34 (n := 200000) (L := M) (by omega) ho hCJ hP
    have hMJ : MH (u2 I' 89 0 0) 0 H W A := MH_th (MH_fr ho hM (fun c hc i => by rw [e5 c i (by omega), fI c i (by omega)]))
    obtain ⟨J2, p1, p2, p3, p4⟩ := mlay (n := 200000) (L := L') ho hMJ (by omega)
    have hmod : ∃ K, f_301 200000 I' L' = some (oI x, K, L') ∧ ∀ c i, c ≠ 105 → c ≠ 109 → K c i = J2 c i := by
      unfold f_301
      rw [e236y hMJ.1 o0 (by omega), q_bs, if_pos (by decide), p1, q_bs]
      dsimp only
      rw [e237 p2.2.1, q_bs]
      by_cases z : H.1 4 = 0
      · rw [if_neg (by rw [z]; decide)]
        have hx : x = 0 := by
          rcases e3 with h | ⟨to, _, h, _⟩
          · exact h.1
          · omega
        exact ⟨J2, by rw [hx, oI_0], fun _ _ _ _ => rfl⟩
      · rw [if_pos (by rw [ku_0, nI_eq (by omega) (by omega)]; exact z)]
        obtain ⟨y, K, k1, k2, k3⟩ := m301 (n := 200000) (L := L') p2 (by omega) (by omega)
        have := GMV_u e3 k2
        subst this
        exact ⟨K, k1, k3⟩
    obtain ⟨K, k1, k3⟩ := hmod
    have hK : ∀ c i, c ≠ 89 → c ≠ 104 → c ≠ 105 → c ≠ 109 → c ≠ 110 → K c i = I' c i := fun c i h1 h2 h3 h4 _ => by rw [k3 c i h3 h4, p3 c i h1 h2, u2_c h1]
    have hK9 : ∀ i, (i = 6 ∨ i = 14 ∨ i = 15) → K 89 i = I' 89 i := fun i hi => by rw [k3 89 i (by decide) (by decide), p4 i (by omega), u2_o (by omega)]
    refine ⟨oI x, some 114, nh, rh, TK, RK (some 3), I', L', K, L', ?_, ?_, kfin hB0 hRg (KPK_cg e4 (fun c i a b => hK c i (by omega) (by omega) (by omega) (by omega) (by omega)) (fun _ => rfl)) (fun c i h1 h2 h3 h4 h5 h6 => by rw [hK c i h1 h2 h3 h4 h5, e5 c i h6, fI c i h6]) (fun i hi => by rw [hK9 i hi, e5 89 i (by omega), fI 89 i (by omega)]) (fun c i hc => by rw [e6 c i (by omega), fL c i hc])⟩
    · rcases hw with ⟨rfl, rfl, rfl, rfl, rfl⟩ | ⟨rfl, rfl, rfl, hf⟩
      · exact (t_138_1 Ls xs 994 nh rh 200000 I L (oI x, I', L') (by
          unfold f_138_1
          rw [e177y c0 o0 (by omega), q_bs, if_neg (by decide), show f_187 I L = some (I, L) from rfl, q_bs]
          dsimp only
          rw [e1, q_bs]))
      · exact (t_138 Ls xs 994 nh rh 200000 I L (oI x, true, I', L') (by
          unfold f_138
          rw [e177y c0 o0 (by omega), q_bs, if_neg (by decide), hf, q_bs]
          dsimp only
          rw [e1, q_bs]))
    · exact (t_301 Ls xs 994 (some 114) TK (RK (some 3)) nh rh 200000 I' L' (oI x, K, L') k1)
theorem sk_states : SOK Ls xs (VV KPK RP) 137 300 [] := by
  intro kp nh rh tl rl I L hV
  have hV0 := hV
  obtain ⟨H, W, A, J, M, hB, hRg, hP, hCJ, fI, fL, hw⟩ := kw hV
  have hB0 := hB
  obtain ⟨hT, hF, ho, hC, hM, hIm, hRw⟩ := hB
  have o0 : H.1 0 ≤ 1000 := ho.1.1
  have o4 : H.1 4 ≤ 4 := ho.1.2.2.2.2.1
  have c0 : I 3 0 = nI (H.1 0) := chs hC (by decide)
  have c4 : I 3 4 = nI (H.1 4) := chs hC (by decide)
  have hpw := pw5 _ (show H.1 4 < 5 by omega)
  have hp0 : 0 < 2 ^ (H.1 4) := Nat.pow_pos (by omega)
  have hM0 : MH (u2 I 89 0 0) 0 H W A := MH_th hM
  have m4 : u2 I 89 0 0 96 3 = nI (H.1 4) := mh96 hM0 (by decide)
  by_cases h0 : H.1 0 = 0
  · rcases hw with ⟨rfl, rfl, rfl, rfl, rfl⟩ | ⟨rfl, rfl, rfl, hf⟩
    · exact ⟨-2, some 114, nh, rh, TK, RK (some 3), I, L, u2 I 89 0 0, L, (t_137_1 Ls xs 994 nh rh 200000 I L (-2, I, L) (by unfold f_137_1; rw [e177n c0 o0 h0, q_bs, if_pos rfl])), (t_300 Ls xs 994 (some 114) TK (RK (some 3)) nh rh 200000 I L (-2, u2 I 89 0 0, L) (by unfold f_300; rw [e236n hM0.1 o0 h0, q_bs, if_neg (fun q => q rfl)])), VV_th hV0⟩
    · exact ⟨-2, none, nh, rh, [], [], I, L, u2 I 89 0 0, L, (t_137 Ls xs 994 nh rh 200000 I L (-2, false, I, L) (by unfold f_137; rw [e177n c0 o0 h0, q_bs, if_pos rfl])), (t_300 Ls xs 994 none [] [] nh rh 200000 I L (-2, u2 I 89 0 0, L) (by unfold f_300; rw [e236n hM0.1 o0 h0, q_bs, if_neg (fun q => q rfl)])), VV_th hV0⟩
  · obtain ⟨x, I', L', e1, e3, e4, e5, e6⟩ := e33 (n := 200000) (L := M) (by omega) ho hCJ hP
    have hMJ : MH (u2 I' 89 0 0) 0 H W A := MH_th (MH_fr ho hM (fun c hc i => by rw [e5 c i (by omega), fI c i (by omega)]))
    obtain ⟨J2, p1, p2, p3, p4⟩ := mlay (n := 200000) (L := L') ho hMJ (by omega)
    have hmod : ∃ K, f_300 200000 I' L' = some (nI x, K, L') ∧ (∀ c i, c ≠ 89 → c ≠ 104 → c ≠ 105 → c ≠ 109 → c ≠ 110 → K c i = I' c i) ∧ ∀ i, (i = 6 ∨ i = 14 ∨ i = 15) → K 89 i = I' 89 i := by
      unfold f_300
      rw [e236y hMJ.1 o0 (by omega), q_bs, if_pos (by decide), e237 hMJ, q_bs]
      by_cases z : H.1 4 = 0
      · rw [if_neg (by rw [z]; decide)]
        have hx : x = 0 := by
          obtain ⟨F, _, h⟩ := e3
          rw [z] at h; exact h
        exact ⟨u2 I' 89 0 0, by rw [hx]; rfl, fun c i h _ _ _ _ => u2_c h, fun i hi => u2_o (by omega)⟩
      · rw [if_pos (by rw [ku_0, nI_eq (by omega) (by omega)]; exact z), p1, q_bs]
        obtain ⟨y, K, k1, k2, k3⟩ := m300 (n := 200000) (L := L') p2 (by omega)
        have := TLY_u e3 k2
        subst this
        exact ⟨K, k1, fun c i h1 h2 h3 h4 _ => by rw [k3 c i h3 h4, p3 c i h1 h2, u2_c h1], fun i hi => by rw [k3 89 i (by decide) (by decide), p4 i (by omega), u2_o (by omega)]⟩
    obtain ⟨K, k1, hK, hK9⟩ := hmod
    refine ⟨nI x, some 114, nh, rh, TK, RK (some 3), I', L', K, L', ?_, ?_, kfin hB0 hRg (KPK_cg e4 (fun c i a b => hK c i (by omega) (by omega) (by omega) (by omega) (by omega)) (fun _ => rfl)) (fun c i h1 h2 h3 h4 h5 h6 => by rw [hK c i h1 h2 h3 h4 h5, e5 c i h6, fI c i h6]) (fun i hi => by rw [hK9 i hi, e5 89 i (by omega), fI 89 i (by omega)]) (fun c i hc => by rw [e6 c i (by omega), fL c i hc])⟩
    · rcases hw with ⟨rfl, rfl, rfl, rfl, rfl⟩ | ⟨rfl, rfl, rfl, hf⟩
      · exact (t_137_1 Ls xs 994 nh rh 200000 I L (nI x, I', L') (by
          unfold f_137_1
          rw [e177y c0 o0 (by omega), q_bs, if_neg (by decide), show f_187 I L = some (I, L) from rfl, q_bs]
          dsimp only
          rw [e1, q_bs]))
      · exact (t_137 Ls xs 994 nh rh 200000 I L (nI x, true, I', L') (by
          unfold f_137
          rw [e177y c0 o0 (by omega), q_bs, if_neg (by decide), hf, q_bs]
          dsimp only
          rw [e1, q_bs]))
    · exact (t_300 Ls xs 994 (some 114) TK (RK (some 3)) nh rh 200000 I' L' (nI x, K, L') k1)
theorem sk_longer : SOK Ls xs (VV KPK RP) 147 317 [.int a1] := by
  intro kp nh rh tl rl I L hV
  have hV0 := hV
  obtain ⟨H, W, A, J, M, hB, hRg, hP, hCJ, fI, fL, hw⟩ := kw hV
  have hB0 := hB
  obtain ⟨hT, hF, ho, hC, hM, hIm, hRw⟩ := hB
  have o0 : H.1 0 ≤ 1000 := ho.1.1
  have o4 : H.1 4 ≤ 4 := ho.1.2.2.2.2.1
  have c0 : I 3 0 = nI (H.1 0) := chs hC (by decide)
  have c4 : I 3 4 = nI (H.1 4) := chs hC (by decide)
  have hpw := pw5 _ (show H.1 4 < 5 by omega)
  have hp0 : 0 < 2 ^ (H.1 4) := Nat.pow_pos (by omega)
  have hM0 : MH (u2 I 89 0 0) 0 H W A := MH_th hM
  have m4 : u2 I 89 0 0 96 3 = nI (H.1 4) := mh96 hM0 (by decide)
  rcases q_arg a1 (n := H.1 4) (by omega) with h1 | ⟨q, hq, rfl⟩
  · rcases hw with ⟨rfl, rfl, rfl, rfl, rfl⟩ | ⟨rfl, rfl, rfl, hf⟩
    · exact ⟨-2, some 114, nh, rh, TK, RK (some 3), I, L, u2 I 89 0 0, L, (t_147_1 Ls xs 993 nh rh 200000 a1 I L (-2, I, L) (by unfold f_147_1; rw [e178n c4 o4 h1, q_bs, if_pos rfl])), (t_317 Ls xs 993 (some 114) TK (RK (some 3)) nh rh 200000 a1 I L (-2, u2 I 89 0 0, L) (by unfold f_317; rw [e239n m4 o4 h1, q_bs, if_neg (fun q => q rfl)])), VV_th hV0⟩
    · exact ⟨-2, none, nh, rh, [], [], I, L, u2 I 89 0 0, L, (t_147 Ls xs 993 nh rh 200000 a1 I L (-2, false, I, L) (by unfold f_147; rw [e178n c4 o4 h1, q_bs, if_pos rfl])), (t_317 Ls xs 993 none [] [] nh rh 200000 a1 I L (-2, u2 I 89 0 0, L) (by unfold f_317; rw [e239n m4 o4 h1, q_bs, if_neg (fun q => q rfl)])), VV_th hV0⟩
  · obtain ⟨x, I', L', e1, e3, e4, e5, e6⟩ := e36 (n := 200000) (L := M) (by omega) ho hCJ hP hq
    have hMJ : MH (u2 I' 89 0 0) 0 H W A := MH_th (MH_fr ho hM (fun c hc i => by rw [e5 c i (by omega), fI c i (by omega)]))
    obtain ⟨J2, p1, p2, p3, p4⟩ := mlay (n := 200000) (L := L') ho hMJ (by omega)
    have mm4 : u2 I' 89 0 0 96 3 = nI (H.1 4) := mh96 hMJ (by decide)
    obtain ⟨y, K, k1, k2, k3⟩ := m317 (n := 200000) (L := L') p2 hq (by omega)
    have := MWT_u e3 k2
    subst this
    have hK : ∀ c i, c ≠ 89 → c ≠ 104 → c ≠ 105 → c ≠ 109 → c ≠ 110 → K c i = I' c i := fun c i h1 h2 h3 h4 _ => by rw [k3 c i h2 h3 h4, p3 c i h1 h2, u2_c h1]
    have hK9 : ∀ i, (i = 6 ∨ i = 14 ∨ i = 15) → K 89 i = I' 89 i := fun i hi => by rw [k3 89 i (by decide) (by decide) (by decide), p4 i (by omega), u2_o (by omega)]
    refine ⟨oI x, some 114, nh, rh, TK, RK (some 3), I', L', K, L', ?_, ?_, kfin hB0 hRg (KPK_cg e4 (fun c i a b => hK c i (by omega) (by omega) (by omega) (by omega) (by omega)) (fun _ => rfl)) (fun c i h1 h2 h3 h4 h5 h6 => by rw [hK c i h1 h2 h3 h4 h5, e5 c i h6, fI c i h6]) (fun i hi => by rw [hK9 i hi, e5 89 i (by omega), fI 89 i (by omega)]) (fun c i hc => by rw [e6 c i (by omega), fL c i hc])⟩
    · rcases hw with ⟨rfl, rfl, rfl, rfl, rfl⟩ | ⟨rfl, rfl, rfl, hf⟩
      · exact (t_147_1 Ls xs 993 nh rh 200000 (nI q) I L (oI x, I', L') (by
          unfold f_147_1
          rw [e178y c4 o4 hq, q_bs, if_neg (by decide), show f_187 I L = some (I, L) from rfl, q_bs]
          dsimp only
          rw [e1, q_bs]))
      · exact (t_147 Ls xs 993 nh rh 200000 (nI q) I L (oI x, true, I', L') (by
          unfold f_147
          rw [e178y c4 o4 hq, q_bs, if_neg (by decide), hf, q_bs]
          dsimp only
          rw [e1, q_bs]))
    · exact (t_317 Ls xs 993 (some 114) TK (RK (some 3)) nh rh 200000 (nI q) I' L' (oI x, K, L') (by
        unfold f_317
        rw [e239y mm4 o4 hq, q_bs, if_pos (by decide), p1, q_bs]
        exact k1))
end KSK5
