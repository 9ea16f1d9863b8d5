/-! LAYER 3: the model's night, minute by minute -/
section MRUNS
variable {I : FI} {L : FL} {H : HD} {W : Nat → Nat} {A : AD} {g : NG} {n : Nat}
/-- the model's night is laid by g (its guests apart) -/
def MRd (I : FI) (H : HD) (g : NG) : Prop := I 89 25 = nI g.1.1 ∧ I 89 27 = nI g.1.2.2.1 ∧ ∀ r, r < H.1 4 → I 104 r = nI (g.2.1 r)
/-- whom the model's night sees besides: aw those away, br (and 1) at bm one more -/
def MVs (I : FI) (aw br bm : Nat) : Prop := I 89 26 = nI aw ∧ aw < 32 ∧ I 89 28 = oI br ∧ br ≤ 4 ∧ (br ≠ 0 → I 89 29 = nI bm ∧ bm < 30)
def gsm (H : HD) (A : AD) (aw br bm t : Nat) : Nat := gst H A (fun k => !aw.testBit k) t ||| (if br ≠ 0 ∧ bm = t then 2 ^ (br - 1) else 0)
theorem e252 (ho : HOK H W A) (hM : MH I 0 H W A) (hn : 1000 ≤ n) : ∃ J, f_252 n I L = some (J, L) ∧ MRd J H ((H.1 1, 0, 0, npN A A.1), H.2 0, gst H A (fun _ => true)) ∧ MVs J 0 0 0 ∧ (∀ c i, c ≠ 89 → c ≠ 104 → J c i = I c i) ∧ ∀ i, (i < 25 ∨ 28 < i) → J 89 i = I 89 i := by
  have o4 : H.1 4 ≤ 4 := ho.1.2.2.2.2.1
  have e0 : ∀ c i, c ≠ 89 → u2 (u2 (u2 (u2 I 89 25 (I 96 0)) 89 26 0) 89 27 0) 89 28 (-1) c i = I c i := fun c i hc => by rw [u2_c hc, u2_c hc, u2_c hc, u2_c hc]
  obtain ⟨J, ⟨j1, j2⟩, je⟩ := lpE (fun m k (s : FI) => c_252_0 n m (nI k) s L) (H.1 4) (fun k s => (∀ r, r < k → s 104 r = nI (H.2 0 r)) ∧ ∀ c i, c ≠ 104 → s c i = u2 (u2 (u2 (u2 I 89 25 (I 96 0)) 89 26 0) 89 27 0) 89 28 (-1) c i) (fun s => some (s, L)) (fun m s hs => by
      show b_252_0 n (c_252_0 n m) (nI (H.1 4)) s L = _
      have hMs : MH s 0 H W A := MH_fr ho hM (fun c hc i => by rw [hs.2 c i (by omega), e0 c i (by omega)])
      unfold b_252_0
      rw [e237 hMs, q_bs, if_pos (nI_le (Nat.le_refl _) (by omega))]) (fun m k s hk hs => by
      have hMs : MH s 0 H W A := MH_fr ho hM (fun c hc i => by rw [hs.2 c i (by omega), e0 c i (by omega)])
      refine ⟨u2 s 104 k (nI (H.2 0 k)), ⟨fun r hr => ?_, fun c i hc => ?_⟩, ?_⟩
      · by_cases e : r = k
        · subst e; exact u2_s
        · rw [u2_o e]; exact hs.1 r (by omega)
      · rw [u2_c hc]; exact hs.2 c i hc
      · show b_252_0 n (c_252_0 n m) (nI k) s L = _
        unfold b_252_0
        rw [e237 hMs, q_bs, if_neg (nI_ge hk (by omega)), ku_2, pk_mul, ku_if (by omega) (by omega), ku_if (by omega) (by omega), nI_clamp (by omega), nI_clamp (by omega), mhwt hMs hk, nI_1]) n 0 _ (by omega) (by omega) ⟨fun r hr => absurd hr (by omega), fun _ _ _ => rfl⟩
  refine ⟨J, ?_, ⟨?_, ?_, j1⟩, ⟨?_, by decide, ?_, by decide, fun q => absurd rfl q⟩, fun c i h1 h2 => ?_, fun i hi => ?_⟩
  · unfold f_252
    rw [show c_252_0 n n (0 : Int32) = c_252_0 n n (nI 0) from rfl, je]
  · rw [j2 89 25 (by decide), u2_o (by decide), u2_o (by decide), u2_o (by decide), u2_s]; exact mh96 hM (by decide)
  · rw [j2 89 27 (by decide), u2_o (by decide), u2_s]; rfl
  · rw [j2 89 26 (by decide), u2_o (by decide), u2_o (by decide), u2_s]; rfl
  · rw [j2 89 28 (by decide), u2_s, ku_m]
  · rw [j2 c i h2, e0 c i h1]
  · rw [j2 89 i (by decide), u2_o (by omega), u2_o (by omega), u2_o (by omega), u2_o (by omega)]
theorem e256 (ho : HOK H W A) (hM : MH I 0 H W A) (hg : GOK H g) (hr : MRd I H g) : f_256 I L = some (oI (wd0 H g)) := by
  have o4 : H.1 4 ≤ 4 := ho.1.2.2.2.2.1
  have o7 : H.1 7 ≤ 12 := ho.1.2.2.2.2.2.2.2.1
  have m7 : I 96 6 = nI (H.1 7) := mh96 hM (by decide)
  have g3 := hg.2.2.1
  unfold f_256 wd0
  rw [e237 hM, q_bs, m7, hr.2.1]
  by_cases z : H.1 4 = 0
  · rw [if_neg (by rw [z]; decide), if_pos z, oI_0]
  · rw [if_pos (by rw [ku_0, nI_eq (by omega) (by omega)]; exact z), if_neg z]
    by_cases z7 : H.1 7 = 0
    · rw [if_neg (by rw [z7]; decide), if_pos z7]; rfl
    · rcases g3 with g3 | g3
      · exact absurd g3 z7
      · rw [if_pos (by rw [ku_0, nI_eq (by omega) (by omega)]; exact z7), if_neg z7, ku_if (by omega) (by omega), nI_clamp (by omega), mhpl hM g3, oI_s]
theorem e257 (ho : HOK H W A) (hM : MH I 0 H W A) (hg : GOK H g) (hr : MRd I H g) {t w : Nat} {a : Nat → Nat} (ht : t + 1 < 30) (hw : w ≤ H.1 4 ∧ (0 < H.1 4 → 1 ≤ w)) (h105 : ∀ r, r < H.1 4 → I 105 r = nI (a r)) (ha : ∀ r, r < H.1 4 → a r = 99 ∨ a r ≤ g.2.1 r) (hn : 1000 ≤ n) : ∃ J, f_257 n (nI g.1.2.1) (oI w) (nI (t + 1)) I L = some (oI (wdn H g t w a), J, L) ∧ ∀ c i, c ≠ 103 → J c i = I c i := by
  have o4 : H.1 4 ≤ 4 := ho.1.2.2.2.2.1
  have o7 : H.1 7 ≤ 12 := ho.1.2.2.2.2.2.2.2.1
  have m7 : I 96 6 = nI (H.1 7) := mh96 hM (by decide)
  obtain ⟨g1, g2, g3, g4, g5, g6⟩ := hg
  unfold f_257 wdn
  rw [e237 hM, q_bs, m7, hr.2.1]
  by_cases z : H.1 4 = 0
  · exact ⟨I, by rw [if_neg (by rw [z]; decide), if_pos z, oI_0], fun _ _ _ => rfl⟩
  · rw [if_pos (by rw [ku_0, nI_eq (by omega) (by omega)]; exact z), if_neg z]
    by_cases hm : g.1.2.1 = 1
    · rw [if_neg (by rw [hm]; decide), if_pos hm, e254 ho hM hr.2.2 h105 (fun r hr => ⟨ha r hr, (g5 r hr).2⟩) hn, q_bs]
      obtain ⟨J, j1, j2⟩ := e255 (n := n) (L := L) ho hM (w := w) (u := urg g.2.1 a (H.1 4)) (by omega) (urg_le ..) hn
      exact ⟨J, by rw [j1, q_bs], j2⟩
    · refine ⟨I, ?_, fun _ _ _ => rfl⟩
      rw [if_pos (by rw [ku_1, nI_eq (by omega) (by omega)]; exact hm), if_neg hm]
      by_cases z7 : H.1 7 = 0
      · rw [if_neg (by rw [z7]; decide), if_pos z7]
      · rcases g3 with g3 | g3
        · exact absurd g3 z7
        · have hm2 : (g.1.2.2.1 + (t + 1)) % H.1 7 < H.1 7 := Nat.mod_lt _ (by omega)
          have hp := plc_lt g ho z7 (t + 1)
          rw [if_pos (by rw [ku_0, nI_eq (by omega) (by omega)]; exact z7), if_neg (by rw [ku_0, nI_eq (by omega) (by omega)]; exact z7), nI_add, pk_rem (by omega) (by omega) (by omega), ku_if (by omega) (by omega), nI_clamp (by omega), mhpl hM hm2, ku_o1 (a := w) (by omega)]
          show (f_250 n (nI (w - 1)) (nI (plc H g (t + 1))) I L).bind _ = _
          rw [e250 ho hM (by omega) (by omega) hn, q_bs, q_b1, if_neg z7]
          by_cases hh : w - 1 = plc H g (t + 1) ∨ dor H (w - 1) (plc H g (t + 1)) = true
          · rw [if_pos hh, if_pos hh, oI_s]; rfl
          · rw [if_neg hh, if_neg hh, ku_o1 (by omega)]
theorem e258 (ho : HOK H W A) (hM : MH I 0 H W A) {t : Nat} (ht : t < 30) (hn : 1000 ≤ n) : f_258 n (nI t) I L = some (bI ((npN A A.1).testBit t = true)) := by
  have oA : A.1 ≤ 30 := ho.1.2.2.2.2.2.2.2.2
  have o4 : H.1 4 ≤ 4 := ho.1.2.2.2.2.1
  have o3 : H.1 3 ≤ 30 := ho.1.2.2.2.1
  have hA := ho.2.2.2.2.2.1
  unfold f_258
  refine lpGk (fun m k (_ : Unit) => c_258_0 n I L m (nI t) (nI k)) A.1 (fun k _ => ∀ j, j < k → ¬ (A.2.1 j = 0 ∧ A.2.2 j = t)) (fun _ => some 0) (fun q => q = some (bI ((npN A A.1).testBit t = true))) n 0 () (by omega) (by omega) (fun j hj => absurd hj (by omega)) (fun h => ?_) (fun _ h e => ?_) (fun m s hs => ?_) (fun m k s hk hs => ?_)
  · exact h
  · rw [show (0 : Int32) = nI 0 from rfl, e, bI_n]
    intro q
    obtain ⟨j, hj, h2⟩ := (npN_tb A t A.1).mp q
    exact h j hj h2
  · show b_258_0 n I L (c_258_0 n I L m) (nI t) (nI A.1) = _
    unfold b_258_0
    rw [mh96a hM, if_pos (nI_le (Nat.le_refl _) (by omega))]
  · have hk2 := hA k hk
    have e1 : c_258_0 n I L (m + 1) (nI t) (nI k) = if A.2.1 k = 0 ∧ A.2.2 k = t then some 1 else c_258_0 n I L m (nI t) (nI (k + 1)) := by
      show b_258_0 n I L (c_258_0 n I L m) (nI t) (nI k) = _
      unfold b_258_0 c_258_1
      rw [mh96a hM, if_neg (nI_ge hk (by omega)), ku_2, pk_mul, ku_if (by omega) (by omega), nI_clamp (by omega), mhar hM hk, nI_1, nI_1, ku_if (by omega) (by omega), nI_clamp (by omega), mham hM hk]
      by_cases h1 : A.2.1 k = 0
      · rw [if_neg (by rw [h1, oI_0]; decide)]
        by_cases h2 : A.2.2 k = t
        · rw [if_neg (by rw [h2]; exact fun q => q rfl), if_pos ⟨h1, h2⟩]
        · rw [if_pos (by rw [nI_eq (by omega) (by omega)]; exact h2), if_neg (fun q => h2 q.2)]
      · rw [if_pos (by rw [oI_m1 (by omega)]; exact h1), if_neg (fun q => h1 q.1)]
    by_cases hp : A.2.1 k = 0 ∧ A.2.2 k = t
    · refine Or.inl ?_
      show c_258_0 n I L (m + 1) (nI t) (nI k) = _
      rw [e1, if_pos hp, bI_p ((npN_tb A t A.1).mpr ⟨k, hk, hp⟩)]
    · refine Or.inr ⟨(), fun j hj => ?_, ?_⟩
      · rcases (show j < k ∨ j = k by omega) with h3 | rfl
        · exact hs j h3
        · exact hp
      · show c_258_0 n I L (m + 1) (nI t) (nI k) = _
        rw [e1, if_neg hp]
theorem gal_b (A : AD) (b : Nat → Nat) (t : Nat) : ∀ k, gal A b k t = gal A (fun _ => 0) k t ||| b t
  | 0 => by unfold gal; rw [Nat.zero_or]
  | k + 1 => by
    unfold gal
    rw [gal_b A b t k]
    split
    · rw [Nat.or_assoc, Nat.or_comm (b t), ← Nat.or_assoc]
    · rfl
theorem e259 (ho : HOK H W A) (hM : MH I 0 H W A) {t aw br bm : Nat} (hv : MVs I aw br bm) (ht : t < 30) (hn : 1000 ≤ n) : f_259 n (nI t) I L = some (nI (gsm H A aw br bm t)) := by
  have oA : A.1 ≤ 30 := ho.1.2.2.2.2.2.2.2.2
  have o4 : H.1 4 ≤ 4 := ho.1.2.2.2.2.1
  have o3 : H.1 3 ≤ 30 := ho.1.2.2.2.1
  have o6 : H.1 6 ≤ 5 := ho.1.2.2.2.2.2.2.1
  have hA := ho.2.2.2.2.2.1
  have hG := ho.2.2.1
  have m6 : I 96 5 = nI (H.1 6) := mh96 hM (by decide)
  obtain ⟨v1, v2, v3, v4, v5⟩ := hv
  -- acts
  have l3 : ∀ b, c_259_3 n I L n (nI t) (nI b) (nI 0) = some (nI (gal A (fun _ => b) A.1 t)) := fun b => by
    refine lpEk (fun m k (s : Nat) => c_259_3 n I L m (nI t) (nI s) (nI k)) A.1 (fun k s => s = gal A (fun _ => b) k t) (fun s => some (nI s)) n 0 b (by omega) (by omega) rfl (fun s' hs e => ?_) (fun m s hs => ?_) (fun m k s hk hs => ?_)
    · rw [e, hs]
    · show b_259_3 n I L (c_259_3 n I L m) (nI t) (nI s) (nI A.1) = _
      unfold b_259_3
      rw [mh96a hM, if_pos (nI_le (Nat.le_refl _) (by omega))]
    · have hk2 := hA k hk
      refine ⟨gal A (fun _ => b) (k + 1) t, rfl, ?_⟩
      show b_259_3 n I L (c_259_3 n I L m) (nI t) (nI s) (nI k) = c_259_3 n I L m (nI t) (nI (if A.2.1 k ≠ 0 ∧ A.2.2 k = t then gal A (fun _ => b) k t ||| 2 ^ (A.2.1 k - 1) else gal A (fun _ => b) k t)) (nI (k + 1))
      unfold b_259_3 c_259_4
      rw [mh96a hM, if_neg (nI_ge hk (by omega)), ku_2, pk_mul, ku_if (by omega) (by omega), nI_clamp (by omega), mhar hM hk, nI_1, nI_1, ku_if (by omega) (by omega), nI_clamp (by omega), mham hM hk, ku_if (by omega) (by omega), hs]
      by_cases h1 : A.2.1 k = 0
      · rw [if_pos (by rw [h1, oI_0]), if_neg (fun q => q.1 h1)]
      · rw [if_neg (by rw [oI_m1 (by omega)]; exact h1)]
        by_cases h2 : A.2.2 k = t
        · rw [if_neg (by rw [h2]; exact fun q => q rfl), if_pos ⟨h1, h2⟩, ku_o1 (by omega), ku_or (by omega)]
        · rw [if_pos (by rw [nI_eq (by omega) (by omega)]; exact h2), if_neg (fun q => h2 q.2)]
  -- visitors told
  have l2 : ∀ b, c_259_2 n I L n (nI t) (nI b) (nI 0) = some (nI (gal A (fun _ => gvs H (fun k => !aw.testBit k) (H.1 6) t ||| b) A.1 t)) := fun b => by
    refine lpEk (fun m k (s : Nat) => c_259_2 n I L m (nI t) (nI s) (nI k)) (H.1 6) (fun k s => s = gvs H (fun k => !aw.testBit k) k t ||| b) (fun s => c_259_3 n I L n (nI t) (nI s) (nI 0)) n 0 b (by omega) (by omega) (by unfold gvs; rw [Nat.zero_or]) (fun s' hs e => ?_) (fun m s hs => ?_) (fun m k s hk hs => ?_)
    · rw [e, hs, l3]
    · show b_259_2 n I L (c_259_2 n I L m) (nI t) (nI s) (nI (H.1 6)) = _
      unfold b_259_2
      rw [m6, if_pos (nI_le (Nat.le_refl _) (by omega))]; rfl
    · have hk2 := hG k hk
      refine ⟨gvs H (fun k => !aw.testBit k) (k + 1) t ||| b, rfl, ?_⟩
      show b_259_2 n I L (c_259_2 n I L m) (nI t) (nI s) (nI k) = c_259_2 n I L m (nI t) (nI ((if (!aw.testBit k) = true ∧ H.2 2 k = t then gvs H (fun k => !aw.testBit k) k t ||| 2 ^ H.2 1 k else gvs H (fun k => !aw.testBit k) k t) ||| b)) (nI (k + 1))
      unfold b_259_2 c_259_5
      rw [m6, if_neg (nI_ge hk (by omega)), ku_2, pk_mul, nI_1, nI_1, ku_if (by omega) (by omega), nI_clamp (by omega), mhgm hM hk, v1, e247 (by omega) (by omega), q_bs, q_b2, ku_if (by omega) (by omega), nI_clamp (by omega), mhgr hM hk, hs]
      by_cases h2 : H.2 2 k = t
      · rw [if_neg (by rw [h2]; exact fun q => q rfl)]
        by_cases h1 : aw.testBit k = true
        · rw [if_pos h1, if_neg (fun q => by rw [h1] at q; exact absurd q.1 (by decide))]
        · rw [if_neg h1, if_pos ⟨by simpa using h1, h2⟩, ku_or (by omega), Nat.or_assoc, Nat.or_comm b, ← Nat.or_assoc]
      · rw [if_pos (by rw [nI_eq (by omega) (by omega)]; exact h2), if_neg (fun q => h2 q.2)]
  have fin : ∀ b, b = (if br ≠ 0 ∧ bm = t then 2 ^ (br - 1) else 0) → c_259_2 n I L n (nI t) (nI b) (nI 0) = some (nI (gsm H A aw br bm t)) := fun b hb => by
    rw [l2 b, gal_b]
    unfold gsm gst
    rw [gal_b A (gvs H _ _), Nat.or_assoc, hb]
  unfold f_259 c_259_0 c_259_1
  rw [v3]
  by_cases b0 : br = 0
  · rw [if_pos (by rw [b0, oI_0])]
    exact fin 0 (by rw [if_neg (fun q => q.1 b0)])
  · rw [if_neg (by rw [oI_m1 (by omega)]; exact b0), (v5 b0).1]
    have := (v5 b0).2
    by_cases b1 : bm = t
    · rw [if_neg (by rw [b1]; exact fun q => q rfl), ku_o1 (a := br) (by omega), ku_set (by omega)]
      exact fin _ (by rw [if_pos ⟨b0, b1⟩])
    · rw [if_pos (by rw [nI_eq (by omega) (by omega)]; exact b1)]
      exact fin 0 (by rw [if_neg (fun q => b1 q.2)])
/-- what is written of the model's night up to minute k -/
def NMk (I : FI) (H : HD) (g : NG) (k : Nat) : Prop := ∀ t, t < k → I 107 t = oI (nw H g t) ∧ I 108 t = nI (nlk H g t) ∧ ∀ r, r < H.1 4 → I 106 (4 * t + r) = nI (na H g t r)
theorem MRd_fr {I' : FI} (h : MRd I H g) (e9 : ∀ i, I' 89 i = I 89 i) (e : ∀ i, I' 104 i = I 104 i) : MRd I' H g := ⟨by rw [e9]; exact h.1, by rw [e9]; exact h.2.1, fun r hr => by rw [e]; exact h.2.2 r hr⟩
theorem MVs_fr {I' : FI} {aw br bm : Nat} (h : MVs I aw br bm) (e9 : ∀ i, I' 89 i = I 89 i) : MVs I' aw br bm := ⟨by rw [e9]; exact h.1, h.2.1, by rw [e9]; exact h.2.2.1, h.2.2.2.1, fun q => by rw [e9]; exact h.2.2.2.2 q⟩
def wpr (H : HD) (g : NG) (k : Nat) : Nat := if k = 0 then wd0 H g else nw H g (k - 1)
def epr (H : HD) (g : NG) (k : Nat) : Nat := if k = 0 then 0 else eyn g (k - 1) (nw H g (k - 1))
def apr (H : HD) (g : NG) (k r : Nat) : Nat := if k = 0 then 0 else na H g (k - 1) r
/-- the minute's work behind his going -/
theorem l260_2 (ho : HOK H W A) (hM : MH I 0 H W A) (hg : GOK H g) (hr : MRd I H g) {aw br bm : Nat} (hv : MVs I aw br bm) (hnp : g.1.2.2.2 = npN A A.1) (hgs : ∀ t, t < 30 → g.2.2 t = gsm H A aw br bm t) {k : Nat} (hk : k < H.1 3) (h105 : ∀ r, r < H.1 4 → I 105 r = nI (apr H g k r)) (hN : NMk I H g k) {K1 : Int32 → Int32 → Int32 → Int32 → FI → FL → Option (FI × FL)} (x : Int32) (hn : 1000 ≤ n) :
    ∃ J, c_260_2 n K1 x (oI (nw H g k)) (oI (epr H g k)) (nI k) I L = K1 x (oI (nw H g k)) (oI (epr H g (k + 1))) (nI (k + 1)) J L ∧ (∀ r, r < H.1 4 → J 105 r = nI (apr H g (k + 1) r)) ∧ NMk J H g (k + 1) ∧ ∀ c i, (c < 105 ∨ 108 < c) → J c i = I c i := by
  have o4 : H.1 4 ≤ 4 := ho.1.2.2.2.2.1
  have o3 : H.1 3 ≤ 30 := ho.1.2.2.2.1
  have hw := nw_le ho hg k
  have hg' := hg
  obtain ⟨g1, g2, g3, g4, g5, g6⟩ := hg
  have hy := eyn_le g k (nw H g k)
  have hgk := g6 k (by omega)
  have hep : epr H g k ≤ 4 := by
    unfold epr
    split
    · omega
    · have := eyn_le g (k - 1) (nw H g (k - 1)); have := nw_le ho hg' (k - 1); omega
  -- the eye
  have h2 : c_260_2 n K1 x (oI (nw H g k)) (oI (epr H g k)) (nI k) I L = c_260_3 n K1 x (oI (nw H g k)) (oI (epr H g k)) (nI k) (oI (eyn g k (nw H g k))) I L := by
    unfold c_260_2 eyn
    rw [e258 ho hM (by omega) hn, q_bs, q_b1, hnp]
    by_cases h : (npN A A.1).testBit k = true
    · rw [if_pos h, if_pos h, oI_0]
    · rw [if_neg h, if_neg h]
  -- visits; the eye ahead
  have hage : ∀ r, agm H g.1.1 g.2.1 (eyn g k (nw H g k)) (if k = 0 then eyn g k (nw H g k) else epr H g k) (g.2.2 k) r (apr H g k r) = na H g k r := fun r => by
    cases k with
    | zero =>
      rw [na_z, agn_agm, if_pos rfl]
      unfold apr; rw [if_pos rfl]
      have : agc H g.1.1 (eyn g 0 (nw H g 0)) (eyn g 0 (nw H g 0)) (g.2.2 0) r 0 = agc H g.1.1 (eyn g 0 (nw H g 0)) 0 (g.2.2 0) r 0 := by
        unfold agc
        split
        · split
          · rfl
          · split <;> split <;> rfl
        · rfl
      unfold agm
      rw [this]
    | succ k =>
      rw [na_s, agn_agm, if_neg (by omega)]
      unfold apr epr; rw [if_neg (by omega), if_neg (by omega)]; rfl
  obtain ⟨J, j1, j2, j3⟩ := e253 (n := n) (L := L) ho hM hr.1 g1 hr.2.2 h105 (fun r hr => (g5 r hr).2) (fun r hr => by
    unfold apr
    split
    · exact Or.inr (by omega)
    · have := na_b H g r (k - 1); have := (g5 r hr).2; omega) (he := eyn g k (nw H g k)) (was := if k = 0 then eyn g k (nw H g k) else epr H g k) (v := g.2.2 k) (by omega) (by split <;> omega) hgk hn
  have h3 : c_260_3 n K1 x (oI (nw H g k)) (oI (epr H g k)) (nI k) (oI (eyn g k (nw H g k))) I L = c_260_4 n K1 x (oI (nw H g k)) (nI k) (oI (eyn g k (nw H g k))) (nI (g.2.2 k)) (oI (if k = 0 then eyn g k (nw H g k) else epr H g k)) (oI (eyn g k (nw H g k))) I L := by
    unfold c_260_3
    rw [e259 ho hM hv (by omega) hn, q_bs, ← hgs k (by omega)]
    by_cases k0 : k = 0
    · rw [if_neg (by rw [k0]; decide), if_pos k0]
    · rw [if_pos (by rw [ku_0, nI_eq (by omega) (by omega)]; exact k0), if_neg k0]
  have h4 : c_260_4 n K1 x (oI (nw H g k)) (nI k) (oI (eyn g k (nw H g k))) (nI (g.2.2 k)) (oI (if k = 0 then eyn g k (nw H g k) else epr H g k)) (oI (eyn g k (nw H g k))) I L = c_260_6 n K1 n x (oI (nw H g k)) (oI (eyn g k (nw H g k))) (nI k) (nI 0) (u2 (u2 J 107 k (oI (nw H g k))) 108 k (nI (nlk H g k))) L := by
    unfold c_260_4 c_260_5
    rw [j1, q_bs, ku_if (by omega) (by omega), ku_if (by omega) (by omega), ku_if (by omega) (by omega), nI_clamp (by omega)]
    by_cases h0 : eyn g k (nw H g k) = 0
    · rw [if_neg (by rw [h0, oI_0]; decide), ku_0, fa_or]
      have : nlk H g k = g.2.2 k ||| 0 := by unfold nlk lok; rw [if_pos h0]
      rw [this]
    · rw [if_pos (by rw [oI_m1 (by omega)]; exact h0)]
      have : nlk H g k = g.2.2 k ||| 2 ^ (eyn g k (nw H g k) - 1) := by unfold nlk lok; rw [if_neg h0]
      rw [this, ← ku_or (by omega), ← ku_o1 (a := eyn g k (nw H g k)) (by omega)]; rfl
  have fJ : ∀ c i, c ≠ 105 → c ≠ 107 → c ≠ 108 → u2 (u2 J 107 k (oI (nw H g k))) 108 k (nI (nlk H g k)) c i = I c i := fun c i h1 h2 h3 => by rw [u2_c h3, u2_c h2, j3 c i h1]
  obtain ⟨M, ⟨m1, m2⟩, me⟩ := lpE (fun m q (s : FI) => c_260_6 n K1 m x (oI (nw H g k)) (oI (eyn g k (nw H g k))) (nI k) (nI q) s L) (H.1 4) (fun q s => (∀ r, r < q → s 106 (4 * k + r) = nI (na H g k r)) ∧ ∀ c i, (c ≠ 106 ∨ i < 4 * k) → s c i = u2 (u2 J 107 k (oI (nw H g k))) 108 k (nI (nlk H g k)) c i) (fun s => K1 x (oI (nw H g k)) (oI (eyn g k (nw H g k))) (nI (k + 1)) s L) (fun m s hs => by
      have hMs : MH s 0 H W A := MH_fr ho hM (fun c hc i => by rw [hs.2 c i (Or.inl (by omega)), fJ c i (by omega) (by omega) (by omega)])
      show b_260_6 n K1 (c_260_6 n K1 m) x (oI (nw H g k)) (oI (eyn g k (nw H g k))) (nI k) (nI (H.1 4)) s L = _
      unfold b_260_6
      rw [e237 hMs, q_bs, if_pos (nI_le (Nat.le_refl _) (by omega)), nI_1]) (fun m q s hq hs => by
      have hMs : MH s 0 H W A := MH_fr ho hM (fun c hc i => by rw [hs.2 c i (Or.inl (by omega)), fJ c i (by omega) (by omega) (by omega)])
      refine ⟨u2 s 106 (4 * k + q) (nI (na H g k q)), ⟨fun r hr => ?_, fun c i hc => ?_⟩, ?_⟩
      · by_cases e : r = q
        · subst e; exact u2_s
        · rw [u2_o (by omega)]; exact hs.1 r (by omega)
      · rw [← hs.2 c i hc]
        rcases hc with hc | hc
        · exact u2_c hc
        · by_cases e : c = 106
          · subst e; exact u2_o (by omega)
          · exact u2_c e
      · show b_260_6 n K1 (c_260_6 n K1 m) x (oI (nw H g k)) (oI (eyn g k (nw H g k))) (nI k) (nI q) s L = _
        unfold b_260_6
        rw [e237 hMs, q_bs, if_neg (nI_ge hq (by omega)), ku_if (by omega) (by omega), ku_4, pk_mul, nI_add, ku_if (by omega) (by omega), nI_clamp (by omega), nI_clamp (by omega), nI_1, hs.2 105 q (Or.inl (by decide)), u2_c (by decide), u2_c (by decide), j2 q hq, hage q]) n 0 _ (by omega) (by omega) ⟨fun r hr => absurd hr (by omega), fun _ _ _ => rfl⟩
  refine ⟨M, ?_, fun r hr => ?_, fun t ht => ?_, fun c i hc => ?_⟩
  · rw [h2, h3, h4, me]
    unfold epr
    rw [if_neg (by omega)]; rfl
  · rw [m2 105 r (Or.inl (by decide)), u2_c (by decide), u2_c (by decide), j2 r hr, hage r]
    unfold apr
    rw [if_neg (by omega)]; rfl
  · by_cases e : t = k
    · subst e
      refine ⟨?_, ?_, m1⟩
      · rw [m2 107 t (Or.inl (by decide)), u2_c (by decide), u2_s]
      · rw [m2 108 t (Or.inl (by decide)), u2_s]
    · obtain ⟨d1, d2, d3⟩ := hN t (by omega)
      refine ⟨?_, ?_, fun r hr => ?_⟩
      · rw [m2 107 t (Or.inl (by decide)), u2_c (by decide), u2_o e, j3 107 t (by decide)]; exact d1
      · rw [m2 108 t (Or.inl (by decide)), u2_o e, u2_c (by decide), j3 108 t (by decide)]; exact d2
      · rw [m2 106 _ (Or.inr (by omega)), fJ _ _ (by decide) (by decide) (by decide)]; exact d3 r hr
  · rw [m2 c i (Or.inl (by omega)), fJ c i (by omega) (by omega) (by omega)]
theorem e260 (ho : HOK H W A) (hM : MH I 0 H W A) (hg : GOK H g) (hr : MRd I H g) {aw br bm : Nat} (hv : MVs I aw br bm) (hnp : g.1.2.2.2 = npN A A.1) (hgs : ∀ t, t < 30 → g.2.2 t = gsm H A aw br bm t) (hn : 1000 ≤ n) :
    ∃ J, f_260 n (nI g.1.2.1) I L = some (J, L) ∧ NMk J H g (H.1 3) ∧ ∀ c i, (c < 103 ∨ c = 104 ∨ 108 < c) → J c i = I c i := by
  have o4 : H.1 4 ≤ 4 := ho.1.2.2.2.2.1
  have o3 : H.1 3 ≤ 30 := ho.1.2.2.2.1
  obtain ⟨J, ⟨j1, j2⟩, je⟩ := lpE (fun m k (s : FI) => c_260_0 n m (nI g.1.2.1) (nI k) s L) (H.1 4) (fun k s => (∀ r, r < k → s 105 r = nI 0) ∧ ∀ c i, c ≠ 105 → s c i = I c i) (fun s => c_260_1 n n (nI g.1.2.1) (oI (wd0 H g)) (oI 0) (nI 0) s L) (fun m s hs => by
      have hMs : MH s 0 H W A := MH_fr ho hM (fun c hc i => hs.2 c i (by omega))
      show b_260_0 n (c_260_0 n m) (nI g.1.2.1) (nI (H.1 4)) s L = _
      unfold b_260_0
      rw [e237 hMs, q_bs, if_pos (nI_le (Nat.le_refl _) (by omega)), e256 ho hMs hg (MRd_fr hr (fun i => hs.2 89 i (by decide)) (fun i => hs.2 104 i (by decide))), q_bs, ku_m]; rfl) (fun m k s hk hs => by
      have hMs : MH s 0 H W A := MH_fr ho hM (fun c hc i => hs.2 c i (by omega))
      refine ⟨u2 s 105 k (nI 0), ⟨fun r hr => ?_, fun c i hc => ?_⟩, ?_⟩
      · by_cases e : r = k
        · subst e; exact u2_s
        · rw [u2_o e]; exact hs.1 r (by omega)
      · rw [u2_c hc]; exact hs.2 c i hc
      · show b_260_0 n (c_260_0 n m) (nI g.1.2.1) (nI k) s L = _
        unfold b_260_0
        rw [e237 hMs, q_bs, if_neg (nI_ge hk (by omega)), ku_if (by omega) (by omega), nI_clamp (by omega), nI_1]; rfl) n 0 I (by omega) (by omega) ⟨fun r hr => absurd hr (by omega), fun _ _ _ => rfl⟩
  obtain ⟨⟨w', M⟩, ⟨_, _, m1, m2⟩, me⟩ := lpE (fun m k (s : (Nat × Nat) × FI) => c_260_1 n m (nI g.1.2.1) (oI s.1.1) (oI s.1.2) (nI k) s.2 L) (H.1 3) (fun k s => s.1 = (wpr H g k, epr H g k) ∧ (∀ r, r < H.1 4 → s.2 105 r = nI (apr H g k r)) ∧ NMk s.2 H g k ∧ ∀ c i, (c < 103 ∨ c = 104 ∨ 108 < c) → s.2 c i = I c i) (fun s => some (s.2, L)) (fun m s hs => by
      have hMs : MH s.2 0 H W A := MH_fr ho hM (fun c hc i => hs.2.2.2 c i (by omega))
      show b_260_1 n (c_260_1 n m) (nI g.1.2.1) (oI s.1.1) (oI s.1.2) (nI (H.1 3)) s.2 L = _
      unfold b_260_1
      rw [e238 hMs, q_bs, if_pos (nI_le (Nat.le_refl _) (by omega))]) (fun m k s hk hs => by
      obtain ⟨p, s⟩ := s
      obtain ⟨s0, s1, s2, s3⟩ := hs
      dsimp only at s0 s1 s2 s3
      subst s0
      have hMs : MH s 0 H W A := MH_fr ho hM (fun c hc i => s3 c i (by omega))
      have hrs : MRd s H g := MRd_fr hr (fun i => s3 89 i (by omega)) (fun i => s3 104 i (by omega))
      have hgo : ∃ s', b_260_1 n (c_260_1 n m) (nI g.1.2.1) (oI (wpr H g k)) (oI (epr H g k)) (nI k) s L = c_260_2 n (c_260_1 n m) (nI g.1.2.1) (oI (nw H g k)) (oI (epr H g k)) (nI k) s' L ∧ ∀ c i, c ≠ 103 → s' c i = s c i := by
        unfold b_260_1
        rw [e238 hMs, q_bs, if_neg (nI_ge hk (by omega))]
        cases k with
        | zero => exact ⟨s, by rw [if_pos (by decide)]; rfl, fun _ _ _ => rfl⟩
        | succ k =>
          obtain ⟨s', q1, q2⟩ := e257 (n := n) (L := L) ho hMs hg hrs (t := k) (w := nw H g k) (a := na H g k) (by omega) (nw_le ho hg k) (fun r hr => by rw [s1 r hr]; unfold apr; rw [if_neg (by omega)]; rfl) (fun r hr => na_b H g r k) hn
          refine ⟨s', ?_, q2⟩
          rw [if_neg (nI_nle (by omega) (by omega))]
          show (f_257 n (nI g.1.2.1) (oI (if k + 1 = 0 then wd0 H g else nw H g k)) (nI (k + 1)) s L).bind _ = _
          rw [if_neg (by omega), q1, q_bs, nw_s]
      obtain ⟨s', q1, q2⟩ := hgo
      have hMs' : MH s' 0 H W A := MH_fr ho hMs (fun c hc i => q2 c i (by omega))
      obtain ⟨M, p1, p2, p3, p4⟩ := l260_2 (n := n) (L := L) ho hMs' hg (MRd_fr hrs (fun i => q2 89 i (by decide)) (fun i => q2 104 i (by decide))) (MVs_fr hv (fun i => by rw [q2 89 i (by decide), s3 89 i (by omega)])) hnp hgs hk (fun r hr => by rw [q2 105 r (by decide)]; exact s1 r hr) (fun t ht => by
        obtain ⟨d1, d2, d3⟩ := s2 t ht
        exact ⟨by rw [q2 107 t (by decide)]; exact d1, by rw [q2 108 t (by decide)]; exact d2, fun r hr => by rw [q2 106 _ (by decide)]; exact d3 r hr⟩) (K1 := c_260_1 n m) (nI g.1.2.1) hn
      refine ⟨((wpr H g (k + 1), epr H g (k + 1)), M), ⟨rfl, p2, p3, fun c i hc => by show M c i = I c i; rw [p4 c i (by omega), q2 c i (by omega), s3 c i hc]⟩, ?_⟩
      show b_260_1 n (c_260_1 n m) (nI g.1.2.1) (oI (wpr H g k)) (oI (epr H g k)) (nI k) s L = c_260_1 n m (nI g.1.2.1) (oI (wpr H g (k + 1))) (oI (epr H g (k + 1))) (nI (k + 1)) M L
      rw [q1, p1]
      have : wpr H g (k + 1) = nw H g k := by unfold wpr; rw [if_neg (by omega)]; rfl
      rw [this]) n 0 ((wd0 H g, 0), J) (by omega) (by omega) ⟨rfl, fun r hr => j1 r hr, fun t ht => absurd ht (by omega), fun c i hc => j2 c i (by omega)⟩
  refine ⟨M, ?_, m1, m2⟩
  unfold f_260
  rw [show (0 : Int32) = nI 0 from rfl, je]
  exact me
/-- both laid anew and gone through -/
theorem gsm_0 (H : HD) (A : AD) (t : Nat) : gsm H A 0 0 0 t = gst H A (fun _ => true) t := by
  unfold gsm
  rw [if_neg (fun q => q.1 rfl), Nat.or_zero]
  congr 1
  funext k
  simp
end MRUNS
