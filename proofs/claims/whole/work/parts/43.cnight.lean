/-! LAYER 3: the class's night, minute by minute -/
section CNIGHT
variable {I : FI} {L : FL} {H : HD} {W : Nat → Nat} {A : AD} {g : NG} {n : Nat}
theorem e21 (ho : HOK H W A) (hC : CH I 3 11 H W A) {a b : Nat} (ha : a < 4) (hb : b < 4) : f_21 (nI a) (nI b) I L = some (bI (a = b ∨ dor H a b = true)) := by
  have hd := dms_lt ho a
  unfold f_21
  by_cases e : a = b
  · rw [if_pos (by rw [e]), bI_p (Or.inl e)]
  · rw [if_neg (by rw [nI_eq (by omega) (by omega)]; exact e), ku_if ha (by omega), nI_clamp (by omega), ch_dm hC ha, ku_bit2 (by omega) (by omega), q_b1]
    show (if dor H a b = true then _ else _) = _
    by_cases h : dor H a b = true
    · rw [if_pos h, bI_p (Or.inr h)]
    · rw [if_neg h, bI_n (fun q => q.elim e h)]
theorem e60 {r t : Nat} (hr : r < 4) (ht : t < 30) : f_60 (nI r) (nI t) I L = some (I 31 (4 * t + r)) := by
  unfold f_60
  rw [ku_4, pk_mul, nI_add, show t * 4 + r = 4 * t + r by omega, ku_if (by omega) (by omega), nI_clamp (by omega)]
theorem e61 {r t a w : Nat} (hr : r < 4) (ht : t < 30) (h1 : I 31 (4 * t + r) = nI a) (h2 : I 27 r = nI w) (hb : a = 99 ∨ a ≤ w) (hw : w ≤ 7) : f_61 (nI r) (nI t) I L = some (if a = 99 then oI 0 else nI (w - a)) := by
  unfold f_61
  rw [e60 hr ht, q_bs, h1]
  by_cases e : a = 99
  · rw [if_neg (by rw [e]; decide), if_pos e, oI_0]
  · rw [if_pos (by rw [ku_99, nI_eq (by omega) (by omega)]; exact e), if_neg e, ku_if hr (by omega), nI_clamp (by omega), h2, pk_sub (by omega)]
theorem e62 {t : Nat} {a wt : Nat → Nat} (o4 : H.1 4 ≤ 4) (h10 : I 26 10 = nI (H.1 4)) (ht : t < 30) (h1 : ∀ r, r < H.1 4 → I 31 (4 * t + r) = nI (a r)) (h2 : ∀ r, r < H.1 4 → I 27 r = nI (wt r)) (hb : ∀ r, r < H.1 4 → (a r = 99 ∨ a r ≤ wt r) ∧ wt r ≤ 7) (hn : 1000 ≤ n) : f_62 n (nI t) I L = some (oI (urg wt a (H.1 4))) := by
  unfold f_62
  refine lpEk (fun m k (b : Nat) => c_62_0 n I L m (nI t) (oI b) (nI k)) (H.1 4) (fun k b => b = urg wt a k) (fun b => some (oI b)) n 0 0 (by omega) (by omega) rfl (fun s' hs e => ?_) (fun m s hs => ?_) (fun m k s hk hs => ?_)
  · rw [ku_m, show (0 : Int32) = nI 0 from rfl, e, hs]
  · show b_62_0 n I L (c_62_0 n I L m) (nI t) (oI s) (nI (H.1 4)) = _
    unfold b_62_0
    rw [h10, if_pos (nI_le (Nat.le_refl _) (by omega))]
  · refine ⟨urg wt a (k + 1), rfl, ?_⟩
    have hbk := hb k hk
    have hul := urg_le wt a k
    show b_62_0 n I L (c_62_0 n I L m) (nI t) (oI s) (nI k) = c_62_0 n I L m (nI t) (oI (if a k = 99 then urg wt a k else if urg wt a k = 0 then k + 1 else if wt (urg wt a k - 1) - a (urg wt a k - 1) ≤ wt k - a k then urg wt a k else k + 1)) (nI (k + 1))
    unfold b_62_0
    rw [h10, if_neg (nI_ge hk (by omega)), e61 (by omega) ht (h1 k hk) (h2 k hk) hbk.1 hbk.2, q_bs]
    by_cases e : a k = 99
    · rw [if_pos e, if_pos e, if_pos oI_0]
      unfold c_62_1
      rw [nI_1, hs]
    · rw [if_neg e, if_neg e, if_neg (by rw [ku_m, ku_on (by omega) (by omega)]; omega)]
      by_cases e2 : urg wt a k = 0
      · rw [if_pos e2, hs, e2, if_pos oI_0]
        unfold c_62_2 c_62_1
        rw [nI_1, oI_s]
      · have hbu := hb (urg wt a k - 1) (by omega)
        rw [if_neg e2, hs, if_neg (by rw [oI_m1 (by omega)]; exact e2), ku_o1 (by omega), e61 (by omega) ht (h1 _ (by omega)) (h2 _ (by omega)) hbu.1 hbu.2, q_bs, if_neg (urg_b wt a k e2)]
        by_cases e3 : wt (urg wt a k - 1) - a (urg wt a k - 1) ≤ wt k - a k
        · rw [if_pos e3, if_pos (nI_le e3 (by omega))]
          unfold c_62_1
          rw [nI_1, ku_o1 (a := urg wt a k) (by omega)]
        · rw [if_neg e3, if_neg (nI_ge (by omega) (by omega))]
          unfold c_62_2 c_62_1
          rw [nI_1, oI_s]
theorem e20 (hC : CH I 3 11 H W A) (o4 : H.1 4 ≤ 4) {a b : Nat} (ha : a < H.1 4) (hb : b < H.1 4) : f_20_1 (nI a) (nI b) I L = some (oI (dst (dor H) a b)) := by
  unfold f_20_1
  rw [ku_4, pk_mul, nI_add, show a * 4 + b = 4 * a + b by omega, ku_if (by omega) (by omega), nI_clamp (by omega), ch_ds hC ha hb]
theorem e22 (ho : HOK H W A) (hC : CH I 3 11 H W A) {a b : Nat} (ha : a < H.1 4) (hb : b < H.1 4) (hn : 1000 ≤ n) : f_22 n (nI a) (nI b) I L = some (oI (twd H a b)) := by
  have o4 : H.1 4 ≤ 4 := ho.1.2.2.2.2.1
  have hd := dst_le (dor H) a b
  have hdm := dms_lt ho a
  unfold f_22
  rw [e20 hC o4 ha hb, q_bs]
  by_cases h1 : dst (dor H) a b ≤ 1
  · obtain ⟨m, rfl⟩ : ∃ m, n = m + 1 := ⟨n - 1, by omega⟩
    show b_22_0 _ I L _ (nI a) (nI b) (oI (dst (dor H) a b)) 0 = _
    unfold b_22_0
    rw [chs hC (by decide), if_neg (by rw [ku_0]; exact nI_ge (by omega) (by omega)), if_pos (by rw [fa_le, oI_toInt (by omega), i0]; omega)]
    unfold twd
    rw [if_pos h1, oI_s]
  · refine lpGk (fun m k (_ : Unit) => c_22_0 n I L m (nI a) (nI b) (oI (dst (dor H) a b)) (nI k)) (H.1 4) (fun k _ => fnd (twp H a b) k = 0) (fun _ => some (nI a)) (fun q => q = some (oI (twd H a b))) n 0 () (by omega) (by omega) rfl (fun h => ?_) (fun _ h e => ?_) (fun m s hs => ?_) (fun m k s hk hs => ?_)
    · exact h
    · rw [show (0 : Int32) = nI 0 from rfl, e]
      unfold twd
      rw [if_neg h1, if_pos h, oI_s]
    · show b_22_0 n I L (c_22_0 n I L m) (nI a) (nI b) (oI (dst (dor H) a b)) (nI (H.1 4)) = _
      unfold b_22_0
      rw [chs hC (by decide), if_pos (nI_le (Nat.le_refl _) (by omega))]
    · have hdk := dst_le (dor H) k b
      have e1 : c_22_0 n I L (m + 1) (nI a) (nI b) (oI (dst (dor H) a b)) (nI k) = if twp H a b k = true then some (nI k) else c_22_0 n I L m (nI a) (nI b) (oI (dst (dor H) a b)) (nI (k + 1)) := by
        show b_22_0 n I L (c_22_0 n I L m) (nI a) (nI b) (oI (dst (dor H) a b)) (nI k) = _
        unfold b_22_0
        rw [chs hC (by decide), if_neg (nI_ge hk (by omega)), if_neg (by rw [fa_le, oI_toInt (by omega), i0]; omega), ku_if (by omega) (by omega), nI_clamp (by omega), ch_dm hC (by omega), ku_bit2 (by omega) (by omega), q_b1]
        unfold twp c_22_1
        show (if dor H a k = true then _ else _) = _
        rw [nI_1]
        by_cases h2 : dor H a k = true
        · rw [if_pos h2, h2, e20 hC o4 hk hb, q_bs, Bool.true_and]
          by_cases h3 : dst (dor H) k b + 1 = dst (dor H) a b
          · rw [if_neg (by rw [← h3, oI_s]; exact fun q => q rfl), if_pos (by simpa using h3)]
          · rw [if_pos (by rw [ku_o1 (a := dst (dor H) a b) (by omega), ku_1, pk_sub (by omega), oI_nI (by omega) (by omega)]; omega), if_neg (by simpa using h3)]
        · rw [if_neg h2, show dor H a k = false by simpa using h2, Bool.false_and, if_neg (by decide)]
      by_cases h2 : twp H a b k = true
      · refine Or.inl ?_
        show c_22_0 n I L (m + 1) (nI a) (nI b) (oI (dst (dor H) a b)) (nI k) = _
        have hf : fnd (twp H a b) (H.1 4) = k + 1 := fnd_s.mpr ⟨hk, h2, fnd_0.mp hs⟩
        rw [e1, if_pos h2]
        unfold twd
        rw [if_neg h1, if_neg (by rw [hf]; omega), hf, oI_s]
      · refine Or.inr ⟨(), fnd_n hs (by simpa using h2), ?_⟩
        show c_22_0 n I L (m + 1) (nI a) (nI b) (oI (dst (dor H) a b)) (nI k) = _
        rw [e1, if_neg h2]
/-- what is written of the night up to minute k -/
def NDk (I : FI) (H : HD) (g : NG) (k : Nat) : Prop := ∀ t, t < k → I 29 t = oI (nw H g t) ∧ I 30 t = nI (nlk H g t) ∧ ∀ r, r < H.1 4 → I 31 (4 * t + r) = nI (na H g t r)
theorem e57 {t w : Nat} (ht : t < 30) (h9 : I 26 9 = nI g.1.2.2.2) (hg : g.1.2.2.2 < 2 ^ 30) (h29 : I 29 t = oI w) : f_57 (nI t) I L = some (oI (eyn g t w)) := by
  unfold f_57 eyn
  rw [if_neg (nI_pos (by omega)), h9, ku_bit2 (by omega) (by omega), q_b1]
  by_cases h : g.1.2.2.2.testBit t = true
  · rw [if_pos h, if_pos h, oI_0]
  · rw [if_neg h, if_neg h, ku_if ht (by omega), nI_clamp (by omega), h29]
theorem e57z : f_57 (nI 0 - 1) I L = some (oI 0) := by
  unfold f_57
  rw [if_pos (by decide), oI_0]
/-- where the warden is -/
theorem e56 (ho : HOK H W A) (hC : CH I 3 11 H W A) (hg : GOK H g) (hr : NRd I H g) {t : Nat} (ht : t < H.1 3) (hd : NDk I H g t) (hn : 1000 ≤ n) : f_56 n (nI t) I L = some (oI (nw H g t)) := by
  obtain ⟨r1, r2, r3, r4, r5, r6, r7, r8⟩ := hr
  obtain ⟨g1, g2, g3, g4, g5, g6⟩ := hg
  have o4 : H.1 4 ≤ 4 := ho.1.2.2.2.2.1
  have o3 : H.1 3 ≤ 30 := ho.1.2.2.2.1
  have o7 : H.1 7 ≤ 12 := ho.1.2.2.2.2.2.2.2.1
  have c7 : I 3 7 = nI (H.1 7) := chs hC (by decide)
  have hpl := ho.2.2.2.1
  unfold f_56
  rw [r1, r4, r5, c7]
  by_cases z : H.1 4 = 0
  · rw [if_neg (by rw [z]; decide)]
    cases t with
    | zero => show _ = some (oI (wd0 H g)); unfold wd0; rw [if_pos z, oI_0]
    | succ t => rw [nw_s]; unfold wdn; rw [if_pos z, oI_0]
  · rw [if_pos (by rw [ku_0, nI_eq (by omega) (by omega)]; exact z)]
    cases t with
    | zero =>
      rw [if_neg (by decide)]
      show _ = some (oI (wd0 H g)); unfold wd0; rw [if_neg z]
      by_cases z7 : H.1 7 = 0
      · rw [if_pos (by rw [z7]; decide), if_pos z7]; rfl
      · rcases g3 with g3 | g3
        · exact absurd g3 z7
        · rw [if_neg (nI_nle (by omega) (by omega)), if_neg z7, ku_if (by omega) (by omega), nI_clamp (by omega), ch_pl hC g3, oI_s]
    | succ t =>
      obtain ⟨d1, d2, d3⟩ := hd t (by omega)
      have hw := nw_le ho ⟨g1, g2, g3, g4, g5, g6⟩ t
      rw [if_pos (by rw [ku_0, nI_eq (by omega) (by omega)]; omega), nI_pred, ku_if (by omega) (by omega), nI_clamp (by omega), d1, nw_s]
      unfold wdn
      rw [if_neg z]
      by_cases hm : g.1.2.1 = 1
      · rw [if_neg (by rw [hm]; decide), if_pos hm, e62 (a := na H g t) o4 r1 (by omega) d3 r7 (fun r hr => ⟨na_b H g r t, (g5 r hr).2⟩) hn, q_bs]
        by_cases hu : urg g.2.1 (na H g t) (H.1 4) = 0
        · rw [if_pos hu, if_neg (by rw [hu, oI_0]; decide)]
        · have hul := urg_le g.2.1 (na H g t) (H.1 4)
          rw [if_neg hu, if_pos (by rw [oI_m1 (by omega)]; exact hu), ku_o1 (a := nw H g t) (by omega), ku_o1 (a := urg g.2.1 (na H g t) (H.1 4)) (by omega), e22 ho hC (by omega) (by omega) hn, q_bs]
      · rw [if_pos (by rw [ku_1, nI_eq (by omega) (by omega)]; exact hm), if_neg hm]
        by_cases z7 : H.1 7 = 0
        · rw [if_neg (by rw [z7]; decide), if_pos z7]
        · rcases g3 with g3 | g3
          · exact absurd g3 z7
          · have hm2 : (g.1.2.2.1 + (t + 1)) % H.1 7 < H.1 7 := Nat.mod_lt _ (by omega)
            have hp := plc_lt g ho z7 (t + 1)
            rw [if_pos (by rw [ku_0, nI_eq (by omega) (by omega)]; exact z7), if_neg (by rw [ku_0, nI_eq (by omega) (by omega)]; exact z7), nI_add, pk_rem (by omega) (by omega) (by omega), ku_if (by omega) (by omega), nI_clamp (by omega), ch_pl hC hm2, ku_o1 (a := nw H g t) (by omega)]
            show (f_21 (nI (nw H g t - 1)) (nI (plc H g (t + 1))) I L).bind _ = _
            rw [e21 ho hC (by omega) (by omega), q_bs, q_b1, if_neg z7]
            by_cases hh : nw H g t - 1 = plc H g (t + 1) ∨ dor H (nw H g t - 1) (plc H g (t + 1)) = true
            · rw [if_pos hh, if_pos hh, oI_s]; rfl
            · rw [if_neg hh, if_neg hh, ku_o1 (by omega)]
end CNIGHT
