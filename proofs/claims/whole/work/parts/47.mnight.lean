/-! LAYER 3: the model's night -/
section MNIGHT
variable {I : FI} {L : FL} {H : HD} {W : Nat → Nat} {A : AD} {g : NG} {n : Nat}
/-- a flame's next age, by the model: he (and 1) looks, he looked at was (and 1), visits v -/
def agc (H : HD) (l he was v r a : Nat) : Nat :=
  if he = r + 1 ∨ v.testBit r = true then (if l = 1 then a / 2 else if l = 2 ∧ v.testBit r = false ∧ was ≠ r + 1 then a else 0)
  else if l = 3 ∧ he ≠ 0 ∧ dor H (he - 1) r = true then a else a + 1
def agm (H : HD) (l : Nat) (wt : Nat → Nat) (he was v r a : Nat) : Nat := if a = 99 then 99 else if wt r < agc H l he was v r a then 99 else agc H l he was v r a
theorem agc_le {l he was v r a : Nat} (ha : a ≤ 7) : agc H l he was v r a ≤ 8 := by
  unfold agc
  split
  · split
    · omega
    · split <;> omega
  · split <;> omega
theorem lok_tb (g : NG) (n w r : Nat) : (lok g n w).testBit r = true ↔ eyn g n w = r + 1 ∨ (g.2.2 n).testBit r = true := by
  unfold lok
  rw [tb_or, Bool.or_eq_true]
  by_cases h : eyn g n w = 0
  · rw [if_pos h]
    simp
    omega
  · rw [if_neg h, tb_pw, decide_eq_true_eq]
    constructor
    · rintro (q | q)
      · exact Or.inr q
      · exact Or.inl (by omega)
    · rintro (q | q)
      · exact Or.inr (by omega)
      · exact Or.inl q
theorem agn_agm (H : HD) (g : NG) (n w e r a : Nat) : agn H g n w e r a = agm H g.1.1 g.2.1 (eyn g n w) e (g.2.2 n) r a := by
  have : agb H g n w e r a = agc H g.1.1 (eyn g n w) e (g.2.2 n) r a := by
    unfold agb agc
    by_cases h : (lok g n w).testBit r = true
    · rw [if_pos h, if_pos ((lok_tb g n w r).mp h)]
    · rw [if_neg h, if_neg (fun q => h ((lok_tb g n w r).mpr q))]
  unfold agn agm
  rw [this]
theorem e253 (ho : HOK H W A) (hM : MH I 0 H W A) {l he was v : Nat} {wt a : Nat → Nat} (h25 : I 89 25 = nI l) (hl : l ≤ 3) (h104 : ∀ r, r < H.1 4 → I 104 r = nI (wt r)) (h105 : ∀ r, r < H.1 4 → I 105 r = nI (a r)) (hwt : ∀ r, r < H.1 4 → wt r ≤ 7) (ha : ∀ r, r < H.1 4 → a r = 99 ∨ a r ≤ 7) (hhe : he ≤ 4) (hws : was ≤ 4) (hv : v < 16) (hn : 1000 ≤ n) :
    ∃ J, f_253 n (oI he) (oI was) (nI v) I L = some (J, L) ∧ (∀ r, r < H.1 4 → J 105 r = nI (agm H l wt he was v r (a r))) ∧ ∀ c i, c ≠ 105 → J c i = I c i := by
  have o4 : H.1 4 ≤ 4 := ho.1.2.2.2.2.1
  have key : ∃ J, ((∀ r, r < H.1 4 → J 105 r = nI (if r < H.1 4 then agm H l wt he was v r (a r) else a r)) ∧ ∀ c i, c ≠ 105 → J c i = I c i) ∧ c_253_0 n n (oI he) (oI was) (nI v) (nI 0) I L = some (J, L) := by
    refine lpE (fun m k (s : FI) => c_253_0 n m (oI he) (oI was) (nI v) (nI k) s L) (H.1 4) (fun k s => (∀ r, r < H.1 4 → s 105 r = nI (if r < k then agm H l wt he was v r (a r) else a r)) ∧ ∀ c i, c ≠ 105 → s c i = I c i) (fun s => some (s, L)) (fun m s hs => ?_) (fun m k s hk hs => ?_) n 0 I (by omega) (by omega) ⟨fun r hr => by rw [if_neg (by omega)]; exact h105 r hr, fun _ _ _ => rfl⟩
    · have hMs : MH s 0 H W A := MH_fr ho hM (fun c hc i => hs.2 c i (by omega))
      show b_253_0 n (c_253_0 n m) (oI he) (oI was) (nI v) (nI (H.1 4)) s L = _
      unfold b_253_0
      rw [e237 hMs, q_bs, if_pos (nI_le (Nat.le_refl _) (by omega))]
    · obtain ⟨s1, s2⟩ := hs
      have hMs : MH s 0 H W A := MH_fr ho hM (fun c hc i => s2 c i (by omega))
      have q105 : s 105 k = nI (a k) := by rw [s1 k hk, if_neg (by omega)]
      have q25 : s 89 25 = nI l := by rw [s2 89 25 (by decide), h25]
      have q104 : s 104 k = nI (wt k) := by rw [s2 104 k (by decide), h104 k hk]
      have hak := ha k hk
      have hwk := hwt k hk
      have hstep : c_253_0 n (m + 1) (oI he) (oI was) (nI v) (nI k) s L = c_253_0 n m (oI he) (oI was) (nI v) (nI (k + 1)) (if a k = 99 then s else u2 s 105 k (nI (agm H l wt he was v k (a k)))) L := by
        show b_253_0 n (c_253_0 n m) (oI he) (oI was) (nI v) (nI k) s L = _
        unfold b_253_0
        rw [e237 hMs, q_bs, if_neg (nI_ge hk (by omega)), ku_if (by omega) (by omega), nI_clamp (by omega), q105]
        by_cases h99 : a k = 99
        · rw [if_neg (by rw [h99]; decide), if_pos h99]
          unfold c_253_6
          rw [nI_1]
        · have hcl := agc_le (H := H) (l := l) (he := he) (was := was) (v := v) (r := k) (a := a k) (by omega)
          have h4 : ∀ b, b ≤ 8 → b = agc H l he was v k (a k) → c_253_4 n (c_253_0 n m) (oI he) (oI was) (nI v) (nI k) (nI b) s L = c_253_0 n m (oI he) (oI was) (nI v) (nI (k + 1)) (u2 s 105 k (nI (agm H l wt he was v k (a k)))) L := fun b hb he2 => by
            unfold c_253_4 c_253_5 c_253_6
            rw [ku_if (by omega) (by omega), ku_if (by omega) (by omega), ku_if (by omega) (by omega), nI_clamp (by omega), q104, nI_1]
            unfold agm
            rw [if_neg h99, ← he2]
            by_cases hlt : wt k < b
            · rw [if_neg (nI_ge hlt (by omega)), if_pos hlt]; rfl
            · rw [if_pos (nI_le (by omega) (by omega)), if_neg hlt]
          have h1 : (he = k + 1 ∨ v.testBit k = true) → c_253_1 n (c_253_0 n m) (oI he) (oI was) (nI v) (nI k) (nI (a k)) (bI (v.testBit k = true)) s L = c_253_0 n m (oI he) (oI was) (nI v) (nI (k + 1)) (u2 s 105 k (nI (agm H l wt he was v k (a k)))) L := fun hlook => by
            unfold c_253_1 c_253_2 c_253_3
            rw [q25]
            by_cases l1 : l = 1
            · rw [if_neg (by rw [l1]; decide), ku_2, pk_div (by omega) (by omega) (by omega)]
              exact h4 _ (by omega) (by unfold agc; rw [if_pos hlook, if_pos l1])
            · rw [if_pos (by rw [ku_1, nI_eq (by omega) (by omega)]; exact l1)]
              by_cases l2 : l = 2
              · rw [if_neg (by rw [l2]; decide), q_b2]
                by_cases hv2 : v.testBit k = true
                · rw [if_pos hv2]
                  exact h4 0 (by omega) (by unfold agc; rw [if_pos hlook, if_neg l1, if_neg (fun q => by rw [hv2] at q; exact absurd q.2.1 (by decide))])
                · rw [if_neg hv2]
                  by_cases hw2 : was = k + 1
                  · rw [if_pos (by rw [hw2, oI_s])]
                    exact h4 0 (by omega) (by unfold agc; rw [if_pos hlook, if_neg l1, if_neg (fun q => q.2.2 hw2)])
                  · rw [if_neg (by rw [oI_nI (by omega) (by omega)]; exact hw2)]
                    exact h4 _ (by omega) (by unfold agc; rw [if_pos hlook, if_neg l1, if_pos ⟨l2, by simpa using hv2, hw2⟩])
              · rw [if_pos (by rw [ku_2, nI_eq (by omega) (by omega)]; exact l2)]
                exact h4 0 (by omega) (by unfold agc; rw [if_pos hlook, if_neg l1, if_neg (fun q => l2 q.1)])
          rw [if_pos (by rw [ku_99, nI_eq (by omega) (by omega)]; exact h99), e247 (by omega) (by omega), q_bs, if_neg h99]
          by_cases hhk : he = k + 1
          · rw [if_pos (by rw [hhk, oI_s]), h1 (Or.inl hhk)]
          · rw [if_neg (by rw [oI_nI (by omega) (by omega)]; exact hhk), q_b1]
            by_cases hv2 : v.testBit k = true
            · rw [if_pos hv2, h1 (Or.inr hv2)]
            · have hnl : ¬ (he = k + 1 ∨ v.testBit k = true) := fun q => q.elim hhk hv2
              rw [if_neg hv2, q25, nI_1]
              by_cases l3 : l = 3
              · rw [if_neg (by rw [l3]; decide)]
                by_cases h0 : he = 0
                · rw [if_pos (by rw [h0, oI_0])]
                  exact h4 _ (by omega) (by unfold agc; rw [if_neg hnl, if_neg (fun q => q.2.1 h0)])
                · rw [if_neg (by rw [oI_m1 (by omega)]; exact h0), ku_o1 (a := he) (by omega), e249 ho hMs (by omega) (by omega) hn, q_bs, q_b1, ← ku_o1 (a := he) (by omega)]
                  by_cases hd : dor H (he - 1) k = true
                  · rw [if_pos hd]
                    exact h4 _ (by omega) (by unfold agc; rw [if_neg hnl, if_pos ⟨l3, h0, hd⟩])
                  · rw [if_neg hd]
                    exact h4 _ (by omega) (by unfold agc; rw [if_neg hnl, if_neg (fun q => hd q.2.2)])
              · rw [if_pos (by rw [ku_3, nI_eq (by omega) (by omega)]; exact l3)]
                exact h4 _ (by omega) (by unfold agc; rw [if_neg hnl, if_neg (fun q => l3 q.1)])
      refine ⟨_, ⟨fun r hr => ?_, fun c i hc => ?_⟩, hstep⟩
      · by_cases h99 : a k = 99
        · rw [if_pos h99, s1 r hr]
          by_cases e : r = k
          · subst e
            rw [if_neg (by omega), if_pos (by omega)]
            unfold agm; rw [if_pos h99, h99]
          · by_cases e2 : r < k
            · rw [if_pos e2, if_pos (by omega)]
            · rw [if_neg e2, if_neg (by omega)]
        · rw [if_neg h99]
          by_cases e : r = k
          · subst e; rw [u2_s, if_pos (by omega)]
          · rw [u2_o e, s1 r hr]
            by_cases e2 : r < k
            · rw [if_pos e2, if_pos (by omega)]
            · rw [if_neg e2, if_neg (by omega)]
      · split
        · exact s2 c i hc
        · rw [u2_c hc]; exact s2 c i hc
  obtain ⟨J, ⟨j1, j2⟩, je⟩ := key
  exact ⟨J, by unfold f_253; rw [show (0 : Int32) = nI 0 from rfl, je], fun r hr => by rw [j1 r hr, if_pos hr], j2⟩
theorem e254 (ho : HOK H W A) (hM : MH I 0 H W A) {wt a : Nat → Nat} (h104 : ∀ r, r < H.1 4 → I 104 r = nI (wt r)) (h105 : ∀ r, r < H.1 4 → I 105 r = nI (a r)) (hb : ∀ r, r < H.1 4 → (a r = 99 ∨ a r ≤ wt r) ∧ wt r ≤ 7) (hn : 1000 ≤ n) : f_254 n I L = some (oI (urg wt a (H.1 4))) := by
  have o4 : H.1 4 ≤ 4 := ho.1.2.2.2.2.1
  unfold f_254
  refine lpEk (fun m k (b : Nat) => c_254_0 n I L m (oI b) (nI k)) (H.1 4) (fun k b => b = urg wt a k) (fun b => some (oI b)) n 0 0 (by omega) (by omega) rfl (fun s' hs e => ?_) (fun m s hs => ?_) (fun m k s hk hs => ?_)
  · rw [ku_m, show (0 : Int32) = nI 0 from rfl, e, hs]
  · show b_254_0 n I L (c_254_0 n I L m) (oI s) (nI (H.1 4)) = _
    unfold b_254_0
    rw [e237 hM, q_bs, if_pos (nI_le (Nat.le_refl _) (by omega))]
  · refine ⟨urg wt a (k + 1), rfl, ?_⟩
    have hbk := hb k hk
    have hul := urg_le wt a k
    show b_254_0 n I L (c_254_0 n I L m) (oI s) (nI k) = c_254_0 n I L m (oI (if a k = 99 then urg wt a k else if urg wt a k = 0 then k + 1 else if wt (urg wt a k - 1) - a (urg wt a k - 1) ≤ wt k - a k then urg wt a k else k + 1)) (nI (k + 1))
    unfold b_254_0 c_254_2 c_254_1
    rw [e237 hM, q_bs, if_neg (nI_ge hk (by omega)), ku_if (by omega) (by omega), nI_clamp (by omega), h105 k hk, nI_1]
    by_cases e : a k = 99
    · rw [if_pos (by rw [e]; rfl), if_pos e, hs]
    · rw [if_neg (by rw [ku_99, nI_eq (by omega) (by omega)]; exact e), if_neg e]
      by_cases e2 : urg wt a k = 0
      · rw [if_pos e2, hs, e2, if_pos oI_0, oI_s]
      · have hbu := hb (urg wt a k - 1) (by omega)
        have hub := urg_b wt a k e2
        rw [if_neg e2, hs, if_neg (by rw [oI_m1 (by omega)]; exact e2), ku_if (by omega) (by omega), ku_if (by omega) (by omega), ku_o1 (a := urg wt a k) (by omega), ku_if (by omega) (by omega), ku_if (by omega) (by omega), nI_clamp (by omega), h104 _ (by omega), h105 _ (by omega), h104 k hk, pk_sub (by omega), pk_sub (by omega)]
        by_cases e3 : wt (urg wt a k - 1) - a (urg wt a k - 1) ≤ wt k - a k
        · rw [if_pos e3, if_pos (nI_le e3 (by omega)), ku_o1 (a := urg wt a k) (by omega)]
        · rw [if_neg e3, if_neg (nI_ge (by omega) (by omega)), oI_s]
theorem fvl_lt (H : HD) (a b : Nat) : fvl H a b ≤ 100000 := by
  have := dst_le (dor H) a b
  unfold fvl
  split <;> omega
theorem e255 (ho : HOK H W A) (hM : MH I 0 H W A) {w u : Nat} (hw : 1 ≤ w ∧ w ≤ H.1 4) (hu : u ≤ H.1 4) (hn : 1000 ≤ n) : ∃ J, f_255 n (oI w) (oI u) I L = some (oI (if u = 0 then w else twd H (w - 1) (u - 1)), J, L) ∧ ∀ c i, c ≠ 103 → J c i = I c i := by
  have o4 : H.1 4 ≤ 4 := ho.1.2.2.2.2.1
  unfold f_255
  by_cases u0 : u = 0
  · exact ⟨I, by rw [if_pos (by rw [u0, oI_0]), if_pos u0], fun _ _ _ => rfl⟩
  · rw [if_neg (by rw [oI_m1 (by omega)]; exact u0), if_neg u0]
    by_cases uw : u = w
    · refine ⟨I, ?_, fun _ _ _ => rfl⟩
      have : dst (dor H) (w - 1) (u - 1) = 1 := (dst_1 ..).mpr (by omega)
      rw [if_pos (by rw [uw])]
      unfold twd
      rw [if_pos (by omega), show w - 1 + 1 = w by omega]
    · have hd := dst_le (dor H) (w - 1) (u - 1)
      have hd1 : dst (dor H) (w - 1) (u - 1) ≠ 1 := fun q => by have := (dst_1 ..).mp q; omega
      have hsy := dD4 ho (a := u - 1) (b := w - 1) (by omega) (by omega)
      obtain ⟨J, j1, j2⟩ := e251 (n := n) (L := L) ho hM (a := u - 1) (b := w - 1) (by omega) (by omega) hn
      rw [if_neg (by rw [oI_eq (by omega) (by omega)]; exact uw), ku_o1 (a := u) (by omega), ku_o1 (a := w) (by omega), j1, q_bs]
      have hfl := fvl_lt H (u - 1) (w - 1)
      by_cases h0 : dst (dor H) (w - 1) (u - 1) = 0
      · refine ⟨J, ?_, j2⟩
        have : fvl H (u - 1) (w - 1) = 100000 := by unfold fvl; rw [hsy, if_pos h0]
        show (if nI (fvl H (u - 1) (w - 1)) < 100000 then _ else _) = _
        rw [if_neg (by rw [this]; decide)]
        unfold twd
        rw [if_pos (by omega), oI_s]
      · have hfv : fvl H (u - 1) (w - 1) = dst (dor H) (w - 1) (u - 1) - 1 := by unfold fvl; rw [hsy, if_neg h0]
        obtain ⟨J', k1, k2⟩ := e251 (n := n) (L := L) ho (MH_far ho hM j2) (a := u - 1) (b := w - 1) (by omega) (by omega) hn
        dsimp only
        rw [if_pos (by rw [hfv, ku_100k]; exact nI_lt (by omega) (by omega)), k1, q_bs]
        dsimp only
        refine lpGk (fun m k (s : FI) => c_255_0 n m (nI (w - 1)) (nI (u - 1)) (nI (fvl H (u - 1) (w - 1))) (nI k) s L) (H.1 4) (fun k s => fnd (twp H (w - 1) (u - 1)) k = 0 ∧ ∀ c i, c ≠ 103 → s c i = I c i) (fun s => some (nI (w - 1), s, L)) (fun q => ∃ J, q = some (oI (twd H (w - 1) (u - 1)), J, L) ∧ ∀ c i, c ≠ 103 → J c i = I c i) n 0 J' (by omega) (by omega) ⟨rfl, fun c i hc => by rw [k2 c i hc, j2 c i hc]⟩ (fun h => ?_) (fun s' ⟨h, h2⟩ e => ?_) (fun m s hs => ?_) (fun m k s hk hs => ?_)
        · exact h
        · refine ⟨s', ?_, h2⟩
          rw [show (0 : Int32) = nI 0 from rfl, e]
          unfold twd
          rw [if_neg (by omega), if_pos h, oI_s]
        · show b_255_0 n (c_255_0 n m) (nI (w - 1)) (nI (u - 1)) (nI (fvl H (u - 1) (w - 1))) (nI (H.1 4)) s L = _
          unfold b_255_0
          rw [e237 (MH_far ho hM hs.2), q_bs, if_pos (nI_le (Nat.le_refl _) (by omega))]
        · have hMs := MH_far ho hM hs.2
          obtain ⟨M, m1, m2⟩ := e251 (n := n) (L := L) ho hMs (a := u - 1) (b := k) (by omega) hk hn
          have hm2 : ∀ c i, c ≠ 103 → M c i = I c i := fun c i hc => by rw [m2 c i hc, hs.2 c i hc]
          have hkl := fvl_lt H (u - 1) k
          have hsk := dD4 ho (a := u - 1) (b := k) (by omega) (by omega)
          have hdk := dst_le (dor H) k (u - 1)
          have e1 : c_255_0 n (m + 1) (nI (w - 1)) (nI (u - 1)) (nI (fvl H (u - 1) (w - 1))) (nI k) s L = if dor H (w - 1) k = true then (if twp H (w - 1) (u - 1) k = true then some (nI k, M, L) else c_255_0 n m (nI (w - 1)) (nI (u - 1)) (nI (fvl H (u - 1) (w - 1))) (nI (k + 1)) M L) else c_255_0 n m (nI (w - 1)) (nI (u - 1)) (nI (fvl H (u - 1) (w - 1))) (nI (k + 1)) s L := by
            show b_255_0 n (c_255_0 n m) (nI (w - 1)) (nI (u - 1)) (nI (fvl H (u - 1) (w - 1))) (nI k) s L = _
            unfold b_255_0 c_255_1
            rw [e237 hMs, q_bs, if_neg (nI_ge hk (by omega)), e249 ho hMs (by omega) (by omega) hn, q_bs, q_b1, m1, q_bs, nI_1]
            by_cases hd : dor H (w - 1) k = true
            · rw [if_pos hd, if_pos hd]
              have ht : twp H (w - 1) (u - 1) k = true ↔ fvl H (u - 1) k = fvl H (u - 1) (w - 1) - 1 := by
                unfold twp
                rw [hd, Bool.true_and, hfv, beq_iff_eq]
                unfold fvl
                rw [hsk]
                split <;> omega
              show (if ¬ nI (fvl H (u - 1) k) = nI (fvl H (u - 1) (w - 1)) - 1 then _ else _) = _
              rw [ku_1, pk_sub (by omega)]
              by_cases h3 : twp H (w - 1) (u - 1) k = true
              · rw [if_pos h3, if_neg (by rw [ht.mp h3]; exact fun q => q rfl)]
              · rw [if_neg h3, if_pos (by rw [nI_eq (by omega) (by omega)]; exact fun q => h3 (ht.mpr q))]
            · rw [if_neg hd, if_neg hd]
          by_cases h3 : twp H (w - 1) (u - 1) k = true
          · have hd : dor H (w - 1) k = true := by unfold twp at h3; rw [Bool.and_eq_true] at h3; exact h3.1
            have hf : fnd (twp H (w - 1) (u - 1)) (H.1 4) = k + 1 := fnd_s.mpr ⟨hk, h3, fnd_0.mp hs.1⟩
            refine Or.inl ⟨M, ?_, hm2⟩
            show c_255_0 n (m + 1) (nI (w - 1)) (nI (u - 1)) (nI (fvl H (u - 1) (w - 1))) (nI k) s L = _
            rw [e1, if_pos hd, if_pos h3]
            unfold twd
            rw [if_neg (by omega), if_neg (by rw [hf]; omega), hf, oI_s]
          · by_cases hd : dor H (w - 1) k = true
            · refine Or.inr ⟨M, ⟨fnd_n hs.1 (by simpa using h3), hm2⟩, ?_⟩
              show c_255_0 n (m + 1) (nI (w - 1)) (nI (u - 1)) (nI (fvl H (u - 1) (w - 1))) (nI k) s L = _
              rw [e1, if_pos hd, if_neg h3]
            · refine Or.inr ⟨s, ⟨fnd_n hs.1 (by simpa using h3), hs.2⟩, ?_⟩
              show c_255_0 n (m + 1) (nI (w - 1)) (nI (u - 1)) (nI (fvl H (u - 1) (w - 1))) (nI k) s L = _
              rw [e1, if_neg hd]
end MNIGHT
