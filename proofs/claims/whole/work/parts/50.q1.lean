/-! LAYER 3: at, age, left, burns, out, dark, first, looks, oldest, worth, steps, urgent, seen, steady, tight. Printed by wip/whole/gen50.py -/
section RD
variable {I : FI} {L : FL} {H : HD} {W : Nat → Nat} {A : AD} {g : NG} {n : Nat}
theorem mleft {a w r k : Nat} {K : FI} (hb : a = 99 ∨ a ≤ w) (hw : w ≤ 7) (h104 : K 104 r = nI w) (hr : r < 4) (hk : k < 120) (h106 : K 106 k = nI a) : (if ¬ K 106 k = 99 then if pin (nI r) 4 = true then (if pin (nI k) 120 = true then some (K 104 (nI r).toNatClampNeg - K 106 k, K, L) else none) else none else some (-1, K, L)) = some (if a = 99 then oI 0 else nI (w - a), K, L) := by
  by_cases h : a = 99
  · rw [if_neg (by rw [h106, h]; decide), if_pos h, oI_0]
  · rw [if_pos (by rw [h106, ku_99, nI_eq (by omega) (by omega)]; exact h), if_neg h, ku_if hr (by omega), ku_if hk (by omega), nI_clamp (by omega), h104, h106, pk_sub (by omega)]
theorem m276 (ho : HOK H W A) (hM : MH I 0 H W A) (hN : NMk I H g (H.1 3)) (hg : GOK H g) (hn : 1000 ≤ n) : c_276_0 n n (nI (dkm H g)) 0 I L = some (oI (fok H g (H.1 4)), I, L) := by
  have o4 : H.1 4 ≤ 4 := ho.1.2.2.2.2.1
  have o3 : H.1 3 ≤ 30 := ho.1.2.2.2.1
  have hsp := fok_sp H g (H.1 4)
  have hdl := dkm_le H g
  have hl := nou_le H g (H.1 3)
  have hfl := fok_le H g (H.1 4)
  have hst : dkm H g = H.1 3 ∨ 0 < fok H g (H.1 4) := by
    by_cases h : fok H g (H.1 4) = 0
    · exact Or.inl (by unfold dkm dkk; rw [if_pos h])
    · exact Or.inr (by omega)
  refine lpGk (fun m k (_ : Unit) => c_276_0 n m (nI (dkm H g)) (nI k) I L) (H.1 4) (fun k _ => dkm H g = H.1 3 ∨ k < fok H g (H.1 4)) (fun _ => some (oI 0, I, L)) (fun q => q = some (oI (fok H g (H.1 4)), I, L)) n 0 () (by omega) (by omega) hst (fun h => ?_) (fun _ h e => ?_) (fun m s hs => ?_) (fun m k s hk hs => ?_)
  · exact h
  · have h3 : fok H g (H.1 4) = 0 := by
      rcases h with h | h
      · by_cases h2 : fok H g (H.1 4) = 0
        · exact h2
        · unfold dkm dkk at h
          rw [if_neg h2] at h
          have := hl (fok H g (H.1 4) - 1)
          have := (hsp.2 (fok H g (H.1 4) - 1) (by omega)).2.1
          omega
      · omega
    rw [show (0 : Int32) = nI 0 from rfl, e, h3]
  · show b_276_0 n (c_276_0 n m) (nI (dkm H g)) (nI (H.1 4)) I L = _
    unfold b_276_0
    rw [e237 hM, q_bs, if_pos (nI_le (Nat.le_refl _) (by omega)), oI_0]
  · by_cases hz : fok H g (H.1 4) = 0
    · refine Or.inl ?_
      show b_276_0 n (c_276_0 n m) (nI (dkm H g)) (nI k) I L = _
      have hd : dkm H g = H.1 3 := by unfold dkm dkk; rw [if_pos hz]
      unfold b_276_0
      rw [e237 hM, q_bs, if_neg (nI_ge hk (by omega)), e238 hM, q_bs, hd, if_pos (nI_le (Nat.le_refl _) (by omega)), hz, oI_0]
    · obtain ⟨s1, s2, s3, s4⟩ := hsp.2 (fok H g (H.1 4) - 1) (by omega)
      have hd : dkm H g = nou H g (H.1 3) (fok H g (H.1 4) - 1) - 1 := by unfold dkm dkk; rw [if_neg hz]
      have hlf := hl (fok H g (H.1 4) - 1)
      have hk2 : k < fok H g (H.1 4) := by rcases hs with hs | hs <;> omega
      have hok := oum_le H g k
      have e1 : c_276_0 n (m + 1) (nI (dkm H g)) (nI k) I L = if oum H g k = dkm H g then some (nI k, I, L) else c_276_0 n m (nI (dkm H g)) (nI (k + 1)) I L := by
        show b_276_0 n (c_276_0 n m) (nI (dkm H g)) (nI k) I L = _
        unfold b_276_0
        rw [e237 hM, q_bs, if_neg (nI_ge hk (by omega)), e238 hM, q_bs, if_neg (nI_ge (by omega) (by omega)), m263 ho hM hN hg hk hn, q_bs, nI_1]
        by_cases h : oum H g k = dkm H g
        · rw [if_neg (by rw [h]; exact fun q => q rfl), if_pos h]
        · rw [if_pos (by rw [nI_eq (by omega) (by omega)]; exact h), if_neg h]
      by_cases h : k = fok H g (H.1 4) - 1
      · refine Or.inl ?_
        show c_276_0 n (m + 1) (nI (dkm H g)) (nI k) I L = _
        rw [e1, if_pos (by rw [hd]; unfold oum; rw [h, if_neg s2]), ku_o1 (by omega), h]
      · refine Or.inr ⟨(), Or.inr (by omega), ?_⟩
        show c_276_0 n (m + 1) (nI (dkm H g)) (nI k) I L = _
        rw [e1, if_neg]
        intro q
        unfold oum at q
        by_cases h5 : nou H g (H.1 3) k = 0
        · rw [if_pos h5] at q; omega
        · rw [if_neg h5] at q
          have := s4 k (by omega) h5
          omega
/-- the greatest age; the least that is left, from b on -/
def mxk (H : HD) (g : NG) (r : Nat) : Nat → Nat
  | 0 => 0
  | k + 1 => if mxk H g r k < na H g k r then na H g k r else mxk H g r k
def mnk (H : HD) (g : NG) (r b : Nat) : Nat → Nat
  | 0 => b
  | k + 1 => if na H g k r = 99 then mnk H g r b k else if g.2.1 r - na H g k r < mnk H g r b k then g.2.1 r - na H g k r else mnk H g r b k
theorem na_l (hg : GOK H g) {r : Nat} (hr : r < H.1 4) (t : Nat) : na H g t r ≤ 99 := by
  have := na_b H g r t
  have := hg.2.2.2.2.1 r hr
  omega
theorem mxk_l (hg : GOK H g) {r : Nat} (hr : r < H.1 4) : ∀ k, mxk H g r k ≤ 99
  | 0 => by unfold mxk; omega
  | k + 1 => by
    have := mxk_l hg hr k
    have := na_l hg hr k
    unfold mxk
    split <;> omega
theorem mnk_l (H : HD) (g : NG) (r b : Nat) : ∀ k, mnk H g r b k ≤ b
  | 0 => by unfold mnk; omega
  | k + 1 => by
    have := mnk_l H g r b k
    unfold mnk
    split
    · exact this
    · split <;> omega
theorem c68 (ho : HOK H W A) (hN : NDn I H g) (hg : GOK H g) {r : Nat} (hr : r < H.1 4) (hn : 1000 ≤ n) : f_68 n (nI r) I L = some (nI (mxk H g r (H.1 3))) := by
  have o4 : H.1 4 ≤ 4 := ho.1.2.2.2.2.1
  have o3 : H.1 3 ≤ 30 := ho.1.2.2.2.1
  obtain ⟨s', hs, e⟩ := lpE (fun m k (b : Nat) => c_68_0 n I L m (nI r) (nI b) (nI k)) (H.1 3) (fun k b => b = mxk H g r k) (fun b => some (nI b)) (fun m s hs => by
      show b_68_0 n I L (c_68_0 n I L m) (nI r) (nI s) (nI (H.1 3)) = _
      unfold b_68_0
      rw [hN.1.2.1, if_pos (nI_le (Nat.le_refl _) (by omega))]) (fun m k s hk hs => by
      have h1 := mxk_l hg hr k
      have h2 := na_l hg hr k
      refine ⟨mxk H g r (k + 1), rfl, ?_⟩
      show b_68_0 n I L (c_68_0 n I L m) (nI r) (nI s) (nI k) = c_68_0 n I L m (nI r) (nI (if mxk H g r k < na H g k r then na H g k r else mxk H g r k)) (nI (k + 1))
      unfold b_68_0 f_358
      rw [hN.1.2.1, if_neg (nI_ge hk (by omega)), e60 (by omega) (by omega), q_bs, (hN.2.1 k hk).2.2 r hr, nI_1, hs]
      by_cases h : mxk H g r k < na H g k r
      · rw [if_pos h, if_pos (nI_lt h (by omega)), q_bs]
      · rw [if_neg h, if_neg (nI_nlt (by omega) (by omega)), q_bs]) n 0 0 (by omega) (by omega) rfl
  unfold f_68
  rw [show (0 : Int32) = nI 0 from rfl, e, hs]
theorem m279 (ho : HOK H W A) (hM : MH I 0 H W A) (hN : NMk I H g (H.1 3)) (hg : GOK H g) {r : Nat} (hr : r < H.1 4) (hn : 1000 ≤ n) : c_279_0 n n (nI r) 0 0 I L = some (nI (mxk H g r (H.1 3)), I, L) := by
  have o4 : H.1 4 ≤ 4 := ho.1.2.2.2.2.1
  have o3 : H.1 3 ≤ 30 := ho.1.2.2.2.1
  obtain ⟨s', hs, e⟩ := lpE (fun m k (b : Nat) => c_279_0 n m (nI r) (nI b) (nI k) I L) (H.1 3) (fun k b => b = mxk H g r k) (fun b => some (nI b, I, L)) (fun m s hs => by
      show b_279_0 n (c_279_0 n m) (nI r) (nI s) (nI (H.1 3)) I L = _
      unfold b_279_0
      rw [e238 hM, q_bs, if_pos (nI_le (Nat.le_refl _) (by omega))]) (fun m k s hk hs => by
      have h1 := mxk_l hg hr k
      have h2 := na_l hg hr k
      refine ⟨mxk H g r (k + 1), rfl, ?_⟩
      show b_279_0 n (c_279_0 n m) (nI r) (nI s) (nI k) I L = c_279_0 n m (nI r) (nI (if mxk H g r k < na H g k r then na H g k r else mxk H g r k)) (nI (k + 1)) I L
      unfold b_279_0 c_279_1
      rw [e238 hM, q_bs, if_neg (nI_ge hk (by omega)), ku_4, pk_mul, nI_add, ku_if (by omega) (by omega), ku_if (by omega) (by omega), nI_clamp (by omega), (hN k hk).2.2 r hr, nI_1, hs]
      by_cases h : mxk H g r k < na H g k r
      · rw [if_pos h, if_neg (nI_ge h (by omega))]
      · rw [if_neg h, if_pos (nI_le (by omega) (by omega))]) n 0 0 (by omega) (by omega) rfl
  rw [show (0 : Int32) = nI 0 from rfl, e, hs]
theorem c69 (ho : HOK H W A) (hN : NDn I H g) (hg : GOK H g) {r : Nat} (hr : r < H.1 4) (hn : 1000 ≤ n) : f_69 n (nI r) I L = some (nI (mnk H g r (g.2.1 r) (H.1 3))) := by
  have o4 : H.1 4 ≤ 4 := ho.1.2.2.2.2.1
  have o3 : H.1 3 ≤ 30 := ho.1.2.2.2.1
  have g5 := hg.2.2.2.2.1 r hr
  obtain ⟨s', hs, e⟩ := lpE (fun m k (b : Nat) => c_69_0 n I L m (nI r) (nI b) (nI k)) (H.1 3) (fun k b => b = mnk H g r (g.2.1 r) k) (fun b => some (nI b)) (fun m s hs => by
      show b_69_0 n I L (c_69_0 n I L m) (nI r) (nI s) (nI (H.1 3)) = _
      unfold b_69_0
      rw [hN.1.2.1, if_pos (nI_le (Nat.le_refl _) (by omega))]) (fun m k s hk hs => by
      have h1 := mnk_l H g r (g.2.1 r) k
      have hb := na_b H g r k
      refine ⟨mnk H g r (g.2.1 r) (k + 1), rfl, ?_⟩
      show b_69_0 n I L (c_69_0 n I L m) (nI r) (nI s) (nI k) = c_69_0 n I L m (nI r) (nI (if na H g k r = 99 then mnk H g r (g.2.1 r) k else if g.2.1 r - na H g k r < mnk H g r (g.2.1 r) k then g.2.1 r - na H g k r else mnk H g r (g.2.1 r) k)) (nI (k + 1))
      unfold b_69_0 c_69_1 f_359_1
      rw [hN.1.2.1, if_neg (nI_ge hk (by omega)), e61 (by omega) (by omega) ((hN.2.1 k hk).2.2 r hr) (hN.1.2.2.2.2.2.2.1 r hr) hb g5.2, q_bs, nI_1, hs]
      by_cases h : na H g k r = 99
      · rw [if_pos h, if_pos oI_0, if_pos h]
      · rw [if_neg h, if_neg (by rw [ku_m, ku_on (by omega) (by omega)]; omega), if_neg h]
        by_cases h2 : g.2.1 r - na H g k r < mnk H g r (g.2.1 r) k
        · rw [if_pos h2, if_pos (nI_lt h2 (by omega)), q_bs]
        · rw [if_neg h2, if_neg (nI_nlt (by omega) (by omega)), q_bs]) n 0 (g.2.1 r) (by omega) (by omega) rfl
  unfold f_69
  rw [ku_if (by omega) (by omega), nI_clamp (by omega), hN.1.2.2.2.2.2.2.1 r hr, show (0 : Int32) = nI 0 from rfl, e, hs]
theorem na_0 (hg : GOK H g) {r : Nat} (hr : r < H.1 4) : na H g 0 r ≤ 1 := by
  have g5 := hg.2.2.2.2.1 r hr
  have : agb H g 0 (nw H g 0) 0 r 0 ≤ 1 := by
    unfold agb
    split
    · split
      · omega
      · split <;> omega
    · split <;> omega
  rw [na_z]
  unfold agn
  rw [if_neg (by omega), if_neg (by omega)]
  exact this
theorem mnk_eq (hg : GOK H g) {r : Nat} (hr : r < H.1 4) : ∀ k, mnk H g r 100000 (k + 1) = mnk H g r (g.2.1 r) (k + 1)
  | 0 => by
    have h0 := na_0 hg hr
    have g5 := hg.2.2.2.2.1 r hr
    show (if na H g 0 r = 99 then 100000 else if g.2.1 r - na H g 0 r < 100000 then g.2.1 r - na H g 0 r else 100000) = (if na H g 0 r = 99 then g.2.1 r else if g.2.1 r - na H g 0 r < g.2.1 r then g.2.1 r - na H g 0 r else g.2.1 r)
    rw [if_neg (by omega), if_pos (by omega), if_neg (by omega)]
    split <;> omega
  | k + 1 => by
    have ih := mnk_eq hg hr k
    show (if na H g (k + 1) r = 99 then mnk H g r 100000 (k + 1) else if g.2.1 r - na H g (k + 1) r < mnk H g r 100000 (k + 1) then g.2.1 r - na H g (k + 1) r else mnk H g r 100000 (k + 1)) = (if na H g (k + 1) r = 99 then mnk H g r (g.2.1 r) (k + 1) else if g.2.1 r - na H g (k + 1) r < mnk H g r (g.2.1 r) (k + 1) then g.2.1 r - na H g (k + 1) r else mnk H g r (g.2.1 r) (k + 1))
    rw [ih]
theorem m286 (ho : HOK H W A) (hM : MH I 0 H W A) (hN : NMk I H g (H.1 3)) (hg : GOK H g) (hw : ∀ r, r < H.1 4 → I 104 r = nI (g.2.1 r)) {r : Nat} (hr : r < H.1 4) (h3 : 0 < H.1 3) (hn : 1000 ≤ n) : c_286_0 n n (nI r) 100000 0 I L = some (nI (mnk H g r (g.2.1 r) (H.1 3)), I, L) := by
  have o4 : H.1 4 ≤ 4 := ho.1.2.2.2.2.1
  have o3 : H.1 3 ≤ 30 := ho.1.2.2.2.1
  have g5 := hg.2.2.2.2.1 r hr
  obtain ⟨s', hs, e⟩ := lpE (fun m k (b : Nat) => c_286_0 n m (nI r) (nI b) (nI k) I L) (H.1 3) (fun k b => b = mnk H g r 100000 k) (fun b => some (nI b, I, L)) (fun m s hs => by
      show b_286_0 n (c_286_0 n m) (nI r) (nI s) (nI (H.1 3)) I L = _
      unfold b_286_0
      rw [e238 hM, q_bs, if_pos (nI_le (Nat.le_refl _) (by omega))]) (fun m k s hk hs => by
      have h1 := mnk_l H g r 100000 k
      have hb := na_b H g r k
      refine ⟨mnk H g r 100000 (k + 1), rfl, ?_⟩
      show b_286_0 n (c_286_0 n m) (nI r) (nI s) (nI k) I L = c_286_0 n m (nI r) (nI (if na H g k r = 99 then mnk H g r 100000 k else if g.2.1 r - na H g k r < mnk H g r 100000 k then g.2.1 r - na H g k r else mnk H g r 100000 k)) (nI (k + 1)) I L
      unfold b_286_0 c_286_1 c_286_2
      rw [e238 hM, q_bs, if_neg (nI_ge hk (by omega)), ku_4, pk_mul, nI_add, ku_if (by omega) (by omega), nI_clamp (by omega), (hN k hk).2.2 r hr, nI_1, hs]
      by_cases h : na H g k r = 99
      · rw [if_pos (by rw [h]; rfl), if_pos h]
      · rw [if_neg (by rw [ku_99, nI_eq (by omega) (by omega)]; exact h), if_neg h, ku_if (by omega) (by omega), ku_if (by omega) (by omega), ku_if (by omega) (by omega), ku_if (by omega) (by omega), nI_clamp (by omega), hw r hr, pk_sub (by omega)]
        by_cases h2 : g.2.1 r - na H g k r < mnk H g r 100000 k
        · rw [if_pos h2, if_neg (nI_ge h2 (by omega))]
        · rw [if_neg h2, if_pos (nI_le (by omega) (by omega))]) n 0 100000 (by omega) (by omega) rfl
  obtain ⟨q, hq⟩ : ∃ q, H.1 3 = q + 1 := ⟨H.1 3 - 1, by omega⟩
  rw [show (0 : Int32) = nI 0 from rfl, ku_100k, e, hs, hq, mnk_eq hg hr]
/-- how many minutes he goes -/
def mvk (H : HD) (g : NG) : Nat → Nat
  | 0 => 0
  | k + 1 => if k = 0 ∨ nw H g k = nw H g (k - 1) then mvk H g k else mvk H g k + 1
theorem mvk_1 (H : HD) (g : NG) : mvk H g 1 = 0 := by unfold mvk mvk; rw [if_pos (Or.inl rfl)]
theorem c70 (ho : HOK H W A) (hN : NDn I H g) (hg : GOK H g) (h3 : 0 < H.1 3) (hn : 1000 ≤ n) : f_70 n I L = some (nI (mvk H g (H.1 3))) := by
  have o4 : H.1 4 ≤ 4 := ho.1.2.2.2.2.1
  have o3 : H.1 3 ≤ 30 := ho.1.2.2.2.1
  obtain ⟨s', hs, e⟩ := lpE (fun m k (b : Nat) => c_70_0 n I L m (nI b) (nI k)) (H.1 3) (fun k b => 1 ≤ k ∧ b = mvk H g k) (fun b => some (nI b)) (fun m s hs => by
      show b_70_0 n I L (c_70_0 n I L m) (nI s) (nI (H.1 3)) = _
      unfold b_70_0
      rw [hN.1.2.1, if_pos (nI_le (Nat.le_refl _) (by omega))]) (fun m k s hk hs => by
      have h1 := nw_le ho hg k
      have h2 := nw_le ho hg (k - 1)
      refine ⟨mvk H g (k + 1), ⟨by omega, rfl⟩, ?_⟩
      show b_70_0 n I L (c_70_0 n I L m) (nI s) (nI k) = c_70_0 n I L m (nI (if k = 0 ∨ nw H g k = nw H g (k - 1) then mvk H g k else mvk H g k + 1)) (nI (k + 1))
      unfold b_70_0 c_70_1
      rw [hN.1.2.1, if_neg (nI_ge hk (by omega)), ku_if (by omega) (by omega), ku_1, pk_sub (by omega), ku_if (by omega) (by omega), nI_clamp (by omega), nI_clamp (by omega), (hN.2.1 k hk).1, (hN.2.1 (k - 1) (by omega)).1, nI_add, nI_add, hs.2]
      by_cases h : nw H g k = nw H g (k - 1)
      · rw [if_pos (by rw [h]), if_pos (Or.inr h)]
      · rw [if_neg (by rw [oI_eq (by omega) (by omega)]; exact h), if_neg (fun q => q.elim (by omega) h)]) n 1 0 (by omega) (by omega) ⟨by omega, (mvk_1 H g).symm⟩
  unfold f_70
  rw [show (0 : Int32) = nI 0 from rfl, show (1 : Int32) = nI 1 from rfl, e, hs.2]
theorem m282 (ho : HOK H W A) (hM : MH I 0 H W A) (hN : NMk I H g (H.1 3)) (hg : GOK H g) (h3 : 0 < H.1 3) (hn : 1000 ≤ n) : c_282_0 n n 0 1 I L = some (nI (mvk H g (H.1 3)), I, L) := by
  have o4 : H.1 4 ≤ 4 := ho.1.2.2.2.2.1
  have o3 : H.1 3 ≤ 30 := ho.1.2.2.2.1
  obtain ⟨s', hs, e⟩ := lpE (fun m k (b : Nat) => c_282_0 n m (nI b) (nI k) I L) (H.1 3) (fun k b => 1 ≤ k ∧ b = mvk H g k) (fun b => some (nI b, I, L)) (fun m s hs => by
      show b_282_0 n (c_282_0 n m) (nI s) (nI (H.1 3)) I L = _
      unfold b_282_0
      rw [e238 hM, q_bs, if_pos (nI_le (Nat.le_refl _) (by omega))]) (fun m k s hk hs => by
      have h1 := nw_le ho hg k
      have h2 := nw_le ho hg (k - 1)
      refine ⟨mvk H g (k + 1), ⟨by omega, rfl⟩, ?_⟩
      show b_282_0 n (c_282_0 n m) (nI s) (nI k) I L = c_282_0 n m (nI (if k = 0 ∨ nw H g k = nw H g (k - 1) then mvk H g k else mvk H g k + 1)) (nI (k + 1)) I L
      unfold b_282_0 c_282_1
      rw [e238 hM, q_bs, if_neg (nI_ge hk (by omega)), ku_if (by omega) (by omega), ku_1, pk_sub (by omega), ku_if (by omega) (by omega), nI_clamp (by omega), nI_clamp (by omega), (hN k hk).1, (hN (k - 1) (by omega)).1, nI_add, hs.2]
      by_cases h : nw H g k = nw H g (k - 1)
      · rw [if_pos (by rw [h]), if_pos (Or.inr h), ku_0, nI_add]; rfl
      · rw [if_neg (by rw [oI_eq (by omega) (by omega)]; exact h), if_neg (fun q => q.elim (by omega) h), nI_add]) n 1 0 (by omega) (by omega) ⟨by omega, (mvk_1 H g).symm⟩
  rw [show (0 : Int32) = nI 0 from rfl, show (1 : Int32) = nI 1 from rfl, e, hs.2]
/-- rooms that he enters -/
def enk (H : HD) (g : NG) : Nat → Nat
  | 0 => 0
  | k + 1 => if nw H g k = 0 then enk H g k else enk H g k ||| 2 ^ (nw H g k - 1)
theorem c71 (ho : HOK H W A) (hN : NDn I H g) (hg : GOK H g) (hn : 1000 ≤ n) : f_71 n I L = some (nI (enk H g (H.1 3))) := by
  have o4 : H.1 4 ≤ 4 := ho.1.2.2.2.2.1
  have o3 : H.1 3 ≤ 30 := ho.1.2.2.2.1
  obtain ⟨s', hs, e⟩ := lpE (fun m k (b : Nat) => c_71_0 n I L m (nI b) (nI k)) (H.1 3) (fun k b => b = enk H g k) (fun b => some (nI b)) (fun m s hs => by
      show b_71_0 n I L (c_71_0 n I L m) (nI s) (nI (H.1 3)) = _
      unfold b_71_0
      rw [hN.1.2.1, if_pos (nI_le (Nat.le_refl _) (by omega))]) (fun m k s hk hs => by
      have h1 := nw_le ho hg k
      refine ⟨enk H g (k + 1), rfl, ?_⟩
      show b_71_0 n I L (c_71_0 n I L m) (nI s) (nI k) = c_71_0 n I L m (nI (if nw H g k = 0 then enk H g k else enk H g k ||| 2 ^ (nw H g k - 1))) (nI (k + 1))
      unfold b_71_0 c_71_1
      rw [hN.1.2.1, if_neg (nI_ge hk (by omega)), ku_if (by omega) (by omega), ku_if (by omega) (by omega), nI_clamp (by omega), (hN.2.1 k hk).1, nI_1, hs]
      by_cases h : nw H g k = 0
      · rw [if_pos (by rw [h, oI_0]), if_pos h]
      · rw [if_neg (by rw [oI_m1 (by omega)]; exact h), if_neg h, ku_o1 (a := nw H g k) (by omega), ku_or (by omega)]) n 0 0 (by omega) (by omega) rfl
  unfold f_71
  rw [show (0 : Int32) = nI 0 from rfl, e, hs]
theorem enk_0 (H : HD) (g : NG) (h : ∀ t, nw H g t = 0) : ∀ k, enk H g k = 0
  | 0 => rfl
  | k + 1 => by unfold enk; rw [if_pos (h k), enk_0 H g h k]
theorem m284 (ho : HOK H W A) (hM : MH I 0 H W A) (hN : NMk I H g (H.1 3)) (hg : GOK H g) (hn : 1000 ≤ n) : c_284_0 n n 0 0 I L = some (nI (enk H g (H.1 3)), I, L) := by
  have o4 : H.1 4 ≤ 4 := ho.1.2.2.2.2.1
  have o3 : H.1 3 ≤ 30 := ho.1.2.2.2.1
  by_cases z : H.1 4 = 0
  · rw [enk_0 H g (fun t => by have := nw_le ho hg t; omega)]
    obtain ⟨m, rfl⟩ : ∃ m, n = m + 1 := ⟨n - 1, by omega⟩
    show b_284_0 (m + 1) (c_284_0 (m + 1) m) 0 0 I L = _
    unfold b_284_0
    rw [e238 hM, q_bs, e237 hM, q_bs, z, if_pos (show nI 0 ≤ 0 by decide)]
    split <;> rfl
  · obtain ⟨s', hs, e⟩ := lpE (fun m k (b : Nat) => c_284_0 n m (nI b) (nI k) I L) (H.1 3) (fun k b => b = enk H g k) (fun b => some (nI b, I, L)) (fun m s hs => by
        show b_284_0 n (c_284_0 n m) (nI s) (nI (H.1 3)) I L = _
        unfold b_284_0
        rw [e238 hM, q_bs, if_pos (nI_le (Nat.le_refl _) (by omega))]) (fun m k s hk hs => by
        have h1 := nw_le ho hg k
        refine ⟨enk H g (k + 1), rfl, ?_⟩
        show b_284_0 n (c_284_0 n m) (nI s) (nI k) I L = c_284_0 n m (nI (if nw H g k = 0 then enk H g k else enk H g k ||| 2 ^ (nw H g k - 1))) (nI (k + 1)) I L
        unfold b_284_0
        rw [e238 hM, q_bs, if_neg (nI_ge hk (by omega)), e237 hM, q_bs, if_neg (nI_nle (by omega) (by omega)), ku_if (by omega) (by omega), nI_clamp (by omega), (hN k hk).1, nI_1, hs, if_neg (by omega), ku_o1 (a := nw H g k) (by omega), ku_or (by omega)]) n 0 0 (by omega) (by omega) rfl
    rw [show (0 : Int32) = nI 0 from rfl, e, hs]
theorem c64 (ho : HOK H W A) (hN : NDn I H g) (hg : GOK H g) (h3 : 0 < H.1 3) (hn : 1000 ≤ n) : f_64 n I L = some (nI (brn H g (H.1 3 - 1))) := by
  have o3 : H.1 3 ≤ 30 := ho.1.2.2.2.1
  unfold f_64
  rw [hN.1.2.1, if_neg (nI_nle h3 (by omega)), ku_1, pk_sub (by omega), c63 ho hN hg (by omega) hn, q_bs]
theorem oum_st (H : HD) (g : NG) (r : Nat) (h3 : 0 < H.1 3) : oum H g r = H.1 3 ↔ na H g (H.1 3 - 1) r ≠ 99 := by
  have hl := nou_le H g (H.1 3) r
  unfold oum
  by_cases h : nou H g (H.1 3) r = 0
  · rw [if_pos h]
    refine ⟨fun _ q => ?_, fun _ => rfl⟩
    have := fnd_0.mp h (H.1 3 - 1) (by omega)
    rw [q] at this
    exact absurd this (by decide)
  · rw [if_neg h]
    refine ⟨fun e => absurd e (by omega), fun e => ?_⟩
    obtain ⟨j, hj⟩ : ∃ j, nou H g (H.1 3) r = j + 1 := ⟨nou H g (H.1 3) r - 1, by omega⟩
    have hj2 := fnd_s.mp hj
    have h5 : na H g j r = 99 := by simpa using hj2.2.1
    have h6 := na_99m H g r j h5 (H.1 3 - 1 - j)
    rw [show j + (H.1 3 - 1 - j) = H.1 3 - 1 by omega] at h6
    exact absurd h6 e
theorem m285 (ho : HOK H W A) (hM : MH I 0 H W A) (hN : NMk I H g (H.1 3)) (hg : GOK H g) (h3 : 0 < H.1 3) (hn : 1000 ≤ n) : c_285_0 n n 0 0 I L = some (nI (brn H g (H.1 3 - 1)), I, L) := by
  have o4 : H.1 4 ≤ 4 := ho.1.2.2.2.2.1
  have o3 : H.1 3 ≤ 30 := ho.1.2.2.2.1
  obtain ⟨s', hs, e⟩ := lpE (fun m k (b : Nat) => c_285_0 n m (nI b) (nI k) I L) (H.1 4) (fun k b => b = brk H g (H.1 3 - 1) k) (fun b => some (nI b, I, L)) (fun m s hs => by
      show b_285_0 n (c_285_0 n m) (nI s) (nI (H.1 4)) I L = _
      unfold b_285_0
      rw [e237 hM, q_bs, if_pos (nI_le (Nat.le_refl _) (by omega))]) (fun m k s hk hs => by
      have h1 := oum_le H g k
      have h2 := oum_st H g k h3
      refine ⟨brk H g (H.1 3 - 1) (k + 1), rfl, ?_⟩
      show b_285_0 n (c_285_0 n m) (nI s) (nI k) I L = c_285_0 n m (nI (if na H g (H.1 3 - 1) k = 99 then brk H g (H.1 3 - 1) k else brk H g (H.1 3 - 1) k ||| 2 ^ k)) (nI (k + 1)) I L
      unfold b_285_0 c_285_1
      rw [e237 hM, q_bs, if_neg (nI_ge hk (by omega)), m263 ho hM hN hg hk hn, q_bs, e238 hM, q_bs, nI_1, hs]
      by_cases h : na H g (H.1 3 - 1) k = 99
      · rw [if_pos h, if_pos (by rw [nI_eq (by omega) (by omega)]; exact fun q => h2.mp q h), ku_0, fa_or, Nat.or_zero]
      · rw [if_neg h, if_neg (by rw [h2.mpr h]; exact fun q => q rfl), ku_or (by omega)]) n 0 0 (by omega) (by omega) rfl
  rw [show (0 : Int32) = nI 0 from rfl, e, hs]; rfl
theorem m283 (ho : HOK H W A) (hM : MH I 0 H W A) (hN : NMk I H g (H.1 3)) (hg : GOK H g) (hw : ∀ r, r < H.1 4 → I 104 r = nI (g.2.1 r)) {t : Nat} (ht : t < H.1 3) (hn : 1000 ≤ n) : ∃ M, c_283_0 n n (nI t) 0 I L = some (oI (urg g.2.1 (na H g t) (H.1 4)), M, L) ∧ ∀ c i, c ≠ 105 → M c i = I c i := by
  have o4 : H.1 4 ≤ 4 := ho.1.2.2.2.2.1
  have o3 : H.1 3 ≤ 30 := ho.1.2.2.2.1
  obtain ⟨M, ⟨_, m2⟩, e⟩ := lpE (fun m k (s : FI) => c_283_0 n m (nI t) (nI k) s L) (H.1 4) (fun k s => (∀ r, r < k → s 105 r = nI (na H g t r)) ∧ ∀ c i, c ≠ 105 → s c i = I c i) (fun s => some (oI (urg g.2.1 (na H g t) (H.1 4)), s, L)) (fun m s hs => by
      have hMs : MH s 0 H W A := MH_fr ho hM (fun c hc i => hs.2 c i (by omega))
      show b_283_0 n (c_283_0 n m) (nI t) (nI (H.1 4)) s L = _
      unfold b_283_0
      rw [e237 hMs, q_bs, if_pos (nI_le (Nat.le_refl _) (by omega)), e254 ho hMs (fun r hr => by rw [hs.2 104 r (by decide)]; exact hw r hr) hs.1 (fun r hr => ⟨na_b H g r t, (hg.2.2.2.2.1 r hr).2⟩) hn, q_bs]) (fun m k s hk hs => by
      have hMs : MH s 0 H W A := MH_fr ho hM (fun c hc i => hs.2 c i (by omega))
      refine ⟨u2 s 105 k (nI (na H g t k)), ⟨fun r hr => ?_, fun c i hc => ?_⟩, ?_⟩
      · by_cases e : r = k
        · subst e; exact u2_s
        · rw [u2_o e]; exact hs.1 r (by omega)
      · rw [u2_c hc]; exact hs.2 c i hc
      · show b_283_0 n (c_283_0 n m) (nI t) (nI k) s L = _
        unfold b_283_0
        rw [e237 hMs, q_bs, if_neg (nI_ge hk (by omega)), ku_4, pk_mul, nI_add, ku_if (by omega) (by omega), ku_if (by omega) (by omega), nI_clamp (by omega), nI_clamp (by omega), hs.2 106 _ (by decide), (hN t ht).2.2 k hk, nI_1]) n 0 I (by omega) (by omega) ⟨fun r hr => absurd hr (by omega), fun _ _ _ => rfl⟩
  exact ⟨M, e, m2⟩
end RD
section Q1
variable {KP : KPT} {RP : RPT} {Ls : Nat} {xs : Nat → Int32} {a1 a2 a3 a4 a5 : Int32}
theorem sk_at : SOK Ls xs (VV KP RP) 121 270 [.int a1, .int a2] := by
  intro kp nh rh tl rl I L hV
  have hV0 := hV
  obtain ⟨H, W, A, ⟨hT, hF, ho, hC, hM, hIm, hRw⟩, hR, hW⟩ := hV
  have o0 : H.1 0 ≤ 1000 := ho.1.1
  have o3 : H.1 3 ≤ 30 := ho.1.2.2.2.1
  have o4 : H.1 4 ≤ 4 := ho.1.2.2.2.2.1
  have c0 : I 3 0 = nI (H.1 0) := chs hC (by decide)
  have c3 : I 3 3 = nI (H.1 3) := chs hC (by decide)
  have c4 : I 3 4 = nI (H.1 4) := chs hC (by decide)
  have m0 : u2 I 89 0 0 95 0 = nI (H.1 0) := (u2_c (by decide)).trans hM.1
  have m3 : u2 I 89 0 0 96 2 = nI (H.1 3) := (u2_c (by decide)).trans (mh96 hM (by decide))
  have m4 : u2 I 89 0 0 96 3 = nI (H.1 4) := (u2_c (by decide)).trans (mh96 hM (by decide))
  rcases q_arg a1 (n := 2) (by omega) with h1 | ⟨md, hmd, rfl⟩
  · exact ⟨-2, kp, nh, rh, tl, rl, I, L, u2 I 89 0 0, L, (t_121 Ls xs 993 kp tl rl nh rh 2000 a1 a2 I L (-2, nh, I, L) (by unfold f_121; rw [e181n c0 o0 (Or.inr h1), q_bs, q_00])), (t_270 Ls xs 993 kp tl rl nh rh 2000 a1 a2 I L (-2, u2 I 89 0 0, L) (by unfold f_270; rw [e243n m3 o3 (Or.inl h1), q_bs, q_n00])), VV_th hV0⟩
  · by_cases h0 : H.1 0 = 0
    · have hz := ho.2.2.2.2.2.2.1 h0
      exact ⟨-2, kp, nh, rh, tl, rl, I, L, u2 I 89 0 0, L, (t_121 Ls xs 993 kp tl rl nh rh 2000 (nI md) a2 I L (-2, nh, I, L) (by unfold f_121; rw [e181n c0 o0 (Or.inl h0), q_bs, q_00])), (t_270 Ls xs 993 kp tl rl nh rh 2000 (nI md) a2 I L (-2, u2 I 89 0 0, L) (by unfold f_270; rw [e243n m3 o3 (Or.inr (by omega)), q_bs, q_n00])), VV_th hV0⟩
    · rcases q_arg a2 (n := H.1 3) (by omega) with h2 | ⟨t, ht, rfl⟩
      · exact ⟨-2, kp, nh, rh, tl, rl, I, L, u2 I 89 0 0, L, (t_121 Ls xs 993 kp tl rl nh rh 2000 (nI md) a2 I L (-2, nh, I, L) (by unfold f_121; rw [e181y c0 o0 (by omega) hmd, q_bs, q_11, e180n c3 o3 h2, q_bs, q_n00])), (t_270 Ls xs 993 kp tl rl nh rh 2000 (nI md) a2 I L (-2, u2 I 89 0 0, L) (by unfold f_270; rw [e243n m3 o3 (Or.inr h2), q_bs, q_n00])), VV_th hV0⟩
      · obtain ⟨J, j1, j2, j3, j4⟩ := tonC (n := 2000) (L := L) ho hC hmd (by omega)
        have hMJ : MH (u2 J 89 0 0) 0 H W A := MH_th (MH_fr ho hM (fun c hc i => j4 c i (by omega)))
        obtain ⟨K, k1, k2, k3, k4, k5, k6⟩ := tonM (n := 2000) (L := L) ho hMJ hmd (by omega)
        have hg := gN_ok ho hmd
        have q0 : u2 J 89 0 0 95 0 = nI (H.1 0) := hMJ.1
        have q3 : u2 J 89 0 0 96 2 = nI (H.1 3) := mh96 hMJ (by decide)
        have q4 : u2 J 89 0 0 96 3 = nI (H.1 4) := mh96 hMJ (by decide)
        refine ⟨oI (nw H (gN H A md) t), kp, some 3, rh, tl, rl, J, L, K, L, (t_121 Ls xs 993 kp tl rl nh rh 2000 (nI md) (nI t) I L (oI (nw H (gN H A md) t), some 3, J, L) ?_), (t_270 Ls xs 993 kp tl rl (some 3) rh 2000 (nI md) (nI t) J L (oI (nw H (gN H A md) t), K, L) ?_), VV_q hV0 (fun c i hc => by rw [k5 c i (by omega) (by omega), u2_c (by omega), j4 c i (by omega)]) (fun i hi => by rw [k6 i (by omega), u2_o (by omega), j4 89 i (by omega)])⟩
        · unfold f_121
          rw [e181y c0 o0 (by omega) hmd, q_bs, q_11, e180y c3 o3 ht, q_bs, q_n11, j1, q_bs]
          try dsimp only
          rw [ku_if (by omega) (by omega), nI_clamp (by omega), (j2.2.1 t ht).1]
        · unfold f_270
          rw [e243y q3 o3 hmd ht, q_bs, q_n11, k1, q_bs]
          try dsimp only
          rw [ku_if (by omega) (by omega), nI_clamp (by omega), (k2 t ht).1]
theorem sk_age : SOK Ls xs (VV KP RP) 122 271 [.int a1, .int a2, .int a3] := by
  intro kp nh rh tl rl I L hV
  have hV0 := hV
  obtain ⟨H, W, A, ⟨hT, hF, ho, hC, hM, hIm, hRw⟩, hR, hW⟩ := hV
  have o0 : H.1 0 ≤ 1000 := ho.1.1
  have o3 : H.1 3 ≤ 30 := ho.1.2.2.2.1
  have o4 : H.1 4 ≤ 4 := ho.1.2.2.2.2.1
  have c0 : I 3 0 = nI (H.1 0) := chs hC (by decide)
  have c3 : I 3 3 = nI (H.1 3) := chs hC (by decide)
  have c4 : I 3 4 = nI (H.1 4) := chs hC (by decide)
  have m0 : u2 I 89 0 0 95 0 = nI (H.1 0) := (u2_c (by decide)).trans hM.1
  have m3 : u2 I 89 0 0 96 2 = nI (H.1 3) := (u2_c (by decide)).trans (mh96 hM (by decide))
  have m4 : u2 I 89 0 0 96 3 = nI (H.1 4) := (u2_c (by decide)).trans (mh96 hM (by decide))
  rcases q_arg a1 (n := 2) (by omega) with h1 | ⟨md, hmd, rfl⟩
  · exact ⟨-2, kp, nh, rh, tl, rl, I, L, u2 I 89 0 0, L, (t_122 Ls xs 993 kp tl rl nh rh 2000 a1 a2 a3 I L (-2, nh, I, L) (by unfold f_122; rw [e181n c0 o0 (Or.inr h1), q_bs, q_00])), (t_271 Ls xs 993 kp tl rl nh rh 2000 a1 a2 a3 I L (-2, u2 I 89 0 0, L) (by unfold f_271; rw [e244n m4 o4 (Or.inl h1), q_bs, q_00])), VV_th hV0⟩
  · by_cases h0 : H.1 0 = 0
    · have hz := ho.2.2.2.2.2.2.1 h0
      exact ⟨-2, kp, nh, rh, tl, rl, I, L, u2 I 89 0 0, L, (t_122 Ls xs 993 kp tl rl nh rh 2000 (nI md) a2 a3 I L (-2, nh, I, L) (by unfold f_122; rw [e181n c0 o0 (Or.inl h0), q_bs, q_00])), (t_271 Ls xs 993 kp tl rl nh rh 2000 (nI md) a2 a3 I L (-2, u2 I 89 0 0, L) (by unfold f_271; rw [e244n m4 o4 (Or.inr (by omega)), q_bs, q_00])), VV_th hV0⟩
    · rcases q_arg a2 (n := H.1 4) (by omega) with h2 | ⟨r, hr, rfl⟩
      · exact ⟨-2, kp, nh, rh, tl, rl, I, L, u2 I 89 0 0, L, (t_122 Ls xs 993 kp tl rl nh rh 2000 (nI md) a2 a3 I L (-2, nh, I, L) (by unfold f_122; rw [e181y c0 o0 (by omega) hmd, q_bs, q_11, e178n c4 o4 h2, q_bs, q_00])), (t_271 Ls xs 993 kp tl rl nh rh 2000 (nI md) a2 a3 I L (-2, u2 I 89 0 0, L) (by unfold f_271; rw [e244n m4 o4 (Or.inr h2), q_bs, q_00])), VV_th hV0⟩
      · rcases q_arg a3 (n := H.1 3) (by omega) with h3 | ⟨t, ht, rfl⟩
        · exact ⟨-2, kp, nh, rh, tl, rl, I, L, u2 I 89 0 0, L, (t_122 Ls xs 993 kp tl rl nh rh 2000 (nI md) (nI r) a3 I L (-2, nh, I, L) (by unfold f_122; rw [e181y c0 o0 (by omega) hmd, q_bs, q_11, e178y c4 o4 hr, q_bs, q_11, e180n c3 o3 h3, q_bs, q_n00])), (t_271 Ls xs 993 kp tl rl nh rh 2000 (nI md) (nI r) a3 I L (-2, u2 I 89 0 0, L) (by unfold f_271; rw [e244y m4 o4 hmd hr, q_bs, q_11, e241n m3 o3 h3, q_bs, q_n00])), VV_th hV0⟩
        · obtain ⟨J, j1, j2, j3, j4⟩ := tonC (n := 2000) (L := L) ho hC hmd (by omega)
          have hMJ : MH (u2 J 89 0 0) 0 H W A := MH_th (MH_fr ho hM (fun c hc i => j4 c i (by omega)))
          obtain ⟨K, k1, k2, k3, k4, k5, k6⟩ := tonM (n := 2000) (L := L) ho hMJ hmd (by omega)
          have hg := gN_ok ho hmd
          have q0 : u2 J 89 0 0 95 0 = nI (H.1 0) := hMJ.1
          have q3 : u2 J 89 0 0 96 2 = nI (H.1 3) := mh96 hMJ (by decide)
          have q4 : u2 J 89 0 0 96 3 = nI (H.1 4) := mh96 hMJ (by decide)
          refine ⟨nI (na H (gN H A md) t r), kp, some 3, rh, tl, rl, J, L, K, L, (t_122 Ls xs 993 kp tl rl nh rh 2000 (nI md) (nI r) (nI t) I L (nI (na H (gN H A md) t r), some 3, J, L) ?_), (t_271 Ls xs 993 kp tl rl (some 3) rh 2000 (nI md) (nI r) (nI t) J L (nI (na H (gN H A md) t r), K, L) ?_), VV_q hV0 (fun c i hc => by rw [k5 c i (by omega) (by omega), u2_c (by omega), j4 c i (by omega)]) (fun i hi => by rw [k6 i (by omega), u2_o (by omega), j4 89 i (by omega)])⟩
          · unfold f_122
            rw [e181y c0 o0 (by omega) hmd, q_bs, q_11, e178y c4 o4 hr, q_bs, q_11, e180y c3 o3 ht, q_bs, q_n11, j1, q_bs]
            try dsimp only
            rw [e60 (by omega) (by omega), q_bs, (j2.2.1 t ht).2.2 r hr]
          · unfold f_271
            rw [e244y q4 o4 hmd hr, q_bs, q_11, e241y q3 o3 ht, q_bs, q_n11, k1, q_bs]
            try dsimp only
            rw [ku_4, pk_mul, nI_add, ku_if (by omega) (by omega), nI_clamp (by omega), (k2 t ht).2.2 r hr]
theorem sk_left : SOK Ls xs (VV KP RP) 123 272 [.int a1, .int a2, .int a3] := by
  intro kp nh rh tl rl I L hV
  have hV0 := hV
  obtain ⟨H, W, A, ⟨hT, hF, ho, hC, hM, hIm, hRw⟩, hR, hW⟩ := hV
  have o0 : H.1 0 ≤ 1000 := ho.1.1
  have o3 : H.1 3 ≤ 30 := ho.1.2.2.2.1
  have o4 : H.1 4 ≤ 4 := ho.1.2.2.2.2.1
  have c0 : I 3 0 = nI (H.1 0) := chs hC (by decide)
  have c3 : I 3 3 = nI (H.1 3) := chs hC (by decide)
  have c4 : I 3 4 = nI (H.1 4) := chs hC (by decide)
  have m0 : u2 I 89 0 0 95 0 = nI (H.1 0) := (u2_c (by decide)).trans hM.1
  have m3 : u2 I 89 0 0 96 2 = nI (H.1 3) := (u2_c (by decide)).trans (mh96 hM (by decide))
  have m4 : u2 I 89 0 0 96 3 = nI (H.1 4) := (u2_c (by decide)).trans (mh96 hM (by decide))
  rcases q_arg a1 (n := 2) (by omega) with h1 | ⟨md, hmd, rfl⟩
  · exact ⟨-2, kp, nh, rh, tl, rl, I, L, u2 I 89 0 0, L, (t_123 Ls xs 993 kp tl rl nh rh 2000 a1 a2 a3 I L (-2, nh, I, L) (by unfold f_123; rw [e181n c0 o0 (Or.inr h1), q_bs, q_00])), (t_272 Ls xs 993 kp tl rl nh rh 2000 a1 a2 a3 I L (-2, u2 I 89 0 0, L) (by unfold f_272; rw [e244n m4 o4 (Or.inl h1), q_bs, q_00])), VV_th hV0⟩
  · by_cases h0 : H.1 0 = 0
    · have hz := ho.2.2.2.2.2.2.1 h0
      exact ⟨-2, kp, nh, rh, tl, rl, I, L, u2 I 89 0 0, L, (t_123 Ls xs 993 kp tl rl nh rh 2000 (nI md) a2 a3 I L (-2, nh, I, L) (by unfold f_123; rw [e181n c0 o0 (Or.inl h0), q_bs, q_00])), (t_272 Ls xs 993 kp tl rl nh rh 2000 (nI md) a2 a3 I L (-2, u2 I 89 0 0, L) (by unfold f_272; rw [e244n m4 o4 (Or.inr (by omega)), q_bs, q_00])), VV_th hV0⟩
    · rcases q_arg a2 (n := H.1 4) (by omega) with h2 | ⟨r, hr, rfl⟩
      · exact ⟨-2, kp, nh, rh, tl, rl, I, L, u2 I 89 0 0, L, (t_123 Ls xs 993 kp tl rl nh rh 2000 (nI md) a2 a3 I L (-2, nh, I, L) (by unfold f_123; rw [e181y c0 o0 (by omega) hmd, q_bs, q_11, e178n c4 o4 h2, q_bs, q_00])), (t_272 Ls xs 993 kp tl rl nh rh 2000 (nI md) a2 a3 I L (-2, u2 I 89 0 0, L) (by unfold f_272; rw [e244n m4 o4 (Or.inr h2), q_bs, q_00])), VV_th hV0⟩
      · rcases q_arg a3 (n := H.1 3) (by omega) with h3 | ⟨t, ht, rfl⟩
        · exact ⟨-2, kp, nh, rh, tl, rl, I, L, u2 I 89 0 0, L, (t_123 Ls xs 993 kp tl rl nh rh 2000 (nI md) (nI r) a3 I L (-2, nh, I, L) (by unfold f_123; rw [e181y c0 o0 (by omega) hmd, q_bs, q_11, e178y c4 o4 hr, q_bs, q_11, e180n c3 o3 h3, q_bs, q_n00])), (t_272 Ls xs 993 kp tl rl nh rh 2000 (nI md) (nI r) a3 I L (-2, u2 I 89 0 0, L) (by unfold f_272; rw [e244y m4 o4 hmd hr, q_bs, q_11, e241n m3 o3 h3, q_bs, q_n00])), VV_th hV0⟩
        · obtain ⟨J, j1, j2, j3, j4⟩ := tonC (n := 2000) (L := L) ho hC hmd (by omega)
          have hMJ : MH (u2 J 89 0 0) 0 H W A := MH_th (MH_fr ho hM (fun c hc i => j4 c i (by omega)))
          obtain ⟨K, k1, k2, k3, k4, k5, k6⟩ := tonM (n := 2000) (L := L) ho hMJ hmd (by omega)
          have hg := gN_ok ho hmd
          have q0 : u2 J 89 0 0 95 0 = nI (H.1 0) := hMJ.1
          have q3 : u2 J 89 0 0 96 2 = nI (H.1 3) := mh96 hMJ (by decide)
          have q4 : u2 J 89 0 0 96 3 = nI (H.1 4) := mh96 hMJ (by decide)
          refine ⟨if na H (gN H A md) t r = 99 then oI 0 else nI (H.2 0 r - na H (gN H A md) t r), kp, some 3, rh, tl, rl, J, L, K, L, (t_123 Ls xs 993 kp tl rl nh rh 2000 (nI md) (nI r) (nI t) I L (if na H (gN H A md) t r = 99 then oI 0 else nI (H.2 0 r - na H (gN H A md) t r), some 3, J, L) ?_), (t_272 Ls xs 993 kp tl rl (some 3) rh 2000 (nI md) (nI r) (nI t) J L (if na H (gN H A md) t r = 99 then oI 0 else nI (H.2 0 r - na H (gN H A md) t r), K, L) ?_), VV_q hV0 (fun c i hc => by rw [k5 c i (by omega) (by omega), u2_c (by omega), j4 c i (by omega)]) (fun i hi => by rw [k6 i (by omega), u2_o (by omega), j4 89 i (by omega)])⟩
          · unfold f_123
            rw [e181y c0 o0 (by omega) hmd, q_bs, q_11, e178y c4 o4 hr, q_bs, q_11, e180y c3 o3 ht, q_bs, q_n11, j1, q_bs]
            try dsimp only
            rw [e61 (by omega) (by omega) ((j2.2.1 t ht).2.2 r hr) (j2.1.2.2.2.2.2.2.1 r hr) (na_b H _ r t) (hg.2.2.2.2.1 r hr).2, q_bs]; rfl
          · unfold f_272
            rw [e244y q4 o4 hmd hr, q_bs, q_11, e241y q3 o3 ht, q_bs, q_n11, k1, q_bs]
            try dsimp only
            rw [ku_4, pk_mul, nI_add, ku_if (by omega) (by omega), nI_clamp (by omega)]
            exact mleft (na_b H _ r t) (hg.2.2.2.2.1 r hr).2 (k3 r hr) (by omega) (by omega) ((k2 t ht).2.2 r hr)
theorem sk_burns : SOK Ls xs (VV KP RP) 124 273 [.int a1, .int a2] := by
  intro kp nh rh tl rl I L hV
  have hV0 := hV
  obtain ⟨H, W, A, ⟨hT, hF, ho, hC, hM, hIm, hRw⟩, hR, hW⟩ := hV
  have o0 : H.1 0 ≤ 1000 := ho.1.1
  have o3 : H.1 3 ≤ 30 := ho.1.2.2.2.1
  have o4 : H.1 4 ≤ 4 := ho.1.2.2.2.2.1
  have c0 : I 3 0 = nI (H.1 0) := chs hC (by decide)
  have c3 : I 3 3 = nI (H.1 3) := chs hC (by decide)
  have c4 : I 3 4 = nI (H.1 4) := chs hC (by decide)
  have m0 : u2 I 89 0 0 95 0 = nI (H.1 0) := (u2_c (by decide)).trans hM.1
  have m3 : u2 I 89 0 0 96 2 = nI (H.1 3) := (u2_c (by decide)).trans (mh96 hM (by decide))
  have m4 : u2 I 89 0 0 96 3 = nI (H.1 4) := (u2_c (by decide)).trans (mh96 hM (by decide))
  rcases q_arg a1 (n := 2) (by omega) with h1 | ⟨md, hmd, rfl⟩
  · exact ⟨-2, kp, nh, rh, tl, rl, I, L, u2 I 89 0 0, L, (t_124 Ls xs 993 kp tl rl nh rh 2000 a1 a2 I L (-2, nh, I, L) (by unfold f_124; rw [e181n c0 o0 (Or.inr h1), q_bs, q_00])), (t_273 Ls xs 993 kp tl rl nh rh 2000 a1 a2 I L (-2, u2 I 89 0 0, L) (by unfold f_273; rw [e243n m3 o3 (Or.inl h1), q_bs, q_n00])), VV_th hV0⟩
  · by_cases h0 : H.1 0 = 0
    · have hz := ho.2.2.2.2.2.2.1 h0
      exact ⟨-2, kp, nh, rh, tl, rl, I, L, u2 I 89 0 0, L, (t_124 Ls xs 993 kp tl rl nh rh 2000 (nI md) a2 I L (-2, nh, I, L) (by unfold f_124; rw [e181n c0 o0 (Or.inl h0), q_bs, q_00])), (t_273 Ls xs 993 kp tl rl nh rh 2000 (nI md) a2 I L (-2, u2 I 89 0 0, L) (by unfold f_273; rw [e243n m3 o3 (Or.inr (by omega)), q_bs, q_n00])), VV_th hV0⟩
    · rcases q_arg a2 (n := H.1 3) (by omega) with h2 | ⟨t, ht, rfl⟩
      · exact ⟨-2, kp, nh, rh, tl, rl, I, L, u2 I 89 0 0, L, (t_124 Ls xs 993 kp tl rl nh rh 2000 (nI md) a2 I L (-2, nh, I, L) (by unfold f_124; rw [e181y c0 o0 (by omega) hmd, q_bs, q_11, e180n c3 o3 h2, q_bs, q_n00])), (t_273 Ls xs 993 kp tl rl nh rh 2000 (nI md) a2 I L (-2, u2 I 89 0 0, L) (by unfold f_273; rw [e243n m3 o3 (Or.inr h2), q_bs, q_n00])), VV_th hV0⟩
      · obtain ⟨J, j1, j2, j3, j4⟩ := tonC (n := 2000) (L := L) ho hC hmd (by omega)
        have hMJ : MH (u2 J 89 0 0) 0 H W A := MH_th (MH_fr ho hM (fun c hc i => j4 c i (by omega)))
        obtain ⟨K, k1, k2, k3, k4, k5, k6⟩ := tonM (n := 2000) (L := L) ho hMJ hmd (by omega)
        have hg := gN_ok ho hmd
        have q0 : u2 J 89 0 0 95 0 = nI (H.1 0) := hMJ.1
        have q3 : u2 J 89 0 0 96 2 = nI (H.1 3) := mh96 hMJ (by decide)
        have q4 : u2 J 89 0 0 96 3 = nI (H.1 4) := mh96 hMJ (by decide)
        refine ⟨nI (brn H (gN H A md) t), kp, some 3, rh, tl, rl, J, L, K, L, (t_124 Ls xs 993 kp tl rl nh rh 2000 (nI md) (nI t) I L (nI (brn H (gN H A md) t), some 3, J, L) ?_), (t_273 Ls xs 993 kp tl rl (some 3) rh 2000 (nI md) (nI t) J L (nI (brn H (gN H A md) t), K, L) ?_), VV_q hV0 (fun c i hc => by rw [k5 c i (by omega) (by omega), u2_c (by omega), j4 c i (by omega)]) (fun i hi => by rw [k6 i (by omega), u2_o (by omega), j4 89 i (by omega)])⟩
        · unfold f_124
          rw [e181y c0 o0 (by omega) hmd, q_bs, q_11, e180y c3 o3 ht, q_bs, q_n11, j1, q_bs]
          try dsimp only
          rw [c63 ho j2 hg ht (by omega), q_bs]
        · unfold f_273
          rw [e243y q3 o3 hmd ht, q_bs, q_n11, k1, q_bs]
          try dsimp only
          rw [m262 ho k4 k2 hg ht (by omega), q_bs]
theorem sk_out : SOK Ls xs (VV KP RP) 125 274 [.int a1, .int a2] := by
  intro kp nh rh tl rl I L hV
  have hV0 := hV
  obtain ⟨H, W, A, ⟨hT, hF, ho, hC, hM, hIm, hRw⟩, hR, hW⟩ := hV
  have o0 : H.1 0 ≤ 1000 := ho.1.1
  have o3 : H.1 3 ≤ 30 := ho.1.2.2.2.1
  have o4 : H.1 4 ≤ 4 := ho.1.2.2.2.2.1
  have c0 : I 3 0 = nI (H.1 0) := chs hC (by decide)
  have c3 : I 3 3 = nI (H.1 3) := chs hC (by decide)
  have c4 : I 3 4 = nI (H.1 4) := chs hC (by decide)
  have m0 : u2 I 89 0 0 95 0 = nI (H.1 0) := (u2_c (by decide)).trans hM.1
  have m3 : u2 I 89 0 0 96 2 = nI (H.1 3) := (u2_c (by decide)).trans (mh96 hM (by decide))
  have m4 : u2 I 89 0 0 96 3 = nI (H.1 4) := (u2_c (by decide)).trans (mh96 hM (by decide))
  rcases q_arg a1 (n := 2) (by omega) with h1 | ⟨md, hmd, rfl⟩
  · exact ⟨-2, kp, nh, rh, tl, rl, I, L, u2 I 89 0 0, L, (t_125 Ls xs 993 kp tl rl nh rh 2000 a1 a2 I L (-2, nh, I, L) (by unfold f_125; rw [e181n c0 o0 (Or.inr h1), q_bs, q_00])), (t_274 Ls xs 993 kp tl rl nh rh 2000 a1 a2 I L (-2, u2 I 89 0 0, L) (by unfold f_274; rw [e244n m4 o4 (Or.inl h1), q_bs, q_n00])), VV_th hV0⟩
  · by_cases h0 : H.1 0 = 0
    · have hz := ho.2.2.2.2.2.2.1 h0
      exact ⟨-2, kp, nh, rh, tl, rl, I, L, u2 I 89 0 0, L, (t_125 Ls xs 993 kp tl rl nh rh 2000 (nI md) a2 I L (-2, nh, I, L) (by unfold f_125; rw [e181n c0 o0 (Or.inl h0), q_bs, q_00])), (t_274 Ls xs 993 kp tl rl nh rh 2000 (nI md) a2 I L (-2, u2 I 89 0 0, L) (by unfold f_274; rw [e244n m4 o4 (Or.inr (by omega)), q_bs, q_n00])), VV_th hV0⟩
    · rcases q_arg a2 (n := H.1 4) (by omega) with h2 | ⟨r, hr, rfl⟩
      · exact ⟨-2, kp, nh, rh, tl, rl, I, L, u2 I 89 0 0, L, (t_125 Ls xs 993 kp tl rl nh rh 2000 (nI md) a2 I L (-2, nh, I, L) (by unfold f_125; rw [e181y c0 o0 (by omega) hmd, q_bs, q_11, e178n c4 o4 h2, q_bs, q_n00])), (t_274 Ls xs 993 kp tl rl nh rh 2000 (nI md) a2 I L (-2, u2 I 89 0 0, L) (by unfold f_274; rw [e244n m4 o4 (Or.inr h2), q_bs, q_n00])), VV_th hV0⟩
      · obtain ⟨J, j1, j2, j3, j4⟩ := tonC (n := 2000) (L := L) ho hC hmd (by omega)
        have hMJ : MH (u2 J 89 0 0) 0 H W A := MH_th (MH_fr ho hM (fun c hc i => j4 c i (by omega)))
        obtain ⟨K, k1, k2, k3, k4, k5, k6⟩ := tonM (n := 2000) (L := L) ho hMJ hmd (by omega)
        have hg := gN_ok ho hmd
        have q0 : u2 J 89 0 0 95 0 = nI (H.1 0) := hMJ.1
        have q3 : u2 J 89 0 0 96 2 = nI (H.1 3) := mh96 hMJ (by decide)
        have q4 : u2 J 89 0 0 96 3 = nI (H.1 4) := mh96 hMJ (by decide)
        refine ⟨oI (nou H (gN H A md) (H.1 3) r), kp, some 3, rh, tl, rl, J, L, K, L, (t_125 Ls xs 993 kp tl rl nh rh 2000 (nI md) (nI r) I L (oI (nou H (gN H A md) (H.1 3) r), some 3, J, L) ?_), (t_274 Ls xs 993 kp tl rl (some 3) rh 2000 (nI md) (nI r) J L (oI (nou H (gN H A md) (H.1 3) r), K, L) ?_), VV_q hV0 (fun c i hc => by rw [k5 c i (by omega) (by omega), u2_c (by omega), j4 c i (by omega)]) (fun i hi => by rw [k6 i (by omega), u2_o (by omega), j4 89 i (by omega)])⟩
        · unfold f_125
          rw [e181y c0 o0 (by omega) hmd, q_bs, q_11, e178y c4 o4 hr, q_bs, q_n11, j1, q_bs]
          try dsimp only
          rw [ku_if (by omega) (by omega), nI_clamp (by omega), j2.2.2 r hr]
        · unfold f_274
          rw [e244y q4 o4 hmd hr, q_bs, q_n11, k1, q_bs]
          try dsimp only
          rw [m263 ho k4 k2 hg hr (by omega), q_bs, m265 ho k4 (oum_le ..), q_bs, oum_nou]
theorem sk_dark : SOK Ls xs (VV KP RP) 126 275 [.int a1] := by
  intro kp nh rh tl rl I L hV
  have hV0 := hV
  obtain ⟨H, W, A, ⟨hT, hF, ho, hC, hM, hIm, hRw⟩, hR, hW⟩ := hV
  have o0 : H.1 0 ≤ 1000 := ho.1.1
  have o3 : H.1 3 ≤ 30 := ho.1.2.2.2.1
  have o4 : H.1 4 ≤ 4 := ho.1.2.2.2.2.1
  have c0 : I 3 0 = nI (H.1 0) := chs hC (by decide)
  have c3 : I 3 3 = nI (H.1 3) := chs hC (by decide)
  have c4 : I 3 4 = nI (H.1 4) := chs hC (by decide)
  have m0 : u2 I 89 0 0 95 0 = nI (H.1 0) := (u2_c (by decide)).trans hM.1
  have m3 : u2 I 89 0 0 96 2 = nI (H.1 3) := (u2_c (by decide)).trans (mh96 hM (by decide))
  have m4 : u2 I 89 0 0 96 3 = nI (H.1 4) := (u2_c (by decide)).trans (mh96 hM (by decide))
  rcases q_arg a1 (n := 2) (by omega) with h1 | ⟨md, hmd, rfl⟩
  · exact ⟨-2, kp, nh, rh, tl, rl, I, L, u2 I 89 0 0, L, (t_126 Ls xs 993 kp tl rl nh rh 2000 a1 I L (-2, nh, I, L) (by unfold f_126; rw [e181n c0 o0 (Or.inr h1), q_bs, q_00])), (t_275 Ls xs 993 kp tl rl nh rh 2000 a1 I L (-2, u2 I 89 0 0, L) (by unfold f_275; rw [e245n m0 o0 (Or.inr h1), q_bs, q_n00])), VV_th hV0⟩
  · by_cases h0 : H.1 0 = 0
    · have hz := ho.2.2.2.2.2.2.1 h0
      exact ⟨-2, kp, nh, rh, tl, rl, I, L, u2 I 89 0 0, L, (t_126 Ls xs 993 kp tl rl nh rh 2000 (nI md) I L (-2, nh, I, L) (by unfold f_126; rw [e181n c0 o0 (Or.inl h0), q_bs, q_00])), (t_275 Ls xs 993 kp tl rl nh rh 2000 (nI md) I L (-2, u2 I 89 0 0, L) (by unfold f_275; rw [e245n m0 o0 (Or.inl h0), q_bs, q_n00])), VV_th hV0⟩
    · obtain ⟨J, j1, j2, j3, j4⟩ := tonC (n := 2000) (L := L) ho hC hmd (by omega)
      have hMJ : MH (u2 J 89 0 0) 0 H W A := MH_th (MH_fr ho hM (fun c hc i => j4 c i (by omega)))
      obtain ⟨K, k1, k2, k3, k4, k5, k6⟩ := tonM (n := 2000) (L := L) ho hMJ hmd (by omega)
      have hg := gN_ok ho hmd
      have q0 : u2 J 89 0 0 95 0 = nI (H.1 0) := hMJ.1
      have q3 : u2 J 89 0 0 96 2 = nI (H.1 3) := mh96 hMJ (by decide)
      have q4 : u2 J 89 0 0 96 3 = nI (H.1 4) := mh96 hMJ (by decide)
      refine ⟨oI (drk H (gN H A md)), kp, some 3, rh, tl, rl, J, L, K, L, (t_126 Ls xs 993 kp tl rl nh rh 2000 (nI md) I L (oI (drk H (gN H A md)), some 3, J, L) ?_), (t_275 Ls xs 993 kp tl rl (some 3) rh 2000 (nI md) J L (oI (drk H (gN H A md)), K, L) ?_), VV_q hV0 (fun c i hc => by rw [k5 c i (by omega) (by omega), u2_c (by omega), j4 c i (by omega)]) (fun i hi => by rw [k6 i (by omega), u2_o (by omega), j4 89 i (by omega)])⟩
      · unfold f_126
        rw [e181y c0 o0 (by omega) hmd, q_bs, q_11, j1, q_bs]
        try dsimp only
        rw [c66 ho j2 (by omega), q_bs]
      · unfold f_275
        rw [e245y q0 o0 (by omega) hmd, q_bs, q_n11, k1, q_bs]
        try dsimp only
        rw [m264 ho k4 k2 hg (by omega), q_bs, m265 ho k4 (dkm_le ..), q_bs, dkm_drk]
theorem sk_first : SOK Ls xs (VV KP RP) 127 276 [.int a1] := by
  intro kp nh rh tl rl I L hV
  have hV0 := hV
  obtain ⟨H, W, A, ⟨hT, hF, ho, hC, hM, hIm, hRw⟩, hR, hW⟩ := hV
  have o0 : H.1 0 ≤ 1000 := ho.1.1
  have o3 : H.1 3 ≤ 30 := ho.1.2.2.2.1
  have o4 : H.1 4 ≤ 4 := ho.1.2.2.2.2.1
  have c0 : I 3 0 = nI (H.1 0) := chs hC (by decide)
  have c3 : I 3 3 = nI (H.1 3) := chs hC (by decide)
  have c4 : I 3 4 = nI (H.1 4) := chs hC (by decide)
  have m0 : u2 I 89 0 0 95 0 = nI (H.1 0) := (u2_c (by decide)).trans hM.1
  have m3 : u2 I 89 0 0 96 2 = nI (H.1 3) := (u2_c (by decide)).trans (mh96 hM (by decide))
  have m4 : u2 I 89 0 0 96 3 = nI (H.1 4) := (u2_c (by decide)).trans (mh96 hM (by decide))
  rcases q_arg a1 (n := 2) (by omega) with h1 | ⟨md, hmd, rfl⟩
  · exact ⟨-2, kp, nh, rh, tl, rl, I, L, u2 I 89 0 0, L, (t_127 Ls xs 993 kp tl rl nh rh 2000 a1 I L (-2, nh, I, L) (by unfold f_127; rw [e181n c0 o0 (Or.inr h1), q_bs, q_00])), (t_276 Ls xs 993 kp tl rl nh rh 2000 a1 I L (-2, u2 I 89 0 0, L) (by unfold f_276; rw [e245n m0 o0 (Or.inr h1), q_bs, q_n00])), VV_th hV0⟩
  · by_cases h0 : H.1 0 = 0
    · have hz := ho.2.2.2.2.2.2.1 h0
      exact ⟨-2, kp, nh, rh, tl, rl, I, L, u2 I 89 0 0, L, (t_127 Ls xs 993 kp tl rl nh rh 2000 (nI md) I L (-2, nh, I, L) (by unfold f_127; rw [e181n c0 o0 (Or.inl h0), q_bs, q_00])), (t_276 Ls xs 993 kp tl rl nh rh 2000 (nI md) I L (-2, u2 I 89 0 0, L) (by unfold f_276; rw [e245n m0 o0 (Or.inl h0), q_bs, q_n00])), VV_th hV0⟩
    · obtain ⟨J, j1, j2, j3, j4⟩ := tonC (n := 2000) (L := L) ho hC hmd (by omega)
      have hMJ : MH (u2 J 89 0 0) 0 H W A := MH_th (MH_fr ho hM (fun c hc i => j4 c i (by omega)))
      obtain ⟨K, k1, k2, k3, k4, k5, k6⟩ := tonM (n := 2000) (L := L) ho hMJ hmd (by omega)
      have hg := gN_ok ho hmd
      have q0 : u2 J 89 0 0 95 0 = nI (H.1 0) := hMJ.1
      have q3 : u2 J 89 0 0 96 2 = nI (H.1 3) := mh96 hMJ (by decide)
      have q4 : u2 J 89 0 0 96 3 = nI (H.1 4) := mh96 hMJ (by decide)
      refine ⟨oI (fok H (gN H A md) (H.1 4)), kp, some 3, rh, tl, rl, J, L, K, L, (t_127 Ls xs 993 kp tl rl nh rh 2000 (nI md) I L (oI (fok H (gN H A md) (H.1 4)), some 3, J, L) ?_), (t_276 Ls xs 993 kp tl rl (some 3) rh 2000 (nI md) J L (oI (fok H (gN H A md) (H.1 4)), K, L) ?_), VV_q hV0 (fun c i hc => by rw [k5 c i (by omega) (by omega), u2_c (by omega), j4 c i (by omega)]) (fun i hi => by rw [k6 i (by omega), u2_o (by omega), j4 89 i (by omega)])⟩
      · unfold f_127
        rw [e181y c0 o0 (by omega) hmd, q_bs, q_11, j1, q_bs]
        try dsimp only
        rw [c65 ho j2 (by omega), q_bs]
      · unfold f_276
        rw [e245y q0 o0 (by omega) hmd, q_bs, q_n11, k1, q_bs]
        try dsimp only
        rw [m264 ho k4 k2 hg (by omega), q_bs, m276 ho k4 k2 hg (by omega)]
theorem sk_looks : SOK Ls xs (VV KP RP) 128 278 [.int a1, .int a2] := by
  intro kp nh rh tl rl I L hV
  have hV0 := hV
  obtain ⟨H, W, A, ⟨hT, hF, ho, hC, hM, hIm, hRw⟩, hR, hW⟩ := hV
  have o0 : H.1 0 ≤ 1000 := ho.1.1
  have o3 : H.1 3 ≤ 30 := ho.1.2.2.2.1
  have o4 : H.1 4 ≤ 4 := ho.1.2.2.2.2.1
  have c0 : I 3 0 = nI (H.1 0) := chs hC (by decide)
  have c3 : I 3 3 = nI (H.1 3) := chs hC (by decide)
  have c4 : I 3 4 = nI (H.1 4) := chs hC (by decide)
  have m0 : u2 I 89 0 0 95 0 = nI (H.1 0) := (u2_c (by decide)).trans hM.1
  have m3 : u2 I 89 0 0 96 2 = nI (H.1 3) := (u2_c (by decide)).trans (mh96 hM (by decide))
  have m4 : u2 I 89 0 0 96 3 = nI (H.1 4) := (u2_c (by decide)).trans (mh96 hM (by decide))
  rcases q_arg a1 (n := 2) (by omega) with h1 | ⟨md, hmd, rfl⟩
  · exact ⟨-2, kp, nh, rh, tl, rl, I, L, u2 I 89 0 0, L, (t_128 Ls xs 993 kp tl rl nh rh 2000 a1 a2 I L (-2, nh, I, L) (by unfold f_128; rw [e181n c0 o0 (Or.inr h1), q_bs, q_00])), (t_278 Ls xs 993 kp tl rl nh rh 2000 a1 a2 I L (-2, u2 I 89 0 0, L) (by unfold f_278; rw [e244n m4 o4 (Or.inl h1), q_bs, q_n00])), VV_th hV0⟩
  · by_cases h0 : H.1 0 = 0
    · have hz := ho.2.2.2.2.2.2.1 h0
      exact ⟨-2, kp, nh, rh, tl, rl, I, L, u2 I 89 0 0, L, (t_128 Ls xs 993 kp tl rl nh rh 2000 (nI md) a2 I L (-2, nh, I, L) (by unfold f_128; rw [e181n c0 o0 (Or.inl h0), q_bs, q_00])), (t_278 Ls xs 993 kp tl rl nh rh 2000 (nI md) a2 I L (-2, u2 I 89 0 0, L) (by unfold f_278; rw [e244n m4 o4 (Or.inr (by omega)), q_bs, q_n00])), VV_th hV0⟩
    · rcases q_arg a2 (n := H.1 4) (by omega) with h2 | ⟨r, hr, rfl⟩
      · exact ⟨-2, kp, nh, rh, tl, rl, I, L, u2 I 89 0 0, L, (t_128 Ls xs 993 kp tl rl nh rh 2000 (nI md) a2 I L (-2, nh, I, L) (by unfold f_128; rw [e181y c0 o0 (by omega) hmd, q_bs, q_11, e178n c4 o4 h2, q_bs, q_n00])), (t_278 Ls xs 993 kp tl rl nh rh 2000 (nI md) a2 I L (-2, u2 I 89 0 0, L) (by unfold f_278; rw [e244n m4 o4 (Or.inr h2), q_bs, q_n00])), VV_th hV0⟩
      · obtain ⟨J, j1, j2, j3, j4⟩ := tonC (n := 2000) (L := L) ho hC hmd (by omega)
        have hMJ : MH (u2 J 89 0 0) 0 H W A := MH_th (MH_fr ho hM (fun c hc i => j4 c i (by omega)))
        obtain ⟨K, k1, k2, k3, k4, k5, k6⟩ := tonM (n := 2000) (L := L) ho hMJ hmd (by omega)
        have hg := gN_ok ho hmd
        have q0 : u2 J 89 0 0 95 0 = nI (H.1 0) := hMJ.1
        have q3 : u2 J 89 0 0 96 2 = nI (H.1 3) := mh96 hMJ (by decide)
        have q4 : u2 J 89 0 0 96 3 = nI (H.1 4) := mh96 hMJ (by decide)
        refine ⟨nI (lkk H (gN H A md) r (H.1 3)), kp, some 3, rh, tl, rl, J, L, K, L, (t_128 Ls xs 993 kp tl rl nh rh 2000 (nI md) (nI r) I L (nI (lkk H (gN H A md) r (H.1 3)), some 3, J, L) ?_), (t_278 Ls xs 993 kp tl rl (some 3) rh 2000 (nI md) (nI r) J L (nI (lkk H (gN H A md) r (H.1 3)), K, L) ?_), VV_q hV0 (fun c i hc => by rw [k5 c i (by omega) (by omega), u2_c (by omega), j4 c i (by omega)]) (fun i hi => by rw [k6 i (by omega), u2_o (by omega), j4 89 i (by omega)])⟩
        · unfold f_128
          rw [e181y c0 o0 (by omega) hmd, q_bs, q_11, e178y c4 o4 hr, q_bs, q_n11, j1, q_bs]
          try dsimp only
          rw [c67 ho j2 hg hr (by omega), q_bs]
        · unfold f_278
          rw [e244y q4 o4 hmd hr, q_bs, q_n11, k1, q_bs]
          try dsimp only
          rw [m277 ho k4 k2 hg hr (by omega), q_bs]
theorem sk_oldest : SOK Ls xs (VV KP RP) 129 279 [.int a1, .int a2] := by
  intro kp nh rh tl rl I L hV
  have hV0 := hV
  obtain ⟨H, W, A, ⟨hT, hF, ho, hC, hM, hIm, hRw⟩, hR, hW⟩ := hV
  have o0 : H.1 0 ≤ 1000 := ho.1.1
  have o3 : H.1 3 ≤ 30 := ho.1.2.2.2.1
  have o4 : H.1 4 ≤ 4 := ho.1.2.2.2.2.1
  have c0 : I 3 0 = nI (H.1 0) := chs hC (by decide)
  have c3 : I 3 3 = nI (H.1 3) := chs hC (by decide)
  have c4 : I 3 4 = nI (H.1 4) := chs hC (by decide)
  have m0 : u2 I 89 0 0 95 0 = nI (H.1 0) := (u2_c (by decide)).trans hM.1
  have m3 : u2 I 89 0 0 96 2 = nI (H.1 3) := (u2_c (by decide)).trans (mh96 hM (by decide))
  have m4 : u2 I 89 0 0 96 3 = nI (H.1 4) := (u2_c (by decide)).trans (mh96 hM (by decide))
  rcases q_arg a1 (n := 2) (by omega) with h1 | ⟨md, hmd, rfl⟩
  · exact ⟨-2, kp, nh, rh, tl, rl, I, L, u2 I 89 0 0, L, (t_129 Ls xs 993 kp tl rl nh rh 2000 a1 a2 I L (-2, nh, I, L) (by unfold f_129; rw [e181n c0 o0 (Or.inr h1), q_bs, q_00])), (t_279 Ls xs 993 kp tl rl nh rh 2000 a1 a2 I L (-2, u2 I 89 0 0, L) (by unfold f_279; rw [e244n m4 o4 (Or.inl h1), q_bs, q_n00])), VV_th hV0⟩
  · by_cases h0 : H.1 0 = 0
    · have hz := ho.2.2.2.2.2.2.1 h0
      exact ⟨-2, kp, nh, rh, tl, rl, I, L, u2 I 89 0 0, L, (t_129 Ls xs 993 kp tl rl nh rh 2000 (nI md) a2 I L (-2, nh, I, L) (by unfold f_129; rw [e181n c0 o0 (Or.inl h0), q_bs, q_00])), (t_279 Ls xs 993 kp tl rl nh rh 2000 (nI md) a2 I L (-2, u2 I 89 0 0, L) (by unfold f_279; rw [e244n m4 o4 (Or.inr (by omega)), q_bs, q_n00])), VV_th hV0⟩
    · rcases q_arg a2 (n := H.1 4) (by omega) with h2 | ⟨r, hr, rfl⟩
      · exact ⟨-2, kp, nh, rh, tl, rl, I, L, u2 I 89 0 0, L, (t_129 Ls xs 993 kp tl rl nh rh 2000 (nI md) a2 I L (-2, nh, I, L) (by unfold f_129; rw [e181y c0 o0 (by omega) hmd, q_bs, q_11, e178n c4 o4 h2, q_bs, q_n00])), (t_279 Ls xs 993 kp tl rl nh rh 2000 (nI md) a2 I L (-2, u2 I 89 0 0, L) (by unfold f_279; rw [e244n m4 o4 (Or.inr h2), q_bs, q_n00])), VV_th hV0⟩
      · obtain ⟨J, j1, j2, j3, j4⟩ := tonC (n := 2000) (L := L) ho hC hmd (by omega)
        have hMJ : MH (u2 J 89 0 0) 0 H W A := MH_th (MH_fr ho hM (fun c hc i => j4 c i (by omega)))
        obtain ⟨K, k1, k2, k3, k4, k5, k6⟩ := tonM (n := 2000) (L := L) ho hMJ hmd (by omega)
        have hg := gN_ok ho hmd
        have q0 : u2 J 89 0 0 95 0 = nI (H.1 0) := hMJ.1
        have q3 : u2 J 89 0 0 96 2 = nI (H.1 3) := mh96 hMJ (by decide)
        have q4 : u2 J 89 0 0 96 3 = nI (H.1 4) := mh96 hMJ (by decide)
        refine ⟨nI (mxk H (gN H A md) r (H.1 3)), kp, some 3, rh, tl, rl, J, L, K, L, (t_129 Ls xs 993 kp tl rl nh rh 2000 (nI md) (nI r) I L (nI (mxk H (gN H A md) r (H.1 3)), some 3, J, L) ?_), (t_279 Ls xs 993 kp tl rl (some 3) rh 2000 (nI md) (nI r) J L (nI (mxk H (gN H A md) r (H.1 3)), K, L) ?_), VV_q hV0 (fun c i hc => by rw [k5 c i (by omega) (by omega), u2_c (by omega), j4 c i (by omega)]) (fun i hi => by rw [k6 i (by omega), u2_o (by omega), j4 89 i (by omega)])⟩
        · unfold f_129
          rw [e181y c0 o0 (by omega) hmd, q_bs, q_11, e178y c4 o4 hr, q_bs, q_n11, j1, q_bs]
          try dsimp only
          rw [c68 ho j2 hg hr (by omega), q_bs]
        · unfold f_279
          rw [e244y q4 o4 hmd hr, q_bs, q_n11, k1, q_bs]
          try dsimp only
          rw [m279 ho k4 k2 hg hr (by omega)]
theorem sk_worth : SOK Ls xs (VV KP RP) 130 281 [.int a1, .int a2] := by
  intro kp nh rh tl rl I L hV
  have hV0 := hV
  obtain ⟨H, W, A, ⟨hT, hF, ho, hC, hM, hIm, hRw⟩, hR, hW⟩ := hV
  have o0 : H.1 0 ≤ 1000 := ho.1.1
  have o3 : H.1 3 ≤ 30 := ho.1.2.2.2.1
  have o4 : H.1 4 ≤ 4 := ho.1.2.2.2.2.1
  have c0 : I 3 0 = nI (H.1 0) := chs hC (by decide)
  have c3 : I 3 3 = nI (H.1 3) := chs hC (by decide)
  have c4 : I 3 4 = nI (H.1 4) := chs hC (by decide)
  have m0 : u2 I 89 0 0 95 0 = nI (H.1 0) := (u2_c (by decide)).trans hM.1
  have m3 : u2 I 89 0 0 96 2 = nI (H.1 3) := (u2_c (by decide)).trans (mh96 hM (by decide))
  have m4 : u2 I 89 0 0 96 3 = nI (H.1 4) := (u2_c (by decide)).trans (mh96 hM (by decide))
  rcases q_arg a1 (n := 2) (by omega) with h1 | ⟨md, hmd, rfl⟩
  · exact ⟨-2, kp, nh, rh, tl, rl, I, L, u2 I 89 0 0, L, (t_130 Ls xs 993 kp tl rl nh rh 2000 a1 a2 I L (-2, nh, I, L) (by unfold f_130; rw [e181n c0 o0 (Or.inr h1), q_bs, q_00])), (t_281 Ls xs 993 kp tl rl nh rh 2000 a1 a2 I L (-2, u2 I 89 0 0, L) (by unfold f_281; rw [e243n m3 o3 (Or.inl h1), q_bs, q_n00])), VV_th hV0⟩
  · by_cases h0 : H.1 0 = 0
    · have hz := ho.2.2.2.2.2.2.1 h0
      exact ⟨-2, kp, nh, rh, tl, rl, I, L, u2 I 89 0 0, L, (t_130 Ls xs 993 kp tl rl nh rh 2000 (nI md) a2 I L (-2, nh, I, L) (by unfold f_130; rw [e181n c0 o0 (Or.inl h0), q_bs, q_00])), (t_281 Ls xs 993 kp tl rl nh rh 2000 (nI md) a2 I L (-2, u2 I 89 0 0, L) (by unfold f_281; rw [e243n m3 o3 (Or.inr (by omega)), q_bs, q_n00])), VV_th hV0⟩
    · rcases q_arg a2 (n := H.1 3) (by omega) with h2 | ⟨t, ht, rfl⟩
      · exact ⟨-2, kp, nh, rh, tl, rl, I, L, u2 I 89 0 0, L, (t_130 Ls xs 993 kp tl rl nh rh 2000 (nI md) a2 I L (-2, nh, I, L) (by unfold f_130; rw [e181y c0 o0 (by omega) hmd, q_bs, q_11, e180n c3 o3 h2, q_bs, q_n00])), (t_281 Ls xs 993 kp tl rl nh rh 2000 (nI md) a2 I L (-2, u2 I 89 0 0, L) (by unfold f_281; rw [e243n m3 o3 (Or.inr h2), q_bs, q_n00])), VV_th hV0⟩
      · obtain ⟨J, j1, j2, j3, j4⟩ := tonC (n := 2000) (L := L) ho hC hmd (by omega)
        have hMJ : MH (u2 J 89 0 0) 0 H W A := MH_th (MH_fr ho hM (fun c hc i => j4 c i (by omega)))
        obtain ⟨K, k1, k2, k3, k4, k5, k6⟩ := tonM (n := 2000) (L := L) ho hMJ hmd (by omega)
        have hg := gN_ok ho hmd
        have q0 : u2 J 89 0 0 95 0 = nI (H.1 0) := hMJ.1
        have q3 : u2 J 89 0 0 96 2 = nI (H.1 3) := mh96 hMJ (by decide)
        have q4 : u2 J 89 0 0 96 3 = nI (H.1 4) := mh96 hMJ (by decide)
        refine ⟨nI (wok W (brn H (gN H A md) t) (H.1 4)), kp, some 3, rh, tl, rl, J, L, K, L, (t_130 Ls xs 993 kp tl rl nh rh 2000 (nI md) (nI t) I L (nI (wok W (brn H (gN H A md) t) (H.1 4)), some 3, J, L) ?_), (t_281 Ls xs 993 kp tl rl (some 3) rh 2000 (nI md) (nI t) J L (nI (wok W (brn H (gN H A md) t) (H.1 4)), K, L) ?_), VV_q hV0 (fun c i hc => by rw [k5 c i (by omega) (by omega), u2_c (by omega), j4 c i (by omega)]) (fun i hi => by rw [k6 i (by omega), u2_o (by omega), j4 89 i (by omega)])⟩
        · unfold f_130
          rw [e181y c0 o0 (by omega) hmd, q_bs, q_11, e180y c3 o3 ht, q_bs, q_n11, j1, q_bs]
          try dsimp only
          rw [c63 ho j2 hg ht (by omega), q_bs, c25 ho j3 (brn_lt ho _ t) (by omega), q_bs]
        · unfold f_281
          rw [e243y q3 o3 hmd ht, q_bs, q_n11, k1, q_bs]
          try dsimp only
          rw [m262 ho k4 k2 hg ht (by omega), q_bs, m280 ho k4 (brn_lt ho _ t) (by omega), q_bs]
theorem sk_steps : SOK Ls xs (VV KP RP) 131 282 [.int a1] := by
  intro kp nh rh tl rl I L hV
  have hV0 := hV
  obtain ⟨H, W, A, ⟨hT, hF, ho, hC, hM, hIm, hRw⟩, hR, hW⟩ := hV
  have o0 : H.1 0 ≤ 1000 := ho.1.1
  have o3 : H.1 3 ≤ 30 := ho.1.2.2.2.1
  have o4 : H.1 4 ≤ 4 := ho.1.2.2.2.2.1
  have c0 : I 3 0 = nI (H.1 0) := chs hC (by decide)
  have c3 : I 3 3 = nI (H.1 3) := chs hC (by decide)
  have c4 : I 3 4 = nI (H.1 4) := chs hC (by decide)
  have m0 : u2 I 89 0 0 95 0 = nI (H.1 0) := (u2_c (by decide)).trans hM.1
  have m3 : u2 I 89 0 0 96 2 = nI (H.1 3) := (u2_c (by decide)).trans (mh96 hM (by decide))
  have m4 : u2 I 89 0 0 96 3 = nI (H.1 4) := (u2_c (by decide)).trans (mh96 hM (by decide))
  rcases q_arg a1 (n := 2) (by omega) with h1 | ⟨md, hmd, rfl⟩
  · exact ⟨-2, kp, nh, rh, tl, rl, I, L, u2 I 89 0 0, L, (t_131 Ls xs 993 kp tl rl nh rh 2000 a1 I L (-2, nh, I, L) (by unfold f_131; rw [e181n c0 o0 (Or.inr h1), q_bs, q_00])), (t_282 Ls xs 993 kp tl rl nh rh 2000 a1 I L (-2, u2 I 89 0 0, L) (by unfold f_282; rw [e245n m0 o0 (Or.inr h1), q_bs, q_n00])), VV_th hV0⟩
  · by_cases h0 : H.1 0 = 0
    · have hz := ho.2.2.2.2.2.2.1 h0
      exact ⟨-2, kp, nh, rh, tl, rl, I, L, u2 I 89 0 0, L, (t_131 Ls xs 993 kp tl rl nh rh 2000 (nI md) I L (-2, nh, I, L) (by unfold f_131; rw [e181n c0 o0 (Or.inl h0), q_bs, q_00])), (t_282 Ls xs 993 kp tl rl nh rh 2000 (nI md) I L (-2, u2 I 89 0 0, L) (by unfold f_282; rw [e245n m0 o0 (Or.inl h0), q_bs, q_n00])), VV_th hV0⟩
    · obtain ⟨J, j1, j2, j3, j4⟩ := tonC (n := 2000) (L := L) ho hC hmd (by omega)
      have hMJ : MH (u2 J 89 0 0) 0 H W A := MH_th (MH_fr ho hM (fun c hc i => j4 c i (by omega)))
      obtain ⟨K, k1, k2, k3, k4, k5, k6⟩ := tonM (n := 2000) (L := L) ho hMJ hmd (by omega)
      have hg := gN_ok ho hmd
      have q0 : u2 J 89 0 0 95 0 = nI (H.1 0) := hMJ.1
      have q3 : u2 J 89 0 0 96 2 = nI (H.1 3) := mh96 hMJ (by decide)
      have q4 : u2 J 89 0 0 96 3 = nI (H.1 4) := mh96 hMJ (by decide)
      refine ⟨nI (mvk H (gN H A md) (H.1 3)), kp, some 3, rh, tl, rl, J, L, K, L, (t_131 Ls xs 993 kp tl rl nh rh 2000 (nI md) I L (nI (mvk H (gN H A md) (H.1 3)), some 3, J, L) ?_), (t_282 Ls xs 993 kp tl rl (some 3) rh 2000 (nI md) J L (nI (mvk H (gN H A md) (H.1 3)), K, L) ?_), VV_q hV0 (fun c i hc => by rw [k5 c i (by omega) (by omega), u2_c (by omega), j4 c i (by omega)]) (fun i hi => by rw [k6 i (by omega), u2_o (by omega), j4 89 i (by omega)])⟩
      · unfold f_131
        rw [e181y c0 o0 (by omega) hmd, q_bs, q_11, j1, q_bs]
        try dsimp only
        rw [c70 ho j2 hg (ho.2.2.2.2.2.2.2 (by omega)) (by omega), q_bs]
      · unfold f_282
        rw [e245y q0 o0 (by omega) hmd, q_bs, q_n11, k1, q_bs]
        try dsimp only
        rw [m282 ho k4 k2 hg (ho.2.2.2.2.2.2.2 (by omega)) (by omega)]
theorem sk_urgent : SOK Ls xs (VV KP RP) 132 283 [.int a1, .int a2] := by
  intro kp nh rh tl rl I L hV
  have hV0 := hV
  obtain ⟨H, W, A, ⟨hT, hF, ho, hC, hM, hIm, hRw⟩, hR, hW⟩ := hV
  have o0 : H.1 0 ≤ 1000 := ho.1.1
  have o3 : H.1 3 ≤ 30 := ho.1.2.2.2.1
  have o4 : H.1 4 ≤ 4 := ho.1.2.2.2.2.1
  have c0 : I 3 0 = nI (H.1 0) := chs hC (by decide)
  have c3 : I 3 3 = nI (H.1 3) := chs hC (by decide)
  have c4 : I 3 4 = nI (H.1 4) := chs hC (by decide)
  have m0 : u2 I 89 0 0 95 0 = nI (H.1 0) := (u2_c (by decide)).trans hM.1
  have m3 : u2 I 89 0 0 96 2 = nI (H.1 3) := (u2_c (by decide)).trans (mh96 hM (by decide))
  have m4 : u2 I 89 0 0 96 3 = nI (H.1 4) := (u2_c (by decide)).trans (mh96 hM (by decide))
  rcases q_arg a1 (n := 2) (by omega) with h1 | ⟨md, hmd, rfl⟩
  · exact ⟨-2, kp, nh, rh, tl, rl, I, L, u2 I 89 0 0, L, (t_132 Ls xs 993 kp tl rl nh rh 2000 a1 a2 I L (-2, nh, I, L) (by unfold f_132; rw [e181n c0 o0 (Or.inr h1), q_bs, q_00])), (t_283 Ls xs 993 kp tl rl nh rh 2000 a1 a2 I L (-2, u2 I 89 0 0, L) (by unfold f_283; rw [e243n m3 o3 (Or.inl h1), q_bs, q_n00])), VV_th hV0⟩
  · by_cases h0 : H.1 0 = 0
    · have hz := ho.2.2.2.2.2.2.1 h0
      exact ⟨-2, kp, nh, rh, tl, rl, I, L, u2 I 89 0 0, L, (t_132 Ls xs 993 kp tl rl nh rh 2000 (nI md) a2 I L (-2, nh, I, L) (by unfold f_132; rw [e181n c0 o0 (Or.inl h0), q_bs, q_00])), (t_283 Ls xs 993 kp tl rl nh rh 2000 (nI md) a2 I L (-2, u2 I 89 0 0, L) (by unfold f_283; rw [e243n m3 o3 (Or.inr (by omega)), q_bs, q_n00])), VV_th hV0⟩
    · rcases q_arg a2 (n := H.1 3) (by omega) with h2 | ⟨t, ht, rfl⟩
      · exact ⟨-2, kp, nh, rh, tl, rl, I, L, u2 I 89 0 0, L, (t_132 Ls xs 993 kp tl rl nh rh 2000 (nI md) a2 I L (-2, nh, I, L) (by unfold f_132; rw [e181y c0 o0 (by omega) hmd, q_bs, q_11, e180n c3 o3 h2, q_bs, q_n00])), (t_283 Ls xs 993 kp tl rl nh rh 2000 (nI md) a2 I L (-2, u2 I 89 0 0, L) (by unfold f_283; rw [e243n m3 o3 (Or.inr h2), q_bs, q_n00])), VV_th hV0⟩
      · obtain ⟨J, j1, j2, j3, j4⟩ := tonC (n := 2000) (L := L) ho hC hmd (by omega)
        have hMJ : MH (u2 J 89 0 0) 0 H W A := MH_th (MH_fr ho hM (fun c hc i => j4 c i (by omega)))
        obtain ⟨K, k1, k2, k3, k4, k5, k6⟩ := tonM (n := 2000) (L := L) ho hMJ hmd (by omega)
        have hg := gN_ok ho hmd
        have q0 : u2 J 89 0 0 95 0 = nI (H.1 0) := hMJ.1
        have q3 : u2 J 89 0 0 96 2 = nI (H.1 3) := mh96 hMJ (by decide)
        have q4 : u2 J 89 0 0 96 3 = nI (H.1 4) := mh96 hMJ (by decide)
        obtain ⟨M, me, m1⟩ := m283 (n := 2000) (L := L) ho k4 k2 hg k3 ht (by omega)
        refine ⟨oI (urg (H.2 0) (na H (gN H A md) t) (H.1 4)), kp, some 3, rh, tl, rl, J, L, M, L, (t_132 Ls xs 993 kp tl rl nh rh 2000 (nI md) (nI t) I L (oI (urg (H.2 0) (na H (gN H A md) t) (H.1 4)), some 3, J, L) ?_), (t_283 Ls xs 993 kp tl rl (some 3) rh 2000 (nI md) (nI t) J L (oI (urg (H.2 0) (na H (gN H A md) t) (H.1 4)), M, L) ?_), VV_q hV0 (fun c i hc => by rw [m1 c i (by omega), k5 c i (by omega) (by omega), u2_c (by omega), j4 c i (by omega)]) (fun i hi => by rw [m1 89 i (by omega), k6 i (by omega), u2_o (by omega), j4 89 i (by omega)])⟩
        · unfold f_132
          rw [e181y c0 o0 (by omega) hmd, q_bs, q_11, e180y c3 o3 ht, q_bs, q_n11, j1, q_bs]
          try dsimp only
          rw [e62 (wt := H.2 0) (a := na H (gN H A md) t) o4 j2.1.1 (by omega) (j2.2.1 t ht).2.2 j2.1.2.2.2.2.2.2.1 (fun r hr => ⟨na_b H _ r t, (hg.2.2.2.2.1 r hr).2⟩) (by omega), q_bs]
        · unfold f_283
          rw [e243y q3 o3 hmd ht, q_bs, q_n11, k1, q_bs]
          try dsimp only
          rw [me]; rfl
theorem sk_seen : SOK Ls xs (VV KP RP) 133 284 [.int a1] := by
  intro kp nh rh tl rl I L hV
  have hV0 := hV
  obtain ⟨H, W, A, ⟨hT, hF, ho, hC, hM, hIm, hRw⟩, hR, hW⟩ := hV
  have o0 : H.1 0 ≤ 1000 := ho.1.1
  have o3 : H.1 3 ≤ 30 := ho.1.2.2.2.1
  have o4 : H.1 4 ≤ 4 := ho.1.2.2.2.2.1
  have c0 : I 3 0 = nI (H.1 0) := chs hC (by decide)
  have c3 : I 3 3 = nI (H.1 3) := chs hC (by decide)
  have c4 : I 3 4 = nI (H.1 4) := chs hC (by decide)
  have m0 : u2 I 89 0 0 95 0 = nI (H.1 0) := (u2_c (by decide)).trans hM.1
  have m3 : u2 I 89 0 0 96 2 = nI (H.1 3) := (u2_c (by decide)).trans (mh96 hM (by decide))
  have m4 : u2 I 89 0 0 96 3 = nI (H.1 4) := (u2_c (by decide)).trans (mh96 hM (by decide))
  rcases q_arg a1 (n := 2) (by omega) with h1 | ⟨md, hmd, rfl⟩
  · exact ⟨-2, kp, nh, rh, tl, rl, I, L, u2 I 89 0 0, L, (t_133 Ls xs 993 kp tl rl nh rh 2000 a1 I L (-2, nh, I, L) (by unfold f_133; rw [e181n c0 o0 (Or.inr h1), q_bs, q_00])), (t_284 Ls xs 993 kp tl rl nh rh 2000 a1 I L (-2, u2 I 89 0 0, L) (by unfold f_284; rw [e245n m0 o0 (Or.inr h1), q_bs, q_n00])), VV_th hV0⟩
  · by_cases h0 : H.1 0 = 0
    · have hz := ho.2.2.2.2.2.2.1 h0
      exact ⟨-2, kp, nh, rh, tl, rl, I, L, u2 I 89 0 0, L, (t_133 Ls xs 993 kp tl rl nh rh 2000 (nI md) I L (-2, nh, I, L) (by unfold f_133; rw [e181n c0 o0 (Or.inl h0), q_bs, q_00])), (t_284 Ls xs 993 kp tl rl nh rh 2000 (nI md) I L (-2, u2 I 89 0 0, L) (by unfold f_284; rw [e245n m0 o0 (Or.inl h0), q_bs, q_n00])), VV_th hV0⟩
    · obtain ⟨J, j1, j2, j3, j4⟩ := tonC (n := 2000) (L := L) ho hC hmd (by omega)
      have hMJ : MH (u2 J 89 0 0) 0 H W A := MH_th (MH_fr ho hM (fun c hc i => j4 c i (by omega)))
      obtain ⟨K, k1, k2, k3, k4, k5, k6⟩ := tonM (n := 2000) (L := L) ho hMJ hmd (by omega)
      have hg := gN_ok ho hmd
      have q0 : u2 J 89 0 0 95 0 = nI (H.1 0) := hMJ.1
      have q3 : u2 J 89 0 0 96 2 = nI (H.1 3) := mh96 hMJ (by decide)
      have q4 : u2 J 89 0 0 96 3 = nI (H.1 4) := mh96 hMJ (by decide)
      refine ⟨nI (enk H (gN H A md) (H.1 3)), kp, some 3, rh, tl, rl, J, L, K, L, (t_133 Ls xs 993 kp tl rl nh rh 2000 (nI md) I L (nI (enk H (gN H A md) (H.1 3)), some 3, J, L) ?_), (t_284 Ls xs 993 kp tl rl (some 3) rh 2000 (nI md) J L (nI (enk H (gN H A md) (H.1 3)), K, L) ?_), VV_q hV0 (fun c i hc => by rw [k5 c i (by omega) (by omega), u2_c (by omega), j4 c i (by omega)]) (fun i hi => by rw [k6 i (by omega), u2_o (by omega), j4 89 i (by omega)])⟩
      · unfold f_133
        rw [e181y c0 o0 (by omega) hmd, q_bs, q_11, j1, q_bs]
        try dsimp only
        rw [c71 ho j2 hg (by omega), q_bs]
      · unfold f_284
        rw [e245y q0 o0 (by omega) hmd, q_bs, q_n11, k1, q_bs]
        try dsimp only
        rw [m284 ho k4 k2 hg (by omega)]
theorem sk_steady : SOK Ls xs (VV KP RP) 134 285 [.int a1] := by
  intro kp nh rh tl rl I L hV
  have hV0 := hV
  obtain ⟨H, W, A, ⟨hT, hF, ho, hC, hM, hIm, hRw⟩, hR, hW⟩ := hV
  have o0 : H.1 0 ≤ 1000 := ho.1.1
  have o3 : H.1 3 ≤ 30 := ho.1.2.2.2.1
  have o4 : H.1 4 ≤ 4 := ho.1.2.2.2.2.1
  have c0 : I 3 0 = nI (H.1 0) := chs hC (by decide)
  have c3 : I 3 3 = nI (H.1 3) := chs hC (by decide)
  have c4 : I 3 4 = nI (H.1 4) := chs hC (by decide)
  have m0 : u2 I 89 0 0 95 0 = nI (H.1 0) := (u2_c (by decide)).trans hM.1
  have m3 : u2 I 89 0 0 96 2 = nI (H.1 3) := (u2_c (by decide)).trans (mh96 hM (by decide))
  have m4 : u2 I 89 0 0 96 3 = nI (H.1 4) := (u2_c (by decide)).trans (mh96 hM (by decide))
  rcases q_arg a1 (n := 2) (by omega) with h1 | ⟨md, hmd, rfl⟩
  · exact ⟨-2, kp, nh, rh, tl, rl, I, L, u2 I 89 0 0, L, (t_134 Ls xs 993 kp tl rl nh rh 2000 a1 I L (-2, nh, I, L) (by unfold f_134; rw [e181n c0 o0 (Or.inr h1), q_bs, q_00])), (t_285 Ls xs 993 kp tl rl nh rh 2000 a1 I L (-2, u2 I 89 0 0, L) (by unfold f_285; rw [e245n m0 o0 (Or.inr h1), q_bs, q_n00])), VV_th hV0⟩
  · by_cases h0 : H.1 0 = 0
    · have hz := ho.2.2.2.2.2.2.1 h0
      exact ⟨-2, kp, nh, rh, tl, rl, I, L, u2 I 89 0 0, L, (t_134 Ls xs 993 kp tl rl nh rh 2000 (nI md) I L (-2, nh, I, L) (by unfold f_134; rw [e181n c0 o0 (Or.inl h0), q_bs, q_00])), (t_285 Ls xs 993 kp tl rl nh rh 2000 (nI md) I L (-2, u2 I 89 0 0, L) (by unfold f_285; rw [e245n m0 o0 (Or.inl h0), q_bs, q_n00])), VV_th hV0⟩
    · obtain ⟨J, j1, j2, j3, j4⟩ := tonC (n := 2000) (L := L) ho hC hmd (by omega)
      have hMJ : MH (u2 J 89 0 0) 0 H W A := MH_th (MH_fr ho hM (fun c hc i => j4 c i (by omega)))
      obtain ⟨K, k1, k2, k3, k4, k5, k6⟩ := tonM (n := 2000) (L := L) ho hMJ hmd (by omega)
      have hg := gN_ok ho hmd
      have q0 : u2 J 89 0 0 95 0 = nI (H.1 0) := hMJ.1
      have q3 : u2 J 89 0 0 96 2 = nI (H.1 3) := mh96 hMJ (by decide)
      have q4 : u2 J 89 0 0 96 3 = nI (H.1 4) := mh96 hMJ (by decide)
      refine ⟨nI (brn H (gN H A md) (H.1 3 - 1)), kp, some 3, rh, tl, rl, J, L, K, L, (t_134 Ls xs 993 kp tl rl nh rh 2000 (nI md) I L (nI (brn H (gN H A md) (H.1 3 - 1)), some 3, J, L) ?_), (t_285 Ls xs 993 kp tl rl (some 3) rh 2000 (nI md) J L (nI (brn H (gN H A md) (H.1 3 - 1)), K, L) ?_), VV_q hV0 (fun c i hc => by rw [k5 c i (by omega) (by omega), u2_c (by omega), j4 c i (by omega)]) (fun i hi => by rw [k6 i (by omega), u2_o (by omega), j4 89 i (by omega)])⟩
      · unfold f_134
        rw [e181y c0 o0 (by omega) hmd, q_bs, q_11, j1, q_bs]
        try dsimp only
        rw [c64 ho j2 hg (ho.2.2.2.2.2.2.2 (by omega)) (by omega), q_bs]
      · unfold f_285
        rw [e245y q0 o0 (by omega) hmd, q_bs, q_n11, k1, q_bs]
        try dsimp only
        rw [m285 ho k4 k2 hg (ho.2.2.2.2.2.2.2 (by omega)) (by omega)]
theorem sk_tight : SOK Ls xs (VV KP RP) 135 286 [.int a1, .int a2] := by
  intro kp nh rh tl rl I L hV
  have hV0 := hV
  obtain ⟨H, W, A, ⟨hT, hF, ho, hC, hM, hIm, hRw⟩, hR, hW⟩ := hV
  have o0 : H.1 0 ≤ 1000 := ho.1.1
  have o3 : H.1 3 ≤ 30 := ho.1.2.2.2.1
  have o4 : H.1 4 ≤ 4 := ho.1.2.2.2.2.1
  have c0 : I 3 0 = nI (H.1 0) := chs hC (by decide)
  have c3 : I 3 3 = nI (H.1 3) := chs hC (by decide)
  have c4 : I 3 4 = nI (H.1 4) := chs hC (by decide)
  have m0 : u2 I 89 0 0 95 0 = nI (H.1 0) := (u2_c (by decide)).trans hM.1
  have m3 : u2 I 89 0 0 96 2 = nI (H.1 3) := (u2_c (by decide)).trans (mh96 hM (by decide))
  have m4 : u2 I 89 0 0 96 3 = nI (H.1 4) := (u2_c (by decide)).trans (mh96 hM (by decide))
  rcases q_arg a1 (n := 2) (by omega) with h1 | ⟨md, hmd, rfl⟩
  · exact ⟨-2, kp, nh, rh, tl, rl, I, L, u2 I 89 0 0, L, (t_135 Ls xs 993 kp tl rl nh rh 2000 a1 a2 I L (-2, nh, I, L) (by unfold f_135; rw [e181n c0 o0 (Or.inr h1), q_bs, q_00])), (t_286 Ls xs 993 kp tl rl nh rh 2000 a1 a2 I L (-2, u2 I 89 0 0, L) (by unfold f_286; rw [e244n m4 o4 (Or.inl h1), q_bs, q_n00])), VV_th hV0⟩
  · by_cases h0 : H.1 0 = 0
    · have hz := ho.2.2.2.2.2.2.1 h0
      exact ⟨-2, kp, nh, rh, tl, rl, I, L, u2 I 89 0 0, L, (t_135 Ls xs 993 kp tl rl nh rh 2000 (nI md) a2 I L (-2, nh, I, L) (by unfold f_135; rw [e181n c0 o0 (Or.inl h0), q_bs, q_00])), (t_286 Ls xs 993 kp tl rl nh rh 2000 (nI md) a2 I L (-2, u2 I 89 0 0, L) (by unfold f_286; rw [e244n m4 o4 (Or.inr (by omega)), q_bs, q_n00])), VV_th hV0⟩
    · rcases q_arg a2 (n := H.1 4) (by omega) with h2 | ⟨r, hr, rfl⟩
      · exact ⟨-2, kp, nh, rh, tl, rl, I, L, u2 I 89 0 0, L, (t_135 Ls xs 993 kp tl rl nh rh 2000 (nI md) a2 I L (-2, nh, I, L) (by unfold f_135; rw [e181y c0 o0 (by omega) hmd, q_bs, q_11, e178n c4 o4 h2, q_bs, q_n00])), (t_286 Ls xs 993 kp tl rl nh rh 2000 (nI md) a2 I L (-2, u2 I 89 0 0, L) (by unfold f_286; rw [e244n m4 o4 (Or.inr h2), q_bs, q_n00])), VV_th hV0⟩
      · obtain ⟨J, j1, j2, j3, j4⟩ := tonC (n := 2000) (L := L) ho hC hmd (by omega)
        have hMJ : MH (u2 J 89 0 0) 0 H W A := MH_th (MH_fr ho hM (fun c hc i => j4 c i (by omega)))
        obtain ⟨K, k1, k2, k3, k4, k5, k6⟩ := tonM (n := 2000) (L := L) ho hMJ hmd (by omega)
        have hg := gN_ok ho hmd
        have q0 : u2 J 89 0 0 95 0 = nI (H.1 0) := hMJ.1
        have q3 : u2 J 89 0 0 96 2 = nI (H.1 3) := mh96 hMJ (by decide)
        have q4 : u2 J 89 0 0 96 3 = nI (H.1 4) := mh96 hMJ (by decide)
        refine ⟨nI (mnk H (gN H A md) r (H.2 0 r) (H.1 3)), kp, some 3, rh, tl, rl, J, L, K, L, (t_135 Ls xs 993 kp tl rl nh rh 2000 (nI md) (nI r) I L (nI (mnk H (gN H A md) r (H.2 0 r) (H.1 3)), some 3, J, L) ?_), (t_286 Ls xs 993 kp tl rl (some 3) rh 2000 (nI md) (nI r) J L (nI (mnk H (gN H A md) r (H.2 0 r) (H.1 3)), K, L) ?_), VV_q hV0 (fun c i hc => by rw [k5 c i (by omega) (by omega), u2_c (by omega), j4 c i (by omega)]) (fun i hi => by rw [k6 i (by omega), u2_o (by omega), j4 89 i (by omega)])⟩
        · unfold f_135
          rw [e181y c0 o0 (by omega) hmd, q_bs, q_11, e178y c4 o4 hr, q_bs, q_n11, j1, q_bs]
          try dsimp only
          rw [c69 ho j2 hg hr (by omega), q_bs]; rfl
        · unfold f_286
          rw [e244y q4 o4 hmd hr, q_bs, q_n11, k1, q_bs]
          try dsimp only
          rw [m286 ho k4 k2 hg k3 hr (ho.2.2.2.2.2.2.2 (by omega)) (by omega)]; rfl
end Q1
