/-! LAYER 3: the model's states -/
def mid (a : Nat → Nat) (he : Nat) : Nat → Nat
  | 0 => he
  | k + 1 => 8 * mid a he k + a k
def mdg (R t r : Nat) : Nat := t / 8 ^ (R - 1 - r) % 8
theorem mid_he {a : Nat → Nat} {he : Nat} : ∀ {k : Nat}, (∀ r, r < k → a r < 8) → mid a he k / 8 ^ k = he
  | 0, _ => Nat.div_one _
  | k + 1, h => by
    have h1 := mid_he (he := he) (fun r hr => h r (by omega) : ∀ r, r < k → a r < 8)
    have h2 := h k (by omega)
    show (8 * mid a he k + a k) / 8 ^ (k + 1) = he
    rw [Nat.pow_succ, Nat.mul_comm (8 ^ k), ← Nat.div_div_eq_div_mul, show (8 * mid a he k + a k) / 8 = mid a he k by omega, h1]
theorem mid_dg {a : Nat → Nat} {he : Nat} : ∀ {k : Nat}, (∀ r, r < k → a r < 8) → ∀ r, r < k → mdg k (mid a he k) r = a r
  | 0, _, r, hr => absurd hr (by omega)
  | k + 1, h, r, hr => by
    have h2 := h k (by omega)
    unfold mdg
    show (8 * mid a he k + a k) / 8 ^ (k + 1 - 1 - r) % 8 = a r
    by_cases e : r = k
    · subst e
      rw [show r + 1 - 1 - r = 0 by omega, Nat.pow_zero, Nat.div_one]; omega
    · have h1 := mid_dg (he := he) (fun r hr => h r (by omega) : ∀ r, r < k → a r < 8) r (by omega)
      unfold mdg at h1
      rw [show k + 1 - 1 - r = (k - 1 - r) + 1 by omega, Nat.pow_succ, Nat.mul_comm (8 ^ (k - 1 - r)), ← Nat.div_div_eq_div_mul, show (8 * mid a he k + a k) / 8 = mid a he k by omega, h1]
theorem mid_cg {a b : Nat → Nat} {he : Nat} : ∀ {k : Nat}, (∀ r, r < k → a r = b r) → mid a he k = mid b he k
  | 0, _ => rfl
  | k + 1, h => by
    show 8 * mid a he k + a k = 8 * mid b he k + b k
    rw [mid_cg (fun r hr => h r (by omega)), h k (by omega)]
theorem mid_lt {a : Nat → Nat} {he : Nat} : ∀ {k : Nat}, (∀ r, r < k → a r < 8) → mid a he k < (he + 1) * 8 ^ k
  | 0, _ => by show he < (he + 1) * 1; omega
  | k + 1, h => by
    have h1 := mid_lt (he := he) (fun r hr => h r (by omega) : ∀ r, r < k → a r < 8)
    have h2 := h k (by omega)
    show 8 * mid a he k + a k < (he + 1) * 8 ^ (k + 1)
    rw [Nat.pow_succ, ← Nat.mul_assoc]; omega
theorem mid_all (t : Nat) : ∀ (R k : Nat), k ≤ R → mid (mdg R t) (t / 8 ^ R) k = t / 8 ^ (R - k)
  | R, 0, _ => rfl
  | R, k + 1, h => by
    show 8 * mid (mdg R t) (t / 8 ^ R) k + mdg R t k = _
    rw [mid_all t R k (by omega)]
    unfold mdg
    rw [show R - 1 - k = R - (k + 1) by omega, show R - k = (R - (k + 1)) + 1 by omega, Nat.pow_succ, ← Nat.div_div_eq_div_mul]
    omega
theorem mid_self (t R : Nat) : mid (mdg R t) (t / 8 ^ R) R = t := by
  rw [mid_all t R R (Nat.le_refl _), Nat.sub_self, Nat.pow_zero, Nat.div_one]
def cdg (R t r : Nat) : Nat := if r < R then mdg R t r else 0
def cv (R t : Nat) : Nat := sid (t / 8 ^ R) (cdg R t)
theorem cdg_lt (R t r : Nat) : cdg R t r < 8 := by
  unfold cdg mdg
  split
  · omega
  · omega
theorem cv_he (R t : Nat) : cv R t / 4096 = t / 8 ^ R := he_sid (fun r _ => cdg_lt R t r)
theorem cv_dg (R t : Nat) {r : Nat} (hr : r < 4) : dg (cv R t) r = cdg R t r := dg_sid (fun r _ => cdg_lt R t r) hr
theorem sid_cg {he : Nat} {a b : Nat → Nat} (h : ∀ r, r < 4 → a r = b r) : sid he a = sid he b := by
  unfold sid
  rw [h 0 (by omega), h 1 (by omega), h 2 (by omega), h 3 (by omega)]
theorem cv_mid {R he : Nat} {b : Nat → Nat} (hb : ∀ r, b r < 8) (hz : ∀ r, R ≤ r → b r = 0) : cv R (mid b he R) = sid he b := by
  unfold cv
  rw [mid_he (fun r _ => hb r)]
  refine sid_cg (fun r hr => ?_)
  unfold cdg
  by_cases h : r < R
  · rw [if_pos h, mid_dg (fun r _ => hb r) r h]
  · rw [if_neg h, hz r (by omega)]
theorem cv_inj {R t u : Nat} (hR : R ≤ 4) (h : cv R t = cv R u) : t = u := by
  rw [← mid_self t R, ← mid_self u R]
  have h1 : t / 8 ^ R = u / 8 ^ R := by rw [← cv_he, ← cv_he, h]
  rw [h1]
  refine mid_cg (fun r hr => ?_)
  have h2 : cdg R t r = cdg R u r := by rw [← cv_dg R t (show r < 4 by omega), ← cv_dg R u (show r < 4 by omega), h]
  unfold cdg at h2
  rwa [if_pos hr, if_pos hr] at h2
def msz (H : HD) : Nat := H.1 4 * 8 ^ (H.1 4)
theorem msz_le {H : HD} (o4 : H.1 4 ≤ 4) : msz H ≤ 16384 := by
  unfold msz
  exact (show ∀ r, r < 5 → r * 8 ^ r ≤ 16384 by decide) _ (by omega)
theorem pw8 {R : Nat} (hR : R ≤ 4) : 8 ^ R ≤ 4096 := (show ∀ r, r < 5 → 8 ^ r ≤ 4096 by decide) _ (by omega)
theorem msz_he {H : HD} {t : Nat} (h : t < msz H) : t / 8 ^ (H.1 4) < H.1 4 := by
  unfold msz at h
  exact Nat.div_lt_of_lt_mul (by rw [Nat.mul_comm]; exact h)
theorem mid_msz {H : HD} {a : Nat → Nat} {he : Nat} (h : ∀ r, r < H.1 4 → a r < 8) (hh : he < H.1 4) : mid a he (H.1 4) < msz H := by
  have h1 := mid_lt (he := he) h
  unfold msz
  exact Nat.lt_of_lt_of_le h1 (Nat.mul_le_mul_right _ (by omega))
theorem oI_m (j : Nat) : nI j + (-1) = oI j := by unfold oI; rw [Int32.sub_eq_add_neg]
section MST
variable {I : FI} {L : FL} {H : HD} {W : Nat → Nat} {A : AD} {l set : Nat} {wt : Nat → Nat} {n : Nat}
/-- what the model's searches rest on -/
def MK (H : HD) (W : Nat → Nat) (A : AD) (l : Nat) (wt : Nat → Nat) (I : FI) : Prop := HOK H W A ∧ MH I 0 H W A ∧ I 89 25 = nI l ∧ l ≤ 3 ∧ (∀ r, r < H.1 4 → I 104 r = nI (wt r)) ∧ (∀ r, r < H.1 4 → 1 ≤ wt r ∧ wt r ≤ 7) ∧ I 89 27 = nI 0
theorem MK_fr {J : FI} (h : MK H W A l wt I) (e : ∀ c i, (c = 89 ∨ c = 104 ∨ (95 ≤ c ∧ c ≤ 101)) → J c i = I c i) : MK H W A l wt J := by
  obtain ⟨h1, h2, h3, h4, h5, h6, h7⟩ := h
  exact ⟨h1, MH_fr h1 h2 (fun c hc i => e c i (by omega)), by rw [e 89 25 (by omega)]; exact h3, h4, fun r hr => by rw [e 104 r (by omega)]; exact h5 r hr, h6, by rw [e 89 27 (by omega)]; exact h7⟩
theorem e293 (hM : MK H W A l wt I) (hn : 1000 ≤ n) : f_293 n I L = some (nI (msz H)) := by
  have o4 : H.1 4 ≤ 4 := hM.1.1.2.2.2.2.1
  have h8 := pw8 o4
  obtain ⟨s, hs, e⟩ := lpE (fun m k (s : Nat) => c_293_0 n I L m (nI s) (nI k)) (H.1 4) (fun k s => s = H.1 4 * 8 ^ k) (fun s => some (nI s)) (fun m s hs => by
      show b_293_0 n I L (c_293_0 n I L m) (nI s) (nI (H.1 4)) = _
      unfold b_293_0
      rw [e237 hM.2.1, q_bs, if_pos (nI_le (Nat.le_refl _) (by omega))]) (fun m k s hk hs => by
      refine ⟨s * 8, by rw [hs, Nat.pow_succ, Nat.mul_assoc], ?_⟩
      show b_293_0 n I L (c_293_0 n I L m) (nI s) (nI k) = _
      unfold b_293_0
      rw [e237 hM.2.1, q_bs, if_neg (nI_ge hk (by omega)), nI_1, show (8 : Int32) = nI 8 from rfl, pk_mul]) n 0 (H.1 4) (by omega) (by omega) (by rw [Nat.pow_zero, Nat.mul_one])
  unfold f_293
  rw [e237 hM.2.1, q_bs]
  refine Eq.trans ?_ (e.trans (by rw [hs]; rfl))
  rfl
theorem e298 (hM : MK H W A l wt I) : f_298 I L = some (nI (evr H)) := by
  have o4 : H.1 4 ≤ 4 := hM.1.1.2.2.2.2.1
  have : 0 < 2 ^ (H.1 4) := Nat.pow_pos (by omega)
  unfold f_298
  rw [e237 hM.2.1, q_bs, ku_31, ku_31k (by omega), show (1 : Int32) = nI 1 from rfl, ku_one (by omega), pk_sub (by omega)]; rfl
theorem e289 (hM : MK H W A l wt I) {t : Nat} (ht : t < 16384) (hn : 1000 ≤ n) : f_289 n (nI t) I L = some (nI (t / 8 ^ (H.1 4))) := by
  have o4 : H.1 4 ≤ 4 := hM.1.1.2.2.2.2.1
  obtain ⟨s, hs, e⟩ := lpE (fun m k (s : Nat) => c_289_0 n I L m (nI s) (nI k)) (H.1 4) (fun k s => s = t / 8 ^ k) (fun s => some (nI s)) (fun m s hs => by
      show b_289_0 n I L (c_289_0 n I L m) (nI s) (nI (H.1 4)) = _
      unfold b_289_0
      rw [e237 hM.2.1, q_bs, if_pos (nI_le (Nat.le_refl _) (by omega))]) (fun m k s hk hs => by
      have hl : s ≤ t := by rw [hs]; exact Nat.div_le_self _ _
      refine ⟨s / 8, by rw [hs, Nat.pow_succ, Nat.div_div_eq_div_mul], ?_⟩
      show b_289_0 n I L (c_289_0 n I L m) (nI s) (nI k) = _
      unfold b_289_0
      rw [e237 hM.2.1, q_bs, if_neg (nI_ge hk (by omega)), nI_1, show (8 : Int32) = nI 8 from rfl, pk_div (by omega) (by omega) (by omega)]) n 0 t (by omega) (by omega) (by rw [Nat.pow_zero, Nat.div_one])
  unfold f_289
  refine Eq.trans ?_ (e.trans (by rw [hs]))
  rfl
theorem e288 (hM : MK H W A l wt I) {t : Nat} (ht : t < 16384) (hn : 1000 ≤ n) : ∃ J, f_288 n (nI t) I L = some (J, L) ∧ (∀ r, r < H.1 4 → J 105 r = nI (mdg (H.1 4) t r)) ∧ ∀ c i, c ≠ 105 → J c i = I c i := by
  have o4 : H.1 4 ≤ 4 := hM.1.1.2.2.2.2.1
  obtain ⟨J, ⟨j1, j2⟩, e⟩ := lpE (fun m k (s : FI) => c_288_0 n m (nI (t / 8 ^ k)) (oI (H.1 4 - k)) s L) (H.1 4) (fun k s => (∀ r, r < H.1 4 → H.1 4 ≤ r + k → s 105 r = nI (mdg (H.1 4) t r)) ∧ ∀ c i, c ≠ 105 → s c i = I c i) (fun s => some (s, L)) (fun m s hs => by
      show b_288_0 n (c_288_0 n m) (nI (t / 8 ^ (H.1 4))) (oI (H.1 4 - H.1 4)) s L = _
      unfold b_288_0
      rw [Nat.sub_self, oI_0, if_pos (by decide)]) (fun m k s hk hs => by
      have hl : t / 8 ^ k ≤ t := Nat.div_le_self _ _
      obtain ⟨j, hj⟩ : ∃ j, H.1 4 - k = j + 1 := ⟨H.1 4 - k - 1, by omega⟩
      refine ⟨u2 s 105 j (nI (mdg (H.1 4) t j)), ⟨fun r hr hr2 => ?_, fun c i hc => by rw [u2_c hc]; exact hs.2 c i hc⟩, ?_⟩
      · by_cases e : r = j
        · subst e; exact u2_s
        · rw [u2_o e]; exact hs.1 r hr (by omega)
      · show b_288_0 n (c_288_0 n m) (nI (t / 8 ^ k)) (oI (H.1 4 - k)) s L = _
        unfold b_288_0
        rw [hj, oI_s, if_neg (nI_pos (by omega)), ku_if (by omega) (by omega), nI_clamp (by omega), show (8 : Int32) = nI 8 from rfl, pk_rem (by omega) (by omega) (by omega), pk_div (by omega) (by omega) (by omega), oI_m, show H.1 4 - (k + 1) = j by omega, Nat.div_div_eq_div_mul, ← Nat.pow_succ]
        unfold mdg
        rw [show H.1 4 - 1 - j = k by omega]) n 0 I (by omega) (by omega) ⟨fun r hr hr2 => absurd hr2 (by omega), fun _ _ _ => rfl⟩
  refine ⟨J, ?_, fun r hr => j1 r hr (by omega), j2⟩
  unfold f_288
  rw [e237 hM.2.1, q_bs]
  (try dsimp only at e)
  rw [Nat.pow_zero, Nat.div_one, Nat.sub_zero] at e
  exact e
theorem e287 (hM : MK H W A l wt I) {he : Nat} {a : Nat → Nat} (hh : he < H.1 4) (hs : set < 16) (ha : ∀ r, r < H.1 4 → I 105 r = nI (a r)) (h8 : ∀ r, r < H.1 4 → set.testBit r = true → a r < 8) (hn : 1000 ≤ n) : f_287 n (nI he) (nI set) I L = some (nI (mid (fun r => if set.testBit r = true then a r else 0) he (H.1 4))) := by
  have o4 : H.1 4 ≤ 4 := hM.1.1.2.2.2.2.1
  have hb : ∀ k, k ≤ H.1 4 → mid (fun r => if set.testBit r = true then a r else 0) he k < 16384 := fun k hk => by
    have h1 := mid_lt (a := fun r => if set.testBit r = true then a r else 0) (he := he) (k := k) (fun r hr => by
      (try dsimp only)
      split
      · exact h8 r (by omega) (by assumption)
      · omega)
    have h2 := pw8 (show k ≤ 4 by omega)
    have := Nat.mul_le_mul (show he + 1 ≤ 4 by omega) h2
    omega
  obtain ⟨s, hs2, e⟩ := lpE (fun m k (s : Nat) => c_287_0 n I L m (nI set) (nI s) (nI k)) (H.1 4) (fun k s => s = mid (fun r => if set.testBit r = true then a r else 0) he k) (fun s => some (nI s)) (fun m s hs => by
      show b_287_0 n I L (c_287_0 n I L m) (nI set) (nI s) (nI (H.1 4)) = _
      unfold b_287_0
      rw [e237 hM.2.1, q_bs, if_pos (nI_le (Nat.le_refl _) (by omega))]) (fun m k s hk hs2 => by
      refine ⟨_, rfl, ?_⟩
      show b_287_0 n I L (c_287_0 n I L m) (nI set) (nI s) (nI k) = c_287_0 n I L m (nI set) (nI (8 * mid (fun r => if set.testBit r = true then a r else 0) he k + (if set.testBit k = true then a k else 0))) (nI (k + 1))
      unfold b_287_0 c_287_1
      rw [e237 hM.2.1, q_bs, if_neg (nI_ge hk (by omega)), e247 (by omega) (by omega), q_bs, q_b1, show (8 : Int32) = nI 8 from rfl, pk_mul, ku_if (by omega) (by omega), nI_clamp (by omega), ha k hk, nI_add, nI_1, hs2]
      by_cases h : set.testBit k = true
      · rw [if_pos h, if_pos h]
      · rw [if_neg h, if_neg h, ku_0, nI_add]) n 0 he (by omega) (by omega) rfl
  unfold f_287
  refine Eq.trans ?_ (e.trans (by rw [hs2]))
  rfl
theorem e290 (hM : MK H W A l wt I) {a : Nat → Nat} (hs : set < 16) (ha : ∀ r, r < H.1 4 → I 105 r = nI (a r)) (hl : ∀ r, r < H.1 4 → a r ≤ 99) (hn : 1000 ≤ n) : ∃ b, f_290 n (nI set) I L = some (nI b) ∧ ((b = 1 ∧ ∀ r, r < H.1 4 → set.testBit r = true → a r ≤ wt r) ∨ (b = 0 ∧ ¬ ∀ r, r < H.1 4 → set.testBit r = true → a r ≤ wt r)) := by
  have o4 : H.1 4 ≤ 4 := hM.1.1.2.2.2.2.1
  rcases lpG (fun m k (_ : Unit) => c_290_0 n I L m (nI set) (nI k)) (H.1 4) (fun k _ => ∀ r, r < k → set.testBit r = true → a r ≤ wt r) (fun _ => some (nI 1)) (fun x => x = some (nI 0) ∧ ¬ ∀ r, r < H.1 4 → set.testBit r = true → a r ≤ wt r) (fun m s hs => by
      show b_290_0 n I L (c_290_0 n I L m) (nI set) (nI (H.1 4)) = _
      unfold b_290_0
      rw [e237 hM.2.1, q_bs, if_pos (nI_le (Nat.le_refl _) (by omega))]; rfl) (fun m k s hk hI => by
      have hw := hM.2.2.2.2.2.1 k hk
      have hak := hl k hk
      have hstep : c_290_0 n I L (m + 1) (nI set) (nI k) = if set.testBit k = true then (if a k ≤ wt k then c_290_0 n I L m (nI set) (nI (k + 1)) else some (nI 0)) else c_290_0 n I L m (nI set) (nI (k + 1)) := by
        show b_290_0 n I L (c_290_0 n I L m) (nI set) (nI k) = _
        unfold b_290_0 c_290_1
        rw [e237 hM.2.1, q_bs, if_neg (nI_ge hk (by omega)), e247 (by omega) (by omega), q_bs, q_b1, ku_if (by omega) (by omega), ku_if (by omega) (by omega), nI_clamp (by omega), ha k hk, hM.2.2.2.2.1 k hk, nI_1]
        by_cases h : a k ≤ wt k
        · rw [if_pos (nI_le h (by omega)), if_pos h]
        · rw [if_neg (nI_ge (by omega) (by omega)), if_neg h]; rfl
      by_cases hb : set.testBit k = true
      · rw [if_pos hb] at hstep
        by_cases h : a k ≤ wt k
        · rw [if_pos h] at hstep
          exact Or.inr ⟨(), fun r hr hs => by
            rcases (show r < k ∨ r = k by omega) with h1 | rfl
            · exact hI r h1 hs
            · exact h, hstep⟩
        · rw [if_neg h] at hstep
          exact Or.inl ⟨hstep, fun q => h (q k hk hb)⟩
      · rw [if_neg hb] at hstep
        exact Or.inr ⟨(), fun r hr hs => by
            rcases (show r < k ∨ r = k by omega) with h1 | rfl
            · exact hI r h1 hs
            · exact absurd hs hb, hstep⟩) n 0 () (by omega) (by omega) (fun r hr => absurd hr (by omega)) with ⟨h1, h2⟩ | ⟨_, h1, h2⟩
  · exact ⟨0, h1, Or.inr ⟨rfl, h2⟩⟩
  · exact ⟨1, h2, Or.inl ⟨rfl, h1⟩⟩
end MST
