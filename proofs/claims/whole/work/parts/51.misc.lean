/-! LAYER 3: doors, far, count, density, even -/
section MISC
variable {I : FI} {L : FL} {H : HD} {W : Nat → Nat} {A : AD} {n : Nat}
def dbk (H : HD) (a : Nat) : Nat → Nat
  | 0 => 0
  | k + 1 => if dor H a k = true then dbk H a k ||| 2 ^ k else dbk H a k
theorem dbk_tb (H : HD) (a b : Nat) : ∀ k, (dbk H a k).testBit b = (decide (b < k) && dor H a b)
  | 0 => by unfold dbk; simp
  | k + 1 => by
    have ih := dbk_tb H a b k
    unfold dbk
    by_cases h : dor H a k = true
    · rw [if_pos h, tb_or, tb_pw, ih]
      by_cases e : k = b
      · subst e; rw [h]; simp
      · have : (b < k + 1) = (b < k) := propext ⟨fun q => by omega, fun q => by omega⟩
        simp [e, this]
    · rw [if_neg h, ih]
      by_cases e : k = b
      · subst e
        rw [show dor H a k = false by simpa using h]; simp
      · have : (b < k + 1) = (b < k) := propext ⟨fun q => by omega, fun q => by omega⟩
        simp [this]
theorem dbk_dms (ho : HOK H W A) (a : Nat) : dbk H a (H.1 4) = dms H a := by
  apply Nat.eq_of_testBit_eq
  intro b
  rw [dbk_tb]
  show _ = dor H a b
  by_cases h : dor H a b = true
  · have := dor_lt ho h
    rw [h]; simp; omega
  · rw [show dor H a b = false by simpa using h]; simp
theorem m267 (ho : HOK H W A) (hM : MH I 0 H W A) {a : Nat} (ha : a < 4) (hn : 1000 ≤ n) : c_267_0 n n (nI a) 0 0 I L = some (nI (dms H a), I, L) := by
  have o4 : H.1 4 ≤ 4 := ho.1.2.2.2.2.1
  obtain ⟨s', hs, e⟩ := lpE (fun m k (b : Nat) => c_267_0 n m (nI a) (nI b) (nI k) I L) (H.1 4) (fun k b => b = dbk H a k) (fun b => some (nI b, I, L)) (fun m s hs => by
      show b_267_0 n (c_267_0 n m) (nI a) (nI s) (nI (H.1 4)) I L = _
      unfold b_267_0
      rw [e237 hM, q_bs, if_pos (nI_le (Nat.le_refl _) (by omega))]) (fun m k s hk hs => by
      refine ⟨dbk H a (k + 1), rfl, ?_⟩
      show b_267_0 n (c_267_0 n m) (nI a) (nI s) (nI k) I L = c_267_0 n m (nI a) (nI (if dor H a k = true then dbk H a k ||| 2 ^ k else dbk H a k)) (nI (k + 1)) I L
      unfold b_267_0 c_267_1
      rw [e237 hM, q_bs, if_neg (nI_ge hk (by omega)), e249 ho hM ha (by omega) hn, q_bs, q_b1, nI_1, hs]
      by_cases h : dor H a k = true
      · rw [if_pos h, if_pos h, ku_or (by omega)]
      · rw [if_neg h, if_neg h, ku_0, fa_or, Nat.or_zero]) n 0 0 (by omega) (by omega) rfl
  rw [show (0 : Int32) = nI 0 from rfl, e, hs, dbk_dms ho]
theorem fvl_oI (H : HD) (a b : Nat) : (if fvl H a b < 100000 then nI (fvl H a b) else oI 0) = oI (dst (dor H) a b) := by
  have := dst_le (dor H) a b
  unfold fvl
  by_cases h : dst (dor H) a b = 0
  · rw [if_pos h, if_neg (by omega), h]
  · rw [if_neg h, if_pos (by omega), ku_o1 (by omega)]
theorem m268 (ho : HOK H W A) (hM : MH I 0 H W A) {a b : Nat} (ha : a < H.1 4) (hb : b < H.1 4) (hn : 1000 ≤ n) : ∃ J, ((f_251 n (nI a) (nI b) I L).bind fun q2 => if q2.1 < 100000 then (f_251 n (nI a) (nI b) q2.2.1 q2.2.2).bind fun q3 => some (q3.1, q3.2.1, q3.2.2) else some (-1, q2.2.1, q2.2.2)) = some (oI (dst (dor H) a b), J, L) ∧ ∀ c i, c ≠ 103 → J c i = I c i := by
  obtain ⟨J, j1, j2⟩ := e251 (n := n) (L := L) ho hM ha hb hn
  obtain ⟨K, k1, k2⟩ := e251 (n := n) (L := L) ho (MH_far ho hM j2) ha hb hn
  have hl := fvl_lt H a b
  rw [j1, q_bs]
  dsimp only
  rw [← fvl_oI, ku_100k]
  by_cases h : fvl H a b < 100000
  · exact ⟨K, by rw [if_pos (nI_lt h (by omega)), k1, q_bs, if_pos h], fun c i hc => by rw [k2 c i hc, j2 c i hc]⟩
  · exact ⟨J, by rw [if_neg (nI_nlt (by omega) (by omega)), if_neg h, ku_m], j2⟩
/-- the greatest common divisor, by Euclid, within its turns -/
theorem half_mod {b r : Nat} (h0 : 0 < r) (h : r < b) : 2 * (b % r) < b := by
  by_cases h2 : 2 * r ≤ b
  · have := Nat.mod_lt b h0; omega
  · have : b % r = b - r := by
      rw [Nat.mod_eq_sub_mod (by omega), Nat.mod_eq_of_lt (by omega)]
    omega
theorem m318 : ∀ (k : Nat) {m a b : Nat}, a < 2 ^ 31 → b < 2 ^ k → k ≤ 31 → 2 * k + 1 ≤ m → f_318 n m (nI a) (nI b) I L = some (nI (Nat.gcd a b))
  | k, m, a, b, ha, hb, hk, hm => by
    have hp : 2 ^ k ≤ 2 ^ 31 := Nat.pow_le_pow_right (by omega) hk
    obtain ⟨m1, rfl⟩ : ∃ m1, m = m1 + 1 := ⟨m - 1, by omega⟩
    show g_318 n (f_318 n m1) (nI a) (nI b) I L = _
    unfold g_318
    by_cases h0 : b = 0
    · rw [if_neg (by rw [h0]; decide), h0, Nat.gcd_zero_right]
    · rw [if_pos (by rw [ku_0, nI_eq (by omega) (by omega)]; exact h0), if_neg (by rw [ku_0, nI_eq (by omega) (by omega)]; exact h0), pk_rem ha (by omega) (by omega)]
      have hr : a % b < b := Nat.mod_lt _ (by omega)
      have e1 : Nat.gcd a b = Nat.gcd b (a % b) := by rw [Nat.gcd_comm a b, Nat.gcd_rec b a, Nat.gcd_comm]
      cases k with
      | zero => simp at hb; omega
      | succ k =>
        obtain ⟨m2, rfl⟩ : ∃ m2, m1 = m2 + 1 := ⟨m1 - 1, by omega⟩
        have e2 : f_318 n (m2 + 1) (nI b) (nI (a % b)) I L = some (nI (Nat.gcd b (a % b))) := by
          show g_318 n (f_318 n m2) (nI b) (nI (a % b)) I L = _
          unfold g_318
          by_cases h1 : a % b = 0
          · rw [if_neg (by rw [h1]; decide), h1, Nat.gcd_zero_right]
          · have hh := half_mod (b := b) (r := a % b) (by omega) hr
            have hlt : b % (a % b) < 2 ^ k := by rw [Nat.pow_succ] at hb; omega
            rw [if_pos (by rw [ku_0, nI_eq (by omega) (by omega)]; exact h1), if_neg (by rw [ku_0, nI_eq (by omega) (by omega)]; exact h1), pk_rem (by omega) (by omega) (by omega), m318 k (by omega) hlt (by omega) (by omega), q_bs, Nat.gcd_comm b (a % b), Nat.gcd_rec (a % b) b, Nat.gcd_comm]
        rw [e2, q_bs, e1]
theorem l197 {x y w : Int32} : ∀ (k : Nat) {m i a b : Nat}, a < 2 ^ 31 → b < 2 ^ k → k ≤ 31 → i + 2 * k < 64 → 64 ≤ m + i → c_197_0 n I L (m + 1) x y w (nI a) (nI b) (nI i) = c_197_1 n I L x y w (nI (Nat.gcd a b))
  | k, m, i, a, b, ha, hb, hk, hi, hm => by
    have hp : 2 ^ k ≤ 2 ^ 31 := Nat.pow_le_pow_right (by omega) hk
    show b_197_0 n I L (c_197_0 n I L m) x y w (nI a) (nI b) (nI i) = _
    unfold b_197_0
    rw [if_neg (show ¬ (64 : Int32) ≤ nI i from nI_ge (b := 64) (by omega) (by omega))]
    by_cases h0 : b = 0
    · rw [if_pos (by rw [h0]; rfl), h0, Nat.gcd_zero_right]
    · rw [if_neg (by rw [ku_0, nI_eq (by omega) (by omega)]; exact h0), if_neg (by rw [ku_0, nI_eq (by omega) (by omega)]; exact h0), pk_rem ha (by omega) (by omega), nI_1]
      have hr : a % b < b := Nat.mod_lt _ (by omega)
      have e1 : Nat.gcd a b = Nat.gcd b (a % b) := by rw [Nat.gcd_comm a b, Nat.gcd_rec b a, Nat.gcd_comm]
      cases k with
      | zero => simp at hb; omega
      | succ k =>
        obtain ⟨m2, rfl⟩ : ∃ m2, m = m2 + 1 := ⟨m - 1, by omega⟩
        show b_197_0 n I L (c_197_0 n I L m2) x y w (nI b) (nI (a % b)) (nI (i + 1)) = _
        unfold b_197_0
        rw [if_neg (show ¬ (64 : Int32) ≤ nI (i + 1) from nI_ge (b := 64) (by omega) (by omega))]
        by_cases h1 : a % b = 0
        · rw [if_pos (by rw [h1]; rfl), e1, h1, Nat.gcd_zero_right]
        · have hh := half_mod (b := b) (r := a % b) (by omega) hr
          have hlt : b % (a % b) < 2 ^ k := by rw [Nat.pow_succ] at hb; omega
          obtain ⟨m3, rfl⟩ : ∃ m3, m2 = m3 + 1 := ⟨m2 - 1, by omega⟩
          rw [if_neg (by rw [ku_0, nI_eq (by omega) (by omega)]; exact h1), if_neg (by rw [ku_0, nI_eq (by omega) (by omega)]; exact h1), pk_rem (by omega) (by omega) (by omega), nI_1, l197 k (by omega) hlt (by omega) (by omega) (by omega), e1, Nat.gcd_comm b (a % b), Nat.gcd_rec (a % b) b, Nat.gcd_comm]
/-- a fraction's part, in lowest terms -/
def frc (a b w : Nat) : Nat := (if w = 0 then a else b) / Nat.gcd a b
theorem c197 {a b w : Nat} (ha : a < 2 ^ 30) (hb : b < 2 ^ 30) (hb0 : 0 < b) (hw : w < 2) (hn : 1000 ≤ n) : f_197 n (nI a) (nI b) (nI w) I L = some (nI (frc a b w)) := by
  have hg : 0 < Nat.gcd a b := Nat.gcd_pos_of_pos_right a hb0
  have hgl : Nat.gcd a b ≤ b := Nat.gcd_le_right a hb0
  unfold f_197 frc
  obtain ⟨m, rfl⟩ : ∃ m, n = m + 1 := ⟨n - 1, by omega⟩
  rw [show (0 : Int32) = nI 0 from rfl, l197 30 (by omega) ha (by omega) (by omega) (by omega), Nat.gcd_comm b a]
  unfold c_197_1
  rw [if_pos (show (1 : Int32) ≤ nI (Nat.gcd a b) from nI_le (a := 1) (by omega) (by omega)), if_neg (show ¬ nI (Nat.gcd a b) = 0 by rw [ku_0, nI_eq (by omega) (by omega)]; omega), pk_div (by omega) hg (by omega), pk_div (by omega) hg (by omega)]
  by_cases h : w = 0
  · rw [if_neg (by rw [h]; decide), if_pos h, if_neg (show ¬ nI (Nat.gcd a b) = 0 by rw [ku_0, nI_eq (by omega) (by omega)]; omega)]
  · rw [if_pos (by rw [ku_0, nI_eq (by omega) (by omega)]; exact h), if_neg h]
theorem m319 {a b w : Nat} (ha : a < 2 ^ 30) (hb : b < 2 ^ 30) (hb0 : 0 < b) (hw : w < 2) : f_319 n (nI a) (nI b) (nI w) I L = some (nI (frc a b w)) := by
  have hg : 0 < Nat.gcd a b := Nat.gcd_pos_of_pos_right a hb0
  have hgl : Nat.gcd a b ≤ b := Nat.gcd_le_right a hb0
  unfold f_319 frc c_319_0
  rw [m318 30 (by omega) hb (by omega) (by omega), q_bs, q_bs, if_neg (show ¬ nI (Nat.gcd a b) = 0 by rw [ku_0, nI_eq (by omega) (by omega)]; omega), pk_div (by omega) hg (by omega), if_neg (show ¬ nI (Nat.gcd a b) = 0 by rw [ku_0, nI_eq (by omega) (by omega)]; omega), pk_div (by omega) hg (by omega)]
  by_cases h : w = 0
  · rw [if_neg (by rw [h]; decide), if_pos h]
  · rw [if_pos (by rw [ku_0, nI_eq (by omega) (by omega)]; exact h), if_neg h]
def dnk (H : HD) : Nat → Nat
  | 0 => 0
  | k + 1 => dnk H k + 840 / (H.2 0 k + 1)
theorem dnk_le (H : HD) : ∀ k, dnk H k ≤ 840 * k
  | 0 => by unfold dnk; omega
  | k + 1 => by
    have := dnk_le H k
    have := Nat.div_le_self 840 (H.2 0 k + 1)
    unfold dnk; omega
theorem c148 (ho : HOK H W A) (hC : CH I 3 11 H W A) {w : Nat} (hw : w < 2) (hn : 1000 ≤ n) : c_148_0 n I L n (nI w) 0 0 = some (nI (frc (dnk H (H.1 4)) 840 w)) := by
  have o4 : H.1 4 ≤ 4 := ho.1.2.2.2.2.1
  have hd := dnk_le H (H.1 4)
  obtain ⟨s', hs, e⟩ := lpE (fun m k (b : Nat) => c_148_0 n I L m (nI w) (nI b) (nI k)) (H.1 4) (fun k b => b = dnk H k) (fun b => some (nI (frc (dnk H (H.1 4)) 840 w))) (fun m s hs => by
      show b_148_0 n I L (c_148_0 n I L m) (nI w) (nI s) (nI (H.1 4)) = _
      unfold b_148_0
      rw [chs hC (by decide), if_pos (nI_le (Nat.le_refl _) (by omega)), hs, show (840 : Int32) = nI 840 from rfl, c197 (by omega) (by omega) (by omega) hw hn, q_bs]) (fun m k s hk hs => by
      have h1 := ho.2.1 k hk
      refine ⟨dnk H (k + 1), rfl, ?_⟩
      show b_148_0 n I L (c_148_0 n I L m) (nI w) (nI s) (nI k) = c_148_0 n I L m (nI w) (nI (dnk H k + 840 / (H.2 0 k + 1))) (nI (k + 1))
      unfold b_148_0
      rw [chs hC (by decide), if_neg (nI_ge hk (by omega)), ku_if (by omega) (by omega), nI_clamp (by omega), ch_wt hC hk, nI_1, if_neg (by rw [ku_0, nI_eq (by omega) (by omega)]; omega), show (840 : Int32) = nI 840 from rfl, pk_div (by omega) (by omega) (by omega), hs, nI_add, nI_1]) n 0 0 (by omega) (by omega) rfl
  rw [show (0 : Int32) = nI 0 from rfl, e]
theorem m320 (ho : HOK H W A) (hM : MH I 0 H W A) {w : Nat} (hw : w < 2) (hn : 1000 ≤ n) : c_320_0 n n (nI w) 0 0 I L = some (nI (frc (dnk H (H.1 4)) 840 w), I, L) := by
  have o4 : H.1 4 ≤ 4 := ho.1.2.2.2.2.1
  have hd := dnk_le H (H.1 4)
  obtain ⟨s', hs, e⟩ := lpE (fun m k (b : Nat) => c_320_0 n m (nI w) (nI b) (nI k) I L) (H.1 4) (fun k b => b = dnk H k) (fun b => some (nI (frc (dnk H (H.1 4)) 840 w), I, L)) (fun m s hs => by
      show b_320_0 n (c_320_0 n m) (nI w) (nI s) (nI (H.1 4)) I L = _
      unfold b_320_0
      rw [e237 hM, q_bs, if_pos (nI_le (Nat.le_refl _) (by omega)), hs, show (840 : Int32) = nI 840 from rfl, m319 (by omega) (by omega) (by omega) hw, q_bs]) (fun m k s hk hs => by
      have h1 := ho.2.1 k hk
      refine ⟨dnk H (k + 1), rfl, ?_⟩
      show b_320_0 n (c_320_0 n m) (nI w) (nI s) (nI k) I L = c_320_0 n m (nI w) (nI (dnk H k + 840 / (H.2 0 k + 1))) (nI (k + 1)) I L
      unfold b_320_0
      rw [e237 hM, q_bs, if_neg (nI_ge hk (by omega)), ku_2, pk_mul, ku_if (by omega) (by omega), nI_clamp (by omega), mhwt hM hk, nI_1, if_neg (by rw [ku_0, nI_eq (by omega) (by omega)]; omega), show (840 : Int32) = nI 840 from rfl, pk_div (by omega) (by omega) (by omega), hs, nI_add, nI_1]) n 0 0 (by omega) (by omega) rfl
  rw [show (0 : Int32) = nI 0 from rfl, e]
/-- of each two waits and 1, one divides the other -/
def evP (H : HD) : Prop := ∀ a b, a < H.1 4 → b < H.1 4 → H.2 0 b ≤ H.2 0 a → (H.2 0 a + 1) % (H.2 0 b + 1) = 0
def evQ (H : HD) (a b : Nat) : Bool := decide (H.2 0 b ≤ H.2 0 a) && !decide ((H.2 0 a + 1) % (H.2 0 b + 1) = 0)
theorem c149 (ho : HOK H W A) (hC : CH I 3 11 H W A) (hn : 1000 ≤ n) : c_149_0 n I L n 0 = some (nI (if (List.range (H.1 4)).all (fun a => (List.range (H.1 4)).all fun b => !evQ H a b) = true then 1 else 0)) := by
  have o4 : H.1 4 ≤ 4 := ho.1.2.2.2.2.1
  have hall : ((List.range (H.1 4)).all (fun a => (List.range (H.1 4)).all fun b => !evQ H a b) = true) ↔ ∀ a, a < H.1 4 → ∀ b, b < H.1 4 → evQ H a b = false := by
    simp only [List.all_eq_true, List.mem_range, Bool.not_eq_true']
  refine lpGk (fun m k (_ : Unit) => c_149_0 n I L m (nI k)) (H.1 4) (fun k _ => ∀ a b, a < k → b < k → evQ H a b = false) (fun _ => some 1) (fun q => q = some 0 ∧ ∃ a b, a < H.1 4 ∧ b < H.1 4 ∧ evQ H a b = true) n 0 () (by omega) (by omega) (fun a b ha => absurd ha (by omega)) (fun ⟨h, a, b, ha, hb, hq⟩ => ?_) (fun _ h e => ?_) (fun m s hs => ?_) (fun m k s hk hs => ?_)
  · rw [show (0 : Int32) = nI 0 from rfl, h, if_neg (fun q => by rw [hall.mp q a ha b hb] at hq; exact absurd hq (by decide))]; rfl
  · rw [show (0 : Int32) = nI 0 from rfl, e, if_pos (hall.mpr (fun a ha b hb => h a b ha hb))]; rfl
  · show b_149_0 n I L (c_149_0 n I L m) (nI (H.1 4)) = _
    unfold b_149_0
    rw [chs hC (by decide), if_pos (nI_le (Nat.le_refl _) (by omega))]
  · show (b_149_0 n I L (c_149_0 n I L m) (nI k) = some 0 ∧ _) ∨ ∃ s', _ ∧ b_149_0 n I L (c_149_0 n I L m) (nI k) = _
    unfold b_149_0
    rw [chs hC (by decide), if_neg (nI_ge hk (by omega))]
    have hkw := ho.2.1 k hk
    refine lpGk (fun m' j (_ : Unit) => c_149_1 n I L (c_149_0 n I L m) m' (nI k) (nI j)) k (fun j _ => ∀ b, b < j → evQ H k b = false ∧ evQ H b k = false) (fun _ => c_149_0 n I L m (nI (k + 1))) (fun q => q = some 0 ∧ ∃ a b, a < H.1 4 ∧ b < H.1 4 ∧ evQ H a b = true) n 0 () (by omega) (by omega) (fun b hb => absurd hb (by omega)) (fun h => ?_) (fun _ h e => ?_) (fun m' s hs => ?_) (fun m' j s hj hs2 => ?_)
    · exact Or.inl h
    · refine Or.inr ⟨(), fun a b ha hb => ?_, e⟩
      rcases (show a < k ∨ a = k by omega) with h1 | rfl
      · rcases (show b < k ∨ b = k by omega) with h2 | rfl
        · exact hs a b h1 h2
        · exact (h a h1).2
      · rcases (show b < a ∨ b = a by omega) with h2 | rfl
        · exact (h b h2).1
        · unfold evQ; simp
    · show b_149_1 n I L _ (c_149_1 n I L _ m') (nI k) (nI k) = _
      unfold b_149_1
      rw [if_pos (nI_le (Nat.le_refl _) (by omega)), nI_1]
    · have hjw := ho.2.1 j (by omega)
      have e1 : c_149_1 n I L (c_149_0 n I L m) (m' + 1) (nI k) (nI j) = if evQ H k j = true ∨ evQ H j k = true then some 0 else c_149_1 n I L (c_149_0 n I L m) m' (nI k) (nI (j + 1)) := by
        show b_149_1 n I L _ (c_149_1 n I L _ m') (nI k) (nI j) = _
        unfold b_149_1 f_358_1 f_359
        rw [if_neg (nI_ge hj (by omega)), ku_if (by omega) (by omega), ku_if (by omega) (by omega), nI_clamp (by omega), nI_clamp (by omega), ch_wt hC hk, ch_wt hC (show j < H.1 4 by omega), nI_1, nI_1, nI_1]
        have hQ : (evQ H k j = true ∨ evQ H j k = true) ↔ ¬ ((if H.2 0 k < H.2 0 j then H.2 0 j + 1 else H.2 0 k + 1) % (if H.2 0 j < H.2 0 k then H.2 0 j + 1 else H.2 0 k + 1) = 0) := by
          unfold evQ
          simp only [Bool.and_eq_true, decide_eq_true_eq, Bool.not_eq_true', decide_eq_false_iff_not]
          rcases Nat.lt_trichotomy (H.2 0 k) (H.2 0 j) with h | h | h
          · rw [if_pos h, if_neg (by omega)]; omega
          · rw [if_neg (by omega), if_neg (by omega), h]; simp
          · rw [if_neg (by omega), if_pos h]; omega
        have hmx : (if nI (H.2 0 k + 1) < nI (H.2 0 j + 1) then some (nI (H.2 0 j + 1)) else some (nI (H.2 0 k + 1))) = some (nI (if H.2 0 k < H.2 0 j then H.2 0 j + 1 else H.2 0 k + 1)) := by
          by_cases h : H.2 0 k < H.2 0 j
          · rw [if_pos h, if_pos (nI_lt (by omega) (by omega))]
          · rw [if_neg h, if_neg (nI_nlt (by omega) (by omega))]
        have hmn : (if nI (H.2 0 j + 1) < nI (H.2 0 k + 1) then some (nI (H.2 0 j + 1)) else some (nI (H.2 0 k + 1))) = some (nI (if H.2 0 j < H.2 0 k then H.2 0 j + 1 else H.2 0 k + 1)) := by
          by_cases h : H.2 0 j < H.2 0 k
          · rw [if_pos h, if_pos (nI_lt (by omega) (by omega))]
          · rw [if_neg h, if_neg (nI_nlt (by omega) (by omega))]
        have b1 : (if H.2 0 k < H.2 0 j then H.2 0 j + 1 else H.2 0 k + 1) < 100 := by split <;> omega
        have b2 : 0 < (if H.2 0 j < H.2 0 k then H.2 0 j + 1 else H.2 0 k + 1) ∧ (if H.2 0 j < H.2 0 k then H.2 0 j + 1 else H.2 0 k + 1) < 100 := by split <;> omega
        generalize (if H.2 0 k < H.2 0 j then H.2 0 j + 1 else H.2 0 k + 1) = M at *
        generalize (if H.2 0 j < H.2 0 k then H.2 0 j + 1 else H.2 0 k + 1) = N at *
        have hml := Nat.mod_lt M b2.1
        rw [hmx, q_bs, hmn, q_bs, if_neg (by rw [ku_0, nI_eq (by omega) (by omega)]; omega), pk_rem (by omega) b2.1 (by omega)]
        by_cases h : M % N = 0
        · rw [if_pos (by rw [h]; rfl), if_neg (fun q => hQ.mp q h)]
        · rw [if_neg (by rw [ku_0, nI_eq (by omega) (by omega)]; exact h), if_pos (hQ.mpr h)]
      by_cases hq : evQ H k j = true ∨ evQ H j k = true
      · refine Or.inl ⟨?_, ?_⟩
        · show c_149_1 n I L (c_149_0 n I L m) (m' + 1) (nI k) (nI j) = _
          rw [e1, if_pos hq]
        · rcases hq with hq | hq
          · exact ⟨k, j, hk, by omega, hq⟩
          · exact ⟨j, k, by omega, hk, hq⟩
      · refine Or.inr ⟨(), fun b hb => ?_, ?_⟩
        · rcases (show b < j ∨ b = j by omega) with h1 | rfl
          · exact hs2 b h1
          · exact ⟨by simpa using fun q => hq (Or.inl q), by simpa using fun q => hq (Or.inr q)⟩
        · show c_149_1 n I L (c_149_0 n I L m) (m' + 1) (nI k) (nI j) = _
          rw [e1, if_neg hq]
theorem m321 (ho : HOK H W A) (hM : MH I 0 H W A) (hn : 1000 ≤ n) : c_321_0 n n 0 I L = some (nI (if (List.range (H.1 4)).all (fun a => (List.range (H.1 4)).all fun b => !evQ H a b) = true then 1 else 0), I, L) := by
  have o4 : H.1 4 ≤ 4 := ho.1.2.2.2.2.1
  have hall : ((List.range (H.1 4)).all (fun a => (List.range (H.1 4)).all fun b => !evQ H a b) = true) ↔ ∀ a, a < H.1 4 → ∀ b, b < H.1 4 → evQ H a b = false := by
    simp only [List.all_eq_true, List.mem_range, Bool.not_eq_true']
  refine lpGk (fun m k (_ : Unit) => c_321_0 n m (nI k) I L) (H.1 4) (fun k _ => ∀ a b, a < k → b < H.1 4 → evQ H a b = false) (fun _ => some (1, I, L)) (fun q => q = some (0, I, L) ∧ ∃ a b, a < H.1 4 ∧ b < H.1 4 ∧ evQ H a b = true) n 0 () (by omega) (by omega) (fun a b ha => absurd ha (by omega)) (fun ⟨h, a, b, ha, hb, hq⟩ => ?_) (fun _ h e => ?_) (fun m s hs => ?_) (fun m k s hk hs => ?_)
  · rw [show (0 : Int32) = nI 0 from rfl, h, if_neg (fun q => by rw [hall.mp q a ha b hb] at hq; exact absurd hq (by decide))]; rfl
  · rw [show (0 : Int32) = nI 0 from rfl, e, if_pos (hall.mpr (fun a ha b hb => h a b ha hb))]; rfl
  · show b_321_0 n (c_321_0 n m) (nI (H.1 4)) I L = _
    unfold b_321_0
    rw [e237 hM, q_bs, if_pos (nI_le (Nat.le_refl _) (by omega))]
  · show (b_321_0 n (c_321_0 n m) (nI k) I L = some (0, I, L) ∧ _) ∨ ∃ s', _ ∧ b_321_0 n (c_321_0 n m) (nI k) I L = _
    unfold b_321_0
    rw [e237 hM, q_bs, if_neg (nI_ge hk (by omega))]
    have hkw := ho.2.1 k hk
    refine lpGk (fun m' j (_ : Unit) => c_321_1 n (c_321_0 n m) m' (nI k) (nI j) I L) (H.1 4) (fun j _ => ∀ b, b < j → evQ H k b = false) (fun _ => c_321_0 n m (nI (k + 1)) I L) (fun q => q = some (0, I, L) ∧ ∃ a b, a < H.1 4 ∧ b < H.1 4 ∧ evQ H a b = true) n 0 () (by omega) (by omega) (fun b hb => absurd hb (by omega)) (fun h => ?_) (fun _ h e => ?_) (fun m' s hs => ?_) (fun m' j s hj hs2 => ?_)
    · exact Or.inl h
    · refine Or.inr ⟨(), fun a b ha hb => ?_, e⟩
      rcases (show a < k ∨ a = k by omega) with h1 | rfl
      · exact hs a b h1 hb
      · exact h b hb
    · show b_321_1 n _ (c_321_1 n _ m') (nI k) (nI (H.1 4)) I L = _
      unfold b_321_1
      rw [e237 hM, q_bs, if_pos (nI_le (Nat.le_refl _) (by omega)), nI_1]
    · have hjw := ho.2.1 j hj
      have hml := Nat.mod_lt (H.2 0 k + 1) (show 0 < H.2 0 j + 1 by omega)
      have e1 : c_321_1 n (c_321_0 n m) (m' + 1) (nI k) (nI j) I L = if evQ H k j = true then some (0, I, L) else c_321_1 n (c_321_0 n m) m' (nI k) (nI (j + 1)) I L := by
        show b_321_1 n _ (c_321_1 n _ m') (nI k) (nI j) I L = _
        unfold b_321_1 c_321_2
        rw [e237 hM, q_bs, if_neg (nI_ge hj (by omega)), ku_2, pk_mul, pk_mul, ku_if (by omega) (by omega), ku_if (by omega) (by omega), ku_if (by omega) (by omega), ku_if (by omega) (by omega), nI_clamp (by omega), nI_clamp (by omega), mhwt hM hk, mhwt hM hj, nI_1, nI_1, nI_1]
        unfold evQ
        by_cases h1 : H.2 0 k < H.2 0 j
        · rw [if_pos (nI_lt h1 (by omega)), if_neg (by simp; omega)]
        · rw [if_neg (nI_nlt (by omega) (by omega)), if_neg (by rw [ku_0, nI_eq (by omega) (by omega)]; omega), pk_rem (by omega) (by omega) (by omega)]
          by_cases h2 : (H.2 0 k + 1) % (H.2 0 j + 1) = 0
          · rw [if_pos (by rw [h2]; rfl), if_neg (by simp [h2])]
          · rw [if_neg (by rw [ku_0, nI_eq (by omega) (by omega)]; exact h2), if_pos (by simp [h2]; omega)]
      by_cases hq : evQ H k j = true
      · refine Or.inl ⟨?_, k, j, hk, hj, hq⟩
        show c_321_1 n (c_321_0 n m) (m' + 1) (nI k) (nI j) I L = _
        rw [e1, if_pos hq]
      · refine Or.inr ⟨(), fun b hb => ?_, ?_⟩
        · rcases (show b < j ∨ b = j by omega) with h1 | rfl
          · exact hs2 b h1
          · simpa using hq
        · show c_321_1 n (c_321_0 n m) (m' + 1) (nI k) (nI j) I L = _
          rw [e1, if_neg hq]
end MISC
