/-! LAYER 3: ages packed; the class's Ageing. Printed by wip/whole/gen63.py -/
def pa (a : Nat → Nat) : Nat := a 0 + 16 * a 1 + 256 * a 2 + 4096 * a 3
def sid (he : Nat) (a : Nat → Nat) : Nat := 4096 * he + (a 0 + 8 * a 1 + 64 * a 2 + 512 * a 3)
def dg (s r : Nat) : Nat := s / 8 ^ r % 8
def kst (H : HD) (l set f to : Nat) (a : Nat → Nat) (r : Nat) : Nat := if set.testBit r = true then agc H l (to + 1) f 0 r (a r) else 0
def kbB (set : Nat) (wt a : Nat → Nat) : Bool := (List.range 4).all fun r => !set.testBit r || decide (a r ≤ wt r)
theorem kbB_p {set : Nat} {wt a : Nat → Nat} : kbB set wt a = true ↔ ∀ r, r < 4 → set.testBit r = true → a r ≤ wt r := by
  unfold kbB
  simp only [List.all_eq_true, List.mem_range, Bool.or_eq_true, Bool.not_eq_true', decide_eq_true_eq]
  constructor
  · intro h r hr hs
    rcases h r hr with h1 | h1
    · rw [hs] at h1; exact absurd h1 (by decide)
    · exact h1
  · intro h r hr
    cases e : set.testBit r
    · exact Or.inl rfl
    · exact Or.inr (h r hr e)
def slk (set : Nat) (wt : Nat → Nat) : Nat := pa (fun r => 7 - (if set.testBit r = true then wt r else 0))
def inc (H : HD) (l set to r : Nat) : Nat := if r ≠ to ∧ set.testBit r = true ∧ ¬ (l = 3 ∧ dor H to r = true) then 1 else 0
def bcm (l f to x : Nat) : Nat := if l = 1 then x / 2 else if l = 2 ∧ f ≠ to + 1 then x else 0
def AGE (I : FI) (b : Nat) (H : HD) (l set : Nat) (wt : Nat → Nat) : Prop := I b 1 = nI (slk set wt) ∧ I b 2 = nI l ∧ ∀ to, to < H.1 4 → I (b + 1) to = nI (pa (inc H l set to))
theorem kst_e {H : HD} {l set f to : Nat} {a : Nat → Nat} {r : Nat} (ha : set.testBit r = true ∨ a r = 0) : kst H l set f to a r = if r = to then bcm l f to (a to) else a r + inc H l set to r := by
  unfold kst agc bcm inc
  cases e : set.testBit r
  · rw [if_neg (by decide)]
    have h0 : a r = 0 := by rcases ha with h | h
                            · rw [e] at h; exact absurd h (by decide)
                            · exact h
    by_cases hr : r = to
    · subst hr
      rw [if_pos rfl, h0]
      split
      · rfl
      · split <;> rfl
    · rw [if_neg hr, h0, if_neg (fun q => by exact absurd q.2.1 (by decide))]
  · rw [if_pos rfl]
    by_cases hr : r = to
    · subst hr
      rw [if_pos (Or.inl rfl), if_pos rfl]
      by_cases h1 : l = 1
      · rw [if_pos h1, if_pos h1]
      · rw [if_neg h1, if_neg h1]
        by_cases h2 : l = 2 ∧ f ≠ r + 1
        · rw [if_pos h2, if_pos ⟨h2.1, by simp, h2.2⟩]
        · rw [if_neg h2, if_neg (fun q => h2 ⟨q.1, q.2.2⟩)]
    · have hz : (0 : Nat).testBit r = false := by simp
      rw [if_neg (fun q => by
        rcases q with q | q
        · omega
        · rw [hz] at q; exact absurd q (by decide)), if_neg hr, Nat.add_sub_cancel]
      by_cases h3 : l = 3 ∧ dor H to r = true
      · rw [if_pos ⟨h3.1, by omega, h3.2⟩, if_neg (fun q => q.2.2 h3)]; rfl
      · rw [if_neg (fun q => h3 ⟨q.1, q.2.2⟩), if_pos ⟨hr, rfl, h3⟩]
theorem bcm_le {l f to x : Nat} : bcm l f to x ≤ x := by
  unfold bcm
  split
  · omega
  · split <;> omega
theorem inc_le (H : HD) (l set to r : Nat) : inc H l set to r ≤ 1 := by unfold inc; split <;> omega
theorem inc_to (H : HD) (l set to : Nat) : inc H l set to to = 0 := by unfold inc; rw [if_neg (fun q => q.1 rfl)]
theorem pa_dg {a : Nat → Nat} (ha : ∀ r, r < 4 → a r < 16) {to : Nat} (ht : to < 4) : pa a / 2 ^ (4 * to) % 16 = a to := by
  have h0 := ha 0 (by omega)
  have h1 := ha 1 (by omega)
  have h2 := ha 2 (by omega)
  have h3 := ha 3 (by omega)
  unfold pa
  rcases (show to = 0 ∨ to = 1 ∨ to = 2 ∨ to = 3 by omega) with rfl | rfl | rfl | rfl
  · show (a 0 + 16 * a 1 + 256 * a 2 + 4096 * a 3) / 1 % 16 = a 0; omega
  · show (a 0 + 16 * a 1 + 256 * a 2 + 4096 * a 3) / 16 % 16 = a 1; omega
  · show (a 0 + 16 * a 1 + 256 * a 2 + 4096 * a 3) / 256 % 16 = a 2; omega
  · show (a 0 + 16 * a 1 + 256 * a 2 + 4096 * a 3) / 4096 % 16 = a 3; omega
theorem pa_lt {a : Nat → Nat} (ha : ∀ r, r < 4 → a r < 16) : pa a < 65536 := by
  have h0 := ha 0 (by omega)
  have h1 := ha 1 (by omega)
  have h2 := ha 2 (by omega)
  have h3 := ha 3 (by omega)
  unfold pa; omega
theorem and16 (x y : Nat) : x &&& y = (x % 16 &&& y % 16) + 16 * (x / 16 &&& y / 16) := by
  have h1 : (x &&& y) % 16 = x % 16 &&& y % 16 := Nat.and_mod_two_pow (n := 4)
  have h2 : (x &&& y) / 16 = x / 16 &&& y / 16 := Nat.and_div_two_pow (n := 4)
  have := Nat.div_add_mod (x &&& y) 16
  omega
theorem and8 : ∀ d, d < 16 → (d &&& 8 = 0 ↔ d < 8) := by decide
theorem top8 {d : Nat → Nat} (hd : ∀ r, r < 4 → d r < 16) : pa d &&& 34952 = 0 ↔ ∀ r, r < 4 → d r < 8 := by
  have h0 := hd 0 (by omega)
  have h1 := hd 1 (by omega)
  have h2 := hd 2 (by omega)
  have h3 := hd 3 (by omega)
  have e0 := and8 _ h0
  have e1 := and8 _ h1
  have e2 := and8 _ h2
  have e3 := and8 _ h3
  have p1 : pa d % 16 = d 0 := by unfold pa; omega
  have p2 : pa d / 16 = d 1 + 16 * d 2 + 256 * d 3 := by unfold pa; omega
  have q1 : (d 1 + 16 * d 2 + 256 * d 3) % 16 = d 1 := by omega
  have q2 : (d 1 + 16 * d 2 + 256 * d 3) / 16 = d 2 + 16 * d 3 := by omega
  have r1 : (d 2 + 16 * d 3) % 16 = d 2 := by omega
  have r2 : (d 2 + 16 * d 3) / 16 = d 3 := by omega
  rw [and16 (pa d) 34952, p1, p2, and16 (d 1 + 16 * d 2 + 256 * d 3) (34952 / 16), q1, q2, and16 (d 2 + 16 * d 3) (34952 / 16 / 16), r1, r2]
  show (d 0 &&& 8) + 16 * ((d 1 &&& 8) + 16 * ((d 2 &&& 8) + 16 * (d 3 &&& 8))) = 0 ↔ _
  constructor
  · intro h r hr
    rcases (show r = 0 ∨ r = 1 ∨ r = 2 ∨ r = 3 by omega) with rfl | rfl | rfl | rfl
    · exact e0.mp (by omega)
    · exact e1.mp (by omega)
    · exact e2.mp (by omega)
    · exact e3.mp (by omega)
  · intro h
    have := e0.mpr (h 0 (by omega))
    have := e1.mpr (h 1 (by omega))
    have := e2.mpr (h 2 (by omega))
    have := e3.mpr (h 3 (by omega))
    omega
theorem pa_add (a b : Nat → Nat) : pa a + pa b = pa (fun r => a r + b r) := by unfold pa; dsimp only; omega
/-- the sum that tells whether any flame goes out -/
theorem brn8 {set : Nat} {wt a : Nat → Nat} (hw : ∀ r, r < 4 → set.testBit r = true → wt r ≤ 7) (ha : ∀ r, r < 4 → a r ≤ 8) (hz : ∀ r, r < 4 → set.testBit r = true ∨ a r = 0) : (pa a + slk set wt) &&& 34952 = 0 ↔ kbB set wt a = true := by
  have e : pa a + slk set wt = pa (fun r => a r + (7 - (if set.testBit r = true then wt r else 0))) := pa_add a _
  rw [e, top8 (d := fun r => a r + (7 - (if set.testBit r = true then wt r else 0))) (fun r hr => by have := ha r hr; show a r + _ < 16; omega), kbB_p]
  constructor
  · intro h r hr hs
    have h1 : a r + (7 - (if set.testBit r = true then wt r else 0)) < 8 := h r hr
    have h2 := hw r hr hs
    rw [if_pos hs] at h1
    omega
  · intro h r hr
    show a r + (7 - (if set.testBit r = true then wt r else 0)) < 8
    rcases hz r hr with h1 | h1
    · have := h r hr h1
      have := hw r hr h1
      rw [if_pos h1]; omega
    · rw [h1]; omega
theorem ku_34952 : (34952 : Int32) = nI 34952 := rfl
theorem pa_step {H : HD} {l set f to : Nat} {a : Nat → Nat} (ha : ∀ r, r < 4 → a r ≤ 7) (hz : ∀ r, r < 4 → set.testBit r = true ∨ a r = 0) (ht : to < 4) : pa a - a to * 2 ^ (4 * to) + bcm l f to (a to) * 2 ^ (4 * to) + pa (inc H l set to) = pa (kst H l set f to a) ∧ a to * 2 ^ (4 * to) ≤ pa a := by
  have e := fun r hr => kst_e (H := H) (l := l) (f := f) (to := to) (hz r hr)
  have e0 := e 0 (by omega)
  have e1 := e 1 (by omega)
  have e2 := e 2 (by omega)
  have e3 := e 3 (by omega)
  have it := inc_to H l set to
  unfold pa
  rcases (show to = 0 ∨ to = 1 ∨ to = 2 ∨ to = 3 by omega) with rfl | rfl | rfl | rfl
  · rw [if_pos rfl] at e0; rw [if_neg (by omega)] at e1 e2 e3
    show _ - a 0 * 1 + _ * 1 + _ = _ ∧ a 0 * 1 ≤ _
    omega
  · rw [if_pos rfl] at e1; rw [if_neg (by omega)] at e0 e2 e3
    show _ - a 1 * 16 + _ * 16 + _ = _ ∧ a 1 * 16 ≤ _
    omega
  · rw [if_pos rfl] at e2; rw [if_neg (by omega)] at e0 e1 e3
    show _ - a 2 * 256 + _ * 256 + _ = _ ∧ a 2 * 256 ≤ _
    omega
  · rw [if_pos rfl] at e3; rw [if_neg (by omega)] at e0 e1 e2
    show _ - a 3 * 4096 + _ * 4096 + _ = _ ∧ a 3 * 4096 ≤ _
    omega
theorem kst_le {H : HD} {l set f to : Nat} {a : Nat → Nat} (ha : ∀ r, r < 4 → a r ≤ 7) : ∀ r, r < 4 → kst H l set f to a r ≤ 8 := fun r hr => by
  unfold kst
  split
  · exact agc_le (ha r hr)
  · omega
theorem kst_z {H : HD} {l set f to : Nat} {a : Nat → Nat} : ∀ r, r < 4 → set.testBit r = true ∨ kst H l set f to a r = 0 := fun r _ => by
  unfold kst
  cases e : set.testBit r
  · exact Or.inr (if_neg (by decide))
  · exact Or.inl rfl
section AGEC
variable {I : FI} {L : FL} {H : HD} {W : Nat → Nat} {A : AD} {n : Nat}
/-- ages behind a minute -/
theorem e7 {l set : Nat} {wt : Nat → Nat} (hA : AGE I 115 H l set wt) (o4 : H.1 4 ≤ 4) (hl : l ≤ 3) (hw : ∀ r, r < 4 → set.testBit r = true → wt r ≤ 7) {a : Nat → Nat} (ha : ∀ r, r < 4 → a r ≤ 7) (hz : ∀ r, r < 4 → set.testBit r = true ∨ a r = 0) {f to : Nat} (hf : f ≤ 4) (ht : to < H.1 4) : f_7 (nI (pa a)) (oI f) (nI to) I L = some (if kbB set wt (kst H l set f to a) = true then nI (pa (kst H l set f to a)) else oI 0) := by
  obtain ⟨h1, h2, h3⟩ := hA
  have hpl := pa_lt (fun r hr => by have := ha r hr; omega : ∀ r, r < 4 → a r < 16)
  have hat := ha to (by omega)
  have hdg := pa_dg (fun r hr => by have := ha r hr; omega : ∀ r, r < 4 → a r < 16) (show to < 4 by omega)
  have hpw : 2 ^ (4 * to) ≤ 4096 := (show ∀ t, t < 4 → 2 ^ (4 * t) ≤ 4096 by decide) to (by omega)
  have own : (nI (pa a) >>> (((4 : Int32) * nI to) &&& 31)) &&& 15 = nI (a to) := by
    rw [ku_4, pk_mul, ku_31, ku_31k (by omega), ku_shr (by omega) (by omega), show (15 : Int32) = nI (2 ^ 4 - 1) from rfl, fa_mask]
    exact congrArg nI hdg
  obtain ⟨st1, st2⟩ := pa_step (H := H) (l := l) (f := f) ha hz (show to < 4 by omega)
  have hk8 := kst_le (H := H) (l := l) (set := set) (f := f) (to := to) ha
  have hkl := pa_lt (fun r hr => by have := hk8 r hr; omega : ∀ r, r < 4 → kst H l set f to a r < 16)
  have hbc := bcm_le (l := l) (f := f) (to := to) (x := a to)
  have c7 : ∀ x, x = bcm l f to (a to) → c_7_0 I L (nI (pa a)) (nI to) ((4 : Int32) * nI to) (nI (a to)) (nI x) = some (if kbB set wt (kst H l set f to a) = true then nI (pa (kst H l set f to a)) else oI 0) := fun x hx => by
    have m1 : a to * 2 ^ (4 * to) ≤ 7 * 4096 := Nat.mul_le_mul hat hpw
    have m2 : x * 2 ^ (4 * to) ≤ 7 * 4096 := Nat.mul_le_mul (by omega) hpw
    have hlater : nI (pa a) - nI (a to) <<< (((4 : Int32) * nI to) &&& 31) + nI x <<< (((4 : Int32) * nI to) &&& 31) + I (115 + 1) to = nI (pa (kst H l set f to a)) := by
      rw [ku_4, pk_mul, ku_31, ku_31k (by omega), ku_shl (by omega) (by omega), ku_shl (by omega) (by omega), pk_sub st2, nI_add, h3 to ht, nI_add, hx, st1]
    have hsum : (pa (kst H l set f to a) + slk set wt) &&& 34952 = 0 ↔ kbB set wt (kst H l set f to a) = true := brn8 hw hk8 kst_z
    have hle : (pa (kst H l set f to a) + slk set wt) &&& 34952 ≤ 34952 := Nat.and_le_right
    unfold c_7_0
    rw [ku_if (by omega) (by omega), nI_clamp (by omega)]
    rw [show I 116 to = I (115 + 1) to from rfl, hlater, h1, nI_add, ku_34952, fa_and]
    by_cases h : kbB set wt (kst H l set f to a) = true
    · rw [if_pos h, if_neg (by rw [hsum.mpr h]; decide)]
    · rw [if_neg h, if_pos (by rw [ku_0, nI_eq (by omega) (by omega)]; exact fun q => h (hsum.mp q)), oI_0]
  unfold f_7
  rw [h2, own]
  by_cases l1 : l = 1
  · rw [if_neg (by rw [l1]; decide)]
    have : nI (a to) >>> ((1 : Int32) &&& 31) = nI (a to / 2) := by
      rw [show (1 : Int32) &&& 31 = nI 1 by decide, ku_shr (by omega) (by omega)]
    rw [this]
    exact c7 _ (by unfold bcm; rw [if_pos l1])
  · rw [if_pos (by rw [ku_1, nI_eq (by omega) (by omega)]; exact l1)]
    by_cases l2 : l = 2
    · rw [if_neg (by rw [l2]; decide)]
      by_cases hft : f = to + 1
      · rw [if_pos (by rw [hft, oI_s])]
        exact c7 0 (by unfold bcm; rw [if_neg l1, if_neg (fun q => q.2 hft)])
      · rw [if_neg (by rw [oI_nI (by omega) (by omega)]; exact hft)]
        exact c7 _ (by unfold bcm; rw [if_neg l1, if_pos ⟨l2, hft⟩])
    · rw [if_pos (by rw [ku_2, nI_eq (by omega) (by omega)]; exact l2)]
      exact c7 0 (by unfold bcm; rw [if_neg l1, if_neg (fun q => l2 q.1)])
/-- made ready for a set -/
theorem e4 (ho : HOK H W A) (hC : CH I 3 11 H W A) {set : Nat} (hs : set < 2 ^ (H.1 4)) (hn : 1000 ≤ n) : ∃ J, f_4 n (nI set) I L = some (J, L) ∧ AGE J 115 H (H.1 1) set (H.2 0) ∧ ∀ c i, c ≠ 115 → c ≠ 116 → J c i = I c i := by
  have o4 : H.1 4 ≤ 4 := ho.1.2.2.2.2.1
  have o1 : H.1 1 ≤ 3 := ho.1.2.1
  have hp := pw5 _ (show H.1 4 < 5 by omega)
  have hsb : ∀ r, set.testBit r = true → r < H.1 4 := fun r hr => by
    rcases Nat.lt_or_ge r (H.1 4) with h | h
    · exact h
    · rw [Nat.testBit_lt_two_pow (Nat.lt_of_lt_of_le hs (Nat.pow_le_pow_right (by omega) h))] at hr; exact absurd hr (by decide)
  have hwr : ∀ r, set.testBit r = true → 1 ≤ H.2 0 r ∧ H.2 0 r ≤ 7 := fun r hr => ⟨(ho.2.1 r (hsb r hr)).1, (ho.2.1 r (hsb r hr)).2.1⟩
  -- slack
  obtain ⟨J, ⟨j1, j2, j3⟩, e⟩ := lpE (fun m k (s : FI) => c_4_0 n m (nI set) (nI k) s L) 4 (fun k s => s 115 1 = nI (pa (fun r => if r < k then 7 - (if set.testBit r = true then H.2 0 r else 0) else 0)) ∧ (∀ r, r < k → s 116 r = nI 0) ∧ ∀ c i, c ≠ 116 → (c ≠ 115 ∨ i ≠ 1) → s c i = u2 (u2 I 115 2 (I 3 1)) 115 1 0 c i) (fun s => c_4_1 n n (nI set) (nI 0) s L) (fun m s hs => by
      show b_4_0 n (c_4_0 n m) (nI set) (nI 4) s L = _
      unfold b_4_0
      rw [if_pos (by decide)]; rfl) (fun m k s hk hs => by
      obtain ⟨s1, s2, s3⟩ := hs
      have hcell : ∀ v, v ≤ 7 → v = (if set.testBit k = true then H.2 0 k else 0) → c_4_7 n (c_4_0 n m) (nI set) (nI k) (nI v) (u2 s 116 k 0) L = c_4_0 n m (nI set) (nI (k + 1)) (u2 (u2 s 116 k 0) 115 1 (nI (pa (fun r => if r < k + 1 then 7 - (if set.testBit r = true then H.2 0 r else 0) else 0)))) L := fun v hv hv2 => by
        unfold c_4_7
        rw [u2_c (by decide), s1, ku_7, pk_sub (by omega), ku_4, pk_mul, ku_31, ku_31k (by omega), nI_1]
        have hpw : 2 ^ (4 * k) ≤ 4096 := (show ∀ t, t < 4 → 2 ^ (4 * t) ≤ 4096 by decide) k hk
        have m1 : (7 - v) * 2 ^ (4 * k) ≤ 7 * 4096 := Nat.mul_le_mul (by omega) hpw
        rw [ku_shl (by omega) (by omega), fa_or]
        congr 3
        have hb : pa (fun r => if r < k then 7 - (if set.testBit r = true then H.2 0 r else 0) else 0) < 2 ^ (4 * k) := by
          unfold pa
          rcases (show k = 0 ∨ k = 1 ∨ k = 2 ∨ k = 3 by omega) with rfl | rfl | rfl | rfl
          · show _ < 1; simp
          · show _ < 16; simp; omega
          · show _ < 256; simp; omega
          · show _ < 4096; simp; omega
        have := Nat.two_pow_add_eq_or_of_lt hb (7 - v)
        rw [Nat.or_comm, Nat.mul_comm (7 - v), ← this, hv2]
        unfold pa
        rcases (show k = 0 ∨ k = 1 ∨ k = 2 ∨ k = 3 by omega) with rfl | rfl | rfl | rfl <;> simp <;> omega
      refine ⟨u2 (u2 s 116 k 0) 115 1 (nI (pa (fun r => if r < k + 1 then 7 - (if set.testBit r = true then H.2 0 r else 0) else 0))), ⟨u2_s, fun r hr => ?_, fun c i hc hi => ?_⟩, ?_⟩
      · rw [u2_c (by decide)]
        by_cases e : r = k
        · subst e; exact u2_s
        · rw [u2_o e]; exact s2 r (by omega)
      · rw [← s3 c i hc hi]
        by_cases e : c = 115
        · subst e
          rcases hi with hi | hi
          · exact absurd rfl hi
          · rw [u2_o hi, u2_c (by decide)]
        · rw [u2_c e, u2_c hc]
      · show b_4_0 n (c_4_0 n m) (nI set) (nI k) s L = _
        unfold b_4_0
        rw [ku_4, if_neg (nI_ge hk (by omega)), ku_if hk (by omega), ku_bit2 (by omega) (by omega), q_b1, ku_if hk (by omega), nI_clamp (by omega)]
        by_cases h : set.testBit k = true
        · rw [if_pos h, s3 4 k (by decide) (Or.inl (by decide)), u2_c (by decide), u2_c (by decide), ch_wt hC (hsb k h)]
          exact hcell _ (hwr k h).2 (by rw [if_pos h])
        · rw [if_neg h]
          exact hcell 0 (by omega) (by rw [if_neg h])) n 0 _ (by omega) (by omega) ⟨by rw [u2_s]; rfl, fun r hr => absurd hr (by omega), fun _ _ _ _ => rfl⟩
  have hslk : J 115 1 = nI (slk set (H.2 0)) := by
    rw [j1]; rfl
  have hlaw : J 115 2 = nI (H.1 1) := by rw [j3 115 2 (by decide) (Or.inr (by decide)), u2_o (by decide), u2_s]; exact chs hC (by decide)
  have hCs : ∀ {s : FI}, (∀ c i, c ≠ 116 → s c i = J c i) → CH s 3 11 H W A := fun h => CH_u hC (fun a i ha => by rw [h a i (by omega), j3 a i (by omega) (Or.inl (by omega)), u2_c (by omega), u2_c (by omega)])
  -- who grows older
  obtain ⟨K, ⟨k1, k2⟩, e2⟩ := lpE (fun m to (s : FI) => c_4_1 n m (nI set) (nI to) s L) (H.1 4) (fun T s => (∀ to, to < H.1 4 → s 116 to = nI (if to < T then pa (inc H (H.1 1) set to) else 0)) ∧ ∀ c i, c ≠ 116 → s c i = J c i) (fun s => some (s, L)) (fun m s hs => by
      show b_4_1 n (c_4_1 n m) (nI set) (nI (H.1 4)) s L = _
      unfold b_4_1
      rw [chs (hCs hs.2) (by decide), if_pos (nI_le (Nat.le_refl _) (by omega))]) (fun m T s hT hs => by
      obtain ⟨M, ⟨m1, m2⟩, e3⟩ := lpE (fun m' k (s : FI) => c_4_2 n (c_4_1 n m) m' (nI set) (nI T) (nI k) s L) (H.1 4) (fun k s => (∀ to, to < H.1 4 → s 116 to = nI (if to < T then pa (inc H (H.1 1) set to) else if to = T then pa (fun r => if r < k then inc H (H.1 1) set T r else 0) else 0)) ∧ ∀ c i, c ≠ 116 → s c i = J c i) (fun s => c_4_1 n m (nI set) (nI (T + 1)) s L) (fun m' s hs => by
          show b_4_2 n (c_4_1 n m) (c_4_2 n (c_4_1 n m) m') (nI set) (nI T) (nI (H.1 4)) s L = _
          unfold b_4_2
          rw [chs (hCs hs.2) (by decide), if_pos (nI_le (Nat.le_refl _) (by omega)), nI_1]) (fun m' k s hk hs => by
          obtain ⟨t1, t2⟩ := hs
          have hCk := hCs t2
          have hTv := t1 T hT
          rw [if_neg (by omega), if_pos rfl] at hTv
          have e4 : b_4_2 n (c_4_1 n m) (c_4_2 n (c_4_1 n m) m') (nI set) (nI T) (nI k) s L = c_4_2 n (c_4_1 n m) m' (nI set) (nI T) (nI (k + 1)) (if inc H (H.1 1) set T k = 1 then u2 s 116 T (nI (pa (fun r => if r < k then inc H (H.1 1) set T r else 0) ||| 2 ^ (4 * k))) else s) L := by
            have c5 : c_4_5 n (c_4_1 n m) (c_4_2 n (c_4_1 n m) m') (nI set) (nI T) (nI k) s L = c_4_2 n (c_4_1 n m) m' (nI set) (nI T) (nI (k + 1)) s L := by unfold c_4_5; rw [nI_1]
            have c3 : inc H (H.1 1) set T k = 0 → c_4_3 n (c_4_1 n m) (c_4_2 n (c_4_1 n m) m') (nI set) (nI T) (nI k) s L = c_4_2 n (c_4_1 n m) m' (nI set) (nI T) (nI (k + 1)) (if inc H (H.1 1) set T k = 1 then u2 s 116 T (nI (pa (fun r => if r < k then inc H (H.1 1) set T r else 0) ||| 2 ^ (4 * k))) else s) L := fun h0 => by
              unfold c_4_3 c_4_4
              rw [if_pos (by decide), if_neg (by omega), c5]
            have c6 : k ≠ T → ¬ (H.1 1 = 3 ∧ dor H T k = true) → c_4_6 n (c_4_1 n m) (c_4_2 n (c_4_1 n m) m') (nI set) (nI T) (nI k) s L = c_4_2 n (c_4_1 n m) m' (nI set) (nI T) (nI (k + 1)) (if inc H (H.1 1) set T k = 1 then u2 s 116 T (nI (pa (fun r => if r < k then inc H (H.1 1) set T r else 0) ||| 2 ^ (4 * k))) else s) L := fun hne h3 => by
              unfold c_4_6 c_4_4
              rw [if_neg (show ¬ ¬ (0 : Int32) = 0 by decide), ku_bit2 (by omega) (by omega), q_b1]
              by_cases hb : set.testBit k = true
              · have hi : inc H (H.1 1) set T k = 1 := by unfold inc; rw [if_pos ⟨hne, hb, h3⟩]
                rw [if_pos hb, if_pos hi, ku_if (by omega) (by omega), ku_if (by omega) (by omega), nI_clamp (by omega), hTv, ku_4, pk_mul, ku_or (by omega)]
                unfold c_4_5
                rw [nI_1]
              · have hi : inc H (H.1 1) set T k = 0 := by unfold inc; rw [if_neg (fun q => hb q.2.1)]
                rw [if_neg hb, if_neg (by omega), c5]
            unfold b_4_2
            rw [chs hCk (by decide), if_neg (nI_ge hk (by omega))]
            by_cases hkT : k = T
            · rw [if_pos (by rw [hkT])]
              exact c3 (by rw [hkT]; exact inc_to ..)
            · rw [if_neg (by rw [nI_eq (by omega) (by omega)]; exact hkT), t2 115 2 (by decide), hlaw]
              by_cases h3 : H.1 1 = 3
              · have e21 : f_21_1 (nI T) (nI k) s L = some (bI (T = k ∨ dor H T k = true)) := e21 (L := L) ho hCk (by omega) (by omega)
                rw [if_neg (by rw [h3]; decide), e21, q_bs, q_b1]
                by_cases hd : dor H T k = true
                · rw [if_pos (Or.inr hd)]
                  exact c3 (by unfold inc; rw [if_neg (fun q => q.2.2 ⟨h3, hd⟩)])
                · rw [if_neg (fun q => q.elim (fun e => hkT e.symm) hd)]
                  exact c6 hkT (fun q => hd q.2)
              · rw [if_pos (by rw [ku_3, nI_eq (by omega) (by omega)]; exact h3)]
                exact c6 hkT (fun q => h3 q.1)
          have hnew : pa (fun r => if r < k + 1 then inc H (H.1 1) set T r else 0) = if inc H (H.1 1) set T k = 1 then pa (fun r => if r < k then inc H (H.1 1) set T r else 0) ||| 2 ^ (4 * k) else pa (fun r => if r < k then inc H (H.1 1) set T r else 0) := by
            have i0 := inc_le H (H.1 1) set T 0
            have i1 := inc_le H (H.1 1) set T 1
            have i2 := inc_le H (H.1 1) set T 2
            have i3 := inc_le H (H.1 1) set T 3
            have hb : pa (fun r => if r < k then inc H (H.1 1) set T r else 0) < 2 ^ (4 * k) := by
              unfold pa
              rcases (show k = 0 ∨ k = 1 ∨ k = 2 ∨ k = 3 by omega) with rfl | rfl | rfl | rfl
              · show _ < 1; simp
              · show _ < 16; simp; omega
              · show _ < 256; simp; omega
              · show _ < 4096; simp; omega
            rw [or_add hb]
            unfold pa
            rcases (show k = 0 ∨ k = 1 ∨ k = 2 ∨ k = 3 by omega) with rfl | rfl | rfl | rfl <;> simp <;> split <;> omega
          refine ⟨_, ⟨fun to hto => ?_, fun c i hc => ?_⟩, e4⟩
          · by_cases hi : inc H (H.1 1) set T k = 1
            · rw [if_pos hi]
              rw [if_pos hi] at hnew
              by_cases e : to = T
              · subst e; rw [u2_s, if_neg (by omega), if_pos rfl, hnew]
              · rw [u2_o e, t1 to hto]
                by_cases e2 : to < T
                · rw [if_pos e2, if_pos e2]
                · rw [if_neg e2, if_neg e2, if_neg e, if_neg e]
            · rw [if_neg hi]
              rw [if_neg hi] at hnew
              rw [t1 to hto, hnew]
          · split
            · rw [u2_c hc]; exact t2 c i hc
            · exact t2 c i hc) n 0 s (by omega) (by omega) ⟨fun to hto => by
            rw [hs.1 to hto]
            by_cases e2 : to < T
            · rw [if_pos e2, if_pos e2]
            · rw [if_neg e2, if_neg e2]
              split <;> rfl, hs.2⟩
      refine ⟨M, ⟨fun to hto => ?_, m2⟩, ?_⟩
      · rw [m1 to hto]
        by_cases e2 : to < T
        · rw [if_pos e2, if_pos (by omega)]
        · rw [if_neg e2]
          by_cases e3 : to = T
          · rw [if_pos e3, if_pos (by omega), e3]
            congr 1
            have hz : ∀ r, r < 4 → (if r < H.1 4 then inc H (H.1 1) set T r else 0) = inc H (H.1 1) set T r := fun r _ => by
              split
              · rfl
              · rename_i hr
                unfold inc
                rw [if_neg (fun q => hr (hsb r q.2.1))]
            unfold pa
            dsimp only
            rw [hz 0 (by omega), hz 1 (by omega), hz 2 (by omega), hz 3 (by omega)]
          · rw [if_neg e3, if_neg (by omega)]
      · show b_4_1 n (c_4_1 n m) (nI set) (nI T) s L = _
        unfold b_4_1
        rw [chs (hCs hs.2) (by decide), if_neg (nI_ge hT (by omega))]
        exact e3) n 0 J (by omega) (by omega) ⟨fun to hto => by rw [j2 to (by omega), if_neg (by omega)], fun _ _ _ => rfl⟩
  refine ⟨K, ?_, ⟨by rw [k2 115 1 (by decide)]; exact hslk, by rw [k2 115 2 (by decide)]; exact hlaw, fun to hto => by rw [show K (115 + 1) to = K 116 to from rfl, k1 to hto, if_pos hto]⟩, fun c i h1 h2 => ?_⟩
  · unfold f_4
    rw [show (0 : Int32) = nI 0 from rfl] at *
    exact e.trans e2
  · rw [k2 c i h2, j3 c i h2 (Or.inl h1), u2_c h1, u2_c h1]
/-- ages behind a minute -/
theorem e7_1 {l set : Nat} {wt : Nat → Nat} (hA : AGE I 37 H l set wt) (o4 : H.1 4 ≤ 4) (hl : l ≤ 3) (hw : ∀ r, r < 4 → set.testBit r = true → wt r ≤ 7) {a : Nat → Nat} (ha : ∀ r, r < 4 → a r ≤ 7) (hz : ∀ r, r < 4 → set.testBit r = true ∨ a r = 0) {f to : Nat} (hf : f ≤ 4) (ht : to < H.1 4) : f_7_1 (nI (pa a)) (oI f) (nI to) I L = some (if kbB set wt (kst H l set f to a) = true then nI (pa (kst H l set f to a)) else oI 0) := by
  obtain ⟨h1, h2, h3⟩ := hA
  have hpl := pa_lt (fun r hr => by have := ha r hr; omega : ∀ r, r < 4 → a r < 16)
  have hat := ha to (by omega)
  have hdg := pa_dg (fun r hr => by have := ha r hr; omega : ∀ r, r < 4 → a r < 16) (show to < 4 by omega)
  have hpw : 2 ^ (4 * to) ≤ 4096 := (show ∀ t, t < 4 → 2 ^ (4 * t) ≤ 4096 by decide) to (by omega)
  have own : (nI (pa a) >>> (((4 : Int32) * nI to) &&& 31)) &&& 15 = nI (a to) := by
    rw [ku_4, pk_mul, ku_31, ku_31k (by omega), ku_shr (by omega) (by omega), show (15 : Int32) = nI (2 ^ 4 - 1) from rfl, fa_mask]
    exact congrArg nI hdg
  obtain ⟨st1, st2⟩ := pa_step (H := H) (l := l) (f := f) ha hz (show to < 4 by omega)
  have hk8 := kst_le (H := H) (l := l) (set := set) (f := f) (to := to) ha
  have hkl := pa_lt (fun r hr => by have := hk8 r hr; omega : ∀ r, r < 4 → kst H l set f to a r < 16)
  have hbc := bcm_le (l := l) (f := f) (to := to) (x := a to)
  have c7 : ∀ x, x = bcm l f to (a to) → c_7_1_0 I L (nI (pa a)) (nI to) ((4 : Int32) * nI to) (nI (a to)) (nI x) = some (if kbB set wt (kst H l set f to a) = true then nI (pa (kst H l set f to a)) else oI 0) := fun x hx => by
    have m1 : a to * 2 ^ (4 * to) ≤ 7 * 4096 := Nat.mul_le_mul hat hpw
    have m2 : x * 2 ^ (4 * to) ≤ 7 * 4096 := Nat.mul_le_mul (by omega) hpw
    have hlater : nI (pa a) - nI (a to) <<< (((4 : Int32) * nI to) &&& 31) + nI x <<< (((4 : Int32) * nI to) &&& 31) + I (37 + 1) to = nI (pa (kst H l set f to a)) := by
      rw [ku_4, pk_mul, ku_31, ku_31k (by omega), ku_shl (by omega) (by omega), ku_shl (by omega) (by omega), pk_sub st2, nI_add, h3 to ht, nI_add, hx, st1]
    have hsum : (pa (kst H l set f to a) + slk set wt) &&& 34952 = 0 ↔ kbB set wt (kst H l set f to a) = true := brn8 hw hk8 kst_z
    have hle : (pa (kst H l set f to a) + slk set wt) &&& 34952 ≤ 34952 := Nat.and_le_right
    unfold c_7_1_0
    rw [ku_if (by omega) (by omega), nI_clamp (by omega)]
    rw [show I 38 to = I (37 + 1) to from rfl, hlater, h1, nI_add, ku_34952, fa_and]
    by_cases h : kbB set wt (kst H l set f to a) = true
    · rw [if_pos h, if_neg (by rw [hsum.mpr h]; decide)]
    · rw [if_neg h, if_pos (by rw [ku_0, nI_eq (by omega) (by omega)]; exact fun q => h (hsum.mp q)), oI_0]
  unfold f_7_1
  rw [h2, own]
  by_cases l1 : l = 1
  · rw [if_neg (by rw [l1]; decide)]
    have : nI (a to) >>> ((1 : Int32) &&& 31) = nI (a to / 2) := by
      rw [show (1 : Int32) &&& 31 = nI 1 by decide, ku_shr (by omega) (by omega)]
    rw [this]
    exact c7 _ (by unfold bcm; rw [if_pos l1])
  · rw [if_pos (by rw [ku_1, nI_eq (by omega) (by omega)]; exact l1)]
    by_cases l2 : l = 2
    · rw [if_neg (by rw [l2]; decide)]
      by_cases hft : f = to + 1
      · rw [if_pos (by rw [hft, oI_s])]
        exact c7 0 (by unfold bcm; rw [if_neg l1, if_neg (fun q => q.2 hft)])
      · rw [if_neg (by rw [oI_nI (by omega) (by omega)]; exact hft)]
        exact c7 _ (by unfold bcm; rw [if_neg l1, if_pos ⟨l2, hft⟩])
    · rw [if_pos (by rw [ku_2, nI_eq (by omega) (by omega)]; exact l2)]
      exact c7 0 (by unfold bcm; rw [if_neg l1, if_neg (fun q => l2 q.1)])
/-- made ready for a set -/
theorem e4_1 (ho : HOK H W A) (hC : CH I 3 11 H W A) {set : Nat} (hs : set < 2 ^ (H.1 4)) (hn : 1000 ≤ n) : ∃ J, f_4_1 n (nI set) I L = some (J, L) ∧ AGE J 37 H (H.1 1) set (H.2 0) ∧ ∀ c i, c ≠ 37 → c ≠ 38 → J c i = I c i := by
  have o4 : H.1 4 ≤ 4 := ho.1.2.2.2.2.1
  have o1 : H.1 1 ≤ 3 := ho.1.2.1
  have hp := pw5 _ (show H.1 4 < 5 by omega)
  have hsb : ∀ r, set.testBit r = true → r < H.1 4 := fun r hr => by
    rcases Nat.lt_or_ge r (H.1 4) with h | h
    · exact h
    · rw [Nat.testBit_lt_two_pow (Nat.lt_of_lt_of_le hs (Nat.pow_le_pow_right (by omega) h))] at hr; exact absurd hr (by decide)
  have hwr : ∀ r, set.testBit r = true → 1 ≤ H.2 0 r ∧ H.2 0 r ≤ 7 := fun r hr => ⟨(ho.2.1 r (hsb r hr)).1, (ho.2.1 r (hsb r hr)).2.1⟩
  -- slack
  obtain ⟨J, ⟨j1, j2, j3⟩, e⟩ := lpE (fun m k (s : FI) => c_4_1_0 n m (nI set) (nI k) s L) 4 (fun k s => s 37 1 = nI (pa (fun r => if r < k then 7 - (if set.testBit r = true then H.2 0 r else 0) else 0)) ∧ (∀ r, r < k → s 38 r = nI 0) ∧ ∀ c i, c ≠ 38 → (c ≠ 37 ∨ i ≠ 1) → s c i = u2 (u2 I 37 2 (I 3 1)) 37 1 0 c i) (fun s => c_4_1_1 n n (nI set) (nI 0) s L) (fun m s hs => by
      show b_4_1_0 n (c_4_1_0 n m) (nI set) (nI 4) s L = _
      unfold b_4_1_0
      rw [if_pos (by decide)]; rfl) (fun m k s hk hs => by
      obtain ⟨s1, s2, s3⟩ := hs
      have hcell : ∀ v, v ≤ 7 → v = (if set.testBit k = true then H.2 0 k else 0) → c_4_1_7 n (c_4_1_0 n m) (nI set) (nI k) (nI v) (u2 s 38 k 0) L = c_4_1_0 n m (nI set) (nI (k + 1)) (u2 (u2 s 38 k 0) 37 1 (nI (pa (fun r => if r < k + 1 then 7 - (if set.testBit r = true then H.2 0 r else 0) else 0)))) L := fun v hv hv2 => by
        unfold c_4_1_7
        rw [u2_c (by decide), s1, ku_7, pk_sub (by omega), ku_4, pk_mul, ku_31, ku_31k (by omega), nI_1]
        have hpw : 2 ^ (4 * k) ≤ 4096 := (show ∀ t, t < 4 → 2 ^ (4 * t) ≤ 4096 by decide) k hk
        have m1 : (7 - v) * 2 ^ (4 * k) ≤ 7 * 4096 := Nat.mul_le_mul (by omega) hpw
        rw [ku_shl (by omega) (by omega), fa_or]
        congr 3
        have hb : pa (fun r => if r < k then 7 - (if set.testBit r = true then H.2 0 r else 0) else 0) < 2 ^ (4 * k) := by
          unfold pa
          rcases (show k = 0 ∨ k = 1 ∨ k = 2 ∨ k = 3 by omega) with rfl | rfl | rfl | rfl
          · show _ < 1; simp
          · show _ < 16; simp; omega
          · show _ < 256; simp; omega
          · show _ < 4096; simp; omega
        have := Nat.two_pow_add_eq_or_of_lt hb (7 - v)
        rw [Nat.or_comm, Nat.mul_comm (7 - v), ← this, hv2]
        unfold pa
        rcases (show k = 0 ∨ k = 1 ∨ k = 2 ∨ k = 3 by omega) with rfl | rfl | rfl | rfl <;> simp <;> omega
      refine ⟨u2 (u2 s 38 k 0) 37 1 (nI (pa (fun r => if r < k + 1 then 7 - (if set.testBit r = true then H.2 0 r else 0) else 0))), ⟨u2_s, fun r hr => ?_, fun c i hc hi => ?_⟩, ?_⟩
      · rw [u2_c (by decide)]
        by_cases e : r = k
        · subst e; exact u2_s
        · rw [u2_o e]; exact s2 r (by omega)
      · rw [← s3 c i hc hi]
        by_cases e : c = 37
        · subst e
          rcases hi with hi | hi
          · exact absurd rfl hi
          · rw [u2_o hi, u2_c (by decide)]
        · rw [u2_c e, u2_c hc]
      · show b_4_1_0 n (c_4_1_0 n m) (nI set) (nI k) s L = _
        unfold b_4_1_0
        rw [ku_4, if_neg (nI_ge hk (by omega)), ku_if hk (by omega), ku_bit2 (by omega) (by omega), q_b1, ku_if hk (by omega), nI_clamp (by omega)]
        by_cases h : set.testBit k = true
        · rw [if_pos h, s3 4 k (by decide) (Or.inl (by decide)), u2_c (by decide), u2_c (by decide), ch_wt hC (hsb k h)]
          exact hcell _ (hwr k h).2 (by rw [if_pos h])
        · rw [if_neg h]
          exact hcell 0 (by omega) (by rw [if_neg h])) n 0 _ (by omega) (by omega) ⟨by rw [u2_s]; rfl, fun r hr => absurd hr (by omega), fun _ _ _ _ => rfl⟩
  have hslk : J 37 1 = nI (slk set (H.2 0)) := by
    rw [j1]; rfl
  have hlaw : J 37 2 = nI (H.1 1) := by rw [j3 37 2 (by decide) (Or.inr (by decide)), u2_o (by decide), u2_s]; exact chs hC (by decide)
  have hCs : ∀ {s : FI}, (∀ c i, c ≠ 38 → s c i = J c i) → CH s 3 11 H W A := fun h => CH_u hC (fun a i ha => by rw [h a i (by omega), j3 a i (by omega) (Or.inl (by omega)), u2_c (by omega), u2_c (by omega)])
  -- who grows older
  obtain ⟨K, ⟨k1, k2⟩, e2⟩ := lpE (fun m to (s : FI) => c_4_1_1 n m (nI set) (nI to) s L) (H.1 4) (fun T s => (∀ to, to < H.1 4 → s 38 to = nI (if to < T then pa (inc H (H.1 1) set to) else 0)) ∧ ∀ c i, c ≠ 38 → s c i = J c i) (fun s => some (s, L)) (fun m s hs => by
      show b_4_1_1 n (c_4_1_1 n m) (nI set) (nI (H.1 4)) s L = _
      unfold b_4_1_1
      rw [chs (hCs hs.2) (by decide), if_pos (nI_le (Nat.le_refl _) (by omega))]) (fun m T s hT hs => by
      obtain ⟨M, ⟨m1, m2⟩, e3⟩ := lpE (fun m' k (s : FI) => c_4_1_2 n (c_4_1_1 n m) m' (nI set) (nI T) (nI k) s L) (H.1 4) (fun k s => (∀ to, to < H.1 4 → s 38 to = nI (if to < T then pa (inc H (H.1 1) set to) else if to = T then pa (fun r => if r < k then inc H (H.1 1) set T r else 0) else 0)) ∧ ∀ c i, c ≠ 38 → s c i = J c i) (fun s => c_4_1_1 n m (nI set) (nI (T + 1)) s L) (fun m' s hs => by
          show b_4_1_2 n (c_4_1_1 n m) (c_4_1_2 n (c_4_1_1 n m) m') (nI set) (nI T) (nI (H.1 4)) s L = _
          unfold b_4_1_2
          rw [chs (hCs hs.2) (by decide), if_pos (nI_le (Nat.le_refl _) (by omega)), nI_1]) (fun m' k s hk hs => by
          obtain ⟨t1, t2⟩ := hs
          have hCk := hCs t2
          have hTv := t1 T hT
          rw [if_neg (by omega), if_pos rfl] at hTv
          have e4 : b_4_1_2 n (c_4_1_1 n m) (c_4_1_2 n (c_4_1_1 n m) m') (nI set) (nI T) (nI k) s L = c_4_1_2 n (c_4_1_1 n m) m' (nI set) (nI T) (nI (k + 1)) (if inc H (H.1 1) set T k = 1 then u2 s 38 T (nI (pa (fun r => if r < k then inc H (H.1 1) set T r else 0) ||| 2 ^ (4 * k))) else s) L := by
            have c5 : c_4_1_5 n (c_4_1_1 n m) (c_4_1_2 n (c_4_1_1 n m) m') (nI set) (nI T) (nI k) s L = c_4_1_2 n (c_4_1_1 n m) m' (nI set) (nI T) (nI (k + 1)) s L := by unfold c_4_1_5; rw [nI_1]
            have c3 : inc H (H.1 1) set T k = 0 → c_4_1_3 n (c_4_1_1 n m) (c_4_1_2 n (c_4_1_1 n m) m') (nI set) (nI T) (nI k) s L = c_4_1_2 n (c_4_1_1 n m) m' (nI set) (nI T) (nI (k + 1)) (if inc H (H.1 1) set T k = 1 then u2 s 38 T (nI (pa (fun r => if r < k then inc H (H.1 1) set T r else 0) ||| 2 ^ (4 * k))) else s) L := fun h0 => by
              unfold c_4_1_3 c_4_1_4
              rw [if_pos (by decide), if_neg (by omega), c5]
            have c6 : k ≠ T → ¬ (H.1 1 = 3 ∧ dor H T k = true) → c_4_1_6 n (c_4_1_1 n m) (c_4_1_2 n (c_4_1_1 n m) m') (nI set) (nI T) (nI k) s L = c_4_1_2 n (c_4_1_1 n m) m' (nI set) (nI T) (nI (k + 1)) (if inc H (H.1 1) set T k = 1 then u2 s 38 T (nI (pa (fun r => if r < k then inc H (H.1 1) set T r else 0) ||| 2 ^ (4 * k))) else s) L := fun hne h3 => by
              unfold c_4_1_6 c_4_1_4
              rw [if_neg (show ¬ ¬ (0 : Int32) = 0 by decide), ku_bit2 (by omega) (by omega), q_b1]
              by_cases hb : set.testBit k = true
              · have hi : inc H (H.1 1) set T k = 1 := by unfold inc; rw [if_pos ⟨hne, hb, h3⟩]
                rw [if_pos hb, if_pos hi, ku_if (by omega) (by omega), ku_if (by omega) (by omega), nI_clamp (by omega), hTv, ku_4, pk_mul, ku_or (by omega)]
                unfold c_4_1_5
                rw [nI_1]
              · have hi : inc H (H.1 1) set T k = 0 := by unfold inc; rw [if_neg (fun q => hb q.2.1)]
                rw [if_neg hb, if_neg (by omega), c5]
            unfold b_4_1_2
            rw [chs hCk (by decide), if_neg (nI_ge hk (by omega))]
            by_cases hkT : k = T
            · rw [if_pos (by rw [hkT])]
              exact c3 (by rw [hkT]; exact inc_to ..)
            · rw [if_neg (by rw [nI_eq (by omega) (by omega)]; exact hkT), t2 37 2 (by decide), hlaw]
              by_cases h3 : H.1 1 = 3
              · have e21 : f_21_2 (nI T) (nI k) s L = some (bI (T = k ∨ dor H T k = true)) := e21 (L := L) ho hCk (by omega) (by omega)
                rw [if_neg (by rw [h3]; decide), e21, q_bs, q_b1]
                by_cases hd : dor H T k = true
                · rw [if_pos (Or.inr hd)]
                  exact c3 (by unfold inc; rw [if_neg (fun q => q.2.2 ⟨h3, hd⟩)])
                · rw [if_neg (fun q => q.elim (fun e => hkT e.symm) hd)]
                  exact c6 hkT (fun q => hd q.2)
              · rw [if_pos (by rw [ku_3, nI_eq (by omega) (by omega)]; exact h3)]
                exact c6 hkT (fun q => h3 q.1)
          have hnew : pa (fun r => if r < k + 1 then inc H (H.1 1) set T r else 0) = if inc H (H.1 1) set T k = 1 then pa (fun r => if r < k then inc H (H.1 1) set T r else 0) ||| 2 ^ (4 * k) else pa (fun r => if r < k then inc H (H.1 1) set T r else 0) := by
            have i0 := inc_le H (H.1 1) set T 0
            have i1 := inc_le H (H.1 1) set T 1
            have i2 := inc_le H (H.1 1) set T 2
            have i3 := inc_le H (H.1 1) set T 3
            have hb : pa (fun r => if r < k then inc H (H.1 1) set T r else 0) < 2 ^ (4 * k) := by
              unfold pa
              rcases (show k = 0 ∨ k = 1 ∨ k = 2 ∨ k = 3 by omega) with rfl | rfl | rfl | rfl
              · show _ < 1; simp
              · show _ < 16; simp; omega
              · show _ < 256; simp; omega
              · show _ < 4096; simp; omega
            rw [or_add hb]
            unfold pa
            rcases (show k = 0 ∨ k = 1 ∨ k = 2 ∨ k = 3 by omega) with rfl | rfl | rfl | rfl <;> simp <;> split <;> omega
          refine ⟨_, ⟨fun to hto => ?_, fun c i hc => ?_⟩, e4⟩
          · by_cases hi : inc H (H.1 1) set T k = 1
            · rw [if_pos hi]
              rw [if_pos hi] at hnew
              by_cases e : to = T
              · subst e; rw [u2_s, if_neg (by omega), if_pos rfl, hnew]
              · rw [u2_o e, t1 to hto]
                by_cases e2 : to < T
                · rw [if_pos e2, if_pos e2]
                · rw [if_neg e2, if_neg e2, if_neg e, if_neg e]
            · rw [if_neg hi]
              rw [if_neg hi] at hnew
              rw [t1 to hto, hnew]
          · split
            · rw [u2_c hc]; exact t2 c i hc
            · exact t2 c i hc) n 0 s (by omega) (by omega) ⟨fun to hto => by
            rw [hs.1 to hto]
            by_cases e2 : to < T
            · rw [if_pos e2, if_pos e2]
            · rw [if_neg e2, if_neg e2]
              split <;> rfl, hs.2⟩
      refine ⟨M, ⟨fun to hto => ?_, m2⟩, ?_⟩
      · rw [m1 to hto]
        by_cases e2 : to < T
        · rw [if_pos e2, if_pos (by omega)]
        · rw [if_neg e2]
          by_cases e3 : to = T
          · rw [if_pos e3, if_pos (by omega), e3]
            congr 1
            have hz : ∀ r, r < 4 → (if r < H.1 4 then inc H (H.1 1) set T r else 0) = inc H (H.1 1) set T r := fun r _ => by
              split
              · rfl
              · rename_i hr
                unfold inc
                rw [if_neg (fun q => hr (hsb r q.2.1))]
            unfold pa
            dsimp only
            rw [hz 0 (by omega), hz 1 (by omega), hz 2 (by omega), hz 3 (by omega)]
          · rw [if_neg e3, if_neg (by omega)]
      · show b_4_1_1 n (c_4_1_1 n m) (nI set) (nI T) s L = _
        unfold b_4_1_1
        rw [chs (hCs hs.2) (by decide), if_neg (nI_ge hT (by omega))]
        exact e3) n 0 J (by omega) (by omega) ⟨fun to hto => by rw [j2 to (by omega), if_neg (by omega)], fun _ _ _ => rfl⟩
  refine ⟨K, ?_, ⟨by rw [k2 37 1 (by decide)]; exact hslk, by rw [k2 37 2 (by decide)]; exact hlaw, fun to hto => by rw [show K (37 + 1) to = K 38 to from rfl, k1 to hto, if_pos hto]⟩, fun c i h1 h2 => ?_⟩
  · unfold f_4_1
    rw [show (0 : Int32) = nI 0 from rfl] at *
    exact e.trans e2
  · rw [k2 c i h2, j3 c i h2 (Or.inl h1), u2_c h1, u2_c h1]
end AGEC
