/-! LAYER 3: the class measures how far rooms are -/
def bynd (m : Nat → Nat) (e : Nat) : Nat → Nat
  | 0 => 0
  | r + 1 => if e.testBit r = true then bynd m e r ||| m r else bynd m e r
def spS (m : Nat → Nat) (a : Nat) : Nat → Nat × Nat
  | 0 => (0, 2 ^ a)
  | g + 1 => ((spS m a g).1 ||| (spS m a g).2, bynd m (spS m a g).2 4 &&& (15 ^^^ ((spS m a g).1 ||| (spS m a g).2)))
def spD (m : Nat → Nat) (a : Nat) : Nat → Nat → Nat
  | 0, _ => 0
  | g + 1, r => if (spS m a g).2.testBit r = true then g + 1 else spD m a g r
def gms (b1 b2 b3 b4 b5 b6 : Bool) (r : Nat) : Nat := (if grf b1 b2 b3 b4 b5 b6 r 0 = true then 1 else 0) + (if grf b1 b2 b3 b4 b5 b6 r 1 = true then 2 else 0) + (if grf b1 b2 b3 b4 b5 b6 r 2 = true then 4 else 0) + (if grf b1 b2 b3 b4 b5 b6 r 3 = true then 8 else 0)
theorem sp_ok : ∀ b1 b2 b3 b4 b5 b6 : Bool, ∀ a, a < 4 → ∀ r, r < 4 → spD (gms b1 b2 b3 b4 b5 b6) a 4 r = dst (grf b1 b2 b3 b4 b5 b6) a r := by decide +kernel
theorem gms_ok : ∀ b1 b2 b3 b4 b5 b6 : Bool, ∀ r, r < 4 → gms b1 b2 b3 b4 b5 b6 r < 16 ∧ ∀ q, q < 4 → (gms b1 b2 b3 b4 b5 b6 r).testBit q = grf b1 b2 b3 b4 b5 b6 r q := by decide +kernel
theorem bynd_cg {m m' : Nat → Nat} {e : Nat} : ∀ {k : Nat}, (∀ r, r < k → m r = m' r) → bynd m e k = bynd m' e k
  | 0, _ => rfl
  | k + 1, h => by unfold bynd; rw [bynd_cg (fun r hr => h r (by omega)), h k (by omega)]
theorem spS_cg {m m' : Nat → Nat} {a : Nat} (h : ∀ r, r < 4 → m r = m' r) : ∀ g, spS m a g = spS m' a g
  | 0 => rfl
  | g + 1 => by unfold spS; rw [spS_cg h g, bynd_cg h]
theorem spD_cg {m m' : Nat → Nat} {a : Nat} (h : ∀ r, r < 4 → m r = m' r) : ∀ g r, spD m a g r = spD m' a g r
  | 0, _ => rfl
  | g + 1, r => by unfold spD; rw [spS_cg h g, spD_cg h g r]
theorem bynd_lt {m : Nat → Nat} {e : Nat} (h : ∀ r, r < 4 → m r < 16) : ∀ k, k ≤ 4 → bynd m e k < 16
  | 0, _ => by show 0 < 16; omega
  | k + 1, hk => by
    unfold bynd
    have h1 := bynd_lt (e := e) h k (by omega)
    split
    · exact or16 h1 (h k (by omega))
    · exact h1
theorem and15 {a b : Nat} (h : a < 16) : a &&& b < 16 := Nat.lt_of_le_of_lt Nat.and_le_left h
theorem spS_lt {m : Nat → Nat} {a : Nat} (ha : a < 4) (h : ∀ r, r < 4 → m r < 16) : ∀ g, (spS m a g).1 < 16 ∧ (spS m a g).2 < 16
  | 0 => ⟨by show 0 < 16; omega, pw4 a ha⟩
  | g + 1 => by
    obtain ⟨h1, h2⟩ := spS_lt ha h g
    exact ⟨or16 h1 h2, and15 (bynd_lt h 4 (by omega))⟩
theorem xorm : ∀ b, b < 16 → ∀ c, c < 16 → nI b &&& (nI c ^^^ (-1)) = nI (b &&& (15 ^^^ c)) := by decide +kernel
theorem spD_le {m : Nat → Nat} {a : Nat} : ∀ g r, spD m a g r ≤ g
  | 0, _ => Nat.le_refl _
  | g + 1, r => by
    have := spD_le (m := m) (a := a) g r
    unfold spD
    split <;> omega
section MEA
variable {I : FI} {L : FL} {H : HD} {W : Nat → Nat} {A : AD} {n : Nat} {m : Nat → Nat}
theorem e19 {a : Nat} (ha : a < 4) (hm : ∀ r, r < 4 → m r < 16) (h6 : ∀ r, r < 4 → I 6 r = nI (m r)) (h7 : ∀ r, r < 4 → I 7 (a * 4 + r) = oI 0) (hn : 1000 ≤ n) : ∃ J, f_19 n (nI a) I L = some (J, L) ∧ (∀ r, r < 4 → J 7 (a * 4 + r) = oI (spD m a 4 r)) ∧ ∀ c i, (c ≠ 7 ∨ i < a * 4 ∨ a * 4 + 4 ≤ i) → J c i = I c i := by
  unfold f_19
  rw [ku_set (by omega)]
  refine lpEk (fun k g (s : FI) => c_19_0 n k (nI a) (nI (spS m a g).1) (nI (spS m a g).2) (nI g) s L) 4 (fun g s => (∀ r, r < 4 → s 7 (a * 4 + r) = oI (spD m a g r)) ∧ ∀ c i, (c ≠ 7 ∨ i < a * 4 ∨ a * 4 + 4 ≤ i) → s c i = I c i) (fun s => some (s, L)) n 0 I (by omega) (by omega) ⟨h7, fun _ _ _ => rfl⟩ (fun s hs e => ⟨s, e, hs⟩) (fun k s hs => ?_) (fun k g s hg hs => ?_)
  · show b_19_0 n (c_19_0 n k) (nI a) _ _ (nI 4) s L = _
    unfold b_19_0
    rw [if_pos (by decide)]
  · obtain ⟨s1, s2⟩ := hs
    obtain ⟨l1, l2⟩ := spS_lt ha hm g
    refine lpEk (fun k' r (s : FI) => c_19_1 n (c_19_0 n k) k' (nI a) (nI (spS m a g).1) (nI (spS m a g).2) (nI g) (nI (bynd m (spS m a g).2 r)) (nI r) s L) 4 (fun r s => (∀ q, q < 4 → s 7 (a * 4 + q) = oI (if q < r ∧ (spS m a g).2.testBit q = true then g + 1 else spD m a g q)) ∧ ∀ c i, (c ≠ 7 ∨ i < a * 4 ∨ a * 4 + 4 ≤ i) → s c i = I c i) (fun s => c_19_0 n k (nI a) (nI (spS m a (g + 1)).1) (nI (spS m a (g + 1)).2) (nI (g + 1)) s L) n 0 s (by omega) (by omega) ⟨fun q hq => by rw [if_neg (fun z => by omega)]; exact s1 q hq, s2⟩ (fun s' hs' e => ?_) (fun k' s' hs' => ?_) (fun k' r s' hr hs' => ?_)
    · refine ⟨s', ⟨fun r hr => ?_, hs'.2⟩, ?_⟩
      · rw [hs'.1 r hr]
        show _ = oI (if (spS m a g).2.testBit r = true then g + 1 else spD m a g r)
        by_cases z : (spS m a g).2.testBit r = true
        · rw [if_pos ⟨hr, z⟩, if_pos z]
        · rw [if_neg (fun q => z q.2), if_neg z]
      · show b_19_0 n (c_19_0 n k) (nI a) _ _ (nI g) s L = _
        unfold b_19_0
        rw [ku_4, if_neg (nI_ge hg (by omega))]
        exact e
    · show b_19_1 n (c_19_0 n k) (c_19_1 n (c_19_0 n k) k') (nI a) _ _ (nI g) _ (nI 4) s' L = _
      unfold b_19_1
      rw [if_pos (by decide), fa_or, xorm _ (bynd_lt hm 4 (by omega)) _ (or16 l1 l2), nI_1]; rfl
    · obtain ⟨t1, t2⟩ := hs'
      have hb := bynd_lt (e := (spS m a g).2) hm r (by omega)
      have hu : ∀ x, (if (spS m a g).2.testBit r = true then c_19_1 n (c_19_0 n k) k' (nI a) (nI (spS m a g).1) (nI (spS m a g).2) (nI g) (nI (bynd m (spS m a g).2 r ||| m r)) (nI (r + 1)) (u2 s' 7 (a * 4 + r) (nI g)) L else c_19_1 n (c_19_0 n k) k' (nI a) (nI (spS m a g).1) (nI (spS m a g).2) (nI g) (nI (bynd m (spS m a g).2 r)) (nI (r + 1)) s' L) = x → c_19_1 n (c_19_0 n k) (k' + 1) (nI a) (nI (spS m a g).1) (nI (spS m a g).2) (nI g) (nI (bynd m (spS m a g).2 r)) (nI r) s' L = x := fun x hx => by
        show b_19_1 n (c_19_0 n k) (c_19_1 n (c_19_0 n k) k') (nI a) _ _ (nI g) _ (nI r) s' L = x
        unfold b_19_1 c_19_2
        rw [ku_4, if_neg (nI_ge hr (by omega)), ku_bit2 (by omega) (by omega), q_b1, pk_mul, nI_add, ku_if (show a * 4 + r < 16 by omega) (by omega), ku_if (show r < 4 by omega) (by omega), nI_clamp (show r < 2 ^ 31 by omega), nI_clamp (show a * 4 + r < 2 ^ 31 by omega), t2 6 r (by omega), h6 r hr, fa_or, nI_1]
        exact hx
      by_cases z : (spS m a g).2.testBit r = true
      · rw [if_pos z] at hu
        refine ⟨u2 s' 7 (a * 4 + r) (nI g), ⟨fun q hq => ?_, fun c i hc => ?_⟩, hu _ ?_⟩
        · by_cases e : q = r
          · subst e; rw [u2_s, if_pos ⟨by omega, z⟩, oI_s]
          · rw [u2_o (by omega), t1 q hq]
            by_cases y : q < r ∧ (spS m a g).2.testBit q = true
            · rw [if_pos y, if_pos ⟨by omega, y.2⟩]
            · rw [if_neg y, if_neg (fun w => y ⟨by omega, w.2⟩)]
        · by_cases e : c = 7
          · subst e; rw [u2_o (by omega)]; exact t2 7 i hc
          · rw [u2_c e]; exact t2 c i hc
        · show _ = c_19_1 n (c_19_0 n k) k' (nI a) (nI (spS m a g).1) (nI (spS m a g).2) (nI g) (nI (if (spS m a g).2.testBit r = true then bynd m (spS m a g).2 r ||| m r else bynd m (spS m a g).2 r)) (nI (r + 1)) _ L
          rw [if_pos z]
      · rw [if_neg z] at hu
        refine ⟨s', ⟨fun q hq => ?_, t2⟩, hu _ ?_⟩
        · rw [t1 q hq]
          by_cases e : q = r
          · subst e; rw [if_neg (fun y => by omega), if_neg (fun y => z y.2)]
          · by_cases y : q < r ∧ (spS m a g).2.testBit q = true
            · rw [if_pos y, if_pos ⟨by omega, y.2⟩]
            · rw [if_neg y, if_neg (fun w => y ⟨by omega, w.2⟩)]
        · show _ = c_19_1 n (c_19_0 n k) k' (nI a) (nI (spS m a g).1) (nI (spS m a g).2) (nI g) (nI (if (spS m a g).2.testBit r = true then bynd m (spS m a g).2 r ||| m r else bynd m (spS m a g).2 r)) (nI (r + 1)) _ L
          rw [if_neg z]
theorem e18 (hm : ∀ r, r < 4 → m r < 16) (h6 : ∀ r, r < 4 → I 6 r = nI (m r)) (hn : 1000 ≤ n) : ∃ J, f_18 n I L = some (J, L) ∧ (∀ a r, a < 4 → r < 4 → J 7 (a * 4 + r) = oI (spD m a 4 r)) ∧ ∀ c i, c ≠ 7 → J c i = I c i := by
  unfold f_18
  refine lpEk (fun k a (s : FI) => c_18_0 n k (nI a) s L) 4 (fun a s => (∀ b r, b < a → r < 4 → s 7 (b * 4 + r) = oI (spD m b 4 r)) ∧ ∀ c i, c ≠ 7 → s c i = I c i) (fun s => some (s, L)) n 0 I (by omega) (by omega) ⟨fun b r hb => absurd hb (by omega), fun _ _ _ => rfl⟩ (fun s hs e => ⟨s, e, hs⟩) (fun k s hs => ?_) (fun k a s ha hs => ?_)
  · show b_18_0 n (c_18_0 n k) (nI 4) s L = _
    unfold b_18_0
    rw [if_pos (by decide)]
  · obtain ⟨s1, s2⟩ := hs
    refine lpEk (fun k' r (s : FI) => c_18_1 n (c_18_0 n k) k' (nI a) (nI r) s L) 4 (fun r s => (∀ q, q < r → s 7 (a * 4 + q) = oI 0) ∧ (∀ b r, b < a → r < 4 → s 7 (b * 4 + r) = oI (spD m b 4 r)) ∧ ∀ c i, c ≠ 7 → s c i = I c i) (fun s => (f_19 n (nI a) s L).bind fun q0 => c_18_0 n k (nI (a + 1)) q0.1 q0.2) n 0 s (by omega) (by omega) ⟨fun q hq => absurd hq (by omega), s1, s2⟩ (fun s' hs' e => ?_) (fun k' s' hs' => ?_) (fun k' r s' hr hs' => ?_)
    · obtain ⟨t1, t2, t3⟩ := hs'
      obtain ⟨J, j1, j2, j3⟩ := e19 (L := L) (I := s') ha hm (fun r hr => by rw [t3 6 r (by decide)]; exact h6 r hr) t1 hn
      refine ⟨J, ⟨fun b r hb hr => ?_, fun c i hc => by rw [j3 c i (Or.inl hc)]; exact t3 c i hc⟩, ?_⟩
      · by_cases e : b = a
        · subst e; exact j2 r hr
        · rw [j3 7 (b * 4 + r) (by omega)]; exact t2 b r (by omega) hr
      · show b_18_0 n (c_18_0 n k) (nI a) s L = _
        unfold b_18_0
        rw [ku_4, if_neg (nI_ge ha (by omega))]
        refine Eq.trans (show _ = c_18_1 n (c_18_0 n k) n (nI a) (nI 0) s L from rfl) (e.trans ?_)
        rw [j1, q_bs]
    · show b_18_1 n (c_18_0 n k) (c_18_1 n (c_18_0 n k) k') (nI a) (nI 4) s' L = _
      unfold b_18_1
      rw [if_pos (by decide), nI_1]
    · obtain ⟨t1, t2, t3⟩ := hs'
      refine ⟨u2 s' 7 (a * 4 + r) (oI 0), ⟨fun q hq => ?_, fun b q hb hq => ?_, fun c i hc => by rw [u2_c hc]; exact t3 c i hc⟩, ?_⟩
      · by_cases e : q = r
        · subst e; exact u2_s
        · rw [u2_o (by omega)]; exact t1 q (by omega)
      · rw [u2_o (by omega)]; exact t2 b q hb hq
      · show b_18_1 n (c_18_0 n k) (c_18_1 n (c_18_0 n k) k') (nI a) (nI r) s' L = _
        unfold b_18_1
        rw [ku_4, if_neg (nI_ge hr (by omega)), pk_mul, nI_add, ku_if (by omega) (by omega), nI_clamp (by omega), nI_1, oI_0]
theorem dms_g (ho : HOK H W A) {r : Nat} (hr : r < 4) : dms H r = gms (dor H 0 1) (dor H 0 2) (dor H 0 3) (dor H 1 2) (dor H 1 3) (dor H 2 3) r := by
  obtain ⟨g1, g2⟩ := gms_ok (dor H 0 1) (dor H 0 2) (dor H 0 3) (dor H 1 2) (dor H 1 3) (dor H 2 3) r hr
  have hd := dms_lt ho r
  apply Nat.eq_of_testBit_eq
  intro q
  by_cases hq : q < 4
  · rw [g2 q hq, ← dor_gr ho r q hr hq]; rfl
  · rw [Nat.testBit_lt_two_pow (Nat.lt_of_lt_of_le hd (show 2 ^ 4 ≤ 2 ^ q from Nat.pow_le_pow_right (by omega) (by omega))), Nat.testBit_lt_two_pow (Nat.lt_of_lt_of_le g1 (show 2 ^ 4 ≤ 2 ^ q from Nat.pow_le_pow_right (by omega) (by omega)))]
/-- measured -/
theorem spD_dst (ho : HOK H W A) {a r : Nat} (ha : a < 4) (hr : r < 4) : spD (dms H) a 4 r = dst (dor H) a r := by
  rw [spD_cg (m' := gms (dor H 0 1) (dor H 0 2) (dor H 0 3) (dor H 1 2) (dor H 1 3) (dor H 2 3)) (fun r hr => dms_g ho hr), sp_ok _ _ _ _ _ _ a ha r hr, ← dst_cg (dor_gr ho) ha hr]
/-- the draft becomes the house -/
theorem eHC (ho : HOK H W AD0) (hD : DRC I H W) (hn : 1000 ≤ n) : ∃ J K, f_17 I L = some (J, L) ∧ f_18 n J L = some (K, L) ∧ CH (u2 K 11 2 0) 3 11 H W AD0 ∧ ∀ c i, (c < 3 ∨ 10 < c) → K c i = I c i := by
  obtain ⟨h1, h2, h3, h4, h5, h6, h7⟩ := hD
  have q4 : H.1 4 ≤ 4 := ho.1.2.2.2.2.1
  have q6 : H.1 6 ≤ 5 := ho.1.2.2.2.2.2.2.1
  have q7 : H.1 7 ≤ 12 := ho.1.2.2.2.2.2.2.2.1
  have e17 : f_17 I L = some (cpF I 15 3, L) := rfl
  obtain ⟨K, k1, k2, k3⟩ := e18 (L := L) (I := cpF I 15 3) (m := dms H) (fun r _ => dms_lt ho r) (fun r hr => by rw [show (6 : Nat) = 3 + 3 from rfl, cpF_3 (by omega) hr]; exact h4 r hr) hn
  refine ⟨cpF I 15 3, K, e17, k1, ⟨fun j hj => ?_, fun r hr => ?_, fun r hr => ?_, fun r hr => ?_, fun r q hr hq => ?_, fun v hv => ?_, fun v hv => ?_, fun v hv => ?_, ?_, fun v hv => absurd hv (Nat.not_lt_zero v), fun v hv => absurd hv (Nat.not_lt_zero v)⟩, fun c i hc => by rw [k3 c i (by omega), cpF_o (by omega)]⟩
  · rw [u2_c (by decide), k3 3 j (by decide), cpF_0 hj]; exact h1 j hj
  · rw [u2_c (by decide), k3 _ _ (by decide), cpF_1 (by omega) (by omega)]; exact h2 r hr
  · rw [u2_c (by decide), k3 _ _ (by decide), cpF_2 (by omega) (by omega)]; exact h3 r hr
  · rw [u2_c (by decide), k3 _ _ (by decide), cpF_3 (by omega) hr]; exact h4 r hr
  · rw [u2_c (by decide), show 3 + 4 = 7 from rfl, Nat.mul_comm 4 r, k2 r q (by omega) (by omega), spD_dst ho (by omega) (by omega)]
  · rw [u2_c (by decide), k3 _ _ (by decide), cpF_5 (by omega) (by omega)]; exact h5 v hv
  · rw [u2_c (by decide), k3 _ _ (by decide), cpF_6 (by omega) (by omega)]; exact h6 v hv
  · rw [u2_c (by decide), k3 _ _ (by decide), cpF_7 (by omega) (by omega)]; exact h7 v hv
  · rw [u2_s]; rfl
end MEA
