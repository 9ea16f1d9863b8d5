/-! LAYER 3: what can be kept; the class's moves -/
section KEEP
variable (H : HD) (l set : Nat) (wt : Nat → Nat)
/-- the state a minute later, and 1; 0: a flame goes out, or there is no way -/
def nxt (s to : Nat) : Nat := if (s / 4096 = to ∨ dor H (s / 4096) to = true) ∧ kbB set wt (kst H l set (s / 4096 + 1) to (dg s)) = true then sid to (kst H l set (s / 4096 + 1) to (dg s)) + 1 else 0
def VSt (s : Nat) : Prop := s / 4096 < H.1 4 ∧ ∀ r, r < 4 → (set.testBit r = true → dg s r ≤ wt r) ∧ (set.testBit r = true ∨ dg s r = 0)
/-- so many minutes more -/
def pth : Nat → Nat → Bool
  | 0, _ => true
  | n + 1, s => (List.range (H.1 4)).any fun to => nxt H l set wt s to != 0 && pth n (nxt H l set wt s to - 1)
def Kept (s : Nat) : Prop := ∀ n, pth H l set wt n s = true
def LST (s : Nat) : Prop := ∃ n, pth H l set wt n s = false
/-- how long a state lasts, 100 at most -/
def SPN (s v : Nat) : Prop := 1 ≤ v ∧ v ≤ 100 ∧ pth H l set wt (v - 1) s = true ∧ (v < 100 → pth H l set wt v s = false)
end KEEP
section KEEP2
variable {H : HD} {l set : Nat} {wt : Nat → Nat}
theorem pth_s {n s : Nat} : pth H l set wt (n + 1) s = true ↔ ∃ to, to < H.1 4 ∧ nxt H l set wt s to ≠ 0 ∧ pth H l set wt n (nxt H l set wt s to - 1) = true := by
  show ((List.range (H.1 4)).any fun to => nxt H l set wt s to != 0 && pth H l set wt n (nxt H l set wt s to - 1)) = true ↔ _
  simp only [List.any_eq_true, List.mem_range, Bool.and_eq_true, bne_iff_ne]
theorem pth_m : ∀ {n s : Nat}, pth H l set wt (n + 1) s = true → pth H l set wt n s = true
  | 0, _, _ => rfl
  | n + 1, s, h => by
    obtain ⟨to, h1, h2, h3⟩ := pth_s.mp h
    exact pth_s.mpr ⟨to, h1, h2, pth_m h3⟩
theorem pth_le {s : Nat} : ∀ {n m : Nat}, m ≤ n → pth H l set wt n s = true → pth H l set wt m s = true
  | 0, m, h, e => by rw [show m = 0 by omega]; rfl
  | n + 1, m, h, e => by
    by_cases h2 : m = n + 1
    · rw [h2]; exact e
    · exact pth_le (n := n) (by omega) (pth_m e)
theorem LST_n {s : Nat} (h : LST H l set wt s) : ¬ Kept H l set wt s := fun k => by
  obtain ⟨n, e⟩ := h
  rw [k n] at e; exact absurd e (by decide)
/-- no child is kept: lost -/
theorem LST_c {s : Nat} (h : ∀ to, to < H.1 4 → nxt H l set wt s to = 0 ∨ LST H l set wt (nxt H l set wt s to - 1)) : LST H l set wt s := by
  -- a number that all children fail
  have key : ∀ k, k ≤ H.1 4 → ∃ N, ∀ to, to < k → nxt H l set wt s to = 0 ∨ pth H l set wt N (nxt H l set wt s to - 1) = false := fun k => by
    induction k with
    | zero => intro _; exact ⟨0, fun to ht => absurd ht (by omega)⟩
    | succ k ih =>
      intro hk
      obtain ⟨N, hN⟩ := ih (by omega)
      rcases h k (by omega) with h0 | ⟨M, hM⟩
      · refine ⟨N, fun to ht => ?_⟩
        rcases (show to < k ∨ to = k by omega) with h1 | rfl
        · exact hN to h1
        · exact Or.inl h0
      · refine ⟨N + M, fun to ht => ?_⟩
        rcases (show to < k ∨ to = k by omega) with h1 | rfl
        · rcases hN to h1 with h2 | h2
          · exact Or.inl h2
          · refine Or.inr ?_
            cases e : pth H l set wt (N + M) (nxt H l set wt s to - 1)
            · rfl
            · rw [pth_le (by omega) e] at h2; exact absurd h2 (by decide)
        · refine Or.inr ?_
          cases e : pth H l set wt (N + M) (nxt H l set wt s to - 1)
          · rfl
          · rw [pth_le (by omega) e] at hM; exact absurd hM (by decide)
  obtain ⟨N, hN⟩ := key (H.1 4) (Nat.le_refl _)
  refine ⟨N + 1, ?_⟩
  cases e : pth H l set wt (N + 1) s
  · rfl
  · obtain ⟨to, h1, h2, h3⟩ := pth_s.mp e
    rcases hN to h1 with h4 | h4
    · exact absurd h4 h2
    · rw [h4] at h3; exact absurd h3 (by decide)
/-- a set of states each of which has a child in it, or a kept one -/
theorem Kept_co {X : Nat → Prop} (h : ∀ s, X s → ∃ to, to < H.1 4 ∧ nxt H l set wt s to ≠ 0 ∧ (X (nxt H l set wt s to - 1) ∨ Kept H l set wt (nxt H l set wt s to - 1))) : ∀ s, X s → Kept H l set wt s := by
  have key : ∀ n s, X s → pth H l set wt n s = true := fun n => by
    induction n with
    | zero => intro s _; rfl
    | succ n ih =>
      intro s hs
      obtain ⟨to, h1, h2, h3⟩ := h s hs
      refine pth_s.mpr ⟨to, h1, h2, ?_⟩
      rcases h3 with h3 | h3
      · exact ih _ h3
      · exact h3 n
  exact fun s hs n => key n s hs
theorem Kept_ch {s : Nat} (h : Kept H l set wt s) : ∃ to, to < H.1 4 ∧ nxt H l set wt s to ≠ 0 ∧ Kept H l set wt (nxt H l set wt s to - 1) := by
  by_cases hc : ∃ to, to < H.1 4 ∧ nxt H l set wt s to ≠ 0 ∧ Kept H l set wt (nxt H l set wt s to - 1)
  · exact hc
  · exfalso
    refine LST_n (LST_c (s := s) (fun to ht => ?_)) h
    by_cases h0 : nxt H l set wt s to = 0
    · exact Or.inl h0
    · refine Or.inr ?_
      have hn : ¬ Kept H l set wt (nxt H l set wt s to - 1) := fun k => hc ⟨to, ht, h0, k⟩
      unfold Kept at hn
      have : ∃ n, ¬ pth H l set wt n (nxt H l set wt s to - 1) = true := Classical.not_forall.mp hn
      obtain ⟨n, hn⟩ := this
      exact ⟨n, by simpa using hn⟩
/-- the greatest span of lost children so far -/
def MXS (H : HD) (l set : Nat) (wt : Nat → Nat) (s d v : Nat) : Prop := v ≤ 100 ∧ (∀ to, to < d → nxt H l set wt s to = 0 ∨ (LST H l set wt (nxt H l set wt s to - 1) ∧ ∃ u, u ≤ v ∧ SPN H l set wt (nxt H l set wt s to - 1) u)) ∧ (v = 0 ∨ ∃ to, to < d ∧ to < H.1 4 ∧ nxt H l set wt s to ≠ 0 ∧ SPN H l set wt (nxt H l set wt s to - 1) v)
theorem MXS_0 (s : Nat) : MXS H l set wt s 0 0 := ⟨by omega, fun to h => absurd h (by omega), Or.inl rfl⟩
theorem MXS_n {s d v : Nat} (h : MXS H l set wt s d v) (h0 : nxt H l set wt s d = 0) : MXS H l set wt s (d + 1) v := by
  obtain ⟨h1, h2, h3⟩ := h
  refine ⟨h1, fun to ht => ?_, ?_⟩
  · rcases (show to < d ∨ to = d by omega) with h4 | rfl
    · exact h2 to h4
    · exact Or.inl h0
  · rcases h3 with h3 | ⟨to, a, b⟩
    · exact Or.inl h3
    · exact Or.inr ⟨to, by omega, b⟩
theorem MXS_y {s d v u : Nat} (h : MXS H l set wt s d v) (hd : d < H.1 4) (h0 : nxt H l set wt s d ≠ 0) (hl : LST H l set wt (nxt H l set wt s d - 1)) (hu : SPN H l set wt (nxt H l set wt s d - 1) u) : MXS H l set wt s (d + 1) (if v < u then u else v) := by
  obtain ⟨h1, h2, h3⟩ := h
  refine ⟨by have := hu.2.1; split <;> omega, fun to ht => ?_, ?_⟩
  · rcases (show to < d ∨ to = d by omega) with h4 | rfl
    · rcases h2 to h4 with h5 | ⟨h5, x, hx, h6⟩
      · exact Or.inl h5
      · exact Or.inr ⟨h5, x, by split <;> omega, h6⟩
    · exact Or.inr ⟨hl, u, by split <;> omega, hu⟩
  · by_cases hv : v < u
    · rw [if_pos hv]
      exact Or.inr ⟨d, by omega, hd, h0, hu⟩
    · rw [if_neg hv]
      rcases h3 with h3 | ⟨to, a, b⟩
      · exact Or.inl h3
      · exact Or.inr ⟨to, by omega, b⟩
/-- all children are lost -/
theorem MXS_l {s v : Nat} (h : MXS H l set wt s (H.1 4) v) : LST H l set wt s ∧ SPN H l set wt s (if 100 < v + 1 then 100 else v + 1) := by
  obtain ⟨h1, h2, h3⟩ := h
  refine ⟨LST_c (fun to ht => (h2 to ht).imp id (fun q => q.1)), by split <;> omega, by split <;> omega, ?_, fun hlt => ?_⟩
  · rcases h3 with h3 | ⟨to, a, b, c, d⟩
    · rw [h3, if_neg (by omega)]; rfl
    · have hp := d.2.2.1
      have hv := d.1
      have : pth H l set wt v s = true := by
        obtain ⟨x, rfl⟩ : ∃ x, v = x + 1 := ⟨v - 1, by omega⟩
        exact pth_s.mpr ⟨to, b, c, hp⟩
      exact pth_le (by split <;> omega) this
  · have hv : ¬ 100 < v + 1 := fun q => by rw [if_pos q] at hlt; omega
    rw [if_neg hv] at hlt ⊢
    cases e : pth H l set wt (v + 1) s
    · rfl
    · obtain ⟨to, a, b, c⟩ := pth_s.mp e
      rcases h2 to a with h5 | ⟨_, u, hu, h6⟩
      · exact absurd h5 b
      · have := h6.2.2.2 (by omega)
        rw [pth_le (by omega) c] at this; exact absurd this (by decide)
theorem SPN_u {s u v : Nat} (h1 : SPN H l set wt s u) (h2 : SPN H l set wt s v) : u = v := by
  obtain ⟨a1, a2, a3, a4⟩ := h1
  obtain ⟨b1, b2, b3, b4⟩ := h2
  rcases Nat.lt_trichotomy u v with h | h | h
  · have := a4 (by omega)
    rw [pth_le (by omega) b3] at this; exact absurd this (by decide)
  · exact h
  · have := b4 (by omega)
    rw [pth_le (by omega) a3] at this; exact absurd this (by decide)
/-- the step on valid states -/
theorem nxt_V (hw : ∀ r, r < 4 → set.testBit r = true → wt r ≤ 7) (o4 : H.1 4 ≤ 4) {s to t : Nat} (ht : to < H.1 4) (h : nxt H l set wt s to = t + 1) : VSt H set wt t ∧ t < 16384 := by
  unfold nxt at h
  by_cases hc : (s / 4096 = to ∨ dor H (s / 4096) to = true) ∧ kbB set wt (kst H l set (s / 4096 + 1) to (dg s)) = true
  · rw [if_pos hc] at h
    have hb := kbB_p.mp hc.2
    have h8 : ∀ r, r < 4 → kst H l set (s / 4096 + 1) to (dg s) r < 8 := fun r hr => by
      rcases kst_z (H := H) (l := l) (set := set) (f := s / 4096 + 1) (to := to) (a := dg s) r hr with h1 | h1
      · have := hb r hr h1; have := hw r hr h1; omega
      · omega
    have e : t = sid to (kst H l set (s / 4096 + 1) to (dg s)) := by omega
    refine ⟨⟨by rw [e, he_sid h8]; exact ht, fun r hr => ?_⟩, ?_⟩
    · rw [e, dg_sid h8 hr]
      exact ⟨fun hs => hb r hr hs, kst_z r hr⟩
    · have h0 := h8 0 (by omega)
      have h1 := h8 1 (by omega)
      have h2 := h8 2 (by omega)
      have h3 := h8 3 (by omega)
      rw [e]; unfold sid; omega
  · rw [if_neg hc] at h; omega
theorem VSt_lt (o4 : H.1 4 ≤ 4) {s : Nat} (h : VSt H set wt s) : s < 16384 := by have := h.1; omega
theorem nxt_no {W : Nat → Nat} {A : AD} (ho : HOK H W A) {s to : Nat} (hs : s / 4096 < H.1 4) (ht : ¬ to < H.1 4) : nxt H l set wt s to = 0 := by
  unfold nxt
  rw [if_neg]
  rintro ⟨h1 | h1, _⟩
  · omega
  · exact ht (dor_lt ho h1).2.1
end KEEP2
section KEEPC
variable {I : FI} {L : FL} {H : HD} {W : Nat → Nat} {A : AD} {l set : Nat} {wt : Nat → Nat} {n : Nat}
/-- all that the class's moves rest on -/
def KQ (H : HD) (W : Nat → Nat) (A : AD) (l set : Nat) (wt : Nat → Nat) (I : FI) : Prop := HOK H W A ∧ CH I 3 11 H W A ∧ AGE I 115 H l set wt ∧ l ≤ 3 ∧ ∀ r, r < 4 → set.testBit r = true → 1 ≤ wt r ∧ wt r ≤ 7
theorem KQ_fr {J : FI} (h : KQ H W A l set wt I) (e : ∀ c i, (c < 14 ∨ c = 115 ∨ c = 116) → J c i = I c i) : KQ H W A l set wt J := by
  obtain ⟨h1, h2, h3, h4, h5⟩ := h
  exact ⟨h1, CH_u h2 (fun a i ha => e a i (by omega)), ⟨by rw [e 115 1 (by omega)]; exact h3.1, by rw [e 115 2 (by omega)]; exact h3.2.1, fun to ht => by rw [e (115 + 1) to (by omega)]; exact h3.2.2 to ht⟩, h4, h5⟩
theorem e41 (hQ : KQ H W A l set wt I) {s to : Nat} (hs : VSt H set wt s) (ht : to < H.1 4) : f_41 (nI (pks s)) (nI to) I L = some (if nxt H l set wt s to = 0 then oI 0 else nI (pks (nxt H l set wt s to - 1))) := by
  obtain ⟨ho, hC, hA, hl, hw⟩ := hQ
  have o4 : H.1 4 ≤ 4 := ho.1.2.2.2.2.1
  have hsl := VSt_lt o4 hs
  have hpl := pks_lt hsl
  have hpa := pa_lt (fun r _ => by have := dg_lt s r; omega : ∀ r, r < 4 → dg s r < 16)
  have e16 : nI (pks s) >>> ((16 : Int32) &&& 31) = nI (s / 4096) := by
    rw [show (16 : Int32) &&& 31 = nI 16 by decide, ku_shr (by omega) (by omega)]
    congr 1; unfold pks; show (65536 * (s / 4096) + pa (dg s)) / 65536 = s / 4096; omega
  have em : nI (pks s) &&& 65535 = nI (pa (dg s)) := by
    rw [show (65535 : Int32) = nI (2 ^ 16 - 1) from rfl, fa_mask]
    congr 1; unfold pks; show (65536 * (s / 4096) + pa (dg s)) % 65536 = pa (dg s); omega
  have e21 : f_21_1 (nI (s / 4096)) (nI to) I L = some (bI (s / 4096 = to ∨ dor H (s / 4096) to = true)) := e21 (L := L) ho hC (by have := hs.1; omega) (by omega)
  have e7' := e7 (L := L) hA o4 hl (fun r hr hs => (hw r hr hs).2) (a := dg s) (fun r hr => by have := dg_lt s r; omega) (fun r hr => (hs.2 r hr).2) (f := s / 4096 + 1) (by have := hs.1; omega) ht
  rw [oI_s] at e7'
  unfold f_41
  rw [e16, e21, q_bs, q_b2, em, e7', q_bs]
  by_cases h1 : s / 4096 = to ∨ dor H (s / 4096) to = true
  · rw [if_pos h1]
    by_cases h2 : kbB set wt (kst H l set (s / 4096 + 1) to (dg s)) = true
    · have hb := kbB_p.mp h2
      have h8 : ∀ r, r < 4 → kst H l set (s / 4096 + 1) to (dg s) r < 8 := fun r hr => by
        rcases kst_z (H := H) (l := l) (set := set) (f := s / 4096 + 1) (to := to) (a := dg s) r hr with h1 | h1
        · have := hb r hr h1; have := (hw r hr h1).2; omega
        · omega
      have hkl := pa_lt (fun r hr => by have := h8 r hr; omega : ∀ r, r < 4 → kst H l set (s / 4096 + 1) to (dg s) r < 16)
      have hnx : nxt H l set wt s to = sid to (kst H l set (s / 4096 + 1) to (dg s)) + 1 := by unfold nxt; rw [if_pos ⟨h1, h2⟩]
      rw [if_pos h2, hnx, if_pos (by rw [ku_m, ku_on (by omega) (by omega)]; omega), if_neg (show ¬ sid to (kst H l set (s / 4096 + 1) to (dg s)) + 1 = 0 by omega), Nat.add_sub_cancel, pks_sid h8, show (16 : Int32) &&& 31 = nI 16 by decide, ku_shl (by omega) (by show to * 65536 < _; omega), fa_or]
      congr 2
      have := Nat.two_pow_add_eq_or_of_lt (i := 16) hkl to
      rw [Nat.mul_comm to]
      exact this.symm
    · have hnx : nxt H l set wt s to = 0 := by unfold nxt; rw [if_neg (fun q => h2 q.2)]
      rw [if_neg h2, hnx, if_neg (by rw [oI_0]; exact fun q => q rfl), if_pos rfl, oI_0]
  · have hnx : nxt H l set wt s to = 0 := by unfold nxt; rw [if_neg (fun q => h1 q.1)]
    rw [if_neg h1, hnx, if_pos rfl, oI_0]
/-- the first state -/
def st0 (H : HD) (l set w : Nat) : Nat := sid w (kst H l set 0 w (fun _ => 0))
theorem kst0_le {w : Nat} : ∀ r, r < 4 → kst H l set 0 w (fun _ => 0) r ≤ 1 := fun r _ => by
  unfold kst agc
  dsimp only
  split
  · split
    · split
      · omega
      · split <;> omega
    · split <;> omega
  · omega
theorem st0_V (hw : ∀ r, r < 4 → set.testBit r = true → 1 ≤ wt r ∧ wt r ≤ 7) {w : Nat} (hw4 : w < H.1 4) : VSt H set wt (st0 H l set w) := by
  have h1 := kst0_le (H := H) (l := l) (set := set) (w := w)
  have h8 : ∀ r, r < 4 → kst H l set 0 w (fun _ => 0) r < 8 := fun r hr => by have := h1 r hr; omega
  unfold st0
  refine ⟨by rw [he_sid h8]; exact hw4, fun r hr => ?_⟩
  rw [dg_sid h8 hr]
  exact ⟨fun hs => by have := h1 r hr; have := (hw r hr hs).1; omega, kst_z r hr⟩
theorem e40 (hQ : KQ H W A l set wt I) {w : Nat} (hw4 : w < H.1 4) : f_40 (nI w) I L = some (nI (pks (st0 H l set w))) := by
  obtain ⟨ho, hC, hA, hl, hw⟩ := hQ
  have o4 : H.1 4 ≤ 4 := ho.1.2.2.2.2.1
  have h1 := kst0_le (H := H) (l := l) (set := set) (w := w)
  have h8 : ∀ r, r < 4 → kst H l set 0 w (fun _ => 0) r < 8 := fun r hr => by have := h1 r hr; omega
  have hb : kbB set wt (kst H l set 0 w (fun _ => 0)) = true := kbB_p.mpr (fun r hr hs => by have := h1 r hr; have := (hw r hr hs).1; omega)
  have e7' := e7 (L := L) hA o4 hl (fun r hr hs => (hw r hr hs).2) (a := fun _ => 0) (fun r hr => by omega) (fun r hr => Or.inr rfl) (f := 0) (by omega) hw4
  rw [if_pos hb, oI_0] at e7'
  have hkl := pa_lt (fun r hr => by have := h8 r hr; omega : ∀ r, r < 4 → kst H l set 0 w (fun _ => 0) r < 16)
  unfold f_40
  rw [show f_7 0 (-1) (nI w) I L = _ from e7', q_bs]
  unfold f_358_1
  have hmx : (if (0 : Int32) < nI (pa (kst H l set 0 w (fun _ => 0))) then some (nI (pa (kst H l set 0 w (fun _ => 0)))) else some 0) = some (nI (pa (kst H l set 0 w (fun _ => 0)))) := by
    by_cases h0 : pa (kst H l set 0 w (fun _ => 0)) = 0
    · rw [h0, if_neg (by decide)]; rfl
    · rw [if_pos (by rw [ku_0]; exact nI_lt (by omega) (by omega))]
  rw [hmx, q_bs, show (16 : Int32) &&& 31 = nI 16 by decide, ku_shl (by omega) (by show w * 65536 < _; omega), fa_or]
  unfold st0
  rw [pks_sid h8]
  congr 2
  have := Nat.two_pow_add_eq_or_of_lt (i := 16) hkl w
  rw [Nat.mul_comm w]
  exact this.symm
end KEEPC
