/-! LAYER 3: rings: what a ring is; the class's enter and closes -/
def STQ (H : HD) (a b : Nat) : Prop := a = b ∨ dor H a b = true
abbrev RGA (H : HD) (w : Nat → Nat) (k : Nat) : Nat → Nat := rag H (H.1 1) (evr H) w k
def BN (H : HD) (w : Nat → Nat) (k : Nat) : Prop := ∀ r, r < 4 → (evr H).testBit r = true → RGA H w k r ≤ H.2 0 r
def PRE (H : HD) (w : Nat → Nat) (m : Nat) : Prop := (∀ i, i + 1 < m → STQ H (w i) (w (i + 1))) ∧ ∀ k, k ≤ m → BN H w k
def ERG (H : HD) (X : Nat → Nat) : Prop := (∀ i, STQ H (X i) (X (i + 1))) ∧ ∀ k, BN H X k
theorem rag_cg {H : HD} {l set : Nat} {w v : Nat → Nat} : ∀ {k : Nat}, (∀ i, i < k → w i = v i) → rag H l set w k = rag H l set v k
  | 0, _ => rfl
  | k + 1, h => by
    show kst H l set (if k = 0 then 0 else w (k - 1) + 1) (w k) (rag H l set w k) = kst H l set (if k = 0 then 0 else v (k - 1) + 1) (v k) (rag H l set v k)
    rw [rag_cg (fun i hi => h i (by omega)), h k (by omega)]
    by_cases e : k = 0
    · rw [if_pos e, if_pos e]
    · rw [if_neg e, if_neg e, h (k - 1) (by omega)]
section RGP
variable {H : HD} {W : Nat → Nat} {A : AD} {w v : Nat → Nat} {m : Nat}
theorem BN_cg {k : Nat} (h : ∀ i, i < k → w i = v i) (hb : BN H w k) : BN H v k := fun r hr hs => by
  show rag H (H.1 1) (evr H) v k r ≤ _
  rw [← rag_cg h]; exact hb r hr hs
theorem PRE_cg (h : ∀ i, i < m → w i = v i) (hb : PRE H w m) : PRE H v m := ⟨fun i hi => by rw [← h i (by omega), ← h (i + 1) hi]; exact hb.1 i hi, fun k hk => BN_cg (fun i hi => h i (by omega)) (hb.2 k hk)⟩
theorem PRE_lo (hb : PRE H w m) {k : Nat} (hk : k ≤ m) : PRE H w k := ⟨fun i hi => hb.1 i (by omega), fun j hj => hb.2 j (by omega)⟩
theorem ERG_sh {X : Nat → Nat} {n : Nat} (hn : 1 ≤ n) (hp : PD X n) : ERG H (fun i => X (i + 1)) ↔ ERG H X := by
  have hb : (∀ k, BN H (fun i => X (i + 1)) k) ↔ ∀ k, BN H X k := BRN_rot (H := H) (l := H.1 1) (set := evr H) (wt := H.2 0) hp hn
  unfold ERG
  rw [hb]
  constructor
  · rintro ⟨h1, h2⟩
    refine ⟨fun i => ?_, h2⟩
    have := h1 (i + n - 1)
    (try dsimp only at this)
    rw [show i + n - 1 + 1 = i + n by omega, show i + n + 1 = i + 1 + n by omega, hp, hp] at this
    exact this
  · rintro ⟨h1, h2⟩
    exact ⟨fun i => h1 (i + 1), h2⟩
theorem ERG_PRE {u l : List Nat} {N : Nat} (h : ERG H (xt N (u ++ l))) (hN : u.length ≤ N) : PRE H (wf u) u.length := by
  have e : ∀ i, i < u.length → xt N (u ++ l) i = wf u i := fun i hi => by rw [xt_l (by omega), wf_l hi]
  exact PRE_cg e ⟨fun i _ => h.1 i, fun k _ => h.2 k⟩
theorem evr_r {r : Nat} : (evr H).testBit r = true ↔ r < H.1 4 := by rw [evr_b]; simp
theorem hwt7 (ho : HOK H W A) : ∀ r, r < 4 → (evr H).testBit r = true → H.2 0 r ≤ 7 := fun r _ h => (ho.2.1 r (evr_r.mp h)).2.1
theorem BN_7 (ho : HOK H W A) {k : Nat} (h : BN H w k) : ∀ r, r < 4 → RGA H w k r ≤ 7 := fun r hr => by
  by_cases e : (evr H).testBit r = true
  · exact Nat.le_trans (h r hr e) (hwt7 ho r hr e)
  · show rag H (H.1 1) (evr H) w k r ≤ 7
    rw [rag_z w k r e]; omega
theorem RGA_z {k : Nat} : ∀ r, r < 4 → (evr H).testBit r = true ∨ RGA H w k r = 0 := fun r _ => by
  by_cases e : (evr H).testBit r = true
  · exact Or.inl e
  · exact Or.inr (rag_z w k r e)
theorem BN_0 : BN H w 0 := fun r _ _ => Nat.zero_le _
theorem kb_BN {k : Nat} : kbB (evr H) (H.2 0) (RGA H w k) = true ↔ BN H w k := kbB_p
theorem pa_inj {a b : Nat → Nat} (ha : ∀ r, r < 4 → a r < 16) (hb : ∀ r, r < 4 → b r < 16) (h : pa a = pa b) : ∀ r, r < 4 → a r = b r := fun r hr => by
  rw [← pa_dg ha hr, ← pa_dg hb hr, h]
theorem evr_4 (ho : HOK H W A) : ∀ r, (evr H).testBit r = true → r < 4 := fun r h => by
  have := evr_r.mp h
  have o4 : H.1 4 ≤ 4 := ho.1.2.2.2.2.1
  omega
/-- never as a round before: not for long -/
theorem rag_29 (ho : HOK H W A) {X : Nat → Nat} {N k : Nat} (hp : PD X N) (hb : ∀ j, j ≤ k + 30 * N → BN H X j) (hne : ∀ i, i < 30 → RGA H X (k + i * N + N) ≠ RGA H X (k + i * N)) : False := by
  rcases rag_stb (H := H) (l := H.1 1) (set := evr H) (k := k) hp (evr_4 ho) 30 with ⟨i, h1, h2⟩ | h
  · exact hne i h1 h2
  · have := rsm_le (wt := H.2 0) (hwt7 ho) (hb (k + 30 * N) (Nat.le_refl _))
    omega
theorem ERG_per {X : Nat → Nat} {N k : Nat} (hN : 1 ≤ N) (hk : 1 ≤ k) (hp : PD X N) (hs : ∀ i, STQ H (X i) (X (i + 1))) (h : RGA H X (k + N) = RGA H X k) (hb : ∀ j, j < k + N → BN H X j) : ERG H X := ⟨hs, BRN_per hp hN hk h hb⟩
end RGP
section RGC
variable {I : FI} {L : FL} {H : HD} {W : Nat → Nat} {A : AD} {n : Nat} {u : List Nat}
def RC (H : HD) (W : Nat → Nat) (A : AD) (I : FI) : Prop := HOK H W A ∧ CH I 3 11 H W A ∧ AGE I 37 H (H.1 1) (evr H) (H.2 0)
theorem RC_fr {J : FI} (h : RC H W A I) (e : ∀ c i, (c < 14 ∨ c = 37 ∨ c = 38) → J c i = I c i) : RC H W A J := by
  obtain ⟨h1, h2, h3, h4, h5⟩ := h
  exact ⟨h1, CH_u h2 (fun a i ha => e a i (by omega)), by rw [e 37 1 (by omega)]; exact h3, by rw [e 37 2 (by omega)]; exact h4, fun to hto => by rw [e (37 + 1) to (by omega)]; exact h5 to hto⟩
def CRW (H : HD) (u : List Nat) (I : FI) : Prop := (∀ k, k < u.length → I 40 (k + 1) = nI (wf u k)) ∧ I 40 0 = nI 0 ∧ (∀ k, k ≤ u.length → I 41 k = nI (pa (RGA H (wf u) k))) ∧ PRE H (wf u) u.length ∧ Wd (H.1 4) u.length u ∧ u.length ≤ 12
theorem CRW_fr {J : FI} (h : CRW H u I) (e : ∀ k, k ≤ u.length → J 40 k = I 40 k ∧ J 41 k = I 41 k) : CRW H u J := by
  obtain ⟨h1, h2, h3, h4⟩ := h
  exact ⟨fun k hk => by rw [(e (k + 1) (by omega)).1]; exact h1 k hk, by rw [(e 0 (by omega)).1]; exact h2, fun k hk => by rw [(e k hk).2]; exact h3 k hk, h4⟩
theorem CRW_lo {j : Nat} (h : CRW H (u ++ [j]) I) : CRW H u I := by
  obtain ⟨h1, h2, h3, h4, h5, h6⟩ := h
  have hl : (u ++ [j]).length = u.length + 1 := by simp
  rw [hl] at h1 h3 h4 h5 h6
  have e : ∀ i, i < u.length → wf (u ++ [j]) i = wf u i := fun i hi => wf_l hi
  refine ⟨fun k hk => by rw [h1 k (by omega), e k hk], h2, fun k hk => ?_, PRE_cg e (PRE_lo h4 (by omega)), ⟨rfl, fun k hk => by rw [← e k hk]; exact h5.2 k (by omega)⟩, by omega⟩
  rw [h3 k (by omega)]
  show nI (pa (rag H (H.1 1) (evr H) (wf (u ++ [j])) k)) = _
  rw [rag_cg (v := wf u) (fun i hi => e i (by omega))]
theorem e103 (hR : RC H W A I) (hr : CRW H u I) (hm : u.length < 12) {j : Nat} (hj : j < H.1 4) : ∃ b J, f_103 (nI (u.length + 1)) (nI j) I L = some (nI b, J, L) ∧ ((b = 1 ∧ CRW H (u ++ [j]) J) ∨ (b = 0 ∧ ¬ PRE H (wf (u ++ [j])) (u.length + 1))) ∧ CRW H u J ∧ ∀ c i, c ≠ 40 → c ≠ 41 → J c i = I c i := by
  obtain ⟨ho, hC, hA⟩ := hR
  have hr0 := hr
  obtain ⟨r1, r2, r3, r4, r5, r6⟩ := hr
  have o4 : H.1 4 ≤ 4 := ho.1.2.2.2.2.1
  have o1 : H.1 1 ≤ 3 := ho.1.2.1
  have hl : (u ++ [j]).length = u.length + 1 := by simp
  have hwl : ∀ i, i < u.length → wf (u ++ [j]) i = wf u i := fun i hi => wf_l hi
  have hwm : wf (u ++ [j]) u.length = j := wf_m
  obtain ⟨f, hf⟩ : ∃ f, f = if u.length = 0 then 0 else wf u (u.length - 1) + 1 := ⟨_, rfl⟩
  have hf4 : f ≤ 4 := by
    rw [hf]
    by_cases e : u.length = 0
    · rw [if_pos e]; omega
    · rw [if_neg e]; have := r5.2 (u.length - 1) (by omega); omega
  have hrag : RGA H (wf (u ++ [j])) (u.length + 1) = kst H (H.1 1) (evr H) f j (RGA H (wf u) u.length) := by
    show kst H (H.1 1) (evr H) (if u.length = 0 then 0 else wf (u ++ [j]) (u.length - 1) + 1) (wf (u ++ [j]) u.length) (rag H (H.1 1) (evr H) (wf (u ++ [j])) u.length) = _
    rw [hwm, rag_cg (v := wf u) hwl, hf]
    by_cases e : u.length = 0
    · rw [if_pos e, if_pos e]
    · rw [if_neg e, if_neg e, hwl _ (by omega)]
  have hb := r4.2 u.length (Nat.le_refl _)
  have h7 := e7_1 (L := L) hA o4 o1 (hwt7 ho) (BN_7 ho hb) RGA_z hf4 hj
  rw [← hrag] at h7
  have hfr : ∀ q, CRW H u (u2 (u2 I 40 (u.length + 1) (nI j)) 41 (u.length + 1) q) := fun q => CRW_fr hr0 (fun k hk => ⟨by rw [u2_c (by decide), u2_o (by omega)], by rw [u2_o (by omega), u2_c (by decide)]⟩)
  have hfi : ∀ q c i, c ≠ 40 → c ≠ 41 → u2 (u2 I 40 (u.length + 1) (nI j)) 41 (u.length + 1) q c i = I c i := fun q c i h1 h2 => by rw [u2_c h2, u2_c h1]
  have c1 : (u.length = 0 ∨ STQ H (wf u (u.length - 1)) j) → ∃ b J, c_103_1 (nI (u.length + 1)) (nI j) (oI f) I L = some (nI b, J, L) ∧ ((b = 1 ∧ CRW H (u ++ [j]) J) ∨ (b = 0 ∧ ¬ PRE H (wf (u ++ [j])) (u.length + 1))) ∧ CRW H u J ∧ ∀ c i, c ≠ 40 → c ≠ 41 → J c i = I c i := fun hst => by
    unfold c_103_1
    rw [nI_pred, ku_if (show u.length < 13 by omega) (by omega), nI_clamp (show u.length < 2 ^ 31 by omega), r3 _ (Nat.le_refl _), h7, q_bs, ku_if (show u.length + 1 < 13 by omega) (by omega), ku_if (show u.length + 1 < 13 by omega) (by omega), nI_clamp (show u.length + 1 < 2 ^ 31 by omega)]
    by_cases hB : BN H (wf (u ++ [j])) (u.length + 1)
    · have h8 := pa_lt (fun r hr => by have := BN_7 ho hB r hr; omega : ∀ r, r < 4 → RGA H (wf (u ++ [j])) (u.length + 1) r < 16)
      rw [if_pos (kb_BN.mpr hB), if_neg (by rw [ku_m, ku_on (by omega) (by omega)]; omega)]
      refine ⟨1, _, rfl, Or.inl ⟨rfl, ?_⟩, hfr _, hfi _⟩
      refine ⟨fun k hk => ?_, ?_, fun k hk => ?_, ⟨fun i hi => ?_, fun k hk => ?_⟩, ?_, by omega⟩
      · rw [u2_c (by decide)]
        by_cases e : k = u.length
        · subst e; rw [u2_s, hwm]
        · rw [u2_o (by omega), hwl k (by omega)]; exact r1 k (by omega)
      · rw [u2_c (by decide), u2_o (by omega)]; exact r2
      · by_cases e : k = u.length + 1
        · subst e; rw [u2_s]
        · rw [u2_o e, u2_c (by decide), r3 k (by omega)]
          show nI (pa (rag H (H.1 1) (evr H) (wf u) k)) = nI (pa (rag H (H.1 1) (evr H) (wf (u ++ [j])) k))
          rw [rag_cg (v := wf u) (w := wf (u ++ [j])) (fun i hi => hwl i (by omega))]
      · by_cases e : i + 1 < u.length
        · rw [hwl i (by omega), hwl (i + 1) e]; exact r4.1 i e
        · have e2 : i + 1 = u.length := by omega
          rw [hwl i (by omega), e2, hwm]
          rcases hst with h | h
          · omega
          · rw [show i = u.length - 1 by omega]; exact h
      · by_cases e : k = u.length + 1
        · subst e; exact hB
        · exact BN_cg (fun i hi => (hwl i (by omega)).symm) (r4.2 k (by omega))
      · rw [hl]; exact Wd_s r5 hj
    · rw [if_neg (fun q => hB (kb_BN.mp q)), if_pos (by rw [oI_0])]
      exact ⟨0, _, rfl, Or.inr ⟨rfl, fun q => hB (q.2 _ (Nat.le_refl _))⟩, hfr _, hfi _⟩
  unfold f_103
  by_cases hz : u.length = 0
  · rw [if_pos (by rw [hz]; decide)]
    unfold c_103_0
    rw [if_pos rfl]
    have := c1 (Or.inl hz)
    rw [hf, if_pos hz, oI_0] at this
    exact this
  · have hc := r1 (u.length - 1) (by omega)
    rw [show u.length - 1 + 1 = u.length by omega] at hc
    have hlt := r5.2 (u.length - 1) (by omega)
    rw [if_neg (by rw [ku_1]; exact nI_ge (by omega) (by omega)), nI_pred, ku_if (by omega) (by omega), nI_clamp (by omega), hc]
    have hfs : oI f = nI (wf u (u.length - 1)) := by rw [hf, if_neg hz, oI_s]
    unfold c_103_0
    have e21 : f_21_2 (nI (wf u (u.length - 1))) (nI j) I L = some (bI (wf u (u.length - 1) = j ∨ dor H (wf u (u.length - 1)) j = true)) := e21 (L := L) ho hC (by omega) (by omega)
    rw [if_neg (by rw [ku_m, ku_on (by omega) (by omega)]; omega), e21, q_bs, q_b2]
    by_cases hs : wf u (u.length - 1) = j ∨ dor H (wf u (u.length - 1)) j = true
    · rw [if_pos hs]
      have := c1 (Or.inr hs)
      rw [hfs] at this
      exact this
    · rw [if_neg hs]
      refine ⟨0, I, rfl, Or.inr ⟨rfl, fun q => hs ?_⟩, hr0, fun _ _ _ _ => rfl⟩
      have := q.1 (u.length - 1) (by omega)
      rw [hwl _ (by omega), show u.length - 1 + 1 = u.length by omega, hwm] at this
      exact this
theorem xt_k {N k : Nat} {x : List Nat} (hk : k < N) (t : Nat) : xt N x (N * t + k) = wf x k := by
  unfold xt
  rw [Nat.mul_add_mod, Nat.mod_eq_of_lt hk]
theorem xt_lt {R N : Nat} {x : List Nat} (hN : 1 ≤ N) (h : Wd R N x) (i : Nat) : xt N x i < R := h.2 _ (Nat.mod_lt _ (by omega))
/-- the row closes -/
theorem e104 (hR : RC H W A I) (hr : CRW H u I) {N : Nat} (hN : u.length = N) (h1 : 1 ≤ N) (hsz : I 35 8 = nI N) (hn : 1000 ≤ n) : ∃ b J, f_104 n I L = some (nI b, J, L) ∧ ((b = 1 ∧ ERG H (xt N u)) ∨ (b = 0 ∧ ¬ ERG H (xt N u))) ∧ ∀ c i, c ≠ 42 → J c i = I c i := by
  have hR0 := hR
  obtain ⟨ho, hC, hA⟩ := hR
  obtain ⟨r1, r2, r3, r4, r5, r6⟩ := hr
  rw [hN] at r1 r3 r4 r5 r6
  have o4 : H.1 4 ≤ 4 := ho.1.2.2.2.2.1
  have o1 : H.1 1 ≤ 3 := ho.1.2.1
  have hpd := xt_p (n := N) (x := u)
  have hxl : ∀ i, i < N → xt N u i = wf u i := fun i hi => xt_l hi
  have hrg : ∀ k, k ≤ N → RGA H (xt N u) k = RGA H (wf u) k := fun k hk => rag_cg (fun i hi => hxl i (by omega))
  have hXl := xt_lt h1 r5
  have hbx : ∀ k, k ≤ N → BN H (xt N u) k := fun k hk => BN_cg (fun i hi => (hxl i (by omega)).symm) (r4.2 k hk)
  have hlast := r1 (N - 1) (by omega)
  rw [show N - 1 + 1 = N by omega] at hlast
  have hfirst := r1 0 (by omega)
  have l1 := r5.2 (N - 1) (by omega)
  have l2 := r5.2 0 (by omega)
  have e21 : f_21_2 (nI (wf u (N - 1))) (nI (wf u 0)) I L = some (bI (wf u (N - 1) = wf u 0 ∨ dor H (wf u (N - 1)) (wf u 0) = true)) := e21 (L := L) ho hC (by omega) (by omega)
  unfold f_104
  rw [hsz, ku_if (show N < 13 by omega) (by omega), ku_if (show N < 13 by omega) (by omega), nI_clamp (show N < 2 ^ 31 by omega), hlast, show I 40 1 = nI (wf u 0) from hfirst, e21, q_bs, q_b2]
  by_cases hcl : wf u (N - 1) = wf u 0 ∨ dor H (wf u (N - 1)) (wf u 0) = true
  · have hst : ∀ i, STQ H (xt N u i) (xt N u (i + 1)) := fun i => by
      unfold xt
      have hm := Nat.mod_lt i (show N > 0 by omega)
      by_cases e : i % N + 1 < N
      · have e2 : (i + 1) % N = i % N + 1 := by
          rw [← Nat.mod_add_mod, Nat.mod_eq_of_lt e]
        rw [e2]; exact r4.1 (i % N) e
      · have e2 : (i + 1) % N = 0 := by
          rw [← Nat.mod_add_mod, show i % N + 1 = N by omega, Nat.mod_self]
        rw [e2, show i % N = N - 1 by omega]; exact hcl
    rw [if_pos hcl, nI_1]
    have z0 : (0 : Int32).toNatClampNeg = 0 := rfl
    rw [if_neg (fun q => by
      rcases q with q | q | q | q
      · exact absurd q (by decide)
      · exact absurd q (by decide)
      · exact nI_pos (show N + 1 < 2 ^ 31 by omega) q
      · exact absurd q (by decide)), if_pos (by rw [z0, nI_clamp (show N + 1 < 2 ^ 31 by omega)]; omega), nI_clamp (show N + 1 < 2 ^ 31 by omega), r3 N (Nat.le_refl _)]
    -- all that a place of the walk knows
    have hstep : ∀ (s : FI) (K k t : Nat), (∀ c i, c ≠ 42 → s c i = I c i) → K = N * (t + 1) + k → k < N → BN H (xt N u) K → f_7_1 (nI (pa (RGA H (xt N u) K))) (nI (xt N u (K - 1))) (s 40 (k + 1)) s L = some (if kbB (evr H) (H.2 0) (RGA H (xt N u) (K + 1)) = true then nI (pa (RGA H (xt N u) (K + 1))) else oI 0) := fun s K k t hs hK hk hb => by
      have hAs : AGE s 37 H (H.1 1) (evr H) (H.2 0) := (RC_fr hR0 (fun c i hc => hs c i (by omega))).2.2
      have hK1 : 1 ≤ K := by rw [hK, Nat.mul_succ]; omega
      have h := e7_1 (L := L) hAs o4 o1 (hwt7 ho) (BN_7 ho hb) RGA_z (f := xt N u (K - 1) + 1) (to := xt N u K) (by have := hXl (K - 1); omega) (hXl K)
      rw [oI_s] at h
      have e1 : s 40 (k + 1) = nI (xt N u K) := by rw [hs 40 _ (by decide), r1 k hk, hK, xt_k hk]
      have e2 : RGA H (xt N u) (K + 1) = kst H (H.1 1) (evr H) (xt N u (K - 1) + 1) (xt N u K) (RGA H (xt N u) K) := by
        show kst H (H.1 1) (evr H) (if K = 0 then 0 else xt N u (K - 1) + 1) (xt N u K) (rag H (H.1 1) (evr H) (xt N u) K) = _
        rw [if_neg (by omega)]
      rw [e1, e2]; exact h
    have hout := lpG (fun m t (s : FI) => c_104_0 n m (nI (xt N u (N * (t + 1) - 1))) (nI (pa (RGA H (xt N u) (N * (t + 1))))) (nI t) s L) 40 (fun t s => (∀ k, k ≤ N * (t + 1) → BN H (xt N u) k) ∧ (∀ j, 1 ≤ j → j ≤ N * t → RGA H (xt N u) (j + N) ≠ RGA H (xt N u) j) ∧ (∀ i, i < N → s 42 (i + 1) = nI (pa (RGA H (xt N u) (N * t + (i + 1))))) ∧ ∀ c i, c ≠ 42 → s c i = I c i) (fun s => some (0, s, L)) (fun r => ∃ b J, r = some (nI b, J, L) ∧ ((b = 1 ∧ ERG H (xt N u)) ∨ (b = 0 ∧ ¬ ERG H (xt N u))) ∧ ∀ c i, c ≠ 42 → J c i = I c i) (fun m s hs => by
        show b_104_0 n (c_104_0 n m) _ _ (nI 40) s L = _
        unfold b_104_0
        rw [if_pos (by decide)]) (fun m t s ht hI => by
        obtain ⟨i1, i2, i3, i4⟩ := hI
        have hin := lpG (fun m' k (s : FI) => c_104_1 n (c_104_0 n m) m' (nI (xt N u (N * (t + 1) + k - 1))) (nI (pa (RGA H (xt N u) (N * (t + 1) + k)))) (nI t) (nI (k + 1)) s L) N (fun k s => (∀ j, j ≤ N * (t + 1) + k → BN H (xt N u) j) ∧ (∀ j, 1 ≤ j → j ≤ N * t + k → RGA H (xt N u) (j + N) ≠ RGA H (xt N u) j) ∧ (∀ i, i < N → s 42 (i + 1) = nI (pa (RGA H (xt N u) (if i < k then N * (t + 1) + (i + 1) else N * t + (i + 1))))) ∧ ∀ c i, c ≠ 42 → s c i = I c i) (fun s => c_104_0 n m (nI (xt N u (N * (t + 1 + 1) - 1))) (nI (pa (RGA H (xt N u) (N * (t + 1 + 1))))) (nI (t + 1)) s L) (fun r => ∃ b J, r = some (nI b, J, L) ∧ ((b = 1 ∧ ERG H (xt N u)) ∨ (b = 0 ∧ ¬ ERG H (xt N u))) ∧ ∀ c i, c ≠ 42 → J c i = I c i) (fun m' s hs => by
            show b_104_1 n (c_104_0 n m) (c_104_1 n (c_104_0 n m) m') _ _ (nI t) (nI (N + 1)) s L = _
            unfold b_104_1
            rw [hs.2.2.2 35 8 (by decide), hsz, if_pos (nI_lt (by omega) (by omega)), nI_1, Nat.mul_succ N (t + 1)]) (fun m' k s hk hs => by
            obtain ⟨s1, s2, s3, s4⟩ := hs
            have h7 := hstep s (N * (t + 1) + k) k t s4 rfl hk (s1 _ (Nat.le_refl _))
            have h42 := s3 k hk
            rw [if_neg (by omega)] at h42
            have hu : ∀ r, (if (if kbB (evr H) (H.2 0) (RGA H (xt N u) (N * (t + 1) + k + 1)) = true then nI (pa (RGA H (xt N u) (N * (t + 1) + k + 1))) else oI 0) = -1 then c_104_2 n (if kbB (evr H) (H.2 0) (RGA H (xt N u) (N * (t + 1) + k + 1)) = true then nI (pa (RGA H (xt N u) (N * (t + 1) + k + 1))) else oI 0) s L else (if ¬ (if kbB (evr H) (H.2 0) (RGA H (xt N u) (N * (t + 1) + k + 1)) = true then nI (pa (RGA H (xt N u) (N * (t + 1) + k + 1))) else oI 0) = nI (pa (RGA H (xt N u) (N * t + (k + 1)))) then c_104_1 n (c_104_0 n m) m' (s 40 (k + 1)) (if kbB (evr H) (H.2 0) (RGA H (xt N u) (N * (t + 1) + k + 1)) = true then nI (pa (RGA H (xt N u) (N * (t + 1) + k + 1))) else oI 0) (nI t) (nI (k + 1 + 1)) (u2 s 42 (k + 1) (if kbB (evr H) (H.2 0) (RGA H (xt N u) (N * (t + 1) + k + 1)) = true then nI (pa (RGA H (xt N u) (N * (t + 1) + k + 1))) else oI 0)) L else c_104_2 n (if kbB (evr H) (H.2 0) (RGA H (xt N u) (N * (t + 1) + k + 1)) = true then nI (pa (RGA H (xt N u) (N * (t + 1) + k + 1))) else oI 0) s L)) = r → c_104_1 n (c_104_0 n m) (m' + 1) (nI (xt N u (N * (t + 1) + k - 1))) (nI (pa (RGA H (xt N u) (N * (t + 1) + k)))) (nI t) (nI (k + 1)) s L = r := fun r hr => by
              show b_104_1 n (c_104_0 n m) (c_104_1 n (c_104_0 n m) m') _ _ (nI t) (nI (k + 1)) s L = r
              unfold b_104_1
              rw [s4 35 8 (by decide), hsz, if_neg (nI_nlt (by omega) (by omega)), ku_if (show k + 1 < 13 by omega) (by omega), nI_clamp (show k + 1 < 2 ^ 31 by omega), h7, q_bs, ku_if (show k + 1 < 13 by omega) (by omega), ku_if (show k + 1 < 13 by omega) (by omega), ku_if (show k + 1 < 13 by omega) (by omega), h42, nI_1]
              exact hr
            by_cases hB : BN H (xt N u) (N * (t + 1) + k + 1)
            · have h8 := pa_lt (fun r hr => by have := BN_7 ho hB r hr; omega : ∀ r, r < 4 → RGA H (xt N u) (N * (t + 1) + k + 1) r < 16)
              have hN1 : N * (t + 1) = N * t + N := Nat.mul_succ N t
              have hB2 : BN H (xt N u) (N * t + (k + 1)) := s1 _ (by omega)
              have h9 := pa_lt (fun r hr => by have := BN_7 ho hB2 r hr; omega : ∀ r, r < 4 → RGA H (xt N u) (N * t + (k + 1)) r < 16)
              rw [if_pos (kb_BN.mpr hB), if_neg (by rw [ku_m, ku_on (by omega) (by omega)]; omega)] at hu
              by_cases heq : pa (RGA H (xt N u) (N * (t + 1) + k + 1)) = pa (RGA H (xt N u) (N * t + (k + 1)))
              · left
                refine ⟨1, s, hu _ ?_, Or.inl ⟨rfl, ?_⟩, s4⟩
                · rw [if_neg (fun q => q (by rw [heq]))]
                  unfold c_104_2
                  rw [if_neg (by rw [ku_m, ku_on (by omega) (by omega)]; omega)]; rfl
                · have hri := pa_inj (fun r hr => by have := BN_7 ho hB r hr; omega) (fun r hr => by have := BN_7 ho hB2 r hr; omega) heq
                  refine ERG_per h1 (k := N * t + (k + 1)) (by omega) hpd hst ?_ (fun j hj => s1 j (by omega))
                  rw [show N * t + (k + 1) + N = N * (t + 1) + k + 1 by omega]
                  exact rag_eq (evr_4 ho) hri
              · right
                refine ⟨u2 s 42 (k + 1) (nI (pa (RGA H (xt N u) (N * (t + 1) + k + 1)))), ⟨fun j hj => ?_, fun j h1j hj => ?_, fun i hi => ?_, fun c i hc => by rw [u2_c hc]; exact s4 c i hc⟩, hu _ ?_⟩
                · rcases (show j ≤ N * (t + 1) + k ∨ j = N * (t + 1) + k + 1 by omega) with a | a
                  · exact s1 j a
                  · rw [a]; exact hB
                · rcases (show j ≤ N * t + k ∨ j = N * t + (k + 1) by omega) with a | a
                  · exact s2 j h1j a
                  · intro q
                    apply heq
                    rw [a, show N * t + (k + 1) + N = N * (t + 1) + k + 1 by omega] at q
                    rw [q]
                · by_cases e : i = k
                  · subst e; rw [u2_s, if_pos (by omega)]; rfl
                  · rw [u2_o (by omega), s3 i hi]
                    by_cases e2 : i < k
                    · rw [if_pos e2, if_pos (by omega)]
                    · rw [if_neg e2, if_neg (by omega)]
                · rw [if_pos (by rw [nI_eq (by omega) (by omega)]; exact heq), s4 40 _ (by decide), r1 k hk]
                  rw [show N * (t + 1) + (k + 1) - 1 = N * (t + 1) + k by omega, xt_k hk]; rfl
            · left
              rw [if_neg (fun q => hB (kb_BN.mp q))] at hu
              refine ⟨0, s, hu _ ?_, Or.inr ⟨rfl, fun q => hB (q.2 _)⟩, s4⟩
              rw [if_pos oI_0]
              unfold c_104_2
              rw [if_pos oI_0]; rfl) n 0 s (by omega) (by omega) ⟨fun j hj => i1 j (by omega), fun j h1j hj => i2 j h1j (by omega), fun i hi => by rw [if_neg (by omega)]; exact i3 i hi, i4⟩
        have h0 : c_104_0 n (m + 1) (nI (xt N u (N * (t + 1) - 1))) (nI (pa (RGA H (xt N u) (N * (t + 1))))) (nI t) s L = c_104_1 n (c_104_0 n m) n (nI (xt N u (N * (t + 1) + 0 - 1))) (nI (pa (RGA H (xt N u) (N * (t + 1) + 0)))) (nI t) (nI (0 + 1)) s L := by
          show b_104_0 n (c_104_0 n m) _ _ (nI t) s L = _
          unfold b_104_0
          rw [show (40 : Int32) = nI 40 from rfl, if_neg (nI_ge ht (by omega))]; rfl
        (try dsimp only at hin ⊢)
        rw [h0]
        rcases hin with h | ⟨s', ⟨a, b, c, d⟩, e⟩
        · exact Or.inl h
        · refine Or.inr ⟨s', ⟨fun k hk => a k (by rw [Nat.mul_succ N (t + 1)] at hk; omega), fun j h1j hj => b j h1j (by rw [Nat.mul_succ N t] at hj; omega), fun i hi => ?_, d⟩, e⟩
          rw [c i hi, if_pos hi]) n 0 (c2 I 41 42 0 0 (N + 1)) (by omega) (by omega) ⟨fun k hk => hbx k (by omega), fun j h1j hj => absurd hj (by omega), fun i hi => by rw [c2_i (by omega), r3 _ (by omega), ← hrg _ (by omega)]; simp, fun c i hc => c2_o hc⟩
    have hfin : c_104_0 n n (nI (xt N u (N * (0 + 1) - 1))) (nI (pa (RGA H (xt N u) (N * (0 + 1))))) (nI 0) (c2 I 41 42 0 0 (N + 1)) L = c_104_0 n n (nI (wf u (N - 1))) (nI (pa (RGA H (wf u) N))) 0 (c2 I 41 42 0 0 (N + 1)) L := by
      rw [show N * (0 + 1) = N by omega, hxl _ (by omega), hrg N (Nat.le_refl _)]; rfl
    (try dsimp only at hout)
    rw [hfin] at hout
    rcases hout with h | ⟨s', ⟨a, b, _, _⟩, _⟩
    · exact h
    · exact absurd (rag_29 ho (k := 1) hpd (fun j hj => a j (by omega)) (fun i hi => b (1 + i * N) (by omega) (by
        have : i * N ≤ 29 * N := Nat.mul_le_mul_right N (by omega)
        omega))) id
  · rw [if_neg hcl]
    refine ⟨0, I, rfl, Or.inr ⟨rfl, fun q => hcl ?_⟩, fun _ _ _ => rfl⟩
    have := q.1 (N - 1)
    rw [show N - 1 + 1 = 0 + N by omega, hpd, hxl _ (by omega), hxl _ (by omega)] at this
    exact this
end RGC
