/-! LAYER 3: the keeper's other questions. Printed by wip/whole/gen69.py -/
section KPR2
variable {I : FI} {L : FL} {H : HD} {W : Nat → Nat} {A : AD} {l set : Nat} {wt : Nat → Nat} {n : Nat}
theorem ez31 (hn : 1000 ≤ n) : ∃ J, f_z31 n I L = some (J, L) ∧ J 114 7 = -1 ∧ J 114 8 = -3 ∧ (∀ i, i < 16 → J 120 i = -3) ∧ (∀ i, i < 4 → J 121 i = -3) ∧ ∀ c i, c ≠ 114 → c ≠ 120 → c ≠ 121 → J c i = I c i := by
  obtain ⟨J, ⟨j1, j2⟩, e⟩ := lpE (fun m k (s : FI) => c_z31_0 n m (nI k) s L) 16 (fun k s => (∀ i, i < k → s 120 i = -3) ∧ ∀ c i, c ≠ 120 → s c i = u2 (u2 I 114 7 (-1)) 114 8 (-3) c i) (fun s => c_z31_1 n n (nI 0) s L) (fun m s hs => by
      show b_z31_0 n (c_z31_0 n m) (nI 16) s L = _
      unfold b_z31_0
      rw [if_pos (by decide)]; rfl) (fun m k s hk hs => by
      refine ⟨u2 s 120 k (-3), ⟨fun i hi => ?_, fun c i hc => by rw [u2_c hc]; exact hs.2 c i hc⟩, ?_⟩
      · by_cases e : i = k
        · subst e; exact u2_s
        · rw [u2_o e]; exact hs.1 i (by omega)
      · show b_z31_0 n (c_z31_0 n m) (nI k) s L = _
        unfold b_z31_0
        rw [ku_16, if_neg (nI_ge hk (by omega)), ku_if hk (by omega), nI_clamp (by omega), nI_1]) n 0 _ (by omega) (by omega) ⟨fun i hi => absurd hi (by omega), fun _ _ _ => rfl⟩
  obtain ⟨K, ⟨k1, k2⟩, e2⟩ := lpE (fun m k (s : FI) => c_z31_1 n m (nI k) s L) 4 (fun k s => (∀ i, i < k → s 121 i = -3) ∧ ∀ c i, c ≠ 121 → s c i = J c i) (fun s => some (s, L)) (fun m s hs => by
      show b_z31_1 n (c_z31_1 n m) (nI 4) s L = _
      unfold b_z31_1
      rw [if_pos (by decide)]) (fun m k s hk hs => by
      refine ⟨u2 s 121 k (-3), ⟨fun i hi => ?_, fun c i hc => by rw [u2_c hc]; exact hs.2 c i hc⟩, ?_⟩
      · by_cases e : i = k
        · subst e; exact u2_s
        · rw [u2_o e]; exact hs.1 i (by omega)
      · show b_z31_1 n (c_z31_1 n m) (nI k) s L = _
        unfold b_z31_1
        rw [ku_4, if_neg (nI_ge hk (by omega)), ku_if hk (by omega), nI_clamp (by omega), nI_1]) n 0 J (by omega) (by omega) ⟨fun i hi => absurd hi (by omega), fun _ _ _ => rfl⟩
  refine ⟨K, ?_, ?_, ?_, fun i hi => by rw [k2 120 i (by decide)]; exact j1 i hi, k1, fun c i h1 h2 h3 => by rw [k2 c i h3, j2 c i h2, u2_c h1, u2_c h1]⟩
  · unfold f_z31
    rw [show (0 : Int32) = nI 0 from rfl]
    exact e.trans e2
  · rw [k2 114 7 (by decide), j2 114 7 (by decide), u2_o (by decide), u2_s]
  · rw [k2 114 8 (by decide), j2 114 8 (by decide), u2_s]
theorem efA (hn : 1000 ≤ n) : ∃ J M, f_findA n I L = some (J, M) ∧ J 114 7 = -1 ∧ J 114 8 = -3 ∧ (∀ i, i < 16 → J 120 i = -3) ∧ (∀ i, i < 4 → J 121 i = -3) ∧ (∀ c i, (c < 114 ∨ 121 < c) → J c i = I c i) ∧ ∀ c i, (c < 114 ∨ 121 < c) → M c i = L c i := by
  have k2 : ∀ (X : FI) (Y : FL), ∃ J M, ((f_z31 n X Y).bind fun q1 => some (q1.1, q1.2)) = some (J, M) ∧ J 114 7 = -1 ∧ J 114 8 = -3 ∧ (∀ i, i < 16 → J 120 i = -3) ∧ (∀ i, i < 4 → J 121 i = -3) := fun X Y => by
    obtain ⟨J, a, b, c, d, e, _⟩ := ez31 (I := X) (L := Y) hn
    exact ⟨J, Y, by rw [a, q_bs], b, c, d, e⟩
  have key : ∃ J M, f_findA n I L = some (J, M) ∧ J 114 7 = -1 ∧ J 114 8 = -3 ∧ (∀ i, i < 16 → J 120 i = -3) ∧ (∀ i, i < 4 → J 121 i = -3) := by
    unfold f_findA f_p30_114 f_p3_115
    rw [q_bs, q_bs]
    exact k2 _ _
  have nm : ∀ c i, (c < 114 ∨ 121 < c) → fkey c i ∉ S_findA := fun c i hc hm => by
    unfold fkey S_findA at hm
    simp only [List.mem_cons, List.not_mem_nil, or_false] at hm
    by_cases e : c = 89
    · simp only [if_pos e] at hm; omega
    · simp only [if_neg e] at hm; omega
  obtain ⟨J, M, e, a, b, c, d⟩ := key
  have hf := fr_findA n I L (J, M) e
  exact ⟨J, M, e, a, b, c, d, fun c i hc => hf.1 c i (nm c i hc), fun c i hc => hf.2 c i (nm c i hc)⟩
theorem e24 (ho : HOK H W A) (hC : CH I 3 11 H W A) : f_24 I L = some (nI (evr H)) := by
  have o4 : H.1 4 ≤ 4 := ho.1.2.2.2.2.1
  have : 0 < 2 ^ (H.1 4) := Nat.pow_pos (by omega)
  unfold f_24
  rw [chs hC (by decide), ku_31, ku_31k (by omega), show (1 : Int32) = nI 1 from rfl, ku_one (by omega), pk_sub (by omega)]; rfl
theorem e23 (ho : HOK H W A) (hC : CH I 3 11 H W A) : f_23 I L = some (if H.1 4 = 0 then -1 else nI (fpl H)) := by
  have o4 : H.1 4 ≤ 4 := ho.1.2.2.2.2.1
  have o7 : H.1 7 ≤ 12 := ho.1.2.2.2.2.2.2.2.1
  unfold f_23
  rw [chs hC (by decide), chs hC (by decide)]
  by_cases h : H.1 4 = 0
  · rw [if_neg (by rw [h]; exact fun q => q rfl), if_pos h]
  · rw [if_pos (by rw [ku_0, nI_eq (by omega) (by omega)]; exact h), if_neg h]
    unfold fpl
    by_cases h7 : H.1 7 = 0
    · rw [if_pos (by rw [h7]; decide), if_pos h7]; rfl
    · rw [if_neg (nI_nle (by omega) (by omega)), if_neg h7]
      exact congrArg some (hC.2.2.2.2.2.2.2.1 0 (by omega))
theorem fpl_lt (ho : HOK H W A) (h : 0 < H.1 4) : fpl H < H.1 4 := by
  unfold fpl
  split
  · exact h
  · exact ho.2.2.2.1 0 (by omega)
theorem evr_lt (H : HD) : evr H < 2 ^ (H.1 4) := by
  have : 0 < 2 ^ (H.1 4) := Nat.pow_pos (by omega)
  unfold evr; omega
theorem evr_b {r : Nat} : (evr H).testBit r = decide (r < H.1 4) := by unfold evr; exact Nat.testBit_two_pow_sub_one ..
/-- a set can be kept from the first place on -/
def KS (H : HD) (set : Nat) : Prop := H.1 4 = 0 ∨ Kept H (H.1 1) set (H.2 0) (st0 H (H.1 1) set (fpl H))
theorem eKS (hn : 200000 ≤ n) (ho : HOK H W A) (hC : CH I 3 11 H W A) (hP : KPK H I L) (hs : set < 2 ^ (H.1 4)) : ∃ b x I' L', f_32 n (nI set) I L = some (x, I', L') ∧ (∀ J M, f_188 (if H.1 4 = 0 then -1 else nI (fpl H)) x J M = some (nI b)) ∧ ((b = 1 ∧ KS H set) ∨ (b = 0 ∧ ¬ KS H set)) ∧ KPK H I' L' ∧ (∀ c i, (c < 114 ∨ 121 < c) → I' c i = I c i) ∧ ∀ c i, c ≠ 117 → L' c i = L c i := by
  have o4 : H.1 4 ≤ 4 := ho.1.2.2.2.2.1
  have hp := pw5 _ (show H.1 4 < 5 by omega)
  obtain ⟨x, I', L', a, ⟨b1, b2⟩, c, d, e⟩ := e32 (L := L) hn ho hC hP hs
  by_cases h : H.1 4 = 0
  · refine ⟨1, nI x, I', L', a, fun J M => ?_, Or.inl ⟨rfl, Or.inl h⟩, c, d, e⟩
    unfold f_188
    rw [if_pos h, if_pos rfl]; rfl
  · have hf := fpl_lt ho (by omega)
    have e188 : ∀ (J : FI) (M : FL), f_188 (if H.1 4 = 0 then -1 else nI (fpl H)) (nI x) J M = some (bI (x.testBit (fpl H) = true)) := fun J M => by
      unfold f_188
      rw [if_neg h, if_neg (by rw [ku_m, ku_on (by omega) (by omega)]; omega), ku_bit2 (by omega) (by omega), q_b1]
      by_cases hb : x.testBit (fpl H) = true
      · rw [if_pos hb, bI_p hb]
      · rw [if_neg hb, bI_n hb]
    by_cases hb : x.testBit (fpl H) = true
    · exact ⟨1, nI x, I', L', a, fun J M => by rw [e188, bI_p hb]; rfl, Or.inl ⟨rfl, Or.inr ((b2 _ hf).mp hb)⟩, c, d, e⟩
    · refine ⟨0, nI x, I', L', a, fun J M => by rw [e188, bI_n hb]; rfl, Or.inr ⟨rfl, fun q => ?_⟩, c, d, e⟩
      rcases q with q | q
      · exact h q
      · exact hb ((b2 _ hf).mpr q)
/-- a state's flames burn -/
theorem e6 (o4 : H.1 4 ≤ 4) (hA : AGE I 115 H l (evr H) wt) (hw : ∀ r, r < 4 → (evr H).testBit r = true → 1 ≤ wt r ∧ wt r ≤ 7) {s : Nat} (hs : s < 4096 * H.1 4) : ∃ b, f_6 (nI (pks s) &&& 65535) I L = some (nI b) ∧ ((b = 1 ∧ VSt H (evr H) wt s) ∨ (b = 0 ∧ ¬ VSt H (evr H) wt s)) := by
  have hpl := pks_lt (show s < 16384 by omega)
  have hpa := pa_lt (fun r _ => by have := dg_lt s r; omega : ∀ r, r < 4 → dg s r < 16)
  have em : nI (pks s) &&& 65535 = nI (pa (dg s)) := by
    rw [show (65535 : Int32) = nI (2 ^ 16 - 1) from rfl, fa_mask]
    congr 1; unfold pks; show (65536 * (s / 4096) + pa (dg s)) % 65536 = pa (dg s); omega
  have e : pa (dg s) + slk (evr H) wt = pa (fun r => dg s r + (7 - (if (evr H).testBit r = true then wt r else 0))) := pa_add _ _
  have ht := top8 (d := fun r => dg s r + (7 - (if (evr H).testBit r = true then wt r else 0))) (fun r hr => by have := dg_lt s r; show dg s r + _ < 16; omega)
  rw [← e] at ht
  have hle : (pa (dg s) + slk (evr H) wt) &&& 34952 ≤ 34952 := Nat.and_le_right
  have hV : (pa (dg s) + slk (evr H) wt) &&& 34952 = 0 ↔ VSt H (evr H) wt s := by
    rw [ht]
    constructor
    · intro h
      refine ⟨by omega, fun r hr => ?_⟩
      have h1 : dg s r + (7 - (if (evr H).testBit r = true then wt r else 0)) < 8 := h r hr
      by_cases hb : (evr H).testBit r = true
      · rw [if_pos hb] at h1
        have := hw r hr hb
        exact ⟨fun _ => by omega, Or.inl hb⟩
      · rw [if_neg hb] at h1
        exact ⟨fun q => absurd q hb, Or.inr (by omega)⟩
    · rintro ⟨_, h⟩ r hr
      show dg s r + (7 - (if (evr H).testBit r = true then wt r else 0)) < 8
      obtain ⟨h1, h2⟩ := h r hr
      by_cases hb : (evr H).testBit r = true
      · rw [if_pos hb]
        have := hw r hr hb
        have := h1 hb
        omega
      · rw [if_neg hb]
        rcases h2 with h2 | h2
        · exact absurd h2 hb
        · omega
  unfold f_6
  rw [em, hA.1, nI_add, ku_34952, fa_and]
  by_cases h : (pa (dg s) + slk (evr H) wt) &&& 34952 = 0
  · exact ⟨1, by rw [h, if_neg (fun q => q rfl)]; rfl, Or.inl ⟨rfl, hV.mp h⟩⟩
  · exact ⟨0, by rw [if_pos (by rw [ku_0, nI_eq (by omega) (by omega)]; exact h)]; rfl, Or.inr ⟨rfl, fun q => h (hV.mpr q)⟩⟩
theorem KNW_u {J : FI} (h : KNW H l set wt I L) (e : ∀ s, J 119 s = I 119 s) : KNW H l set wt J L := fun s hs => by rw [e]; exact h s hs
theorem sma_s1 {F : Nat → Nat} {k v : Nat} : sma (fun s => if s = k then v else F s) (k + 1) = sma F k + v := by
  show sma _ k + (if k = k then v else F k) = _
  rw [if_pos rfl, sma_cg (G := F) (fun j hj => if_neg (by omega))]
theorem TLF_s {F : Nat → Nat} {k v : Nat} (h : TLF H F k) (hv : (v = 1 ∧ VSt H (evr H) (H.2 0) k ∧ Kept H (H.1 1) (evr H) (H.2 0) k) ∨ (v = 0 ∧ ¬ (VSt H (evr H) (H.2 0) k ∧ Kept H (H.1 1) (evr H) (H.2 0) k))) : TLF H (fun s => if s = k then v else F s) (k + 1) := fun s hs => by
  dsimp only
  by_cases e : s = k
  · subst e; rw [if_pos rfl]; exact hv
  · rw [if_neg e]; exact h s (by omega)
/-- how many states can be kept -/
theorem e33 (hn : 200000 ≤ n) (ho : HOK H W A) (hC : CH I 3 11 H W A) (hP : KPK H I L) : ∃ x I' L', f_33 n I L = some (nI x, I', L') ∧ TLY H x ∧ KPK H I' L' ∧ (∀ c i, (c < 114 ∨ 121 < c) → I' c i = I c i) ∧ ∀ c i, c ≠ 117 → L' c i = L c i := by
  have o4 : H.1 4 ≤ 4 := ho.1.2.2.2.2.1
  have hev := evr_lt H
  unfold f_33
  rcases hP.2.1 with h | ⟨x, h1, h2⟩
  · rw [if_neg (fun q => q h), e24 ho hC, q_bs]
    obtain ⟨J, M, j1, j2, j3, j4, j5⟩ := e38 (L := L) hn ho hC hP hev
    rw [j1, q_bs]
    dsimp only
    obtain ⟨⟨K, N⟩, ⟨k1, k2, ⟨F, k3, k4⟩, k6, k7⟩, e⟩ := lpE (fun m k (s : FI × FL) => c_33_0 n m (nI k) s.1 s.2) (4096 * H.1 4) (fun k s => RDY H W A (evr H) (H.2 0) s.1 s.2 ∧ s.1 114 7 = nI (evr H) ∧ (∃ F, TLF H F k ∧ s.1 114 8 = nI (sma F k)) ∧ (∀ c i, c ≠ 118 → c ≠ 119 → (c ≠ 114 ∨ i ≠ 8) → s.1 c i = J c i) ∧ ∀ c i, c ≠ 117 → s.2 c i = M c i) (fun s => some (s.1 114 8, s.1, s.2)) (fun m s hs => by
        show b_33_0 n (c_33_0 n m) (nI (4096 * H.1 4)) s.1 s.2 = _
        unfold b_33_0
        rw [chs hs.1.1.2.1 (by decide), show (12 : Int32) &&& 31 = nI 12 by decide, ku_shl (by omega) (by show H.1 4 * 4096 < _; omega), if_pos (nI_le (by show H.1 4 * 4096 ≤ _; omega) (by omega))]) (fun m k s hk hs => by
        obtain ⟨s1, s2, ⟨F, s3, s4⟩, s6, s7⟩ := hs
        have hQ := s1.1
        obtain ⟨v, v1, v2⟩ := e6 (L := s.2) o4 hQ.2.2.1 hQ.2.2.2.2 hk
        have hpre : ∀ r, (if nI v = 0 then c_33_1 n (c_33_0 n m) (nI k) s.1 s.2 else (f_42 n (nI (pks k)) s.1 s.2).bind fun q4 => if q4.1 = 0 then c_33_1 n (c_33_0 n m) (nI k) q4.2.1 q4.2.2 else c_33_1 n (c_33_0 n m) (nI k) (u2 q4.2.1 114 8 ((q4.2.1 114 8) + 1)) q4.2.2) = r → c_33_0 n (m + 1) (nI k) s.1 s.2 = r := fun r hr => by
          show b_33_0 n (c_33_0 n m) (nI k) s.1 s.2 = _
          unfold b_33_0
          rw [chs hQ.2.1 (by decide), show (12 : Int32) &&& 31 = nI 12 by decide, ku_shl (by omega) (by show H.1 4 * 4096 < _; omega), if_neg (nI_ge (by show k < H.1 4 * 4096; omega) (by show H.1 4 * 4096 < _; omega)), e49 (by omega), q_bs, v1, q_bs]
          exact hr
        rcases v2 with ⟨rfl, v2⟩ | ⟨rfl, v2⟩
        · obtain ⟨b, I', L', a1, a2, a3, a4, a5⟩ := e42 hn s1 v2
          rw [a1, q_bs, if_neg (show ¬ nI 1 = 0 by decide)] at hpre
          dsimp only at hpre
          rw [a4 114 8 (by decide) (by decide), s4, nI_1] at hpre
          rcases a3 with ⟨rfl, b2⟩ | ⟨rfl, b2, _⟩
          · refine ⟨(u2 I' 114 8 (nI (sma F k + 1)), L'), ⟨⟨KQ_fr a2.1 (fun c i hc => u2_c (by omega)), KNW_u a2.2 (fun s => by show u2 I' 114 8 (nI (sma F k + 1)) 119 s = _; exact u2_c (by decide))⟩, ?_, ⟨fun s => if s = k then 1 else F s, TLF_s s3 (Or.inl ⟨rfl, v2, b2⟩), ?_⟩, fun c i h1 h2 h3 => ?_, fun c i hc => (a5 c i hc).trans (s7 c i hc)⟩, hpre _ ?_⟩
            · show u2 I' 114 8 (nI (sma F k + 1)) 114 7 = _
              rw [u2_o (by decide), a4 114 7 (by decide) (by decide)]; exact s2
            · show u2 I' 114 8 (nI (sma F k + 1)) 114 8 = _
              rw [u2_s, sma_s1]
            · show u2 I' 114 8 (nI (sma F k + 1)) c i = _
              by_cases e : c = 114
              · subst e; rw [u2_o (by omega), a4 114 i h1 h2]; exact s6 114 i h1 h2 h3
              · rw [u2_c e, a4 c i h1 h2]; exact s6 c i h1 h2 h3
            · rw [if_neg (by decide)]; unfold c_33_1; rw [nI_1]
          · refine ⟨(I', L'), ⟨a2, by show I' 114 7 = _; rw [a4 114 7 (by decide) (by decide)]; exact s2, ⟨fun s => if s = k then 0 else F s, TLF_s s3 (Or.inr ⟨rfl, fun q => LST_n b2 q.2⟩), ?_⟩, fun c i h1 h2 h3 => (a4 c i h1 h2).trans (s6 c i h1 h2 h3), fun c i hc => (a5 c i hc).trans (s7 c i hc)⟩, hpre _ ?_⟩
            · show I' 114 8 = _
              rw [sma_s1, a4 114 8 (by decide) (by decide)]; exact s4
            · rw [if_pos (by decide)]; unfold c_33_1; rw [nI_1]
        · refine ⟨s, ⟨s1, s2, ⟨fun s => if s = k then 0 else F s, TLF_s s3 (Or.inr ⟨rfl, fun q => v2 q.1⟩), by rw [sma_s1]; exact s4⟩, s6, s7⟩, hpre _ ?_⟩
          rw [if_pos (by decide)]; unfold c_33_1; rw [nI_1]) n 0 (u2 J 114 8 0, M) (by omega) (by omega) ⟨⟨KQ_fr j2.1 (fun c i hc => u2_c (by omega)), KNW_u j2.2 (fun s => by show u2 J 114 8 0 119 s = _; exact u2_c (by decide))⟩, by show u2 J 114 8 0 114 7 = _; rw [u2_o (by decide)]; exact j3, ⟨fun _ => 0, fun s hs => absurd hs (by omega), (by show u2 J 114 8 0 114 8 = _; rw [u2_s]; rfl)⟩, fun c i h1 h2 h3 => by
          show u2 J 114 8 0 c i = _
          by_cases e : c = 114
          · subst e; rw [u2_o (by omega)]
          · rw [u2_c e], fun _ _ _ => rfl⟩
    dsimp only at e k1 k2 k4 k6 k7
    refine ⟨sma F (4096 * H.1 4), K, N, by rw [k4] at e; exact e, ⟨F, k3, rfl⟩, ?_, fun c i hc => ?_, fun c i hc => (k7 c i hc).trans (j5 c i hc)⟩
    · refine ⟨fun s hs1 hs2 => ?_, Or.inr ⟨_, k4, F, k3, rfl⟩, fun r hr hr2 => ?_, Or.inr ⟨evr H, hev, k2, k1.1.2.2.1, k1.2⟩⟩
      · rw [k6 120 s (by decide) (by decide) (Or.inl (by decide)), j4 120 s (by decide) (by decide) (Or.inl (by decide))]; exact hP.1 s hs1 hs2
      · rw [k6 121 r (by decide) (by decide) (Or.inl (by decide)), j4 121 r (by decide) (by decide) (Or.inl (by decide))]; exact hP.2.2.1 r hr hr2
    · rw [k6 c i (by omega) (by omega) (Or.inl (by omega)), j4 c i (by omega) (by omega) (Or.inl (by omega))]
  · obtain ⟨F, f1, f2⟩ := h2
    have hb := sma_b (F := fun s => if s < 4096 * H.1 4 then F s else 0) (b := 1) (fun s => by
      (try dsimp only)
      split
      · rename_i hs
        rcases f1 s hs with h | h <;> omega
      · omega) (4096 * H.1 4)
    rw [sma_cg (G := F) (fun j hj => if_pos hj)] at hb
    rw [if_pos (by rw [h1]; exact nI_n3 (by omega)), h1]
    exact ⟨x, I, L, rfl, ⟨F, f1, f2⟩, hP, fun _ _ _ => rfl, fun _ _ _ => rfl⟩
/-- the first good move -/
def GMV (H : HD) (v : Nat) : Prop := (v = 0 ∧ (0 < H.1 4 → ∀ to, to < H.1 4 → nxt H (H.1 1) (evr H) (H.2 0) (st0 H (H.1 1) (evr H) (fpl H)) to = 0 ∨ ¬ Kept H (H.1 1) (evr H) (H.2 0) (nxt H (H.1 1) (evr H) (H.2 0) (st0 H (H.1 1) (evr H) (fpl H)) to - 1))) ∨ (∃ to, v = to + 1 ∧ to < H.1 4 ∧ nxt H (H.1 1) (evr H) (H.2 0) (st0 H (H.1 1) (evr H) (fpl H)) to ≠ 0 ∧ Kept H (H.1 1) (evr H) (H.2 0) (nxt H (H.1 1) (evr H) (H.2 0) (st0 H (H.1 1) (evr H) (fpl H)) to - 1) ∧ ∀ t, t < to → nxt H (H.1 1) (evr H) (H.2 0) (st0 H (H.1 1) (evr H) (fpl H)) t = 0 ∨ ¬ Kept H (H.1 1) (evr H) (H.2 0) (nxt H (H.1 1) (evr H) (H.2 0) (st0 H (H.1 1) (evr H) (fpl H)) t - 1))
/-- the longest span -/
def LSP (H : HD) (v : Nat) : Prop := (H.1 4 = 0 ∧ v = 100) ∨ (0 < H.1 4 ∧ SPN H (H.1 1) (evr H) (H.2 0) (st0 H (H.1 1) (evr H) (fpl H)) v)
theorem e35 (hn : 200000 ≤ n) (ho : HOK H W A) (hC : CH I 3 11 H W A) (hP : KPK H I L) : ∃ x I' L', f_35 n I L = some (nI x, I', L') ∧ LSP H x ∧ KPK H I' L' ∧ (∀ c i, (c < 114 ∨ 121 < c) → I' c i = I c i) ∧ ∀ c i, c ≠ 117 → L' c i = L c i := by
  have o4 : H.1 4 ≤ 4 := ho.1.2.2.2.2.1
  have hev := evr_lt H
  unfold f_35
  rw [e23 ho hC, q_bs]
  by_cases h : H.1 4 = 0
  · rw [if_pos h, if_neg (fun q => q rfl)]
    exact ⟨100, I, L, rfl, Or.inl ⟨h, rfl⟩, hP, fun _ _ _ => rfl, fun _ _ _ => rfl⟩
  · have hf := fpl_lt ho (by omega)
    rw [if_neg h, if_pos (by rw [ku_m, ku_on (by omega) (by omega)]; omega), e24 ho hC, q_bs]
    obtain ⟨J, M, j1, j2, j3, j4, j5⟩ := e38 (L := L) hn ho hC hP hev
    have hv := st0_V (l := H.1 1) (H := H) (set := evr H) (wt := H.2 0) j2.1.2.2.2.2 hf
    have tl := VSt_lt o4 hv
    rw [j1, q_bs]
    dsimp only
    rw [e40 j2.1 hf, q_bs]
    obtain ⟨b, I', L', a1, a2, a3, a4, a5⟩ := e42 hn j2 hv
    rw [a1, q_bs]
    dsimp only
    have hK : KPK H I' L' := KPK_r hP (fun c i hc => by rw [a4 c i (by omega) (by omega), j4 c i (by omega) (by omega) (by omega)]) hev (by rw [a4 114 7 (by decide) (by decide)]; exact j3) a2
    have hF : ∀ c i, (c < 114 ∨ 121 < c) → I' c i = I c i := fun c i hc => by rw [a4 c i (by omega) (by omega), j4 c i (by omega) (by omega) (by omega)]
    have hG : ∀ c i, c ≠ 117 → L' c i = L c i := fun c i hc => (a5 c i hc).trans (j5 c i hc)
    rcases a3 with ⟨rfl, b2⟩ | ⟨rfl, b2, v, b3, b4⟩
    · rw [if_neg (by decide)]
      exact ⟨100, I', L', rfl, Or.inr ⟨by omega, by omega, by omega, b2 _, fun q => absurd q (by omega)⟩, hK, hF, hG⟩
    · rw [if_pos (by decide), e48 tl, q_bs, ku_if tl (by omega), nI_clamp (by omega), b3]
      exact ⟨v, I', L', rfl, Or.inr ⟨by omega, b4⟩, hK, hF, hG⟩
theorem e34 (hn : 200000 ≤ n) (ho : HOK H W A) (hC : CH I 3 11 H W A) (hP : KPK H I L) : ∃ x I' L', f_34 n I L = some (oI x, I', L') ∧ GMV H x ∧ KPK H I' L' ∧ (∀ c i, (c < 114 ∨ 121 < c) → I' c i = I c i) ∧ ∀ c i, c ≠ 117 → L' c i = L c i := by
  have o4 : H.1 4 ≤ 4 := ho.1.2.2.2.2.1
  have hev := evr_lt H
  unfold f_34
  rw [e23 ho hC, q_bs]
  by_cases h : H.1 4 = 0
  · rw [if_pos h, if_neg (fun q => q rfl)]
    exact ⟨0, I, L, by rw [oI_0], Or.inl ⟨rfl, fun q => absurd q (by omega)⟩, hP, fun _ _ _ => rfl, fun _ _ _ => rfl⟩
  · have hf := fpl_lt ho (by omega)
    rw [if_neg h, if_pos (by rw [ku_m, ku_on (by omega) (by omega)]; omega), e24 ho hC, q_bs]
    obtain ⟨J, M, j1, j2, j3, j4, j5⟩ := e38 (L := L) hn ho hC hP hev
    have hv := st0_V (l := H.1 1) (H := H) (set := evr H) (wt := H.2 0) j2.1.2.2.2.2 hf
    have tl := VSt_lt o4 hv
    rw [j1, q_bs]
    dsimp only
    have hfin : ∀ (I' : FI) (L' : FL), RDY H W A (evr H) (H.2 0) I' L' → (∀ c i, c ≠ 118 → c ≠ 119 → I' c i = J c i) → (∀ c i, c ≠ 117 → L' c i = M c i) → KPK H I' L' ∧ (∀ c i, (c < 114 ∨ 121 < c) → I' c i = I c i) ∧ ∀ c i, c ≠ 117 → L' c i = L c i := fun I' L' r1 r2 r3 => ⟨KPK_r hP (fun c i hc => by rw [r2 c i (by omega) (by omega), j4 c i (by omega) (by omega) (by omega)]) hev (by rw [r2 114 7 (by decide) (by decide)]; exact j3) r1, fun c i hc => by rw [r2 c i (by omega) (by omega), j4 c i (by omega) (by omega) (by omega)], fun c i hc => (r3 c i hc).trans (j5 c i hc)⟩
    rcases lpG (fun m k (s : FI × FL) => c_34_0 n m (nI (fpl H)) (nI k) s.1 s.2) (H.1 4) (fun k s => RDY H W A (evr H) (H.2 0) s.1 s.2 ∧ (∀ to, to < k → nxt H (H.1 1) (evr H) (H.2 0) (st0 H (H.1 1) (evr H) (fpl H)) to = 0 ∨ ¬ Kept H (H.1 1) (evr H) (H.2 0) (nxt H (H.1 1) (evr H) (H.2 0) (st0 H (H.1 1) (evr H) (fpl H)) to - 1)) ∧ (∀ c i, c ≠ 118 → c ≠ 119 → s.1 c i = J c i) ∧ ∀ c i, c ≠ 117 → s.2 c i = M c i) (fun s => some (-1, s.1, s.2)) (fun r => ∃ x I' L', r = some (oI x, I', L') ∧ GMV H x ∧ RDY H W A (evr H) (H.2 0) I' L' ∧ (∀ c i, c ≠ 118 → c ≠ 119 → I' c i = J c i) ∧ ∀ c i, c ≠ 117 → L' c i = M c i) (fun m s hs => by
        show b_34_0 n (c_34_0 n m) (nI (fpl H)) (nI (H.1 4)) s.1 s.2 = _
        unfold b_34_0
        rw [chs hs.1.1.2.1 (by decide), if_pos (nI_le (Nat.le_refl _) (by omega))]) (fun m k s hk hs => by
        obtain ⟨s1, s2, s3, s4⟩ := hs
        have hQ := s1.1
        have hstep : ∀ r, (if (if nxt H (H.1 1) (evr H) (H.2 0) (st0 H (H.1 1) (evr H) (fpl H)) k = 0 then oI 0 else nI (pks (nxt H (H.1 1) (evr H) (H.2 0) (st0 H (H.1 1) (evr H) (fpl H)) k - 1))) = -1 then c_34_1 n (c_34_0 n m) (nI (fpl H)) (nI k) s.1 s.2 else (f_42 n (if nxt H (H.1 1) (evr H) (H.2 0) (st0 H (H.1 1) (evr H) (fpl H)) k = 0 then oI 0 else nI (pks (nxt H (H.1 1) (evr H) (H.2 0) (st0 H (H.1 1) (evr H) (fpl H)) k - 1))) s.1 s.2).bind fun q5 => if q5.1 = 0 then c_34_1 n (c_34_0 n m) (nI (fpl H)) (nI k) q5.2.1 q5.2.2 else some (nI k, q5.2.1, q5.2.2)) = r → c_34_0 n (m + 1) (nI (fpl H)) (nI k) s.1 s.2 = r := fun r hr => by
          show b_34_0 n (c_34_0 n m) (nI (fpl H)) (nI k) s.1 s.2 = _
          unfold b_34_0
          rw [chs hQ.2.1 (by decide), if_neg (nI_ge hk (by omega)), e40 hQ hf, q_bs, e41 hQ hv hk, q_bs]
          exact hr
        by_cases hx : nxt H (H.1 1) (evr H) (H.2 0) (st0 H (H.1 1) (evr H) (fpl H)) k = 0
        · refine Or.inr ⟨s, ⟨s1, fun to ht => ?_, s3, s4⟩, hstep _ ?_⟩
          · rcases (show to < k ∨ to = k by omega) with h1 | rfl
            · exact s2 to h1
            · exact Or.inl hx
          · rw [if_pos hx, if_pos oI_0]; unfold c_34_1; rw [nI_1]
        · obtain ⟨t, ht⟩ : ∃ t, nxt H (H.1 1) (evr H) (H.2 0) (st0 H (H.1 1) (evr H) (fpl H)) k = t + 1 := ⟨nxt H (H.1 1) (evr H) (H.2 0) (st0 H (H.1 1) (evr H) (fpl H)) k - 1, by omega⟩
          obtain ⟨tV, tl2⟩ := nxt_V (fun r hr hs => (hQ.2.2.2.2 r hr hs).2) o4 hk ht
          have hp2 := pks_lt tl2
          obtain ⟨b, I', L', a1, a2, a3, a4, a5⟩ := e42 hn s1 tV
          rw [if_neg hx, ht, Nat.add_sub_cancel, if_neg (by rw [ku_m, ku_on (by omega) (by omega)]; omega), a1, q_bs] at hstep
          dsimp only at hstep
          rcases a3 with ⟨rfl, b2⟩ | ⟨rfl, b2, _⟩
          · refine Or.inl ⟨k + 1, I', L', hstep _ ?_, Or.inr ⟨k, rfl, hk, hx, by rw [ht, Nat.add_sub_cancel]; exact b2, s2⟩, a2, fun c i h1 h2 => (a4 c i h1 h2).trans (s3 c i h1 h2), fun c i hc => (a5 c i hc).trans (s4 c i hc)⟩
            rw [if_neg (by decide), oI_s]
          · refine Or.inr ⟨(I', L'), ⟨a2, fun to ht2 => ?_, fun c i h1 h2 => (a4 c i h1 h2).trans (s3 c i h1 h2), fun c i hc => (a5 c i hc).trans (s4 c i hc)⟩, hstep _ ?_⟩
            · rcases (show to < k ∨ to = k by omega) with h1 | rfl
              · exact s2 to h1
              · right; rw [ht, Nat.add_sub_cancel]; exact LST_n b2
            · rw [if_pos (by decide)]; unfold c_34_1; rw [nI_1]) n 0 (J, M) (by omega) (by omega) ⟨j2, fun to ht => absurd ht (by omega), fun _ _ _ _ => rfl, fun _ _ _ => rfl⟩ with ⟨x, I', L', e, x1, x2, x3, x4⟩ | ⟨⟨I', L'⟩, ⟨k1, k2, k3, k4⟩, e⟩
    · exact ⟨x, I', L', e, x1, hfin I' L' x2 x3 x4⟩
    · exact ⟨0, I', L', by rw [oI_0]; exact e, Or.inl ⟨rfl, fun _ => k2⟩, hfin I' L' k1 k3 k4⟩
end KPR2
