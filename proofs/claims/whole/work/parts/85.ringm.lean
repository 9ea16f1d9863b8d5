/-! LAYER 3: rings: the model's search -/
section RGM
variable {I : FI} {L : FL} {H : HD} {W : Nat → Nat} {A : AD} {n : Nat}
abbrev MR (H : HD) (W : Nat → Nat) (A : AD) (I : FI) : Prop := MK H W A (H.1 1) (H.2 0) I
theorem MK_u {l : Nat} {wt : Nat → Nat} {J : FI} (h : MK H W A l wt I) (e : ∀ c i, (c = 104 ∨ (95 ≤ c ∧ c ≤ 101)) → J c i = I c i) (e1 : J 89 25 = I 89 25) (e2 : J 89 27 = I 89 27) : MK H W A l wt J := by
  obtain ⟨h1, h2, h3, h4, h5, h6, h7⟩ := h
  exact ⟨h1, MH_fr h1 h2 (fun c hc i => e c i (by omega)), by rw [e1]; exact h3, h4, fun r hr => by rw [e 104 r (by omega)]; exact h5 r hr, h6, by rw [e2]; exact h7⟩
theorem BN_r {w : Nat → Nat} {k : Nat} (ho : HOK H W A) : BN H w k ↔ ∀ r, r < H.1 4 → RGA H w k r ≤ H.2 0 r := by
  have o4 : H.1 4 ≤ 4 := ho.1.2.2.2.2.1
  constructor
  · intro h r hr; exact h r (by omega) (evr_r.mpr hr)
  · intro h r _ hs; exact h r (evr_r.mp hs)
/-- a minute of the model's walk -/
theorem e253r (hM : MR H W A I) {a : Nat → Nat} {to wb : Nat} (hto : to < H.1 4) (hwb : wb < 4) (ha : ∀ r, r < H.1 4 → I 105 r = nI (a r)) (h7 : ∀ r, r < H.1 4 → a r ≤ 7) (hn : 1000 ≤ n) : ∃ J b, f_253 n (nI to) (nI wb) 0 I L = some (J, L) ∧ f_298 J L = some (nI (evr H)) ∧ f_290 n (nI (evr H)) J L = some (nI b) ∧ ((b = 1 ∧ (∀ r, r < H.1 4 → kst H (H.1 1) (evr H) (wb + 1) to a r ≤ H.2 0 r) ∧ ∀ r, r < H.1 4 → J 105 r = nI (kst H (H.1 1) (evr H) (wb + 1) to a r)) ∨ (b = 0 ∧ ¬ ∀ r, r < H.1 4 → kst H (H.1 1) (evr H) (wb + 1) to a r ≤ H.2 0 r)) ∧ ∀ c i, c ≠ 105 → J c i = I c i := by
  have ho := hM.1
  have o4 : H.1 4 ≤ 4 := ho.1.2.2.2.2.1
  obtain ⟨K, k1, k2, k3⟩ := e253 (L := L) (he := to + 1) (was := wb + 1) (v := 0) ho hM.2.1 hM.2.2.1 hM.2.2.2.1 hM.2.2.2.2.1 ha (fun r hr => (hM.2.2.2.2.2.1 r hr).2) (fun r hr => Or.inr (h7 r hr)) (by omega) (by omega) (by omega) hn
  rw [oI_s, oI_s] at k1
  have hMK : MR H W A K := MK_fr hM (fun c i hc => k3 c i (by omega))
  have hk : ∀ r, r < H.1 4 → kst H (H.1 1) (evr H) (wb + 1) to a r = agc H (H.1 1) (to + 1) (wb + 1) 0 r (a r) := fun r hr => by unfold kst; rw [if_pos (evr_r.mpr hr)]
  have hag := fun r (hr : r < H.1 4) => agm_le (H := H) (l := H.1 1) (wt := H.2 0) (he := to + 1) (was := wb + 1) (v := 0) (r := r) (a := a r) rfl (hM.2.2.2.2.2.1 r hr).2 (h7 r hr)
  obtain ⟨b, b1, b2⟩ := e290 (L := L) (set := evr H) hMK (s16 o4 (evr_lt H)) k2 (fun r hr => (hag r hr).2.2) hn
  refine ⟨K, b, k1, e298 hMK, b1, ?_, k3⟩
  rcases b2 with ⟨h1, h2⟩ | ⟨h1, h2⟩
  · have h3 : ∀ r, r < H.1 4 → kst H (H.1 1) (evr H) (wb + 1) to a r ≤ H.2 0 r := fun r hr => by rw [hk r hr]; exact (hag r hr).1.mp (h2 r hr (evr_r.mpr hr))
    exact Or.inl ⟨h1, h3, fun r hr => by rw [k2 r hr, (hag r hr).2.1 (by rw [← hk r hr]; exact h3 r hr), hk r hr]⟩
  · refine Or.inr ⟨h1, fun q => h2 (fun r hr _ => ?_)⟩
    have := q r hr
    rw [hk r hr] at this
    exact (hag r hr).1.mpr this
/-- some minutes of a row -/
theorem e304 (hM : MR H W A I) {X : Nat → Nat} {K0 m wb : Nat} (hm : m ≤ 12) (hX : ∀ i, X i < H.1 4) (hc : ∀ i, i < m → I 111 i = nI (X (K0 + i))) (hwb : wb < 4) (hw : K0 = 0 ∨ X (K0 - 1) = wb) (ha : ∀ r, r < H.1 4 → I 105 r = nI (RGA H X K0 r)) (hB : BN H X K0) (hn : 1000 ≤ n) : ∃ b J, f_304 n (nI m) (nI wb) I L = some (nI b, J, L) ∧ ((b = 1 ∧ (∀ k, K0 ≤ k → k ≤ K0 + m → BN H X k) ∧ ∀ r, r < H.1 4 → J 105 r = nI (RGA H X (K0 + m) r)) ∨ (b = 0 ∧ ∃ k, k ≤ K0 + m ∧ ¬ BN H X k)) ∧ ∀ c i, c ≠ 105 → J c i = I c i := by
  have ho := hM.1
  have o4 : H.1 4 ≤ 4 := ho.1.2.2.2.2.1
  unfold f_304
  refine lpGk (fun m' k (s : FI × Nat) => c_304_0 n m' (nI m) (nI s.2) (nI k) s.1 L) m (fun k s => s.2 < 4 ∧ (K0 + k = 0 ∨ X (K0 + k - 1) = s.2) ∧ (∀ j, K0 ≤ j → j ≤ K0 + k → BN H X j) ∧ (∀ r, r < H.1 4 → s.1 105 r = nI (RGA H X (K0 + k) r)) ∧ ∀ c i, c ≠ 105 → s.1 c i = I c i) (fun s => some (1, s.1, L)) (fun r => ∃ b J, r = some (nI b, J, L) ∧ (b = 0 ∧ ∃ k, k ≤ K0 + m ∧ ¬ BN H X k) ∧ ∀ c i, c ≠ 105 → J c i = I c i) n 0 (I, wb) (by omega) (by omega) ⟨hwb, hw, fun j a b => by rw [show j = K0 by omega]; exact hB, ha, fun _ _ _ => rfl⟩ (fun ⟨b, J, x1, x2, x3⟩ => ⟨b, J, x1, Or.inr x2, x3⟩) (fun s ⟨x1, x2, x3, x4, x5⟩ e => ⟨1, s.1, e, Or.inl ⟨rfl, x3, x4⟩, x5⟩) (fun m' s hs => ?_) (fun m' k s hk hs => ?_)
  · show b_304_0 n (c_304_0 n m') (nI m) (nI s.2) (nI m) s.1 L = _
    unfold b_304_0
    rw [if_pos (nI_le (Nat.le_refl _) (by omega))]
  · obtain ⟨s1, s2, s3, s4, s5⟩ := hs
    have hMs : MR H W A s.1 := MK_fr hM (fun c i hc => s5 c i (by omega))
    have hBk := s3 (K0 + k) (by omega) (Nat.le_refl _)
    obtain ⟨J, b, j1, j2, j3, j4, j5⟩ := e253r (L := L) hMs (hX (K0 + k)) s1 s4 (fun r hr => BN_7 ho hBk r (by omega)) hn
    have hcl : s.1 111 k = nI (X (K0 + k)) := by rw [s5 111 k (by decide)]; exact hc k hk
    have hrg : RGA H X (K0 + k + 1) = kst H (H.1 1) (evr H) (s.2 + 1) (X (K0 + k)) (RGA H X (K0 + k)) := by
      show kst H (H.1 1) (evr H) (if K0 + k = 0 then 0 else X (K0 + k - 1) + 1) (X (K0 + k)) (rag H (H.1 1) (evr H) X (K0 + k)) = _
      by_cases hz : K0 + k = 0
      · rw [if_pos hz, hz]
        exact kst_0f
      · rw [if_neg hz]
        rcases s2 with q | q
        · exact absurd q hz
        · rw [q]
    have hst : c_304_0 n (m' + 1) (nI m) (nI s.2) (nI k) s.1 L = if ¬ nI b = 0 then c_304_0 n m' (nI m) (nI (X (K0 + k))) (nI (k + 1)) J L else some (0, J, L) := by
      show b_304_0 n (c_304_0 n m') (nI m) (nI s.2) (nI k) s.1 L = _
      unfold b_304_0
      rw [if_neg (nI_ge hk (by omega)), ku_if (by omega) (by omega), nI_clamp (by omega), hcl, j1, q_bs]
      (try dsimp only)
      rw [j2, q_bs, j3, q_bs, ku_if (by omega) (by omega), j5 111 k (by decide), hcl, nI_1]
    rcases j4 with ⟨rfl, h1, h2⟩ | ⟨rfl, h1⟩
    · right
      refine ⟨(J, X (K0 + k)), ⟨by have := hX (K0 + k); show X (K0 + k) < 4; omega, Or.inr rfl, fun j a b => ?_, fun r hr => ?_, fun c i hc => (j5 c i hc).trans (s5 c i hc)⟩, by (try dsimp only); rw [hst, if_pos (by decide)]⟩
      · rcases (show j ≤ K0 + k ∨ j = K0 + k + 1 by omega) with q | q
        · exact s3 j a q
        · rw [q, BN_r ho, hrg]; exact h1
      · show J 105 r = nI (RGA H X (K0 + k + 1) r)
        rw [hrg]; exact h2 r hr
    · left
      refine ⟨0, J, by (try dsimp only); rw [hst, if_neg (by decide)]; rfl, ⟨rfl, K0 + k + 1, by omega, ?_⟩, fun c i hc => (j5 c i hc).trans (s5 c i hc)⟩
      rw [BN_r ho, hrg]; exact h1
theorem mid_inj {a b : Nat → Nat} {R : Nat} (ha : ∀ r, r < R → a r < 8) (hb : ∀ r, r < R → b r < 8) (h : mid a 0 R = mid b 0 R) : ∀ r, r < R → a r = b r := fun r hr => by
  rw [← mid_dg (he := 0) ha r hr, ← mid_dg (he := 0) hb r hr, h]
/-- whether a row is a ring, by the model -/
theorem e305 (hM : MR H W A I) {x : List Nat} {N : Nat} (h1 : 1 ≤ N) (h12 : N ≤ 12) (hx : Wd (H.1 4) N x) (hc : ∀ i, i < N → I 111 i = nI (wf x i)) (hn : 1000 ≤ n) : ∃ b J, f_305 n (nI N) I L = some (nI b, J, L) ∧ ((b = 1 ∧ ERG H (xt N x)) ∨ (b = 0 ∧ ¬ ERG H (xt N x))) ∧ ∀ c i, c ≠ 105 → J c i = I c i := by
  have ho := hM.1
  have o4 : H.1 4 ≤ 4 := ho.1.2.2.2.2.1
  have hpd := xt_p (n := N) (x := x)
  have hXl := xt_lt h1 hx
  have hR0 : 0 < H.1 4 := by have := hx.2 0 (by omega); omega
  unfold f_305
  -- the steps
  refine lpGk (fun m k (_ : Unit) => c_305_0 n m (nI N) (nI k) I L) N (fun k _ => ∀ i, i < k → STQ H (xt N x i) (xt N x (i + 1))) (fun _ => c_305_1 n n (nI N) (nI 0) I L) (fun r => r = some (0, I, L) ∧ ¬ ERG H (xt N x)) n 0 () (by omega) (by omega) (fun i hi => absurd hi (by omega)) (fun ⟨q1, q2⟩ => ⟨0, I, q1, Or.inr ⟨rfl, q2⟩, fun _ _ _ => rfl⟩) (fun _ hst e => ?_) (fun m _ hs => ?_) (fun m k _ hk hs => ?_)
  · have hstA : ∀ i, STQ H (xt N x i) (xt N x (i + 1)) := fun i => by
      have h2 := hst (i % N) (Nat.mod_lt _ (by omega))
      have a := PD_mod hpd i
      have b : xt N x (i % N + 1) = xt N x (i + 1) := by unfold xt; rw [Nat.mod_add_mod]
      rw [a, b] at h2
      exact h2
    (try dsimp only at e)
    rw [show c_305_0 n n (nI N) 0 I L = c_305_0 n n (nI N) (nI 0) I L from rfl, e]
    -- ages 0
    refine lpEk (fun m k (s : FI) => c_305_1 n m (nI N) (nI k) s L) (H.1 4) (fun k s => (∀ r, r < k → s 105 r = nI 0) ∧ ∀ c i, c ≠ 105 → s c i = I c i) (fun s => (f_304 n (nI N) (s 111 0) s L).bind fun q1 => if ¬ q1.1 = 0 then (f_298 q1.2.1 q1.2.2).bind fun q2 => (f_287 n 0 q2 q1.2.1 q1.2.2).bind fun q3 => c_305_2 n n (nI N) (-1) q3 q1.2.1 q1.2.2 else some (0, q1.2.1, q1.2.2)) n 0 I (by omega) (by omega) ⟨fun r hr => absurd hr (by omega), fun _ _ _ => rfl⟩ (fun s hs e2 => ?_) (fun m s hs => ?_) (fun m k s hk hs => ?_)
    · obtain ⟨s1, s2⟩ := hs
      have hMs : MR H W A s := MK_fr hM (fun c i hc => s2 c i (by omega))
      have hcs : ∀ i, i < N → s 111 i = nI (wf x i) := fun i hi => by rw [s2 111 i (by decide)]; exact hc i hi
      (try dsimp only at e2)
      rw [e2, hcs 0 (by omega)]
      obtain ⟨b, J, j1, j2, j3⟩ := e304 (L := L) hMs (X := xt N x) (K0 := 0) (m := N) (wb := wf x 0) h12 hXl (fun i hi => by rw [Nat.zero_add, xt_l hi]; exact hcs i hi) (by have := hx.2 0 (by omega); omega) (Or.inl rfl) s1 BN_0 hn
      rw [j1, q_bs]
      (try dsimp only)
      rcases j2 with ⟨rfl, j2, j4⟩ | ⟨rfl, k, _, j2⟩
      · rw [if_pos (by decide)]
        rw [Nat.zero_add] at j4
        have hMJ : MR H W A J := MK_fr hMs (fun c i hc => j3 c i (by omega))
        have hBN : ∀ k, k ≤ N → BN H (xt N x) k := fun k hk => j2 k (by omega) (by omega)
        have st : ∀ (K : FI) (k : Nat), MR H W A K → BN H (xt N x) k → (∀ r, r < H.1 4 → K 105 r = nI (RGA H (xt N x) k r)) → f_298 K L = some (nI (evr H)) ∧ f_287 n 0 (nI (evr H)) K L = some (nI (mid (RGA H (xt N x) k) 0 (H.1 4))) := fun K k hK hb h => by
          refine ⟨e298 hK, ?_⟩
          have := e287 (L := L) hK (he := 0) (set := evr H) hR0 (s16 o4 (evr_lt H)) h (fun r hr _ => by have := BN_7 ho hb r (by omega); omega) hn
          rw [mid_cg (b := RGA H (xt N x) k) (fun r hr => by rw [if_pos (evr_r.mpr hr)])] at this
          exact this
        have hml : ∀ k, BN H (xt N x) k → mid (RGA H (xt N x) k) 0 (H.1 4) < 4096 := fun k hb => by
          have := mid_lt (he := 0) (k := H.1 4) (fun r hr => by have := BN_7 ho hb r (by omega); omega : ∀ r, r < H.1 4 → RGA H (xt N x) k r < 8)
          have := pw8 o4
          omega
        obtain ⟨t1, t2⟩ := st J N hMJ (hBN N (Nat.le_refl _)) j4
        rw [t1, q_bs, t2, q_bs]
        refine lpGk (fun m t (s : FI) => c_305_2 n m (nI N) (if t = 0 then oI 0 else nI (mid (RGA H (xt N x) (N * t)) 0 (H.1 4))) (nI (mid (RGA H (xt N x) (N * (t + 1))) 0 (H.1 4))) s L) 40 (fun t s => (∀ k, k ≤ N * (t + 1) → BN H (xt N x) k) ∧ (∀ j, 1 ≤ j → j < t → RGA H (xt N x) (N * j + N) ≠ RGA H (xt N x) (N * j)) ∧ (∀ r, r < H.1 4 → s 105 r = nI (RGA H (xt N x) (N * (t + 1)) r)) ∧ ∀ c i, c ≠ 105 → s c i = I c i) (fun s => none) (fun r => ∃ b J, r = some (nI b, J, L) ∧ ((b = 1 ∧ ERG H (xt N x)) ∨ (b = 0 ∧ ¬ ERG H (xt N x))) ∧ ∀ c i, c ≠ 105 → J c i = I c i) n 0 J (by omega) (by omega) ⟨fun k hk => hBN k (by omega), fun j a b => by omega, fun r hr => by rw [j4 r hr]; simp, fun c i hc => (j3 c i hc).trans (s2 c i hc)⟩ (fun h => ?_) (fun s hs _ => ?_) (fun m s hs => ?_) (fun m t s ht hs => ?_)
        · (try dsimp only at h)
          rw [if_pos rfl, oI_0, show N * (0 + 1) = N by omega] at h
          exact h
        · exact absurd (rag_29 ho (X := xt N x) (N := N) (k := N) hpd (fun j hj => hs.1 j (by omega)) (fun i hi => by
            have := hs.2.1 (i + 1) (by omega) (by omega)
            rw [Nat.mul_succ, Nat.mul_comm N i] at this
            rw [Nat.add_comm N (i * N)]; exact this)) id
        · exact absurd (rag_29 ho (X := xt N x) (N := N) (k := N) hpd (fun j hj => hs.1 j (by omega)) (fun i hi => by
            have := hs.2.1 (i + 1) (by omega) (by omega)
            rw [Nat.mul_succ, Nat.mul_comm N i] at this
            rw [Nat.add_comm N (i * N)]; exact this)) id
        · obtain ⟨u1, u2', u3, u4⟩ := hs
          have hMt : MR H W A s := MK_fr hM (fun c i hc => u4 c i (by omega))
          have hct : ∀ i, i < N → s 111 i = nI (wf x i) := fun i hi => by rw [u4 111 i (by decide)]; exact hc i hi
          have hN1 : N * (t + 1) = N * t + N := Nat.mul_succ N t
          by_cases heq : t ≠ 0 ∧ mid (RGA H (xt N x) (N * (t + 1))) 0 (H.1 4) = mid (RGA H (xt N x) (N * t)) 0 (H.1 4)
          · left
            have hNt : 1 ≤ N * t := Nat.mul_pos h1 (by omega)
            refine ⟨1, s, ?_, Or.inl ⟨rfl, ?_⟩, u4⟩
            · show b_305_2 n (c_305_2 n m) (nI N) _ _ s L = _
              unfold b_305_2
              rw [if_pos (by rw [if_neg heq.1, heq.2])]; rfl
            · have hri := mid_inj (fun r hr => by have := BN_7 ho (u1 (N * (t + 1)) (Nat.le_refl _)) r (by omega); omega) (fun r hr => by have := BN_7 ho (u1 (N * t) (by omega)) r (by omega); omega) heq.2
              refine ERG_per h1 hNt hpd hstA ?_ (fun j hj => u1 j (by omega))
              rw [← hN1]
              refine rag_eq (evr_4 ho) (fun r hr => ?_)
              by_cases hrr : r < H.1 4
              · exact hri r hrr
              · rw [rag_z _ _ _ (fun q => hrr (evr_r.mp q)), rag_z _ _ _ (fun q => hrr (evr_r.mp q))]
          · have hne : ¬ nI (mid (RGA H (xt N x) (N * (t + 1))) 0 (H.1 4)) = (if t = 0 then oI 0 else nI (mid (RGA H (xt N x) (N * t)) 0 (H.1 4))) := by
              have a1 := hml _ (u1 (N * (t + 1)) (Nat.le_refl _))
              have a2 := hml _ (u1 (N * t) (by omega))
              by_cases hz : t = 0
              · rw [if_pos hz, ku_on (by omega) (by omega)]; omega
              · rw [if_neg hz, nI_eq (by omega) (by omega)]; exact fun q => heq ⟨hz, q⟩
            have hwl : wf x (N - 1) = xt N x (N * (t + 1) - 1) := by
              rw [show N * (t + 1) - 1 = N * t + (N - 1) by omega, xt_k (by omega)]
            obtain ⟨b, K, k1, k2, k3⟩ := e304 (L := L) hMt (X := xt N x) (K0 := N * (t + 1)) (m := N) (wb := wf x (N - 1)) h12 hXl (fun i hi => by rw [xt_k hi]; exact hct i hi) (by have := hx.2 (N - 1) (by omega); omega) (Or.inr hwl.symm) u3 (u1 _ (Nat.le_refl _)) hn
            have kf : ∀ c i, c ≠ 105 → K c i = I c i := fun c i h => (k3 c i h).trans (u4 c i h)
            have hstp : ∀ r, (if ¬ nI b = 0 then (f_298 K L).bind fun q5 => (f_287 n 0 q5 K L).bind fun q6 => c_305_2 n m (nI N) (nI (mid (RGA H (xt N x) (N * (t + 1))) 0 (H.1 4))) q6 K L else some (0, K, L)) = r → c_305_2 n (m + 1) (nI N) (if t = 0 then oI 0 else nI (mid (RGA H (xt N x) (N * t)) 0 (H.1 4))) (nI (mid (RGA H (xt N x) (N * (t + 1))) 0 (H.1 4))) s L = r := fun r hr => by
              show b_305_2 n (c_305_2 n m) (nI N) _ _ s L = r
              unfold b_305_2
              rw [if_neg hne, ku_1, pk_sub h1, ku_if (by omega) (by omega), nI_clamp (by omega), hct _ (by omega), k1, q_bs]
              exact hr
            rcases k2 with ⟨rfl, k2, k4⟩ | ⟨rfl, k, _, k2⟩
            · right
              rw [show N * (t + 1) + N = N * (t + 1 + 1) from (Nat.mul_succ N (t + 1)).symm] at k2 k4
              obtain ⟨v1, v2⟩ := st K (N * (t + 1 + 1)) (MK_fr hM (fun c i hc => kf c i (by omega))) (k2 _ (by rw [Nat.mul_succ N (t + 1)]; omega) (Nat.le_refl _)) k4
              refine ⟨K, ⟨fun k hk => ?_, fun j a b => ?_, k4, kf⟩, hstp _ ?_⟩
              · rcases Nat.lt_or_ge k (N * (t + 1)) with q | q
                · exact u1 k (by omega)
                · exact k2 k q hk
              · rcases (show j < t ∨ j = t by omega) with q | q
                · exact u2' j a q
                · subst q
                  intro hq
                  apply heq
                  rw [← hN1] at hq
                  exact ⟨by omega, by rw [hq]⟩
              · rw [if_pos (by decide), v1, q_bs, v2, q_bs, if_neg (by omega)]
            · left
              exact ⟨0, K, hstp _ (by rw [if_neg (by decide)]; rfl), Or.inr ⟨rfl, fun q => k2 (q.2 k)⟩, kf⟩
      · rw [if_neg (by decide)]
        exact ⟨0, J, rfl, Or.inr ⟨rfl, fun q => j2 (q.2 k)⟩, fun c i h => (j3 c i h).trans (s2 c i h)⟩
    · have hMs : MR H W A s := MK_fr hM (fun c i hc => hs.2 c i (by omega))
      show b_305_1 n (c_305_1 n m) (nI N) (nI (H.1 4)) s L = _
      unfold b_305_1
      rw [e237 hMs.2.1, q_bs, if_pos (nI_le (Nat.le_refl _) (by omega))]
    · have hMs : MR H W A s := MK_fr hM (fun c i hc => hs.2 c i (by omega))
      refine ⟨u2 s 105 k (nI 0), ⟨fun r hr => ?_, fun c i hc => by rw [u2_c hc]; exact hs.2 c i hc⟩, ?_⟩
      · by_cases e : r = k
        · subst e; exact u2_s
        · rw [u2_o e]; exact hs.1 r (by omega)
      · show b_305_1 n (c_305_1 n m) (nI N) (nI k) s L = _
        unfold b_305_1
        rw [e237 hMs.2.1, q_bs, if_neg (nI_ge hk (by omega)), ku_if (by omega) (by omega), nI_clamp (by omega), nI_1]; rfl
  · show b_305_0 n (c_305_0 n m) (nI N) (nI N) I L = _
    unfold b_305_0
    rw [if_pos (nI_le (Nat.le_refl _) (by omega))]; rfl
  · have hml := Nat.mod_lt (k + 1) (show N > 0 by omega)
    have e250 := e250 (L := L) (n := n) ho hM.2.1 (a := wf x k) (b := wf x ((k + 1) % N)) (by have := hx.2 k hk; omega) (by have := hx.2 _ hml; omega) hn
    have hst : ∀ r, (if wf x k = wf x ((k + 1) % N) ∨ dor H (wf x k) (wf x ((k + 1) % N)) = true then c_305_0 n m (nI N) (nI (k + 1)) I L else some (0, I, L)) = r → c_305_0 n (m + 1) (nI N) (nI k) I L = r := fun r hr => by
      show b_305_0 n (c_305_0 n m) (nI N) (nI k) I L = r
      unfold b_305_0
      rw [if_neg (nI_ge hk (by omega)), ku_if (show k < 12 by omega) (by omega), if_neg (nI_ne0 h1 (by omega)), nI_1, pk_rem (by omega) h1 (by omega), ku_if (show (k + 1) % N < 12 by omega) (by omega), nI_clamp (show k < 2 ^ 31 by omega), nI_clamp (show (k + 1) % N < 2 ^ 31 by omega), hc k hk, hc _ hml, e250, q_bs, q_b2]
      exact hr
    have hxk : xt N x k = wf x k := xt_l hk
    by_cases q : wf x k = wf x ((k + 1) % N) ∨ dor H (wf x k) (wf x ((k + 1) % N)) = true
    · right
      refine ⟨(), fun i hi => ?_, hst _ (by rw [if_pos q])⟩
      rcases (show i < k ∨ i = k by omega) with a | a
      · exact hs i a
      · rw [a, hxk]; exact q
    · left
      refine ⟨hst _ (by rw [if_neg q]), fun z => q ?_⟩
      have := z.1 k
      rw [hxk] at this
      exact this
def F112 (N : Nat) (o : Option (List Nat)) (J : FI) : Prop := ∀ x, o = some x → ∀ k, k < N → J 112 k = nI (wf x k)
theorem or_mp {α β : Type} (a b : Option α) (f : α → β) : (a.or b).map f = (a.map f).or (b.map f) := by cases a <;> rfl
theorem or_as {α : Type} (a b c : Option α) : (a.or b).or c = a.or (b.or c) := by cases a <;> rfl
theorem e306 (hn : 1000 ≤ n) {N : Nat} (h1 : 1 ≤ N) (h10 : N ≤ 10) : ∀ (d : Nat) (u : List Nat) (c : Nat) (o : Option (List Nat)) (I : FI) (fu : Nat), u.length + d = N → d < fu → MR H W A I → Wd (H.1 4) u.length u → (∀ k, k < u.length → I 111 k = nI (wf u k)) → I 89 39 = nI c → c + (H.1 4) ^ d < 2 ^ 31 → (c = 0 ↔ o = none) → F112 N o I → ∃ J, f_306 n fu (nI u.length) (nI N) I L = some (J, L) ∧ J 89 39 = nI (c + wsm (H.1 4) d (fun l => pI (ERG H (xt N (u ++ l))))) ∧ (c + wsm (H.1 4) d (fun l => pI (ERG H (xt N (u ++ l)))) = 0 ↔ o.or ((fsw (H.1 4) d (fun l => ERG H (xt N (u ++ l)))).map (fun l => u ++ l)) = none) ∧ F112 N (o.or ((fsw (H.1 4) d (fun l => ERG H (xt N (u ++ l)))).map (fun l => u ++ l))) J ∧ (∀ k, k < u.length → J 111 k = I 111 k) ∧ ∀ e i, e ≠ 105 → e ≠ 111 → e ≠ 112 → (e ≠ 89 ∨ i ≠ 39) → J e i = I e i := by
  intro d
  induction d with
  | zero =>
    intro u c o I fu hu hf hM hW hc h39 hb hco h112
    obtain ⟨fu, rfl⟩ : ∃ f, fu = f + 1 := ⟨fu - 1, by omega⟩
    have huN : u.length = N := by omega
    rw [huN] at hW hc
    rw [Nat.pow_zero] at hb
    obtain ⟨b, J, j1, j2, j3⟩ := e305 (L := L) hM h1 (by omega) hW hc hn
    have e0 : f_306 n (fu + 1) (nI u.length) (nI N) I L = if ¬ nI b = 0 then c_306_4 n (f_306 n fu) n (nI N) 0 J L else some (J, L) := by
      show g_306 n (f_306 n fu) (nI u.length) (nI N) I L = _
      unfold g_306
      rw [huN, if_neg (fun q => q rfl), j1, q_bs]
    rw [e0]
    have hws : wsm (H.1 4) 0 (fun l => pI (ERG H (xt N (u ++ l)))) = pI (ERG H (xt N u)) := by
      show pI (ERG H (xt N (u ++ []))) = _
      rw [List.append_nil]
    rw [hws]
    have j39 : J 89 39 = nI c := by rw [j3 89 39 (by decide)]; exact h39
    rcases j2 with ⟨rfl, j2⟩ | ⟨rfl, j2⟩
    · have hfs : (fsw (H.1 4) 0 (fun l => ERG H (xt N (u ++ l)))).map (fun l => u ++ l) = some u := by
        unfold fsw
        rw [if_pos (show ERG H (xt N (u ++ [])) by rw [List.append_nil]; exact j2)]
        show some (u ++ []) = _
        rw [List.append_nil]
      rw [hfs, pI_1 j2, if_pos (by decide)]
      have hc0 : ¬ o.or (some u) = none := by cases o <;> simp
      by_cases hz : c = 0
      · have ho := hco.mp hz
        subst ho
        refine lpEk (fun m k (s : FI) => c_306_4 n (f_306 n fu) m (nI N) (nI k) s L) N (fun k s => (∀ i, i < k → s 112 i = nI (wf u i)) ∧ ∀ e i, e ≠ 112 → s e i = J e i) (fun s => some (u2 s 89 39 (nI (c + 1)), L)) n 0 J (by omega) (by omega) ⟨fun i hi => absurd hi (by omega), fun _ _ _ => rfl⟩ (fun s hs e => ?_) (fun m s hs => ?_) (fun m k s hk hs => ?_)
        · refine ⟨_, e, u2_s, ⟨fun q => by omega, fun q => absurd q hc0⟩, fun x hx k hk => ?_, fun k hk => ?_, fun e i a1 a2 a3 a4 => ?_⟩
          · cases hx
            rw [u2_c (by decide)]; exact hs.1 k hk
          · rw [u2_c (by decide), hs.2 _ _ (by decide), j3 _ _ (by decide)]
          · rw [show u2 s 89 39 (nI (c + 1)) e i = s e i from by
              by_cases q : e = 89
              · subst q; rw [u2_o (by omega)]
              · rw [u2_c q], hs.2 _ _ a3, j3 _ _ a1]
        · show b_306_4 n (f_306 n fu) (c_306_4 n (f_306 n fu) m) (nI N) (nI N) s L = _
          unfold b_306_4
          rw [if_pos (nI_le (Nat.le_refl _) (by omega)), hs.2 89 39 (by decide), j39, nI_1]
        · refine ⟨u2 s 112 k (nI (wf u k)), ⟨fun i hi => ?_, fun e i he => by rw [u2_c he]; exact hs.2 e i he⟩, ?_⟩
          · by_cases e : i = k
            · subst e; exact u2_s
            · rw [u2_o e]; exact hs.1 i (by omega)
          · show b_306_4 n (f_306 n fu) (c_306_4 n (f_306 n fu) m) (nI N) (nI k) s L = _
            unfold b_306_4
            rw [if_neg (nI_ge hk (by omega)), hs.2 89 39 (by decide), j39, if_neg (fun q => q (by rw [hz]; rfl)), ku_if (show k < 12 by omega) (by omega), ku_if (show k < 12 by omega) (by omega), nI_clamp (by omega), hs.2 111 k (by decide), j3 111 k (by decide), hc k hk, nI_1]
      · obtain ⟨n', hn'⟩ : ∃ n', n = n' + 1 := ⟨n - 1, by omega⟩
        have e1 : c_306_4 n (f_306 n fu) n (nI N) 0 J L = some (u2 J 89 39 (nI (c + 1)), L) := by
          have : ∀ m, c_306_4 n (f_306 n fu) (m + 1) (nI N) 0 J L = some (u2 J 89 39 (nI (c + 1)), L) := fun m => by
            show b_306_4 n (f_306 n fu) (c_306_4 n (f_306 n fu) m) (nI N) 0 J L = _
            unfold b_306_4
            rw [if_neg (nI_nle h1 (by omega)), j39, if_pos (nI_ne0 (by omega) (by omega)), nI_1]
          have h := this n'
          rw [← hn'] at h
          exact h
        cases o with
        | none => exact absurd (hco.mpr rfl) hz
        | some y =>
          refine ⟨_, e1, u2_s, ⟨fun q => by omega, fun q => absurd q hc0⟩, fun x hx k hk => ?_, fun k hk => ?_, fun e i a1 a2 a3 a4 => ?_⟩
          · rw [u2_c (by decide), j3 _ _ (by decide)]; exact h112 x hx k hk
          · rw [u2_c (by decide), j3 _ _ (by decide)]
          · rw [show u2 J 89 39 (nI (c + 1)) e i = J e i from by
              by_cases q : e = 89
              · subst q; rw [u2_o (by omega)]
              · rw [u2_c q], j3 _ _ a1]
    · have hfs : (fsw (H.1 4) 0 (fun l => ERG H (xt N (u ++ l)))).map (fun l => u ++ l) = none := by
        unfold fsw
        rw [if_neg (show ¬ ERG H (xt N (u ++ [])) by rw [List.append_nil]; exact j2)]; rfl
      rw [hfs, pI_0 j2, if_neg (by decide), Nat.add_zero, Option.or_none]
      exact ⟨J, rfl, j39, hco, fun x hx k hk => by rw [j3 _ _ (by decide)]; exact h112 x hx k hk, fun k _ => j3 _ _ (by decide), fun e i a1 _ _ _ => j3 _ _ a1⟩
  | succ d ih =>
    intro u c o I fu hu hf hM hW hc h39 hb hco h112
    obtain ⟨fu, rfl⟩ : ∃ f, fu = f + 1 := ⟨fu - 1, by omega⟩
    have ho := hM.1
    have o4 : H.1 4 ≤ 4 := ho.1.2.2.2.2.1
    have e0 : f_306 n (fu + 1) (nI u.length) (nI N) I L = c_306_0 n (f_306 n fu) n (nI u.length) (nI N) (nI 0) I L := by
      show g_306 n (f_306 n fu) (nI u.length) (nI N) I L = _
      unfold g_306
      rw [if_pos (by rw [nI_eq (by omega) (by omega)]; omega)]; rfl
    rw [e0]
    have hG0 : ∀ k, (∀ l, Wd (H.1 4) d l → ¬ ERG H (xt N (u ++ k :: l))) → wsm (H.1 4) d (fun l => pI (ERG H (xt N (u ++ k :: l)))) = 0 ∧ fsw (H.1 4) d (fun l => ERG H (xt N (u ++ k :: l))) = none := fun k h => ⟨wsm_z (fun l hl => pI_0 (h l hl)), fsw_0 h⟩
    have hGb : ∀ k, k ≤ H.1 4 → sma (fun r => wsm (H.1 4) d (fun l => pI (ERG H (xt N (u ++ r :: l))))) k ≤ H.1 4 ^ d * k := fun k _ => sma_b2 (fun r _ => by
      have := wsm_le (R := H.1 4) (n := d) (b := 1) (F := fun l => pI (ERG H (xt N (u ++ r :: l)))) (fun l _ => pI_le _)
      rw [Nat.one_mul] at this; exact this)
    have hpow : H.1 4 ^ (d + 1) = H.1 4 ^ d * H.1 4 := Nat.pow_succ ..
    refine lpEk (fun m k (s : FI) => c_306_0 n (f_306 n fu) m (nI u.length) (nI N) (nI k) s L) (H.1 4) (fun k s => s 89 39 = nI (c + sma (fun r => wsm (H.1 4) d (fun l => pI (ERG H (xt N (u ++ r :: l))))) k) ∧ (c + sma (fun r => wsm (H.1 4) d (fun l => pI (ERG H (xt N (u ++ r :: l))))) k = 0 ↔ o.or ((frs (fun r => (fsw (H.1 4) d (fun l => ERG H (xt N (u ++ r :: l)))).map (fun l => r :: l)) k).map (fun l => u ++ l)) = none) ∧ F112 N (o.or ((frs (fun r => (fsw (H.1 4) d (fun l => ERG H (xt N (u ++ r :: l)))).map (fun l => r :: l)) k).map (fun l => u ++ l))) s ∧ (∀ k, k < u.length → s 111 k = I 111 k) ∧ ∀ e i, e ≠ 105 → e ≠ 111 → e ≠ 112 → (e ≠ 89 ∨ i ≠ 39) → s e i = I e i) (fun s => some (s, L)) n 0 I (by omega) (by omega) ⟨h39, ?_, ?_, fun _ _ => rfl, fun _ _ _ _ _ _ => rfl⟩ (fun s ⟨a1, a2, a3, a4, a5⟩ e => ⟨s, e, a1, a2, a3, a4, a5⟩) (fun m s hs => ?_) (fun m k s hk hs => ?_)
    · show (c + 0 = 0 ↔ o.or none = none)
      rw [Option.or_none]; exact hco
    · show F112 N (o.or none) I
      rw [Option.or_none]; exact h112
    · obtain ⟨a1, a2, a3, a4, a5⟩ := hs
      have hMs : MH s 0 H W A := MH_fr ho hM.2.1 (fun c hc i => a5 c i (by omega) (by omega) (by omega) (Or.inl (by omega)))
      show b_306_0 n (f_306 n fu) (c_306_0 n (f_306 n fu) m) (nI u.length) (nI N) (nI (H.1 4)) s L = _
      unfold b_306_0
      rw [e237 hMs, q_bs, if_pos (nI_le (Nat.le_refl _) (by omega))]
    · obtain ⟨a1, a2, a3, a4, a5⟩ := hs
      have hl : (u ++ [k]).length = u.length + 1 := by simp
      have frM : ∀ {J : FI}, (∀ e i, e ≠ 105 → e ≠ 111 → e ≠ 112 → (e ≠ 89 ∨ i ≠ 39) → J e i = I e i) → MR H W A J := fun h => MK_u hM (fun c i hc => h c i (by omega) (by omega) (by omega) (Or.inl (by omega))) (h 89 25 (by decide) (by decide) (by decide) (Or.inr (by decide))) (h 89 27 (by decide) (by decide) (by decide) (Or.inr (by decide)))
      have hMs := frM a5
      have hs1 : ∀ i, i < u.length → s 111 i = nI (wf u i) := fun i hi => by rw [a4 i hi]; exact hc i hi
      have hsm1 : sma (fun r => wsm (H.1 4) d (fun l => pI (ERG H (xt N (u ++ r :: l))))) (k + 1) = sma (fun r => wsm (H.1 4) d (fun l => pI (ERG H (xt N (u ++ r :: l))))) k + wsm (H.1 4) d (fun l => pI (ERG H (xt N (u ++ k :: l)))) := rfl
      have hor1 : o.or ((frs (fun r => (fsw (H.1 4) d (fun l => ERG H (xt N (u ++ r :: l)))).map (fun l => r :: l)) (k + 1)).map (fun l => u ++ l)) = (o.or ((frs (fun r => (fsw (H.1 4) d (fun l => ERG H (xt N (u ++ r :: l)))).map (fun l => r :: l)) k).map (fun l => u ++ l))).or ((fsw (H.1 4) d (fun l => ERG H (xt N (u ++ k :: l)))).map (fun l => u ++ [k] ++ l)) := by
        show o.or (((frs (fun r => (fsw (H.1 4) d (fun l => ERG H (xt N (u ++ r :: l)))).map (fun l => r :: l)) k).or ((fsw (H.1 4) d (fun l => ERG H (xt N (u ++ k :: l)))).map (fun l => k :: l))).map (fun l => u ++ l)) = _
        rw [or_mp, or_as, Option.map_map, show (fun l => u ++ l) ∘ (fun l => k :: l) = fun l => u ++ [k] ++ l from funext (fun l => (app1 u k l).symm)]
      rw [hor1, hsm1]
      -- a branch with nothing in it
      have no : ∀ J : FI, (∀ l, Wd (H.1 4) d l → ¬ ERG H (xt N (u ++ k :: l))) → (∀ e i, e ≠ 105 → (e ≠ 111 ∨ i ≠ u.length) → J e i = s e i) → c_306_0 n (f_306 n fu) (m + 1) (nI u.length) (nI N) (nI k) s L = c_306_0 n (f_306 n fu) m (nI u.length) (nI N) (nI (k + 1)) J L → ∃ s', (s' 89 39 = nI (c + (sma (fun r => wsm (H.1 4) d (fun l => pI (ERG H (xt N (u ++ r :: l))))) k + wsm (H.1 4) d (fun l => pI (ERG H (xt N (u ++ k :: l)))))) ∧ (c + (sma (fun r => wsm (H.1 4) d (fun l => pI (ERG H (xt N (u ++ r :: l))))) k + wsm (H.1 4) d (fun l => pI (ERG H (xt N (u ++ k :: l))))) = 0 ↔ (o.or ((frs (fun r => (fsw (H.1 4) d (fun l => ERG H (xt N (u ++ r :: l)))).map (fun l => r :: l)) k).map (fun l => u ++ l))).or ((fsw (H.1 4) d (fun l => ERG H (xt N (u ++ k :: l)))).map (fun l => u ++ [k] ++ l)) = none) ∧ F112 N ((o.or ((frs (fun r => (fsw (H.1 4) d (fun l => ERG H (xt N (u ++ r :: l)))).map (fun l => r :: l)) k).map (fun l => u ++ l))).or ((fsw (H.1 4) d (fun l => ERG H (xt N (u ++ k :: l)))).map (fun l => u ++ [k] ++ l))) s' ∧ (∀ k, k < u.length → s' 111 k = I 111 k) ∧ ∀ e i, e ≠ 105 → e ≠ 111 → e ≠ 112 → (e ≠ 89 ∨ i ≠ 39) → s' e i = I e i) ∧ c_306_0 n (f_306 n fu) (m + 1) (nI u.length) (nI N) (nI k) s L = c_306_0 n (f_306 n fu) m (nI u.length) (nI N) (nI (k + 1)) s' L := fun J hno hJ he => by
        have hz := hG0 k hno
        rw [hz.1, hz.2, Nat.add_zero, Option.map_none, Option.or_none]
        exact ⟨J, ⟨by rw [hJ 89 39 (by decide) (Or.inl (by decide))]; exact a1, a2, fun x hx i hi => by rw [hJ 112 i (by decide) (Or.inl (by decide))]; exact a3 x hx i hi, fun i hi => by rw [hJ 111 i (by decide) (Or.inr (by omega))]; exact a4 i hi, fun e i b1 b2 b3 b4 => by rw [hJ e i b1 (Or.inl b2)]; exact a5 e i b1 b2 b3 b4⟩, he⟩
      -- going in
      have go : c_306_0 n (f_306 n fu) (m + 1) (nI u.length) (nI N) (nI k) s L = c_306_1 n (f_306 n fu) (c_306_0 n (f_306 n fu) m) (nI u.length) (nI N) (nI k) s L → ∃ s', (s' 89 39 = nI (c + (sma (fun r => wsm (H.1 4) d (fun l => pI (ERG H (xt N (u ++ r :: l))))) k + wsm (H.1 4) d (fun l => pI (ERG H (xt N (u ++ k :: l)))))) ∧ (c + (sma (fun r => wsm (H.1 4) d (fun l => pI (ERG H (xt N (u ++ r :: l))))) k + wsm (H.1 4) d (fun l => pI (ERG H (xt N (u ++ k :: l))))) = 0 ↔ (o.or ((frs (fun r => (fsw (H.1 4) d (fun l => ERG H (xt N (u ++ r :: l)))).map (fun l => r :: l)) k).map (fun l => u ++ l))).or ((fsw (H.1 4) d (fun l => ERG H (xt N (u ++ k :: l)))).map (fun l => u ++ [k] ++ l)) = none) ∧ F112 N ((o.or ((frs (fun r => (fsw (H.1 4) d (fun l => ERG H (xt N (u ++ r :: l)))).map (fun l => r :: l)) k).map (fun l => u ++ l))).or ((fsw (H.1 4) d (fun l => ERG H (xt N (u ++ k :: l)))).map (fun l => u ++ [k] ++ l))) s' ∧ (∀ k, k < u.length → s' 111 k = I 111 k) ∧ ∀ e i, e ≠ 105 → e ≠ 111 → e ≠ 112 → (e ≠ 89 ∨ i ≠ 39) → s' e i = I e i) ∧ c_306_0 n (f_306 n fu) (m + 1) (nI u.length) (nI N) (nI k) s L = c_306_0 n (f_306 n fu) m (nI u.length) (nI N) (nI (k + 1)) s' L := fun hu1 => by
        have hW' : Wd (H.1 4) (u.length + 1) (u ++ [k]) := Wd_s hW hk
        have hwl : ∀ i, i < u.length → wf (u ++ [k]) i = wf u i := fun i hi => wf_l hi
        have hwm : wf (u ++ [k]) u.length = k := wf_m
        refine lpEk (fun m' q (t : FI) => c_306_2 n (f_306 n fu) (c_306_0 n (f_306 n fu) m) m' (nI u.length) (nI N) (nI k) (nI q) t L) (H.1 4) (fun q t => (∀ r, r < q → t 105 r = nI 0) ∧ ∀ e i, e ≠ 105 → t e i = u2 s 111 u.length (nI k) e i) (fun t => (f_304 n (nI (u.length + 1)) (t 111 0) t L).bind fun q2 => if q2.1 = 0 then c_306_3 n (f_306 n fu) (c_306_0 n (f_306 n fu) m) (nI u.length) (nI N) (nI k) q2.2.1 q2.2.2 else (f_306 n fu (nI (u.length + 1)) (nI N) q2.2.1 q2.2.2).bind fun q3 => c_306_3 n (f_306 n fu) (c_306_0 n (f_306 n fu) m) (nI u.length) (nI N) (nI k) q3.1 q3.2) n 0 (u2 s 111 u.length (nI k)) (by omega) (by omega) ⟨fun r hr => absurd hr (by omega), fun _ _ _ => rfl⟩ (fun t ht e => ?_) (fun m' t ht => ?_) (fun m' q t hq ht => ?_)
        · obtain ⟨t1, t2⟩ := ht
          have tf : ∀ e i, e ≠ 105 → (e ≠ 111 ∨ i ≠ u.length) → t e i = s e i := fun e i b1 b2 => by
            rw [t2 e i b1]
            by_cases z : e = 111
            · subst z; rw [u2_o (by omega)]
            · rw [u2_c z]
          have tfI : ∀ e i, e ≠ 105 → e ≠ 111 → e ≠ 112 → (e ≠ 89 ∨ i ≠ 39) → t e i = I e i := fun e i b1 b2 b3 b4 => (tf e i b1 (Or.inl b2)).trans (a5 e i b1 b2 b3 b4)
          have ht111 : ∀ i, i < u.length + 1 → t 111 i = nI (wf (u ++ [k]) i) := fun i hi => by
            by_cases z : i = u.length
            · rw [z, t2 _ _ (by decide), u2_s, hwm]
            · rw [tf _ _ (by decide) (Or.inr z), hs1 i (by omega), hwl i (by omega)]
          have hXl := xt_lt (show 1 ≤ u.length + 1 by omega) hW'
          have hxe : ∀ i, i < u.length + 1 → xt (u.length + 1) (u ++ [k]) i = wf (u ++ [k]) i := fun i hi => xt_l hi
          obtain ⟨b, J, j1, j2, j3⟩ := e304 (L := L) (frM tfI) (X := xt (u.length + 1) (u ++ [k])) (K0 := 0) (m := u.length + 1) (wb := wf (u ++ [k]) 0) (by omega) hXl (fun i hi => by rw [Nat.zero_add, hxe i hi]; exact ht111 i hi) (by have := hW'.2 0 (by omega); omega) (Or.inl rfl) t1 BN_0 hn
          have hu2 : ∀ r, (if nI b = 0 then c_306_0 n (f_306 n fu) m (nI u.length) (nI N) (nI (k + 1)) J L else (f_306 n fu (nI (u.length + 1)) (nI N) J L).bind fun q3 => c_306_3 n (f_306 n fu) (c_306_0 n (f_306 n fu) m) (nI u.length) (nI N) (nI k) q3.1 q3.2) = r → c_306_0 n (f_306 n fu) (m + 1) (nI u.length) (nI N) (nI k) s L = r := fun r hr => by
            rw [hu1]
            unfold c_306_1
            rw [ku_if (show u.length < 12 by omega) (by omega), nI_clamp (show u.length < 2 ^ 31 by omega)]
            refine Eq.trans (Eq.trans (show _ = c_306_2 n (f_306 n fu) (c_306_0 n (f_306 n fu) m) n (nI u.length) (nI N) (nI k) (nI 0) (u2 s 111 u.length (nI k)) L from rfl) e) ?_
            rw [ht111 0 (by omega), j1, q_bs]
            (try dsimp only)
            rw [← hr]
            unfold c_306_3
            rw [nI_1]
          have jf : ∀ e i, e ≠ 105 → (e ≠ 111 ∨ i ≠ u.length) → J e i = s e i := fun e i b1 b2 => (j3 e i b1).trans (tf e i b1 b2)
          rcases j2 with ⟨rfl, _, _⟩ | ⟨rfl, q, hq, j2⟩
          · have jI : ∀ e i, e ≠ 105 → e ≠ 111 → e ≠ 112 → (e ≠ 89 ∨ i ≠ 39) → J e i = I e i := fun e i b1 b2 b3 b4 => (j3 e i b1).trans (tfI e i b1 b2 b3 b4)
            have hbd := hGb k (by omega)
            have hpk : H.1 4 ^ d * k + H.1 4 ^ d ≤ H.1 4 ^ (d + 1) := by rw [hpow, ← Nat.mul_succ]; exact Nat.mul_le_mul_left _ hk
            obtain ⟨K, k1, k2, k3, k4, k5, k6⟩ := ih (u ++ [k]) (c + sma (fun r => wsm (H.1 4) d (fun l => pI (ERG H (xt N (u ++ r :: l))))) k) (o.or ((frs (fun r => (fsw (H.1 4) d (fun l => ERG H (xt N (u ++ r :: l)))).map (fun l => r :: l)) k).map (fun l => u ++ l))) J fu (by rw [hl]; omega) (by omega) (frM jI) (by rw [hl]; exact hW') (fun i hi => by rw [hl] at hi; rw [j3 111 i (by decide)]; exact ht111 i hi) (by rw [jf 89 39 (by decide) (Or.inl (by decide))]; exact a1) (by omega) a2 (fun x hx i hi => by rw [jf 112 i (by decide) (Or.inl (by decide))]; exact a3 x hx i hi)
            rw [hl] at k1
            have e1 : (fun l => pI (ERG H (xt N (u ++ [k] ++ l)))) = fun l => pI (ERG H (xt N (u ++ k :: l))) := by funext l; rw [app1]
            have e2 : (fun l => ERG H (xt N (u ++ [k] ++ l))) = fun l => ERG H (xt N (u ++ k :: l)) := by funext l; rw [app1]
            rw [e1] at k2 k3
            rw [e2] at k3 k4
            rw [Nat.add_assoc] at k2 k3
            refine ⟨K, ⟨k2, k3, k4, fun i hi => ?_, fun e i b1 b2 b3 b4 => (k6 e i b1 b2 b3 b4).trans (jI e i b1 b2 b3 b4)⟩, hu2 _ ?_⟩
            · rw [k5 i (by rw [hl]; omega), jf 111 i (by decide) (Or.inr (by omega))]; exact a4 i hi
            · rw [if_neg (by decide), k1, q_bs]
              unfold c_306_3
              rw [nI_1]
          · refine no J (fun l hl2 z => j2 ?_) jf (hu2 _ (by rw [if_pos (show nI 0 = 0 from rfl)]))
            have := ERG_PRE (u := u ++ [k]) (l := l) (N := N) (by rw [app1]; exact z) (by rw [hl]; omega)
            rw [hl] at this
            exact BN_cg (fun i hi => (hxe i (by omega)).symm) (this.2 q (by omega))
        · have hMt : MH t 0 H W A := MH_fr ho hMs.2.1 (fun c hc i => by rw [ht.2 c i (by omega), u2_c (by omega)])
          show b_306_2 n (f_306 n fu) (c_306_0 n (f_306 n fu) m) (c_306_2 n (f_306 n fu) (c_306_0 n (f_306 n fu) m) m') (nI u.length) (nI N) (nI k) (nI (H.1 4)) t L = _
          unfold b_306_2
          rw [e237 hMt, q_bs, if_pos (nI_le (Nat.le_refl _) (by omega)), nI_1]
        · have hMt : MH t 0 H W A := MH_fr ho hMs.2.1 (fun c hc i => by rw [ht.2 c i (by omega), u2_c (by omega)])
          refine ⟨u2 t 105 q (nI 0), ⟨fun r hr => ?_, fun e i he => by rw [u2_c he]; exact ht.2 e i he⟩, ?_⟩
          · by_cases z : r = q
            · subst z; exact u2_s
            · rw [u2_o z]; exact ht.1 r (by omega)
          · show b_306_2 n (f_306 n fu) (c_306_0 n (f_306 n fu) m) (c_306_2 n (f_306 n fu) (c_306_0 n (f_306 n fu) m) m') (nI u.length) (nI N) (nI k) (nI q) t L = _
            unfold b_306_2
            rw [e237 hMt, q_bs, if_neg (nI_ge hq (by omega)), ku_if (by omega) (by omega), nI_clamp (by omega), nI_1]; rfl
      have hst : ∀ r, (if nI u.length ≤ 0 then c_306_1 n (f_306 n fu) (c_306_0 n (f_306 n fu) m) (nI u.length) (nI N) (nI k) s L else if pin (nI u.length - 1) 12 = true then ((f_250 n (s 111 ((nI u.length - 1).toNatClampNeg)) (nI k) s L).bind fun q4 => if ¬ q4 = 0 then c_306_1 n (f_306 n fu) (c_306_0 n (f_306 n fu) m) (nI u.length) (nI N) (nI k) s L else c_306_3 n (f_306 n fu) (c_306_0 n (f_306 n fu) m) (nI u.length) (nI N) (nI k) s L) else none) = r → c_306_0 n (f_306 n fu) (m + 1) (nI u.length) (nI N) (nI k) s L = r := fun r hr => by
        show b_306_0 n (f_306 n fu) (c_306_0 n (f_306 n fu) m) (nI u.length) (nI N) (nI k) s L = r
        unfold b_306_0
        rw [e237 hMs.2.1, q_bs, if_neg (nI_ge hk (by omega))]
        exact hr
      by_cases hz : u.length = 0
      · exact go (hst _ (by rw [if_pos (by rw [hz]; decide)]))
      · have e250 := e250 (L := L) (n := n) ho hMs.2.1 (a := wf u (u.length - 1)) (b := k) (by have := hW.2 (u.length - 1) (by omega); omega) (by omega) hn
        have hst2 : ∀ r, (if wf u (u.length - 1) = k ∨ dor H (wf u (u.length - 1)) k = true then c_306_1 n (f_306 n fu) (c_306_0 n (f_306 n fu) m) (nI u.length) (nI N) (nI k) s L else c_306_0 n (f_306 n fu) m (nI u.length) (nI N) (nI (k + 1)) s L) = r → c_306_0 n (f_306 n fu) (m + 1) (nI u.length) (nI N) (nI k) s L = r := fun r hr => hst r (by
          rw [if_neg (nI_nle (by omega) (by omega)), ku_1, pk_sub (by omega), ku_if (by omega) (by omega), nI_clamp (by omega), hs1 _ (by omega), e250, q_bs, q_b2, ← hr]
          unfold c_306_3
          rw [nI_1])
        by_cases q : wf u (u.length - 1) = k ∨ dor H (wf u (u.length - 1)) k = true
        · exact go (hst2 _ (by rw [if_pos q]))
        · refine no s (fun l hl2 z => q ?_) (fun _ _ _ _ => rfl) (hst2 _ (by rw [if_neg q]))
          have := z.1 (u.length - 1)
          rw [xt_l (by omega), xt_l (by omega), wf_l (by omega), show u.length - 1 + 1 = u.length by omega, wf_m] at this
          exact this
/-- the rings of a length, by the model -/
theorem e307 (ho : HOK H W A) (hM : MH I 0 H W A) (hn : 1000 ≤ n) {N : Nat} (h1 : 1 ≤ N) (h10 : N ≤ 10) : ∃ J, f_307 n (nI N) I L = some (nI (rgn H N), J, L) ∧ (rgn H N = 0 ↔ rg1 H N = none) ∧ rgn H N < 2 ^ 31 ∧ F112 N (rg1 H N) J ∧ (∀ c i, c ≠ 89 → c ≠ 104 → c ≠ 105 → c ≠ 111 → c ≠ 112 → J c i = I c i) ∧ ∀ i, i < 25 → J 89 i = I 89 i := by
  have o4 : H.1 4 ≤ 4 := ho.1.2.2.2.2.1
  obtain ⟨J, j1, j2, j3, j4⟩ := mlay (L := L) ho hM hn
  have hM0 : MR H W A (u2 J 89 39 0) := MK_u j2 (fun c i hc => u2_c (by omega)) (u2_o (by decide)) (u2_o (by decide))
  have hp : H.1 4 ^ N ≤ 4 ^ 10 := Nat.le_trans (Nat.pow_le_pow_left o4 N) (Nat.pow_le_pow_right (by omega) h10)
  have hp2 : 4 ^ 10 < 2 ^ 31 - 5 := by decide
  have hle : rgn H N ≤ 1 * H.1 4 ^ N := wsm_le (fun l _ => pI_le _)
  have hf0 : f_307 n (nI N) I L = if nI (H.1 4) ≤ 0 then some (0, u2 J 89 39 0, L) else (f_306 n 64 (nI 0) (nI N) (u2 J 89 39 0) L).bind fun q2 => some (q2.1 89 39, q2.1, q2.2) := by
    unfold f_307
    rw [j1, q_bs]
    (try dsimp only)
    rw [e237 hM0.2.1, q_bs]; rfl
  by_cases hz : H.1 4 = 0
  · have z1 : rgn H N = 0 := by
      have : H.1 4 ^ N = 0 := by rw [hz]; exact Nat.zero_pow h1
      omega
    have z2 : rg1 H N = none := by
      unfold rg1
      rw [hz]
      cases N with
      | zero => omega
      | succ N => rfl
    refine ⟨u2 J 89 39 0, by rw [hf0, if_pos (by rw [hz]; decide), z1]; rfl, ⟨fun _ => z2, fun _ => z1⟩, by omega, (fun x hx => by rw [z2] at hx; cases hx), fun c i a1 a2 _ _ _ => by rw [u2_c a1]; exact j3 c i a1 a2, fun i hi => by rw [u2_o (by omega)]; exact j4 i (by omega)⟩
  · obtain ⟨K, k1, k2, k3, k4, k5, k6⟩ := e306 (L := L) (H := H) (W := W) (A := A) hn h1 h10 N [] 0 none (u2 J 89 39 0) 64 (by simp) (by omega) hM0 ⟨rfl, fun k hk => absurd hk (by simp)⟩ (fun k hk => absurd hk (by simp)) (by rw [u2_s]; rfl) (by omega) ⟨fun _ => rfl, fun _ => rfl⟩ (fun x hx => by cases hx)
    have e1 : 0 + wsm (H.1 4) N (fun l => pI (ERG H (xt N ([] ++ l)))) = rgn H N := Nat.zero_add _
    have e2 : (none : Option (List Nat)).or ((fsw (H.1 4) N (fun l => ERG H (xt N ([] ++ l)))).map (fun l => [] ++ l)) = rg1 H N := by
      show (rg1 H N).map (fun l => l) = _
      cases rg1 H N <;> rfl
    rw [e1] at k2 k3
    rw [e2] at k3 k4
    refine ⟨K, ?_, k3, by omega, k4, fun c i a1 a2 a3 a4 a5 => ?_, fun i hi => ?_⟩
    · rw [hf0, if_neg (nI_nle (by omega) (by omega)), show f_306 n 64 (nI 0) (nI N) (u2 J 89 39 0) L = some (K, L) from k1, q_bs]
      (try dsimp only)
      rw [k2]
    · rw [k6 c i a3 a4 a5 (Or.inl a1), u2_c a1]; exact j3 c i a1 a2
    · rw [k6 89 i (by decide) (by decide) (by decide) (Or.inr (by omega)), u2_o (by omega)]; exact j4 i (by omega)
/-- the shortest, by the model -/
theorem e308 (ho : HOK H W A) (hM : MH I 0 H W A) (hn : 1000 ≤ n) : ∃ J, f_308 n I L = some (oI (rgv (rgs H)), J, L) ∧ (∀ x, rgs H = some x → ∀ k, k < x.length → J 112 k = nI (wf x k)) ∧ (∀ c i, c ≠ 89 → c ≠ 104 → c ≠ 105 → c ≠ 111 → c ≠ 112 → J c i = I c i) ∧ ∀ i, i < 25 → J 89 i = I 89 i := by
  unfold f_308
  refine lpGk (fun m k (s : FI) => c_308_0 n m (nI (k + 1)) s L) 10 (fun k s => frs (fun k => rg1 H (k + 1)) k = none ∧ (∀ c i, c ≠ 89 → c ≠ 104 → c ≠ 105 → c ≠ 111 → c ≠ 112 → s c i = I c i) ∧ ∀ i, i < 25 → s 89 i = I 89 i) (fun s => some (-1, s, L)) (fun r => ∃ J, r = some (oI (rgv (rgs H)), J, L) ∧ (∀ x, rgs H = some x → ∀ k, k < x.length → J 112 k = nI (wf x k)) ∧ (∀ c i, c ≠ 89 → c ≠ 104 → c ≠ 105 → c ≠ 111 → c ≠ 112 → J c i = I c i) ∧ ∀ i, i < 25 → J 89 i = I 89 i) n 0 I (by omega) (by omega) ⟨rfl, fun _ _ _ _ _ _ _ => rfl, fun _ _ => rfl⟩ (fun h => h) (fun s ⟨a, b, c⟩ e => ?_) (fun m s hs => ?_) (fun m k s hk hs => ?_)
  · refine ⟨s, Eq.trans e ?_, fun x hx => ?_, b, c⟩
    · unfold rgs
      rw [a]
      show _ = some (oI 0, s, L)
      rw [oI_0]
    · unfold rgs at hx; rw [a] at hx; cases hx
  · show b_308_0 n (c_308_0 n m) (nI (10 + 1)) s L = _
    unfold b_308_0
    rw [if_pos (by decide)]
  · obtain ⟨a, b, c⟩ := hs
    have hMs : MH s 0 H W A := MH_fr ho hM (fun c hc i => b c i (by omega) (by omega) (by omega) (by omega) (by omega))
    obtain ⟨J, j1, j2, j3, j4, j5, j6⟩ := e307 (L := L) ho hMs hn (N := k + 1) (by omega) (by omega)
    have hst : c_308_0 n (m + 1) (nI (k + 1)) s L = if nI (rgn H (k + 1)) ≤ 0 then c_308_0 n m (nI (k + 1 + 1)) J L else some (nI (k + 1), J, L) := by
      show b_308_0 n (c_308_0 n m) (nI (k + 1)) s L = _
      unfold b_308_0
      rw [show (10 : Int32) = nI 10 from rfl, if_neg (nI_nlt (by omega) (by omega)), j1, q_bs]
      (try dsimp only)
      rw [nI_1]
    have jf : ∀ c i, c ≠ 89 → c ≠ 104 → c ≠ 105 → c ≠ 111 → c ≠ 112 → J c i = I c i := fun c i a1 a2 a3 a4 a5 => (j5 c i a1 a2 a3 a4 a5).trans (b c i a1 a2 a3 a4 a5)
    have jg : ∀ i, i < 25 → J 89 i = I 89 i := fun i hi => (j6 i hi).trans (c i hi)
    cases hx : rg1 H (k + 1) with
    | none =>
      right
      refine ⟨J, ⟨?_, jf, jg⟩, by (try dsimp only); rw [hst, j2.mpr hx, if_pos (by decide)]⟩
      show (frs (fun k => rg1 H (k + 1)) k).or (rg1 H (k + 1)) = none
      rw [a, hx]; rfl
    | some x =>
      left
      have hgs : rgs H = some x := by
        refine frs_k (k := k + 1) ?_ (by omega)
        show (frs (fun k => rg1 H (k + 1)) k).or (rg1 H (k + 1)) = some x
        rw [a, hx]; rfl
      have hxl := rg1_len hx
      have hne : rgn H (k + 1) ≠ 0 := fun q => by rw [j2.mp q] at hx; cases hx
      refine ⟨J, ?_, fun y hy i hi => ?_, jf, jg⟩
      · (try dsimp only)
        rw [hst, if_neg (nI_nle (by omega) (by omega)), hgs]
        show _ = some (oI (x.length + 1), J, L)
        rw [oI_s, hxl]
      · rw [hgs] at hy
        cases hy
        exact j4 x hx i (by omega)
end RGM
