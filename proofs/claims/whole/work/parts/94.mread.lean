/-! LAYER 3: the model reads words, numbers, lines -/
section MRD
variable {I : FI} {L : FL} {t : Nat → Int32} {N n p : Nat} {o : Nat × Nat} {H : HD} {W : Nat → Nat}
/-- the model's reader at a state -/
def MQr (t : Nat → Int32) (N : Nat) (I : FI) (L : FL) (o : Nat × Nat) : Prop := MX t N I ∧ I 89 12 = nI o.1 ∧ o.1 ≤ 3 ∧ (o.1 = 0 → MT t N I L o.2) ∧ (o.1 ≠ 0 → I 89 13 = nI o.2) ∧ o.2 ≤ N
/-- what no reading touches -/
def kpc (c i : Nat) : Prop := (c ≠ 89 ∨ i < 7 ∨ 13 < i) ∧ (c ≠ 95 ∨ i < 4) ∧ (c ≠ 96 ∨ i < 36) ∧ (c ≠ 97 ∨ i < 32) ∧ (c ≠ 98 ∨ i < 48) ∧ (c ≠ 99 ∨ i < 40) ∧ (c ≠ 100 ∨ i < 48)
def FQ (I A : FI) (L B : FL) : Prop := (∀ c i, (c ≠ 89 ∨ i < 7 ∨ 13 < i) → A c i = I c i) ∧ ∀ c i, (c ≠ 89 ∨ i ≠ 11) → B c i = L c i
def FS (I A : FI) (L B : FL) : Prop := (∀ c i, kpc c i → A c i = I c i) ∧ ∀ c i, (c ≠ 89 ∨ i ≠ 11) → B c i = L c i
theorem FQ_r : FQ I I L L := ⟨fun _ _ _ => rfl, fun _ _ _ => rfl⟩
theorem FQ_t {A C : FI} {B D : FL} (h1 : FQ I A L B) (h2 : FQ A C B D) : FQ I C L D := ⟨fun c i h => (h2.1 c i h).trans (h1.1 c i h), fun c i h => (h2.2 c i h).trans (h1.2 c i h)⟩
theorem FS_t {A C : FI} {B D : FL} (h1 : FS I A L B) (h2 : FS A C B D) : FS I C L D := ⟨fun c i h => (h2.1 c i h).trans (h1.1 c i h), fun c i h => (h2.2 c i h).trans (h1.2 c i h)⟩
theorem FS_q {A : FI} {B : FL} (h : FQ I A L B) : FS I A L B := ⟨fun c i hc => h.1 c i hc.1, h.2⟩
theorem FQ_m {A : FI} {B : FL} (h : FM I A L B) : FQ I A L B := ⟨fun c i hc => h.1 c i (by omega), h.2⟩
theorem FS_u {c i : Nat} {v : Int32} (h : ¬ kpc c i) : FS I (u2 I c i v) L L := ⟨fun a j ha => by
    by_cases e : a = c
    · subst e
      rw [u2_o (fun q => h (by rw [← q]; exact ha))]
    · rw [u2_c e], fun _ _ _ => rfl⟩
theorem MQ_fr {K : FI} (h : MQr t N I L o) (e : ∀ c i, (c = 89 ∨ c = 94) → K c i = I c i) : MQr t N K L o := by
  obtain ⟨h1, h2, h3, h4, h5, h6⟩ := h
  refine ⟨MX_fr h1 (e 89 6 (by omega)) (fun i => e 94 i (by omega)), by rw [e 89 12 (by omega)]; exact h2, h3, fun q => ?_, fun q => by rw [e 89 13 (by omega)]; exact h5 q, h6⟩
  obtain ⟨m1, m2, m3, m4, m5⟩ := h4 q
  exact ⟨by rw [e 89 9 (by omega)]; exact m1, by rw [e 89 7 (by omega)]; exact m2, by rw [e 89 8 (by omega)]; exact m3, by rw [e 89 10 (by omega)]; exact m4, m5⟩
theorem e213 (h : MQr t N I L o) {k : Nat} (hk1 : 1 ≤ k) (hk : k ≤ 3) : ∃ A, f_213 (nI k) I L = some (A, L) ∧ MQr t N A L (flo k o) ∧ FQ I A L L := by
  have h' := h
  obtain ⟨h1, h2, h3, h4, h5, h6⟩ := h
  unfold f_213 flo
  rw [h2]
  by_cases z : o.1 = 0
  · rw [if_pos (by rw [z]; rfl), if_pos z]
    refine ⟨_, rfl, ⟨MX_fr h1 (by rw [u2_o (by decide), u2_o (by decide)]) (fun i => by rw [u2_c (by decide), u2_c (by decide)]), by rw [u2_o (by decide), u2_s], hk, fun q => by have q' : k = 0 := q; omega, fun _ => by rw [u2_s]; exact (h4 z).1, h6⟩, ⟨fun c i hc => ?_, fun _ _ _ => rfl⟩⟩
    by_cases e : c = 89
    · subst e; rw [u2_o (by omega), u2_o (by omega)]
    · rw [u2_c e, u2_c e]
  · rw [if_neg (nI_ne0 (by omega) (by omega)), if_neg z]
    exact ⟨I, rfl, h', FQ_r⟩
theorem e211q (h : MQr t N I L o) (z : o.1 = 0) (hn : 1000 ≤ n) : ∃ A B, f_211 n I L = some (A, B) ∧ MQr t N A B (0, nx t N o.2) ∧ FQ I A L B := by
  obtain ⟨h1, h2, h3, h4, h5, h6⟩ := h
  have hm := h4 z
  obtain ⟨A, B, a1, a2, a3⟩ := e211 (L := L) h1 (q := bh t N o.2) (bh_le h6).2 hm.2.1 hn
  exact ⟨A, B, a1, ⟨FM_X h1 a3, by rw [a3.1 89 12 (by omega), h2, z], by show 0 ≤ 3; omega, fun _ => a2, fun q => absurd rfl q, (nx_le h6).2⟩, FQ_m a3⟩
theorem lgc (a b : Int64) : lg_cmp a b = 0 ↔ a = b := by
  have h1 := q_cmp_lt a b
  have h2 := q_cmp_gt a b
  have i0 : (0 : Int32).toInt = 0 := rfl
  rw [fa_lt, i0] at h1 h2
  rw [fa_eq, i0, fa_eq64]
  omega
theorem MQ_f (h : MQr t N I L o) : I 89 12 = nI o.1 ∧ o.1 ≤ 3 := ⟨h.2.1, h.2.2.1⟩
/-- is it this word -/
theorem e214 (h : MQr t N I L o) {k : Nat} (h4 : 4 ≤ k) (h15 : k ≤ 15) : f_214 (lN (cdw.getD (k - 4) 0)) I L = some (bI (o.1 = 0 ∧ tk t N o.2 = k)) := by
  obtain ⟨h1, h2, h3, hm, h5, h6⟩ := h
  unfold f_214
  rw [h2]
  by_cases z : o.1 = 0
  · obtain ⟨m1, m2, m3, m4, m5⟩ := hm z
    have hw := mtk_w (t := t) (N := N) (p := o.2) h6 h4 h15
    have hl := mtk_le (t := t) (N := N) (p := o.2)
    rw [if_neg (fun q => q (by rw [z]; rfl)), m3]
    by_cases c1 : mtk t N o.2 = 1
    · rw [if_neg (fun q => q (by rw [c1]; rfl))]
      by_cases c2 : L 89 11 = lN (cdw.getD (k - 4) 0)
      · rw [if_neg (fun q => q ((lgc _ _).mpr c2)), bI_p ⟨z, hw.mp ⟨c1, by rw [← m5]; exact c2⟩⟩]
      · rw [if_pos (fun q => c2 ((lgc _ _).mp q)), bI_n (fun q => c2 (by rw [m5]; exact (hw.mpr q.2).2))]
    · rw [if_pos (by rw [ku_1, nI_eq (by omega) (by omega)]; exact c1), bI_n (fun q => c1 (hw.mpr q.2).1)]
  · rw [if_pos (nI_ne0 (by omega) (by omega)), bI_n (fun q => z q.1)]
/-- asks for a word -/
theorem e216 (h : MQr t N I L o) {k : Nat} (h4 : 4 ≤ k) (h15 : k ≤ 15) (hn : 1000 ≤ n) : ∃ A B, f_216 n (lN (cdw.getD (k - 4) 0)) I L = some (A, B) ∧ MQr t N A B (xp t N k o) ∧ FQ I A L B := by
  unfold f_216 f_215
  rw [e214 h h4 h15, q_bs, q_b2]
  by_cases c : o.1 = 0 ∧ tk t N o.2 = k
  · obtain ⟨A, B, a1, a2, a3⟩ := e211q (L := L) h c.1 hn
    rw [if_pos c, a1, q_bs, q_bs]
    (first | dsimp +instances only | skip)
    rw [if_pos (by decide)]
    exact ⟨A, B, rfl, by unfold xp; rw [if_pos c.1, if_pos c.2]; exact a2, a3⟩
  · rw [if_neg c, q_bs]
    (first | dsimp +instances only | skip)
    obtain ⟨A, a1, a2, a3⟩ := e213 h (k := 1) (by omega) (by omega)
    rw [if_neg (fun q => q rfl), show f_213 1 I L = some (A, L) from a1, q_bs]
    refine ⟨A, L, rfl, ?_, a3⟩
    unfold xp
    by_cases z : o.1 = 0
    · rw [if_pos z, if_neg (fun q => c ⟨z, q⟩)]
      unfold flo at a2
      rw [if_pos z] at a2
      exact a2
    · rw [if_neg z]
      rw [flo_f z] at a2
      exact a2
/-- a number's value, by both -/
theorem vmv_e (hp : o.2 ≤ N) (h2 : tk t N o.2 = 2) : ∃ v, (if o.2 < N ∧ ty t o.2 = 2 then vlm t o.2 (bh t N o.2 - o.2) else 0) = v ∧ v ≤ 1000009 ∧ (va t N o.2 = v ∨ (1000000 ≤ va t N o.2 ∧ 1000000 ≤ v)) := by
  have hq := tk_2.mp h2
  have hb := bh_gt (t := t) hq.1
  have hbe : bh t N o.2 = ru t N 2 (o.2 + 1) := by unfold bh; rw [if_pos hq.1, if_pos (Or.inr hq.2), hq.2]
  refine ⟨_, rfl, ?_⟩
  rw [if_pos hq]
  unfold va
  rw [if_pos h2]
  exact vlm_e _ (fun i hi => (dgt_le (by
    by_cases e : i = 0
    · rw [e, Nat.add_zero]; exact hq.2
    · rw [hbe] at hi; exact ru_in (p := o.2 + 1) (n := N) (by omega) (by omega) (by omega))).1)
theorem e217 (h : MQr t N I L o) {lo hx : Nat} (hlo : lo ≤ 1) (hh : hx ≤ 100) (hn : 1000 ≤ n) : ∃ A B, f_217 n (nI lo) (oI hx) I L = some (nI (nmv t N lo hx o), A, B) ∧ MQr t N A B (nmo t N lo hx o) ∧ FQ I A L B := by
  obtain ⟨f1, f2⟩ := MQ_f h
  unfold f_217
  rw [f1]
  by_cases z : o.1 = 0
  · have hm := h.2.2.2.1 z
    have h6 := h.2.2.2.2.2
    have hl := mtk_le (t := t) (N := N) (p := o.2)
    rw [if_pos (by rw [z]; rfl), hm.2.2.1]
    by_cases c : tk t N o.2 = 2
    · obtain ⟨v, v1, v2, v3⟩ := vmv_e h6 c
      have hv : I 89 10 = nI v := by rw [hm.2.2.2.1, v1]
      rw [if_pos (by rw [mtk_2.mpr c]; rfl), hv, e201, q_bs, q_b2, Int32.toInt_toInt64, Int32.toInt_toInt64, Int32.toInt_toInt64, nI_toInt (by omega), nI_toInt (by omega), oI_toInt (by omega)]
      unfold nmv nmo
      rw [if_pos z, if_pos c]
      by_cases d : lo ≤ va t N o.2 ∧ va t N o.2 < hx
      · have e : va t N o.2 = v := by omega
        obtain ⟨A, B, a1, a2, a3⟩ := e211q (L := L) h z hn
        rw [if_pos (by omega), if_pos ⟨z, c, d⟩, if_pos d, a1, q_bs, e]
        exact ⟨A, B, rfl, a2, a3⟩
      · obtain ⟨A, a1, a2, a3⟩ := e213 h (k := 2) (by omega) (by omega)
        unfold flo at a2
        rw [if_pos z] at a2
        rw [if_neg (by omega), if_neg (fun q => d q.2.2), if_neg d, show f_213 2 I L = some (A, L) from a1, q_bs]
        exact ⟨A, L, rfl, a2, a3⟩
    · obtain ⟨A, a1, a2, a3⟩ := e213 h (k := 1) (by omega) (by omega)
      unfold flo at a2
      rw [if_pos z] at a2
      unfold nmv nmo
      rw [if_neg (by rw [ku_2, nI_eq (by omega) (by omega)]; exact fun q => c (mtk_2.mp q)), if_neg (fun q => c q.2.1), if_pos z, if_neg c, show f_213 1 I L = some (A, L) from a1, q_bs]
      exact ⟨A, L, rfl, a2, a3⟩
  · rw [if_neg (nI_ne0 (by omega) (by omega)), nmo_f z]
    have hv : nmv t N lo hx o = lo := by unfold nmv; rw [if_neg (fun q => z q.1)]
    rw [hv]
    exact ⟨I, L, rfl, h, FQ_r⟩
theorem e218 (h : MQr t N I L o) {k : Nat} (h4 : 4 ≤ k) (h15 : k ≤ 15) {lo hx : Nat} (hlo : lo ≤ 1) (hh : hx ≤ 100) (hn : 1000 ≤ n) : ∃ A B, f_218 n (lN (cdw.getD (k - 4) 0)) (nI lo) (oI hx) I L = some (nI (nmv t N lo hx (xp t N k o)), A, B) ∧ MQr t N A B (nmo t N lo hx (xp t N k o)) ∧ FQ I A L B := by
  obtain ⟨A, B, a1, a2, a3⟩ := e216 (n := n) h h4 h15 hn
  obtain ⟨C, D, b1, b2, b3⟩ := e217 (n := n) a2 hlo hh hn
  refine ⟨C, D, ?_, b2, FQ_t a3 b3⟩
  unfold f_218
  rw [a1, q_bs]
  (first | dsimp +instances only | skip)
  rw [b1, q_bs]
theorem e219 (h : MQr t N I L o) (hn : 1000 ≤ n) : ∃ A B, f_219 n I L = some (A, B) ∧ MQr t N A B (xp t N 3 o) ∧ FQ I A L B := by
  obtain ⟨f1, f2⟩ := MQ_f h
  have cf : ∀ A : FI, A 89 12 = nI o.1 → o.1 ≠ 0 → c_219_0 n A L = some (A, L) := fun A hA z => by
    unfold c_219_0
    rw [if_pos (by rw [hA]; exact nI_ne0 (by omega) (by omega))]
  unfold f_219
  by_cases z : o.1 = 0
  · have hm := h.2.2.2.1 z
    have hl := mtk_le (t := t) (N := N) (p := o.2)
    rw [hm.2.2.1]
    unfold xp
    rw [if_pos z]
    by_cases c : tk t N o.2 = 3
    · obtain ⟨A, B, a1, a2, a3⟩ := e211q (L := L) h z hn
      rw [if_pos (by rw [mtk_3.mpr c]; rfl), if_pos c]
      unfold c_219_0
      rw [f1, if_neg (fun q => q (by rw [z]; rfl)), a1, q_bs]
      exact ⟨A, B, rfl, a2, a3⟩
    · obtain ⟨A, a1, a2, a3⟩ := e213 h (k := 1) (by omega) (by omega)
      unfold flo at a2
      rw [if_pos z] at a2
      rw [if_neg (by rw [ku_3, nI_eq (by omega) (by omega)]; exact fun q => c (mtk_3.mp q)), if_neg c, show f_213 1 I L = some (A, L) from a1, q_bs]
      refine ⟨A, L, ?_, a2, a3⟩
      unfold c_219_0
      (first | dsimp +instances only | skip)
      rw [if_pos (show ¬ A 89 12 = 0 from by rw [(MQ_f a2).1]; show ¬ nI 1 = 0; decide)]
  · rw [xp_f z]
    by_cases c : I 89 8 = 3
    · rw [if_pos c, cf I f1 z]; exact ⟨I, L, rfl, h, FQ_r⟩
    · have : f_213 1 I L = some (I, L) := by
        unfold f_213
        rw [if_neg (by rw [f1]; exact nI_ne0 (by omega) (by omega))]
      rw [if_neg c, this, q_bs, cf I f1 z]
      exact ⟨I, L, rfl, h, FQ_r⟩
theorem e223 {k : Nat} (hk : k < 9) : f_223 (nI k) I L = some (I 96 (36 + k)) := by
  unfold f_223
  rw [show (36 : Int32) = nI 36 from rfl, nI_add, ku_if (by omega) (by omega), nI_clamp (by omega)]
theorem e224 {k : Nat} (hk : k < 9) (v : Int32) : f_224 (nI k) v I L = some (u2 I 96 (36 + k) v, L) := by
  unfold f_224
  rw [show (36 : Int32) = nI 36 from rfl, nI_add, ku_if (by omega) (by omega), nI_clamp (by omega)]
/-- the model's draft -/
def DRMf (fl : Nat) (I : FI) (H : HD) (W : Nat → Nat) : Prop := I 95 4 = nI (H.1 0) ∧ (∀ j, j < 7 → I 96 (36 + j) = nI (H.1 (j + 1))) ∧ I 96 43 = nI 0 ∧ I 96 44 = nI fl ∧ (∀ r, r < H.1 4 → I 97 (32 + 2 * r) = nI (H.2 0 r)) ∧ (∀ r, r < H.1 4 → I 97 (32 + 2 * r + 1) = nI (W r)) ∧ (∀ k, k < H.1 5 → I 98 (48 + 2 * k) = nI (H.2 4 k)) ∧ (∀ k, k < H.1 5 → I 98 (48 + 2 * k + 1) = nI (H.2 5 k)) ∧ (∀ v, v < H.1 6 → I 99 (40 + 2 * v) = nI (H.2 1 v)) ∧ (∀ v, v < H.1 6 → I 99 (40 + 2 * v + 1) = nI (H.2 2 v)) ∧ (∀ i, i < H.1 7 → I 100 (48 + i) = nI (H.2 3 i))
abbrev DRM (I : FI) (H : HD) (W : Nat → Nat) : Prop := DRMf (if H.1 7 = 0 then 0 else 1) I H W
theorem DRM_fr {fl : Nat} {K : FI} (h : DRMf fl I H W) (e : ∀ c i, 95 ≤ c → c ≤ 100 → K c i = I c i) : DRMf fl K H W := by
  obtain ⟨h1, h2, h3, h4, h5, h6, h7, h8, h9, h10, h11⟩ := h
  refine ⟨by rw [e _ _ (by omega) (by omega)]; exact h1, fun j hj => ?_, by rw [e _ _ (by omega) (by omega)]; exact h3, by rw [e _ _ (by omega) (by omega)]; exact h4, fun j hj => ?_, fun j hj => ?_, fun j hj => ?_, fun j hj => ?_, fun j hj => ?_, fun j hj => ?_, fun j hj => ?_⟩
  · rw [e _ _ (by omega) (by omega)]; exact h2 j hj
  · rw [e _ _ (by omega) (by omega)]; exact h5 j hj
  · rw [e _ _ (by omega) (by omega)]; exact h6 j hj
  · rw [e _ _ (by omega) (by omega)]; exact h7 j hj
  · rw [e _ _ (by omega) (by omega)]; exact h8 j hj
  · rw [e _ _ (by omega) (by omega)]; exact h9 j hj
  · rw [e _ _ (by omega) (by omega)]; exact h10 j hj
  · rw [e _ _ (by omega) (by omega)]; exact h11 j hj
theorem DRM_q {fl : Nat} {A : FI} {B : FL} (h : DRMf fl I H W) (e : FQ I A L B) : DRMf fl A H W := DRM_fr h (fun c i h1 h2 => e.1 c i (by omega))
/-- a count told anew: law, odds, minutes -/
theorem DRM_hs {j v : Nat} (h : DRM I H W) (hj : j < 3) : DRM (u2 I 96 (36 + j) (nI v)) (hs H (j + 1) v) W := by
  obtain ⟨h1, h2, h3, h4, h5, h6, h7, h8, h9, h10, h11⟩ := h
  have e0 : (hs H (j + 1) v).1 0 = H.1 0 := hs_o (by omega)
  have e4 : (hs H (j + 1) v).1 4 = H.1 4 := hs_o (by omega)
  have e5 : (hs H (j + 1) v).1 5 = H.1 5 := hs_o (by omega)
  have e6 : (hs H (j + 1) v).1 6 = H.1 6 := hs_o (by omega)
  have e7 : (hs H (j + 1) v).1 7 = H.1 7 := hs_o (by omega)
  refine ⟨by rw [u2_c (by decide), e0]; exact h1, fun i hi => ?_, by rw [u2_o (by omega)]; exact h3, by rw [u2_o (by omega), e7]; exact h4, fun r hr => ?_, fun r hr => ?_, fun r hr => ?_, fun r hr => ?_, fun r hr => ?_, fun r hr => ?_, fun r hr => ?_⟩
  · by_cases e : i = j
    · subst e; rw [u2_s, hs_s]
    · rw [u2_o (by omega), hs_o (by omega)]; exact h2 i hi
  · rw [e4] at hr; rw [u2_c (by decide)]; exact h5 r hr
  · rw [e4] at hr; rw [u2_c (by decide)]; exact h6 r hr
  · rw [e5] at hr; rw [u2_c (by decide)]; exact h7 r hr
  · rw [e5] at hr; rw [u2_c (by decide)]; exact h8 r hr
  · rw [e6] at hr; rw [u2_c (by decide)]; exact h9 r hr
  · rw [e6] at hr; rw [u2_c (by decide)]; exact h10 r hr
  · rw [e7] at hr; rw [u2_c (by decide)]; exact h11 r hr
theorem e225 (h : MQr t N I L o) {R : Nat} (h4 : I 96 39 = nI R) (hR : R ≤ 4) (hn : 1000 ≤ n) : ∃ A B, f_225 n I L = some (nI (nmv t N 0 R o), A, B) ∧ MQr t N A B (nmo t N 0 R o) ∧ FQ I A L B := by
  obtain ⟨A, B, a1, a2, a3⟩ := e217 (n := n) h (lo := 0) (hx := R) (by omega) (by omega) hn
  refine ⟨A, B, ?_, a2, a3⟩
  unfold f_225
  rw [show f_223 3 I L = some (I 96 39) from e223 (k := 3) (by omega), q_bs, h4, show f_217 n 0 (nI R - 1) I L = some (nI (nmv t N 0 R o), A, B) from a1, q_bs]
/-- a room -/
theorem e226 (h : MQr t N I L (xp t N 8 o)) (hD : DRM I H W) (hR : H.1 4 < 4) (hn : 1000 ≤ n) : ∃ A B, f_226 n I L = some (A, B) ∧ MQr t N A B (rmO t N o) ∧ DRM A (rmH t N o H) (rmW t N o H W) ∧ FS I A L B := by
  have i4 : I 96 39 = nI (H.1 4) := hD.2.1 3 (by omega)
  obtain ⟨A1, B1, a1, a2, a3⟩ := e218 (n := n) h (k := 9) (by omega) (by omega) (lo := 1) (hx := 8) (by omega) (by omega) hn
  rw [oI_8] at a1
  have a4 := MQ_fr (K := u2 A1 97 (32 + 2 * H.1 4) (nI (nmv t N 1 8 (rmA t N o)))) a2 (fun c i hc => u2_c (by omega))
  obtain ⟨A2, B2, b1, b2, b3⟩ := e218 (n := n) a4 (k := 10) (by omega) (by omega) (lo := 0) (hx := 100) (by omega) (by omega) hn
  rw [oI_100] at b1
  have i42 : A2 96 39 = nI (H.1 4) := by rw [b3.1 96 39 (by omega), u2_c (by decide), a3.1 96 39 (by omega)]; exact i4
  refine ⟨u2 (u2 A2 97 (32 + 2 * H.1 4 + 1) (nI (nmv t N 0 100 (rmB t N o)))) 96 39 (nI (H.1 4 + 1)), B2, ?_, MQ_fr b2 (fun c i hc => by rw [u2_c (by omega), u2_c (by omega)]), ?_, FS_t (FS_t (FS_t (FS_t (FS_q a3) (FS_u (by unfold kpc; omega))) (FS_q b3)) (FS_u (by unfold kpc; omega))) (FS_u (by unfold kpc; omega))⟩
  · unfold f_226
    rw [show f_223 3 I L = some (I 96 39) from e223 (k := 3) (by omega), q_bs, i4, show f_218 n 453701 1 7 I L = some (nI (nmv t N 1 8 (rmA t N o)), A1, B1) from a1, q_bs]
    (first | dsimp +instances only | skip)
    rw [ku_16, nI_add, ku_2, pk_mul, show 2 * (16 + H.1 4) = 32 + 2 * H.1 4 by omega, ku_if (by omega) (by omega), nI_clamp (by omega), show f_218 n 12532058 0 99 (u2 A1 97 (32 + 2 * H.1 4) (nI (nmv t N 1 8 (rmA t N o)))) B1 = some (nI (nmv t N 0 100 (rmB t N o)), A2, B2) from b1, q_bs]
    (first | dsimp +instances only | skip)
    rw [nI_1, ku_if (by omega) (by omega), nI_clamp (by omega), show f_223 3 (u2 A2 97 (32 + 2 * H.1 4 + 1) (nI (nmv t N 0 100 (rmB t N o)))) B2 = some (u2 A2 97 (32 + 2 * H.1 4 + 1) (nI (nmv t N 0 100 (rmB t N o))) 96 39) from e223 (k := 3) (by omega), q_bs, u2_c (by decide), i42, nI_1, show f_224 3 (nI (H.1 4 + 1)) (u2 A2 97 (32 + 2 * H.1 4 + 1) (nI (nmv t N 0 100 (rmB t N o)))) B2 = some (u2 (u2 A2 97 (32 + 2 * H.1 4 + 1) (nI (nmv t N 0 100 (rmB t N o)))) 96 39 (nI (H.1 4 + 1)), B2) from e224 (k := 3) (by omega) _, q_bs]
  · have hA : ∀ c i, 95 ≤ c → c ≤ 100 → c ≠ 97 → A2 c i = I c i := fun c i x y z => by rw [b3.1 c i (by omega), u2_c z, a3.1 c i (by omega)]
    have hA7 : ∀ i, A2 97 i = u2 I 97 (32 + 2 * H.1 4) (nI (nmv t N 1 8 (rmA t N o))) 97 i := fun i => by
      rw [b3.1 97 i (by omega)]
      by_cases q : i = 32 + 2 * H.1 4
      · rw [q, u2_s, u2_s]
      · rw [u2_o q, u2_o q, a3.1 97 i (by omega)]
    obtain ⟨h1, h2, h3, h4, h5, h6, h7, h8, h9, h10, h11⟩ := hD
    have e4 : (rmH t N o H).1 4 = H.1 4 + 1 := hs_s
    have eo : ∀ j, j ≠ 4 → (rmH t N o H).1 j = H.1 j := fun j hj => hs_o hj
    have ev : ∀ b i, b ≠ 0 → (rmH t N o H).2 b i = H.2 b i := fun b i hb => ha_o (Or.inl hb)
    refine ⟨?_, fun j hj => ?_, ?_, ?_, fun r hr => ?_, fun r hr => ?_, fun r hr => ?_, fun r hr => ?_, fun r hr => ?_, fun r hr => ?_, fun r hr => ?_⟩
    · rw [u2_c (by decide), u2_c (by decide), hA 95 4 (by omega) (by omega) (by omega), eo 0 (by decide)]; exact h1
    · by_cases e : j = 3
      · subst e; rw [u2_s, e4]
      · rw [u2_o (by omega), u2_c (by decide), hA _ _ (by omega) (by omega) (by omega), eo _ (by omega)]; exact h2 j hj
    · rw [u2_o (by omega), u2_c (by decide), hA _ _ (by omega) (by omega) (by omega)]; exact h3
    · rw [u2_o (by omega), u2_c (by decide), hA _ _ (by omega) (by omega) (by omega), eo 7 (by decide)]; exact h4
    · rw [e4] at hr
      rw [u2_c (by decide), u2_o (by omega), hA7]
      by_cases e : r = H.1 4
      · subst e; rw [u2_s]; exact congrArg nI (ha_s (H := H) (a := 0)).symm
      · rw [u2_o (by omega), h5 r (by omega)]; exact congrArg nI (ha_o (H := H) (Or.inr e)).symm
    · rw [e4] at hr
      rw [u2_c (by decide)]
      unfold rmW
      by_cases e : r = H.1 4
      · subst e; rw [u2_s, if_pos rfl]
      · rw [u2_o (by omega), if_neg e, hA7, u2_o (by omega)]; exact h6 r (by omega)
    · rw [eo 5 (by decide)] at hr
      rw [u2_c (by decide), u2_c (by decide), hA _ _ (by omega) (by omega) (by omega), ev _ _ (by decide)]; exact h7 r hr
    · rw [eo 5 (by decide)] at hr
      rw [u2_c (by decide), u2_c (by decide), hA _ _ (by omega) (by omega) (by omega), ev _ _ (by decide)]; exact h8 r hr
    · rw [eo 6 (by decide)] at hr
      rw [u2_c (by decide), u2_c (by decide), hA _ _ (by omega) (by omega) (by omega), ev _ _ (by decide)]; exact h9 r hr
    · rw [eo 6 (by decide)] at hr
      rw [u2_c (by decide), u2_c (by decide), hA _ _ (by omega) (by omega) (by omega), ev _ _ (by decide)]; exact h10 r hr
    · rw [eo 7 (by decide)] at hr
      rw [u2_c (by decide), u2_c (by decide), hA _ _ (by omega) (by omega) (by omega), ev _ _ (by decide)]; exact h11 r hr
/-- a visitor -/
theorem e228 (h : MQr t N I L (xp t N 12 o)) (hD : DRM I H W) (o4 : H.1 4 ≤ 4) (hR : H.1 6 < 5) (hn : 1000 ≤ n) : ∃ A B, f_228 n I L = some (A, B) ∧ MQr t N A B (vsO t N (H.1 4) o) ∧ DRM A (vsH t N o H) W ∧ FS I A L B := by
  have i4 : I 96 39 = nI (H.1 4) := hD.2.1 3 (by omega)
  have i6 : I 96 41 = nI (H.1 6) := hD.2.1 5 (by omega)
  obtain ⟨A0, B0, z1, z2, z3⟩ := e216 (n := n) h (k := 13) (by omega) (by omega) hn
  obtain ⟨A1, B1, a1, a2, a3⟩ := e225 (n := n) z2 (R := H.1 4) (by rw [z3.1 96 39 (by omega)]; exact i4) o4 hn
  have a4 := MQ_fr (K := u2 A1 99 (40 + 2 * H.1 6) (nI (nmv t N 0 (H.1 4) (vsA t N o)))) a2 (fun c i hc => u2_c (by omega))
  obtain ⟨A2, B2, b1, b2, b3⟩ := e218 (n := n) a4 (k := 14) (by omega) (by omega) (lo := 0) (hx := 30) (by omega) (by omega) hn
  rw [oI_30] at b1
  have i62 : A2 96 41 = nI (H.1 6) := by rw [b3.1 96 41 (by omega), u2_c (by decide), a3.1 96 41 (by omega), z3.1 96 41 (by omega)]; exact i6
  refine ⟨u2 (u2 A2 99 (40 + 2 * H.1 6 + 1) (nI (nmv t N 0 30 (vsB t N (H.1 4) o)))) 96 41 (nI (H.1 6 + 1)), B2, ?_, MQ_fr b2 (fun c i hc => by rw [u2_c (by omega), u2_c (by omega)]), ?_, FS_t (FS_t (FS_t (FS_t (FS_q (FQ_t z3 a3)) (FS_u (by unfold kpc; omega))) (FS_q b3)) (FS_u (by unfold kpc; omega))) (FS_u (by unfold kpc; omega))⟩
  · unfold f_228
    rw [show f_223 5 I L = some (I 96 41) from e223 (k := 5) (by omega), q_bs, i6, show f_216 n 257 I L = some (A0, B0) from z1, q_bs]
    (first | dsimp +instances only | skip)
    rw [a1, q_bs]
    (first | dsimp +instances only | skip)
    rw [show (20 : Int32) = nI 20 from rfl, nI_add, ku_2, pk_mul, show 2 * (20 + H.1 6) = 40 + 2 * H.1 6 by omega, ku_if (by omega) (by omega), nI_clamp (by omega), show f_218 n 47 0 29 (u2 A1 99 (40 + 2 * H.1 6) (nI (nmv t N 0 (H.1 4) (xp t N 13 (xp t N 12 o))))) B1 = some (nI (nmv t N 0 30 (vsB t N (H.1 4) o)), A2, B2) from b1, q_bs]
    (first | dsimp +instances only | skip)
    rw [nI_1, ku_if (by omega) (by omega), nI_clamp (by omega), show f_223 5 (u2 A2 99 (40 + 2 * H.1 6 + 1) (nI (nmv t N 0 30 (vsB t N (H.1 4) o)))) B2 = some (u2 A2 99 (40 + 2 * H.1 6 + 1) (nI (nmv t N 0 30 (vsB t N (H.1 4) o))) 96 41) from e223 (k := 5) (by omega), q_bs, u2_c (by decide), i62, nI_1, show f_224 5 (nI (H.1 6 + 1)) (u2 A2 99 (40 + 2 * H.1 6 + 1) (nI (nmv t N 0 30 (vsB t N (H.1 4) o)))) B2 = some (u2 (u2 A2 99 (40 + 2 * H.1 6 + 1) (nI (nmv t N 0 30 (vsB t N (H.1 4) o)))) 96 41 (nI (H.1 6 + 1)), B2) from e224 (k := 5) (by omega) _, q_bs]
  · have hA : ∀ c i, 95 ≤ c → c ≤ 100 → c ≠ 99 → A2 c i = I c i := fun c i x y z => by rw [b3.1 c i (by omega), u2_c z, a3.1 c i (by omega), z3.1 c i (by omega)]
    have hA7 : ∀ i, A2 99 i = u2 I 99 (40 + 2 * H.1 6) (nI (nmv t N 0 (H.1 4) (vsA t N o))) 99 i := fun i => by
      rw [b3.1 99 i (by omega)]
      by_cases q : i = 40 + 2 * H.1 6
      · rw [q, u2_s, u2_s]
      · rw [u2_o q, u2_o q, a3.1 99 i (by omega), z3.1 99 i (by omega)]
    obtain ⟨h1, h2, h3, h4, h5, h6, h7, h8, h9, h10, h11⟩ := hD
    have e4 : (vsH t N o H).1 6 = H.1 6 + 1 := hs_s
    have eo : ∀ j, j ≠ 6 → (vsH t N o H).1 j = H.1 j := fun j hj => hs_o hj
    have ev : ∀ b i, (vsH t N o H).2 b i = (ha (ha H 1 (H.1 6) (nmv t N 0 (H.1 4) (vsA t N o))) 2 (H.1 6) (nmv t N 0 30 (vsB t N (H.1 4) o))).2 b i := fun _ _ => rfl
    have ew : ∀ b i, b ≠ 1 → b ≠ 2 → (vsH t N o H).2 b i = H.2 b i := fun b i x y => by rw [ev, ha_o (Or.inl y), ha_o (Or.inl x)]
    refine ⟨?_, fun j hj => ?_, ?_, ?_, fun r hr => ?_, fun r hr => ?_, fun r hr => ?_, fun r hr => ?_, fun r hr => ?_, fun r hr => ?_, fun r hr => ?_⟩
    · rw [u2_c (by decide), u2_c (by decide), hA 95 4 (by omega) (by omega) (by omega), eo 0 (by decide)]; exact h1
    · by_cases e : j = 5
      · subst e; rw [u2_s, e4]
      · rw [u2_o (by omega), u2_c (by decide), hA _ _ (by omega) (by omega) (by omega), eo _ (by omega)]; exact h2 j hj
    · rw [u2_o (by omega), u2_c (by decide), hA _ _ (by omega) (by omega) (by omega)]; exact h3
    · rw [u2_o (by omega), u2_c (by decide), hA _ _ (by omega) (by omega) (by omega), eo 7 (by decide)]; exact h4
    · rw [eo 4 (by decide)] at hr
      rw [u2_c (by decide), u2_c (by decide), hA _ _ (by omega) (by omega) (by omega), ew _ _ (by decide) (by decide)]; exact h5 r hr
    · rw [eo 4 (by decide)] at hr
      rw [u2_c (by decide), u2_c (by decide), hA _ _ (by omega) (by omega) (by omega)]; exact h6 r hr
    · rw [eo 5 (by decide)] at hr
      rw [u2_c (by decide), u2_c (by decide), hA _ _ (by omega) (by omega) (by omega), ew _ _ (by decide) (by decide)]; exact h7 r hr
    · rw [eo 5 (by decide)] at hr
      rw [u2_c (by decide), u2_c (by decide), hA _ _ (by omega) (by omega) (by omega), ew _ _ (by decide) (by decide)]; exact h8 r hr
    · rw [e4] at hr
      rw [u2_c (by decide), u2_o (by omega), hA7, ev, ha_o (Or.inl (by decide))]
      by_cases e : r = H.1 6
      · subst e; rw [u2_s, ha_s]
      · rw [u2_o (by omega), ha_o (Or.inr e)]; exact h9 r (by omega)
    · rw [e4] at hr
      rw [u2_c (by decide), ev]
      by_cases e : r = H.1 6
      · subst e; rw [u2_s, ha_s]
      · rw [u2_o (by omega), ha_o (Or.inr e), ha_o (Or.inl (by decide)), hA7, u2_o (by omega)]; exact h10 r (by omega)
    · rw [eo 7 (by decide)] at hr
      rw [u2_c (by decide), u2_c (by decide), hA _ _ (by omega) (by omega) (by omega), ew _ _ (by decide) (by decide)]; exact h11 r hr
end MRD
