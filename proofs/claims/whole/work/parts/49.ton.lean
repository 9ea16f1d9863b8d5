/-! LAYER 3: tonight, on both sides; what is read of a night -/
section TON
variable {I : FI} {L : FL} {H : HD} {W : Nat → Nat} {A : AD} {g : NG} {n : Nat}
def gN (H : HD) (A : AD) (md : Nat) : NG := ((H.1 1, md, 0, npN A A.1), H.2 0, gst H A (fun _ => true))
theorem gst_cg {cm cm' : Nat → Bool} (h : ∀ k, k < H.1 6 → cm k = cm' k) (t : Nat) : gst H A cm t = gst H A cm' t := by
  unfold gst
  exact gal_cg A (gvs_cg t _ h) _
theorem tb31 : ∀ k, k < 5 → (31 : Nat).testBit k = true := by decide
theorem gN_ok (ho : HOK H W A) {md : Nat} (hmd : md < 2) : GOK H (gN H A md) := by
  have := gok0 ho (fun _ => true)
  exact ⟨this.1, by show md ≤ 1; omega, this.2.2⟩
/-- another mode, law, turn: of a night made ready -/
theorem NRd_u {l md tn np l' md' tn' : Nat} {wt gs : Nat → Nat} {J : FI} (h : NRd I H ((l, md, tn, np), wt, gs)) (e : ∀ a i, 26 ≤ a → a ≤ 28 → (a ≠ 26 ∨ (i ≠ 6 ∧ i ≠ 7 ∧ i ≠ 8)) → J a i = I a i) (e6 : J 26 6 = nI l') (e7 : J 26 7 = nI tn') (e8 : J 26 8 = nI md') : NRd J H ((l', md', tn', np), wt, gs) := by
  obtain ⟨r1, r2, r3, r4, r5, r6, r7, r8⟩ := h
  exact ⟨by rw [e 26 10 (by decide) (by decide) (Or.inr (by decide))]; exact r1, by rw [e 26 11 (by decide) (by decide) (Or.inr (by decide))]; exact r2, e6, e7, e8, by rw [e 26 9 (by decide) (by decide) (Or.inr (by decide))]; exact r6, fun r hr => by rw [e 27 r (by decide) (by decide) (Or.inl (by decide))]; exact r7 r hr, fun r hr => by rw [e 28 r (by decide) (by decide) (Or.inl (by decide))]; exact r8 r hr⟩
theorem NRd_gs {l md tn np : Nat} {wt gs gs' : Nat → Nat} (h : NRd I H ((l, md, tn, np), wt, gs)) (e : ∀ j, j < 30 → gs j = gs' j) : NRd I H ((l, md, tn, np), wt, gs') := by
  obtain ⟨r1, r2, r3, r4, r5, r6, r7, r8⟩ := h
  exact ⟨r1, r2, r3, r4, r5, r6, r7, fun j hj => by rw [r8 j hj]; exact congrArg nI (e j hj)⟩
theorem prep31 (ho : HOK H W A) (hC : CH I 3 11 H W A) (hn : 1000 ≤ n) : ∃ J, f_53 n 31 I L = some (J, L) ∧ NRd J H (gN H A 0) ∧ ∀ a i, a ≠ 26 → a ≠ 27 → a ≠ 28 → J a i = I a i := by
  have o6 : H.1 6 ≤ 5 := ho.1.2.2.2.2.2.2.1
  obtain ⟨J, j1, j2, j3⟩ := e53 (n := n) (L := L) ho hC (cm := 31) (by decide) hn
  exact ⟨J, j1, NRd_gs j2 (fun j _ => gst_cg (fun k hk => tb31 k (by omega)) j), j3⟩
theorem tonC (ho : HOK H W A) (hC : CH I 3 11 H W A) {md : Nat} (hmd : md < 2) (hn : 1000 ≤ n) : ∃ J, f_191 n (nI md) I L = some (J, L) ∧ NDn J H (gN H A md) ∧ CH J 3 11 H W A ∧ ∀ a i, a < 26 ∨ 32 < a → J a i = I a i := by
  obtain ⟨J, j1, j2, j3⟩ := prep31 (n := n) (L := L) ho hC hn
  have hr : NRd (u2 J 26 8 (nI md)) H (gN H A md) := NRd_u j2 (fun a i _ _ h => by
    by_cases e : a = 26
    · subst e
      rcases h with h | h
      · exact absurd rfl h
      · exact u2_o h.2.2
    · exact u2_c e) ((u2_o (by decide)).trans j2.2.2.1) ((u2_o (by decide)).trans j2.2.2.2.1) u2_s
  have hC1 : CH (u2 J 26 8 (nI md)) 3 11 H W A := CH_u hC (fun a i h => by rw [u2_c (by omega), j3 a i (by omega) (by omega) (by omega)])
  obtain ⟨K, k1, k2, k3⟩ := e55 (n := n) (L := L) ho hC1 (gN_ok ho hmd) hr hn
  refine ⟨K, ?_, k2, CH_u hC1 (fun a i h => k3 a i (by omega)), fun a i h => ?_⟩
  · unfold f_191
    rw [j1, q_bs, k1, q_bs]
  · rw [k3 a i (by omega), u2_c (by omega), j3 a i (by omega) (by omega) (by omega)]
theorem tonM (ho : HOK H W A) (hM : MH I 0 H W A) {md : Nat} (hmd : md < 2) (hn : 1000 ≤ n) : ∃ K, f_261 n (nI md) I L = some (K, L) ∧ NMk K H (gN H A md) (H.1 3) ∧ (∀ r, r < H.1 4 → K 104 r = nI (H.2 0 r)) ∧ MH K 0 H W A ∧ (∀ c i, c ≠ 89 → (c < 103 ∨ 108 < c) → K c i = I c i) ∧ ∀ i, (i < 25 ∨ 28 < i) → K 89 i = I 89 i := by
  obtain ⟨J, j1, j2, j3, j4, j5⟩ := e252 (n := n) (L := L) ho hM hn
  have hMj : MH J 0 H W A := MH_fr ho hM (fun c hc i => j4 c i (by omega) (by omega))
  obtain ⟨K, k1, k2, k3⟩ := e260 (n := n) (L := L) (g := gN H A md) ho hMj (gN_ok ho hmd) ⟨j2.1, j2.2.1, j2.2.2⟩ j3 rfl (fun t _ => (gsm_0 H A t).symm) hn
  refine ⟨K, ?_, k2, fun r hr => ?_, MH_fr ho hMj (fun c hc i => k3 c i (by omega)), fun c i h1 h2 => ?_, fun i hi => ?_⟩
  · unfold f_261
    rw [j1, q_bs]
    show (f_260 n (nI (gN H A md).1.2.1) J L).bind _ = _
    rw [k1, q_bs]
  · rw [k3 104 r (by omega)]; exact j2.2.2 r hr
  · rw [k3 c i (by omega), j4 c i h1 (by omega)]
  · rw [k3 89 i (by omega), j5 i hi]
/-- what a call of both that only goes through nights leaves -/
theorem VV_q {KP : KPT} {RP : RPT} {kp nh nh' rh : Option Nat} {tl : List (Nat × Nat)} {rl : List (List (Option Nat))} {I I' : FI} {L : FL} (h : VV KP RP kp nh rh tl rl I L) (e : ∀ c i, (c < 26 ∨ (35 ≤ c ∧ c < 103 ∧ c ≠ 89) ∨ 113 < c) → I' c i = I c i) (e9 : ∀ i, i = 6 ∨ i = 14 ∨ i = 15 → I' 89 i = I 89 i) : VV KP RP kp nh' rh tl rl I' L := by
  refine VV_fr h (fun a i ha => ?_) Sm_r
  by_cases e1 : a = 89
  · subst e1
    refine e9 i ?_
    rw [show fkey 89 i = 1000 + i from rfl] at ha
    unfold vkA vkB vkR vkK at ha
    simp only [Bool.or_eq_true, Bool.and_eq_true, decide_eq_true_eq, beq_iff_eq] at ha
    omega
  · refine e a i ?_
    rw [show fkey a i = a from if_neg e1] at ha
    unfold vkA vkB vkR vkK at ha
    simp only [Bool.or_eq_true, Bool.and_eq_true, decide_eq_true_eq, beq_iff_eq] at ha
    omega
/-! read-outs -/
def brk (H : HD) (g : NG) (t : Nat) : Nat → Nat
  | 0 => 0
  | k + 1 => if na H g t k = 99 then brk H g t k else brk H g t k ||| 2 ^ k
def brn (H : HD) (g : NG) (t : Nat) : Nat := brk H g t (H.1 4)
theorem brk_lt (H : HD) (g : NG) (t : Nat) : ∀ k, k ≤ 4 → brk H g t k < 16
  | 0, _ => by unfold brk; omega
  | k + 1, h => by
    have := brk_lt H g t k (by omega)
    unfold brk
    split
    · exact this
    · exact or16 this (pw4 k (by omega))
theorem brn_lt (ho : HOK H W A) (g : NG) (t : Nat) : brn H g t < 16 := brk_lt H g t _ ho.1.2.2.2.2.1
theorem brk_tb (H : HD) (g : NG) (t r : Nat) : ∀ k, (brk H g t k).testBit r = true ↔ r < k ∧ na H g t r ≠ 99
  | 0 => by unfold brk; simp
  | k + 1 => by
    have ih := brk_tb H g t r k
    unfold brk
    by_cases h : na H g t k = 99
    · rw [if_pos h, ih]
      constructor
      · rintro ⟨a, b⟩; exact ⟨by omega, b⟩
      · rintro ⟨a, b⟩
        refine ⟨?_, b⟩
        rcases (show r < k ∨ r = k by omega) with c | rfl
        · exact c
        · exact absurd h b
    · rw [if_neg h, tb_or, tb_pw, Bool.or_eq_true, ih, decide_eq_true_eq]
      constructor
      · rintro (⟨a, b⟩ | rfl)
        · exact ⟨by omega, b⟩
        · exact ⟨by omega, h⟩
      · rintro ⟨a, b⟩
        rcases (show r < k ∨ r = k by omega) with c | c
        · exact Or.inl ⟨c, b⟩
        · exact Or.inr c.symm
theorem c63 (ho : HOK H W A) (hN : NDn I H g) (hg : GOK H g) {t : Nat} (ht : t < H.1 3) (hn : 1000 ≤ n) : f_63 n (nI t) I L = some (nI (brn H g t)) := by
  have o4 : H.1 4 ≤ 4 := ho.1.2.2.2.2.1
  have o3 : H.1 3 ≤ 30 := ho.1.2.2.2.1
  obtain ⟨s', hs, e⟩ := lpE (fun m k (b : Nat) => c_63_0 n I L m (nI t) (nI b) (nI k)) (H.1 4) (fun k b => b = brk H g t k) (fun b => some (nI b)) (fun m s hs => by
      show b_63_0 n I L (c_63_0 n I L m) (nI t) (nI s) (nI (H.1 4)) = _
      unfold b_63_0
      rw [hN.1.1, if_pos (nI_le (Nat.le_refl _) (by omega))]) (fun m k s hk hs => by
      have hb := na_b H g k t
      have hg5 := hg.2.2.2.2.1 k hk
      refine ⟨brk H g t (k + 1), rfl, ?_⟩
      show b_63_0 n I L (c_63_0 n I L m) (nI t) (nI s) (nI k) = c_63_0 n I L m (nI t) (nI (if na H g t k = 99 then brk H g t k else brk H g t k ||| 2 ^ k)) (nI (k + 1))
      unfold b_63_0 c_63_1
      rw [hN.1.1, if_neg (nI_ge hk (by omega)), e60 (by omega) (by omega), q_bs, ((hN.2.1 t ht).2.2 k hk), nI_1, hs]
      by_cases h : na H g t k = 99
      · rw [if_pos (by rw [h]; rfl), if_pos h]
      · rw [if_neg (by rw [ku_99, nI_eq (by omega) (by omega)]; exact h), if_neg h, ku_or (by omega)]) n 0 0 (by omega) (by omega) rfl
  unfold f_63
  rw [show (0 : Int32) = nI 0 from rfl, e, hs]; rfl
theorem m262 (ho : HOK H W A) (hM : MH I 0 H W A) (hN : NMk I H g (H.1 3)) (hg : GOK H g) {t : Nat} (ht : t < H.1 3) (hn : 1000 ≤ n) : f_262 n (nI t) I L = some (nI (brn H g t)) := by
  have o4 : H.1 4 ≤ 4 := ho.1.2.2.2.2.1
  have o3 : H.1 3 ≤ 30 := ho.1.2.2.2.1
  obtain ⟨s', hs, e⟩ := lpE (fun m k (b : Nat) => c_262_0 n I L m (nI t) (nI b) (nI k)) (H.1 4) (fun k b => b = brk H g t k) (fun b => some (nI b)) (fun m s hs => by
      show b_262_0 n I L (c_262_0 n I L m) (nI t) (nI s) (nI (H.1 4)) = _
      unfold b_262_0
      rw [e237 hM, q_bs, if_pos (nI_le (Nat.le_refl _) (by omega))]) (fun m k s hk hs => by
      have hb := na_b H g k t
      have hg5 := hg.2.2.2.2.1 k hk
      refine ⟨brk H g t (k + 1), rfl, ?_⟩
      show b_262_0 n I L (c_262_0 n I L m) (nI t) (nI s) (nI k) = c_262_0 n I L m (nI t) (nI (if na H g t k = 99 then brk H g t k else brk H g t k ||| 2 ^ k)) (nI (k + 1))
      unfold b_262_0 c_262_1
      rw [e237 hM, q_bs, if_neg (nI_ge hk (by omega)), ku_4, pk_mul, nI_add, ku_if (by omega) (by omega), nI_clamp (by omega), ((hN t ht).2.2 k hk), nI_1, hs]
      by_cases h : na H g t k = 99
      · rw [if_neg (by rw [h]; decide), if_pos h, ku_0, fa_or, Nat.or_zero]
      · rw [if_pos (by rw [ku_99, nI_eq (by omega) (by omega)]; exact h), if_neg h, ku_or (by omega)]) n 0 0 (by omega) (by omega) rfl
  unfold f_262
  rw [show (0 : Int32) = nI 0 from rfl, e, hs]; rfl
/-- the first flame that goes out, and 1; its minute, and 1 -/
def fok (H : HD) (g : NG) : Nat → Nat
  | 0 => 0
  | k + 1 => if nou H g (H.1 3) k = 0 then fok H g k else if fok H g k = 0 then k + 1 else if nou H g (H.1 3) (fok H g k - 1) ≤ nou H g (H.1 3) k then fok H g k else k + 1
def drk (H : HD) (g : NG) : Nat := if fok H g (H.1 4) = 0 then 0 else nou H g (H.1 3) (fok H g (H.1 4) - 1)
theorem fok_le (H : HD) (g : NG) : ∀ k, fok H g k ≤ k
  | 0 => Nat.le_refl _
  | k + 1 => by
    have := fok_le H g k
    unfold fok
    split
    · omega
    · split
      · omega
      · split <;> omega
theorem fok_sp (H : HD) (g : NG) : ∀ k, (fok H g k = 0 → ∀ i, i < k → nou H g (H.1 3) i = 0) ∧ (∀ j, fok H g k = j + 1 → j < k ∧ nou H g (H.1 3) j ≠ 0 ∧ (∀ i, i < k → nou H g (H.1 3) i ≠ 0 → nou H g (H.1 3) j ≤ nou H g (H.1 3) i) ∧ ∀ i, i < j → nou H g (H.1 3) i ≠ 0 → nou H g (H.1 3) j < nou H g (H.1 3) i)
  | 0 => ⟨fun _ i hi => absurd hi (by omega), fun j h => absurd h (by unfold fok; omega)⟩
  | k + 1 => by
    obtain ⟨i1, i2⟩ := fok_sp H g k
    have cs : ∀ i, i < k + 1 → i < k ∨ i = k := fun i hi => by omega
    unfold fok
    by_cases h : nou H g (H.1 3) k = 0
    · rw [if_pos h]
      refine ⟨fun e i hi => ?_, fun j hj => ?_⟩
      · rcases cs i hi with q | rfl
        · exact i1 e i q
        · exact h
      · obtain ⟨a, b, c, d⟩ := i2 j hj
        refine ⟨by omega, b, fun i hi hne => ?_, d⟩
        rcases cs i hi with q | rfl
        · exact c i q hne
        · exact absurd h hne
    · rw [if_neg h]
      by_cases h2 : fok H g k = 0
      · rw [if_pos h2]
        refine ⟨fun e => absurd e (by omega), fun j hj => ?_⟩
        have : j = k := by omega
        subst this
        refine ⟨by omega, h, fun i hi hne => ?_, fun i hi hne => absurd (i1 h2 i hi) hne⟩
        rcases cs i hi with q | rfl
        · exact absurd (i1 h2 i q) hne
        · exact Nat.le_refl _
      · rw [if_neg h2]
        obtain ⟨a, b, c, d⟩ := i2 (fok H g k - 1) (by omega)
        by_cases h3 : nou H g (H.1 3) (fok H g k - 1) ≤ nou H g (H.1 3) k
        · rw [if_pos h3]
          refine ⟨fun e => absurd e h2, fun j hj => ?_⟩
          have : fok H g k - 1 = j := by omega
          subst this
          refine ⟨by omega, b, fun i hi hne => ?_, d⟩
          rcases cs i hi with q | rfl
          · exact c i q hne
          · exact h3
        · rw [if_neg h3]
          refine ⟨fun e => absurd e (by omega), fun j hj => ?_⟩
          have : j = k := by omega
          subst this
          refine ⟨by omega, h, fun i hi hne => ?_, fun i hi hne => ?_⟩
          · rcases cs i hi with q | rfl
            · have := c i q hne; omega
            · exact Nat.le_refl _
          · have := c i hi hne; omega
theorem nou_le (H : HD) (g : NG) (m r : Nat) : nou H g m r ≤ m := fnd_le _ _
theorem drk_le (H : HD) (g : NG) : drk H g ≤ H.1 3 := by
  unfold drk
  split
  · omega
  · exact nou_le ..
theorem c65 (ho : HOK H W A) (hN : NDn I H g) (hn : 1000 ≤ n) : f_65 n I L = some (oI (fok H g (H.1 4))) := by
  have o4 : H.1 4 ≤ 4 := ho.1.2.2.2.2.1
  have o3 : H.1 3 ≤ 30 := ho.1.2.2.2.1
  have hl := nou_le H g (H.1 3)
  obtain ⟨s', hs, e⟩ := lpE (fun m k (b : Nat) => c_65_0 n I L m (oI b) (nI k)) (H.1 4) (fun k b => b = fok H g k) (fun b => some (oI b)) (fun m s hs => by
      show b_65_0 n I L (c_65_0 n I L m) (oI s) (nI (H.1 4)) = _
      unfold b_65_0
      rw [hN.1.1, if_pos (nI_le (Nat.le_refl _) (by omega))]) (fun m k s hk hs => by
      have hlk := hl k
      have hfk := fok_le H g k
      refine ⟨fok H g (k + 1), rfl, ?_⟩
      show b_65_0 n I L (c_65_0 n I L m) (oI s) (nI k) = c_65_0 n I L m (oI (if nou H g (H.1 3) k = 0 then fok H g k else if fok H g k = 0 then k + 1 else if nou H g (H.1 3) (fok H g k - 1) ≤ nou H g (H.1 3) k then fok H g k else k + 1)) (nI (k + 1))
      unfold b_65_0 c_65_2 c_65_1
      rw [hN.1.1, if_neg (nI_ge hk (by omega)), ku_if (by omega) (by omega), nI_clamp (by omega), hN.2.2 k hk, nI_1, hs]
      by_cases h : nou H g (H.1 3) k = 0
      · rw [if_pos (by rw [h, oI_0]), if_pos h]
      · rw [if_neg (by rw [oI_m1 (by omega)]; exact h), if_neg h]
        by_cases h2 : fok H g k = 0
        · rw [if_pos (by rw [h2, oI_0]), if_pos h2, oI_s]
        · have hlf := hl (fok H g k - 1)
          rw [if_neg (by rw [oI_m1 (by omega)]; exact h2), if_neg h2, ku_if (by omega) (by omega), ku_o1 (a := fok H g k) (by omega), ku_if (by omega) (by omega), nI_clamp (by omega), hN.2.2 _ (by omega)]
          by_cases h3 : nou H g (H.1 3) (fok H g k - 1) ≤ nou H g (H.1 3) k
          · rw [if_pos h3, if_pos (by rw [fa_le, oI_toInt (by omega), oI_toInt (by omega)]; omega), ku_o1 (a := fok H g k) (by omega)]
          · rw [if_neg h3, if_neg (by rw [fa_le, oI_toInt (by omega), oI_toInt (by omega)]; omega), oI_s]) n 0 0 (by omega) (by omega) rfl
  unfold f_65
  rw [ku_m, show (0 : Int32) = nI 0 from rfl, e, hs]
theorem c66 (ho : HOK H W A) (hN : NDn I H g) (hn : 1000 ≤ n) : f_66 n I L = some (oI (drk H g)) := by
  have o4 : H.1 4 ≤ 4 := ho.1.2.2.2.2.1
  have hf := fok_le H g (H.1 4)
  unfold f_66 drk
  rw [c65 ho hN hn, q_bs]
  by_cases h : fok H g (H.1 4) = 0
  · rw [if_neg (by rw [h, oI_0]; decide), if_pos h, oI_0]
  · rw [if_pos (by rw [oI_m1 (by omega)]; exact h), if_neg h, ku_o1 (a := fok H g (H.1 4)) (by omega), ku_if (by omega) (by omega), nI_clamp (by omega), hN.2.2 _ (by omega)]
/-- the model's minute at which a flame goes out, or minutes -/
def oum (H : HD) (g : NG) (r : Nat) : Nat := if nou H g (H.1 3) r = 0 then H.1 3 else nou H g (H.1 3) r - 1
theorem oum_le (H : HD) (g : NG) (r : Nat) : oum H g r ≤ H.1 3 := by
  have := nou_le H g (H.1 3) r
  unfold oum
  split <;> omega
theorem m263 (ho : HOK H W A) (hM : MH I 0 H W A) (hN : NMk I H g (H.1 3)) (hg : GOK H g) {r : Nat} (hr : r < H.1 4) (hn : 1000 ≤ n) : f_263 n (nI r) I L = some (nI (oum H g r)) := by
  have o4 : H.1 4 ≤ 4 := ho.1.2.2.2.2.1
  have o3 : H.1 3 ≤ 30 := ho.1.2.2.2.1
  unfold f_263
  refine lpGk (fun m k (_ : Unit) => c_263_0 n I L m (nI r) (nI k)) (H.1 3) (fun k _ => nou H g k r = 0) (fun _ => some (nI (H.1 3))) (fun q => q = some (nI (oum H g r))) n 0 () (by omega) (by omega) rfl (fun h => ?_) (fun _ h e => ?_) (fun m s hs => ?_) (fun m k s hk hs => ?_)
  · exact h
  · rw [show (0 : Int32) = nI 0 from rfl, e]
    unfold oum; rw [if_pos h]
  · show b_263_0 n I L (c_263_0 n I L m) (nI r) (nI (H.1 3)) = _
    unfold b_263_0
    rw [e238 hM, q_bs, if_pos (nI_le (Nat.le_refl _) (by omega)), q_bs]
  · have hb := na_b H g r k
    have hg5 := hg.2.2.2.2.1 r hr
    have e1 : c_263_0 n I L (m + 1) (nI r) (nI k) = if na H g k r = 99 then some (nI k) else c_263_0 n I L m (nI r) (nI (k + 1)) := by
      show b_263_0 n I L (c_263_0 n I L m) (nI r) (nI k) = _
      unfold b_263_0
      rw [e238 hM, q_bs, if_neg (nI_ge hk (by omega)), ku_4, pk_mul, nI_add, ku_if (by omega) (by omega), nI_clamp (by omega), (hN k hk).2.2 r hr, nI_1]
      by_cases h : na H g k r = 99
      · rw [if_neg (by rw [h]; decide), if_pos h]
      · rw [if_pos (by rw [ku_99, nI_eq (by omega) (by omega)]; exact h), if_neg h]
    by_cases h : na H g k r = 99
    · refine Or.inl ?_
      show c_263_0 n I L (m + 1) (nI r) (nI k) = _
      have hf : nou H g (H.1 3) r = k + 1 := fnd_s.mpr ⟨hk, by simpa using h, fnd_0.mp hs⟩
      rw [e1, if_pos h]
      unfold oum; rw [hf, if_neg (by omega)]; rfl
    · refine Or.inr ⟨(), fnd_n hs (by simpa using h), ?_⟩
      show c_263_0 n I L (m + 1) (nI r) (nI k) = _
      rw [e1, if_neg h]
def dkk (H : HD) (g : NG) (k : Nat) : Nat := if fok H g k = 0 then H.1 3 else nou H g (H.1 3) (fok H g k - 1) - 1
def dkm (H : HD) (g : NG) : Nat := dkk H g (H.1 4)
theorem m264 (ho : HOK H W A) (hM : MH I 0 H W A) (hN : NMk I H g (H.1 3)) (hg : GOK H g) (hn : 1000 ≤ n) : f_264 n I L = some (nI (dkm H g)) := by
  have o4 : H.1 4 ≤ 4 := ho.1.2.2.2.2.1
  have o3 : H.1 3 ≤ 30 := ho.1.2.2.2.1
  have hl := nou_le H g (H.1 3)
  unfold f_264
  rw [e238 hM, q_bs]
  obtain ⟨s', hs, e⟩ := lpE (fun m k (b : Nat) => c_264_0 n I L m (nI b) (nI k)) (H.1 4) (fun k b => b = dkk H g k) (fun b => some (nI b)) (fun m s hs => by
      show b_264_0 n I L (c_264_0 n I L m) (nI s) (nI (H.1 4)) = _
      unfold b_264_0
      rw [e237 hM, q_bs, if_pos (nI_le (Nat.le_refl _) (by omega))]) (fun m k s hk hs => by
      have hlk := hl k
      have hlf := hl (fok H g k - 1)
      have hok := oum_le H g k
      have hdl : dkk H g k ≤ H.1 3 := by unfold dkk; split <;> omega
      refine ⟨dkk H g (k + 1), rfl, ?_⟩
      have hd : dkk H g (k + 1) = if dkk H g k ≤ oum H g k then dkk H g k else oum H g k := by
        have ef : fok H g (k + 1) = if nou H g (H.1 3) k = 0 then fok H g k else if fok H g k = 0 then k + 1 else if nou H g (H.1 3) (fok H g k - 1) ≤ nou H g (H.1 3) k then fok H g k else k + 1 := rfl
        have u1 : ∀ j, dkk H g j = if fok H g j = 0 then H.1 3 else nou H g (H.1 3) (fok H g j - 1) - 1 := fun _ => rfl
        by_cases h : nou H g (H.1 3) k = 0
        · rw [u1 (k + 1), ef, if_pos h, ← u1 k]
          have e2 : oum H g k = H.1 3 := by unfold oum; rw [if_pos h]
          rw [if_pos (by omega)]
        · have e2 : oum H g k = nou H g (H.1 3) k - 1 := by unfold oum; rw [if_neg h]
          by_cases h2 : fok H g k = 0
          · have e3 : dkk H g k = H.1 3 := by rw [u1 k, if_pos h2]
            rw [u1 (k + 1), ef, if_neg h, if_pos h2, if_neg (by omega), Nat.add_sub_cancel, if_neg (by omega), e2]
          · have hsp := (fok_sp H g k).2 (fok H g k - 1) (by omega)
            have e3 : dkk H g k = nou H g (H.1 3) (fok H g k - 1) - 1 := by rw [u1 k, if_neg h2]
            by_cases h3 : nou H g (H.1 3) (fok H g k - 1) ≤ nou H g (H.1 3) k
            · rw [u1 (k + 1), ef, if_neg h, if_neg h2, if_pos h3, if_neg h2, if_pos (by omega), e3]
            · rw [u1 (k + 1), ef, if_neg h, if_neg h2, if_neg h3, if_neg (by omega), Nat.add_sub_cancel, if_neg (by omega), e2]
      show b_264_0 n I L (c_264_0 n I L m) (nI s) (nI k) = c_264_0 n I L m (nI (dkk H g (k + 1))) (nI (k + 1))
      unfold b_264_0 c_264_1
      rw [e237 hM, q_bs, if_neg (nI_ge hk (by omega)), m263 ho hM hN hg hk hn, q_bs, hs, nI_1, q_bs, hd]
      by_cases h : dkk H g k ≤ oum H g k
      · rw [if_pos h, if_pos (nI_le h (by omega))]
      · rw [if_neg h, if_neg (nI_ge (by omega) (by omega))]) n 0 (H.1 3) (by omega) (by omega) rfl
  rw [show (0 : Int32) = nI 0 from rfl, e, hs]; rfl
theorem m265 (ho : HOK H W A) (hM : MH I 0 H W A) {x : Nat} (hx : x ≤ H.1 3) : f_265 (nI x) I L = some (if x = H.1 3 then oI 0 else nI x) := by
  have o3 : H.1 3 ≤ 30 := ho.1.2.2.2.1
  unfold f_265
  rw [e238 hM, q_bs]
  by_cases h : x = H.1 3
  · rw [if_neg (by rw [h]; exact fun q => q rfl), if_pos h, oI_0]
  · rw [if_pos (by rw [nI_eq (by omega) (by omega)]; exact h), if_neg h]
theorem dkm_le (H : HD) (g : NG) : dkm H g ≤ H.1 3 := by
  have := nou_le H g (H.1 3) (fok H g (H.1 4) - 1)
  unfold dkm dkk
  split <;> omega
theorem dkm_drk (H : HD) (g : NG) : (if dkm H g = H.1 3 then oI 0 else nI (dkm H g)) = oI (drk H g) := by
  have hl := nou_le H g (H.1 3) (fok H g (H.1 4) - 1)
  unfold dkm dkk drk
  by_cases h : fok H g (H.1 4) = 0
  · rw [if_pos h, if_pos h, if_pos rfl]
  · have hsp := (fok_sp H g (H.1 4)).2 (fok H g (H.1 4) - 1) (by omega)
    rw [if_neg h, if_neg h, if_neg (by omega), ku_o1 (by omega)]
theorem oum_nou (H : HD) (g : NG) (r : Nat) : (if oum H g r = H.1 3 then oI 0 else nI (oum H g r)) = oI (nou H g (H.1 3) r) := by
  have hl := nou_le H g (H.1 3) r
  unfold oum
  by_cases h : nou H g (H.1 3) r = 0
  · rw [if_pos h, if_pos rfl, h]
  · rw [if_neg h, if_neg (by omega), ku_o1 (by omega)]
/-- how often a room is looked at -/
def lkk (H : HD) (g : NG) (r : Nat) : Nat → Nat
  | 0 => 0
  | k + 1 => if (nlk H g k).testBit r = true then lkk H g r k + 1 else lkk H g r k
theorem lkk_le (H : HD) (g : NG) (r : Nat) : ∀ k, lkk H g r k ≤ k
  | 0 => Nat.le_refl _
  | k + 1 => by
    have := lkk_le H g r k
    unfold lkk
    split <;> omega
theorem nlk_lt (ho : HOK H W A) (hg : GOK H g) {t : Nat} (ht : t < 30) : nlk H g t < 16 := by
  have o4 : H.1 4 ≤ 4 := ho.1.2.2.2.2.1
  have := nw_le ho hg t
  exact lok_lt (hg.2.2.2.2.2 t ht) (by omega)
theorem c67 (ho : HOK H W A) (hN : NDn I H g) (hg : GOK H g) {r : Nat} (hr : r < H.1 4) (hn : 1000 ≤ n) : f_67 n (nI r) I L = some (nI (lkk H g r (H.1 3))) := by
  have o4 : H.1 4 ≤ 4 := ho.1.2.2.2.2.1
  have o3 : H.1 3 ≤ 30 := ho.1.2.2.2.1
  obtain ⟨s', hs, e⟩ := lpE (fun m k (b : Nat) => c_67_0 n I L m (nI r) (nI b) (nI k)) (H.1 3) (fun k b => b = lkk H g r k) (fun b => some (nI b)) (fun m s hs => by
      show b_67_0 n I L (c_67_0 n I L m) (nI r) (nI s) (nI (H.1 3)) = _
      unfold b_67_0
      rw [hN.1.2.1, if_pos (nI_le (Nat.le_refl _) (by omega))]) (fun m k s hk hs => by
      have hlt := nlk_lt ho hg (t := k) (by omega)
      refine ⟨lkk H g r (k + 1), rfl, ?_⟩
      show b_67_0 n I L (c_67_0 n I L m) (nI r) (nI s) (nI k) = c_67_0 n I L m (nI r) (nI (if (nlk H g k).testBit r = true then lkk H g r k + 1 else lkk H g r k)) (nI (k + 1))
      unfold b_67_0
      rw [hN.1.2.1, if_neg (nI_ge hk (by omega)), ku_if (by omega) (by omega), nI_clamp (by omega), (hN.2.1 k hk).2.1, ku_bit2 (by omega) (by omega), nI_1, hs]
      by_cases h : (nlk H g k).testBit r = true
      · rw [if_pos h, bI_p h, nI_1]
      · rw [if_neg h, bI_n h, ku_0, nI_add]; rfl) n 0 0 (by omega) (by omega) rfl
  unfold f_67
  rw [show (0 : Int32) = nI 0 from rfl, e, hs]
theorem m277 (ho : HOK H W A) (hM : MH I 0 H W A) (hN : NMk I H g (H.1 3)) (hg : GOK H g) {r : Nat} (hr : r < H.1 4) (hn : 1000 ≤ n) : f_277 n (nI r) I L = some (nI (lkk H g r (H.1 3))) := by
  have o4 : H.1 4 ≤ 4 := ho.1.2.2.2.2.1
  have o3 : H.1 3 ≤ 30 := ho.1.2.2.2.1
  obtain ⟨s', hs, e⟩ := lpE (fun m k (b : Nat) => c_277_0 n I L m (nI r) (nI b) (nI k)) (H.1 3) (fun k b => b = lkk H g r k) (fun b => some (nI b)) (fun m s hs => by
      show b_277_0 n I L (c_277_0 n I L m) (nI r) (nI s) (nI (H.1 3)) = _
      unfold b_277_0
      rw [e238 hM, q_bs, if_pos (nI_le (Nat.le_refl _) (by omega))]) (fun m k s hk hs => by
      have hlt := nlk_lt ho hg (t := k) (by omega)
      refine ⟨lkk H g r (k + 1), rfl, ?_⟩
      show b_277_0 n I L (c_277_0 n I L m) (nI r) (nI s) (nI k) = c_277_0 n I L m (nI r) (nI (if (nlk H g k).testBit r = true then lkk H g r k + 1 else lkk H g r k)) (nI (k + 1))
      unfold b_277_0 c_277_1
      rw [e238 hM, q_bs, if_neg (nI_ge hk (by omega)), ku_if (by omega) (by omega), nI_clamp (by omega), (hN k hk).2.1, e247 (by omega) (by omega), q_bs, q_b1, nI_1, hs]
      by_cases h : (nlk H g k).testBit r = true
      · rw [if_pos h, if_pos h, nI_1]
      · rw [if_neg h, if_neg h, ku_0, nI_add, nI_1]; rfl) n 0 0 (by omega) (by omega) rfl
  unfold f_277
  rw [show (0 : Int32) = nI 0 from rfl, e, hs]
/-- worth of a set -/
def wok (W : Nat → Nat) (s : Nat) : Nat → Nat
  | 0 => 0
  | k + 1 => if s.testBit k = true then wok W s k + W k else wok W s k
theorem wok_le (ho : HOK H W A) (s : Nat) : ∀ k, k ≤ H.1 4 → wok W s k ≤ 99 * k
  | 0, _ => by unfold wok; omega
  | k + 1, h => by
    have := wok_le ho s k (by omega)
    have := ho.2.1 k (by omega)
    unfold wok
    split <;> omega
theorem c25 (ho : HOK H W A) (hC : CH I 3 11 H W A) {s : Nat} (hs16 : s < 16) (hn : 1000 ≤ n) : f_25 n (nI s) I L = some (nI (wok W s (H.1 4))) := by
  have o4 : H.1 4 ≤ 4 := ho.1.2.2.2.2.1
  obtain ⟨s', hs, e⟩ := lpE (fun m k (b : Nat) => c_25_0 n I L m (nI s) (nI b) (nI k)) (H.1 4) (fun k b => b = wok W s k) (fun b => some (nI b)) (fun m b hs => by
      show b_25_0 n I L (c_25_0 n I L m) (nI s) (nI b) (nI (H.1 4)) = _
      unfold b_25_0
      rw [chs hC (by decide), if_pos (nI_le (Nat.le_refl _) (by omega))]) (fun m k b hk hs => by
      refine ⟨wok W s (k + 1), rfl, ?_⟩
      show b_25_0 n I L (c_25_0 n I L m) (nI s) (nI b) (nI k) = c_25_0 n I L m (nI s) (nI (if s.testBit k = true then wok W s k + W k else wok W s k)) (nI (k + 1))
      unfold b_25_0 c_25_1
      rw [chs hC (by decide), if_neg (nI_ge hk (by omega)), ku_bit2 (by omega) (by omega), q_b1, nI_1, hs]
      by_cases h : s.testBit k = true
      · rw [if_pos h, if_pos h, ku_if (by omega) (by omega), nI_clamp (by omega), ch_wo hC hk, nI_add]
      · rw [if_neg h, if_neg h]) n 0 0 (by omega) (by omega) rfl
  unfold f_25
  rw [show (0 : Int32) = nI 0 from rfl, e, hs]
theorem m280 (ho : HOK H W A) (hM : MH I 0 H W A) {s : Nat} (hs16 : s < 16) (hn : 1000 ≤ n) : f_280 n (nI s) I L = some (nI (wok W s (H.1 4))) := by
  have o4 : H.1 4 ≤ 4 := ho.1.2.2.2.2.1
  obtain ⟨s', hs, e⟩ := lpE (fun m k (b : Nat) => c_280_0 n I L m (nI s) (nI b) (nI k)) (H.1 4) (fun k b => b = wok W s k) (fun b => some (nI b)) (fun m b hs => by
      show b_280_0 n I L (c_280_0 n I L m) (nI s) (nI b) (nI (H.1 4)) = _
      unfold b_280_0
      rw [e237 hM, q_bs, if_pos (nI_le (Nat.le_refl _) (by omega))]) (fun m k b hk hs => by
      refine ⟨wok W s (k + 1), rfl, ?_⟩
      show b_280_0 n I L (c_280_0 n I L m) (nI s) (nI b) (nI k) = c_280_0 n I L m (nI s) (nI (if s.testBit k = true then wok W s k + W k else wok W s k)) (nI (k + 1))
      unfold b_280_0 c_280_1
      rw [e237 hM, q_bs, if_neg (nI_ge hk (by omega)), e247 (by omega) (by omega), q_bs, q_b1, ku_2, pk_mul, nI_1, nI_1, hs]
      by_cases h : s.testBit k = true
      · rw [if_pos h, if_pos h, ku_if (by omega) (by omega), nI_clamp (by omega), mhwo hM hk, nI_add]
      · rw [if_neg h, if_neg h, ku_0, nI_add]; rfl) n 0 0 (by omega) (by omega) rfl
  unfold f_280
  rw [show (0 : Int32) = nI 0 from rfl, e, hs]
end TON
