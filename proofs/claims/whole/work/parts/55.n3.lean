/-! LAYER 3: send, chance, mean. Printed by wip/whole/gen55.py -/
section N3
variable {I : FI} {L : FL} {H : HD} {W : Nat → Nat} {A : AD} {n : Nat}
/-- the best visitor besides: (100 times a room and the minute, and 1; its dark) -/
def sdi (H : HD) (A : AD) (r : Nat) (s : Nat × Nat) : Nat → Nat × Nat
  | 0 => s
  | k + 1 => if (sdi H A r s k).2 < dkm H (gG H A r k) then (100 * r + k + 1, dkm H (gG H A r k)) else sdi H A r s k
def sdo (H : HD) (A : AD) : Nat → Nat × Nat
  | 0 => (0, dkm H (gN H A 0))
  | k + 1 => sdi H A k (sdo H A k) (H.1 3)
theorem sdi_le (H : HD) (A : AD) (r : Nat) {s : Nat × Nat} (h : s.2 ≤ H.1 3) : ∀ k, (sdi H A r s k).2 ≤ H.1 3
  | 0 => h
  | k + 1 => by
    have := sdi_le H A r h k
    have := dkm_le H (gG H A r k)
    unfold sdi
    split <;> assumption
theorem sdo_le (H : HD) (A : AD) : ∀ k, (sdo H A k).2 ≤ H.1 3
  | 0 => dkm_le ..
  | k + 1 => sdi_le H A k (sdo_le H A k) _
theorem l163 (ho : HOK H W A) (hC : CH I 3 11 H W A) (nh : Option Nat) (hn : 1000 ≤ n) : ∃ J, c_163_0 n nh n (nI (ltn (H.1 3) (dkm H (gN H A 0)))) (oI 0) (nI 0) I L = some (oI (sdo H A (H.1 4)).1, some 3, J, L) ∧ FrC I J := by
  have o4 : H.1 4 ≤ 4 := ho.1.2.2.2.2.1
  have o3 : H.1 3 ≤ 30 := ho.1.2.2.2.1
  obtain ⟨J, hJ, e⟩ := lpE (fun m k (s : FI) => c_163_0 n nh m (nI (ltn (H.1 3) (sdo H A k).2)) (oI (sdo H A k).1) (nI k) s L) (H.1 4) (fun k s => FrC I s) (fun s => some (oI (sdo H A (H.1 4)).1, some 3, s, L)) (fun m s hs => by
      show b_163_0 n nh (c_163_0 n nh m) _ _ (nI (H.1 4)) s L = _
      unfold b_163_0
      rw [chs (CH_C hC hs) (by decide), if_pos (nI_le (Nat.le_refl _) (by omega))]) (fun m r s hr hs => by
      have hso := sdo_le H A r
      obtain ⟨K, hK, e2⟩ := lpE (fun m' k (s : FI) => c_163_1 n nh (c_163_0 n nh m) m' (nI (ltn (H.1 3) (sdi H A r (sdo H A r) k).2)) (oI (sdi H A r (sdo H A r) k).1) (nI r) (nI k) s L) (H.1 3) (fun k s => FrC I s) (fun s => c_163_0 n nh m (nI (ltn (H.1 3) (sdo H A (r + 1)).2)) (oI (sdo H A (r + 1)).1) (nI (r + 1)) s L) (fun m' s hs => by
          show b_163_1 n nh (c_163_0 n nh m) (c_163_1 n nh (c_163_0 n nh m) m') _ _ (nI r) (nI (H.1 3)) s L = _
          unfold b_163_1
          rw [chs (CH_C hC hs) (by decide), if_pos (nI_le (Nat.le_refl _) (by omega)), nI_1]; rfl) (fun m' k s hk hs => by
          have hCs := CH_C hC hs
          have hsi := sdi_le H A r hso k
          have hdk := dkm_le H (gG H A r k)
          obtain ⟨M, q1, q2, q3⟩ := ngC (n := n) (L := L) ho hCs (r := r) (t := k) (by omega) (by omega) hn
          refine ⟨M, FrC_t hs q3, ?_⟩
          show b_163_1 n nh (c_163_0 n nh m) (c_163_1 n nh (c_163_0 n nh m) m') _ _ (nI r) (nI k) s L = c_163_1 n nh (c_163_0 n nh m) m' (nI (ltn (H.1 3) (if (sdi H A r (sdo H A r) k).2 < dkm H (gG H A r k) then (100 * r + k + 1, dkm H (gG H A r k)) else sdi H A r (sdo H A r) k).2)) (oI (if (sdi H A r (sdo H A r) k).2 < dkm H (gG H A r k) then (100 * r + k + 1, dkm H (gG H A r k)) else sdi H A r (sdo H A r) k).1) (nI r) (nI (k + 1)) M L
          unfold b_163_1 c_163_2
          rw [chs hCs (by decide), if_neg (nI_ge hk (by omega)), q1, q_bs, c66 ho q2 hn, q_bs, e196 H _ o3, q_bs, nI_1]
          have l1 := ltn_b hdk o3
          have l2 := ltn_b hsi o3
          have hle := ltn_le hdk hsi o3
          by_cases h : (sdi H A r (sdo H A r) k).2 < dkm H (gG H A r k)
          · have hh : ¬ ltn (H.1 3) (dkm H (gG H A r k)) ≤ ltn (H.1 3) (sdi H A r (sdo H A r) k).2 := fun q => by have := hle.mp q; omega
            rw [if_pos h, if_neg (nI_ge (by omega) (by omega)), ku_100, pk_mul, nI_add]
            dsimp only
            rw [oI_s]
          · rw [if_neg h, if_pos (nI_le (hle.mpr (by omega)) (by omega))]) n 0 s (by omega) (by omega) hs
      refine ⟨K, hK, ?_⟩
      show b_163_0 n nh (c_163_0 n nh m) _ _ (nI r) s L = _
      unfold b_163_0
      rw [chs (CH_C hC hs) (by decide), if_neg (nI_ge hr (by omega))]
      exact e2) n 0 I (by omega) (by omega) (FrC_r I)
  exact ⟨J, e, hJ⟩
theorem l344 (ho : HOK H W A) (hM : MH I 0 H W A) (hn : 1000 ≤ n) : ∃ K, c_344_0 n n (oI 0) (nI (dkm H (gN H A 0))) (nI 0) I L = some (oI (sdo H A (H.1 4)).1, K, L) ∧ FrM I K := by
  have o4 : H.1 4 ≤ 4 := ho.1.2.2.2.2.1
  have o3 : H.1 3 ≤ 30 := ho.1.2.2.2.1
  obtain ⟨J, hJ, e⟩ := lpE (fun m k (s : FI) => c_344_0 n m (oI (sdo H A k).1) (nI (sdo H A k).2) (nI k) s L) (H.1 4) (fun k s => FrM I s) (fun s => some (oI (sdo H A (H.1 4)).1, s, L)) (fun m s hs => by
      show b_344_0 n (c_344_0 n m) _ _ (nI (H.1 4)) s L = _
      unfold b_344_0
      rw [e237 (MH_M ho hM hs), q_bs, if_pos (nI_le (Nat.le_refl _) (by omega))]) (fun m r s hr hs => by
      have hso := sdo_le H A r
      obtain ⟨K, hK, e2⟩ := lpE (fun m' k (s : FI) => c_344_1 n (c_344_0 n m) m' (oI (sdi H A r (sdo H A r) k).1) (nI (sdi H A r (sdo H A r) k).2) (nI r) (nI k) s L) (H.1 3) (fun k s => FrM I s) (fun s => c_344_0 n m (oI (sdo H A (r + 1)).1) (nI (sdo H A (r + 1)).2) (nI (r + 1)) s L) (fun m' s hs => by
          show b_344_1 n (c_344_0 n m) (c_344_1 n (c_344_0 n m) m') _ _ (nI r) (nI (H.1 3)) s L = _
          unfold b_344_1
          rw [e238 (MH_M ho hM hs), q_bs, if_pos (nI_le (Nat.le_refl _) (by omega)), nI_1]; rfl) (fun m' k s hk hs => by
          have hMs := MH_M ho hM hs
          have hsi := sdi_le H A r hso k
          have hdk := dkm_le H (gG H A r k)
          obtain ⟨J, M, q0, q1, q2, q3⟩ := ngM (n := n) (L := L) ho hMs (r := r) (t := k) (by omega) (by omega) hn
          have hMM := MH_M ho hMs q3
          refine ⟨M, FrM_t hs q3, ?_⟩
          show b_344_1 n (c_344_0 n m) (c_344_1 n (c_344_0 n m) m') _ _ (nI r) (nI k) s L = c_344_1 n (c_344_0 n m) m' (oI (if (sdi H A r (sdo H A r) k).2 < dkm H (gG H A r k) then (100 * r + k + 1, dkm H (gG H A r k)) else sdi H A r (sdo H A r) k).1) (nI (if (sdi H A r (sdo H A r) k).2 < dkm H (gG H A r k) then (100 * r + k + 1, dkm H (gG H A r k)) else sdi H A r (sdo H A r) k).2) (nI r) (nI (k + 1)) M L
          unfold b_344_1 c_344_2
          rw [e238 hMs, q_bs, if_neg (nI_ge hk (by omega)), q0, q_bs]
          dsimp only
          rw [q1, q_bs]
          dsimp only
          rw [m264 ho hMM q2 (gG_ok ho (by omega) k) hn, q_bs, q_bs, nI_1]
          by_cases h : (sdi H A r (sdo H A r) k).2 < dkm H (gG H A r k)
          · rw [if_pos h, if_pos (nI_lt h (by omega)), ku_100, pk_mul, nI_add]
            dsimp only
            rw [oI_s]
          · rw [if_neg h, if_neg (nI_nlt (by omega) (by omega))]) n 0 s (by omega) (by omega) hs
      refine ⟨K, hK, ?_⟩
      show b_344_0 n (c_344_0 n m) _ _ (nI r) s L = _
      unfold b_344_0
      rw [e237 (MH_M ho hM hs), q_bs, if_neg (nI_ge hr (by omega))]
      exact e2) n 0 I (by omega) (by omega) (FrM_r I)
  exact ⟨J, e, hJ⟩
/-- how many bits -/
def pck (s : Nat) : Nat → Nat
  | 0 => 0
  | k + 1 => if s.testBit k = true then pck s k + 1 else pck s k
theorem pck_le (s : Nat) : ∀ k, pck s k ≤ k
  | 0 => Nat.le_refl _
  | k + 1 => by
    have := pck_le s k
    unfold pck
    split <;> omega
theorem pc16 : ∀ s, s < 16 → f_360_1 (nI s) (fun _ _ => 0) (fun _ _ => 0) = some (nI (pck s 4)) := by decide +kernel
theorem e360 {s : Nat} (hs : s < 16) : f_360_1 (nI s) I L = some (nI (pck s 4)) := pc16 s hs
theorem pc248 : ∀ s, s < 16 → s ≠ 0 → s &&& (s - 1) < s ∧ pck (s &&& (s - 1)) 4 + 1 = pck s 4 := by decide +kernel
theorem e248 {s : Nat} (hs : s < 16) (hn : 1000 ≤ n) : f_248 n (nI s) I L = some (nI (pck s 4)) := by
  have key : ∀ s, s < 16 → ∀ m x, s < m → c_248_0 n I L m (nI x) (nI s) = some (nI (x + pck s 4)) := fun s => by
    induction s using Nat.strongRecOn with
    | ind s ih =>
      intro hs m x hm
      obtain ⟨m', rfl⟩ : ∃ m', m = m' + 1 := ⟨m - 1, by omega⟩
      show b_248_0 n I L (c_248_0 n I L m') (nI x) (nI s) = _
      unfold b_248_0
      by_cases h0 : s = 0
      · rw [if_pos (by rw [h0]; rfl), h0]; rfl
      · obtain ⟨p1, p2⟩ := pc248 s hs h0
        rw [if_neg (by rw [ku_0, nI_eq (by omega) (by omega)]; exact h0), nI_1, ku_1, pk_sub (by omega), fa_and, ih _ p1 (by omega) m' (x + 1) (by omega)]
        congr 2; omega
  unfold f_248
  rw [show (0 : Int32) = nI 0 from rfl, key s hs n 0 (by omega), Nat.zero_add]
/-- how often just these of the visitors come; of how many -/
def wgk (o c : Nat) : Nat → Nat
  | 0 => 1
  | k + 1 => wgk o c k * (if c.testBit k = true then o else 10 - o)
def tnk : Nat → Nat
  | 0 => 1
  | k + 1 => tnk k * 10
theorem wgk_le (o c : Nat) (ho : o ≤ 10) : ∀ k, wgk o c k ≤ tnk k
  | 0 => Nat.le_refl _
  | k + 1 => by
    have := wgk_le o c ho k
    unfold wgk tnk
    exact Nat.mul_le_mul this (by split <;> omega)
theorem tnk_le : ∀ k, k ≤ 5 → tnk k ≤ 100000 := by decide
theorem tnk_pos : ∀ k, k ≤ 5 → 0 < tnk k := by decide
theorem c26 (ho : HOK H W A) (hC : CH I 3 11 H W A) {c : Nat} (hc : c < 32) (hn : 1000 ≤ n) : f_26 n (nI c) I L = some (nI (wgk (H.1 2) c (H.1 6))) := by
  have o6 : H.1 6 ≤ 5 := ho.1.2.2.2.2.2.2.1
  have o2 : H.1 2 ≤ 10 := ho.1.2.2.1
  obtain ⟨s', hs, e⟩ := lpE (fun m k (b : Nat) => c_26_0 n I L m (nI c) (nI b) (nI k)) (H.1 6) (fun k b => b = wgk (H.1 2) c k) (fun b => some (nI b)) (fun m s hs => by
      show b_26_0 n I L (c_26_0 n I L m) (nI c) (nI s) (nI (H.1 6)) = _
      unfold b_26_0
      rw [chs hC (by decide), if_pos (nI_le (Nat.le_refl _) (by omega))]) (fun m k s hk hs => by
      refine ⟨wgk (H.1 2) c (k + 1), rfl, ?_⟩
      show b_26_0 n I L (c_26_0 n I L m) (nI c) (nI s) (nI k) = c_26_0 n I L m (nI c) (nI (wgk (H.1 2) c k * (if c.testBit k = true then H.1 2 else 10 - H.1 2))) (nI (k + 1))
      unfold b_26_0 c_26_1
      rw [chs hC (by decide), if_neg (nI_ge hk (by omega)), ku_bit2 (by omega) (by omega), q_b1, chs hC (by decide), ku_10, pk_sub (by omega), pk_mul, pk_mul, nI_1, hs]
      by_cases h : c.testBit k = true
      · rw [if_pos h, if_pos h]
      · rw [if_neg h, if_neg h]) n 0 1 (by omega) (by omega) rfl
  unfold f_26
  rw [show (0 : Int32) = nI 0 from rfl, show (1 : Int32) = nI 1 from rfl, e, hs]
theorem c27 (ho : HOK H W A) (hC : CH I 3 11 H W A) (hn : 1000 ≤ n) : f_27 n I L = some (nI (tnk (H.1 6))) := by
  have o6 : H.1 6 ≤ 5 := ho.1.2.2.2.2.2.2.1
  obtain ⟨s', hs, e⟩ := lpE (fun m k (b : Nat) => c_27_0 n I L m (nI b) (nI k)) (H.1 6) (fun k b => b = tnk k) (fun b => some (nI b)) (fun m s hs => by
      show b_27_0 n I L (c_27_0 n I L m) (nI s) (nI (H.1 6)) = _
      unfold b_27_0
      rw [chs hC (by decide), if_pos (nI_le (Nat.le_refl _) (by omega))]) (fun m k s hk hs => by
      refine ⟨tnk (k + 1), rfl, ?_⟩
      show b_27_0 n I L (c_27_0 n I L m) (nI s) (nI k) = c_27_0 n I L m (nI (tnk k * 10)) (nI (k + 1))
      unfold b_27_0
      rw [chs hC (by decide), if_neg (nI_ge hk (by omega)), ku_10, pk_mul, nI_1, hs]) n 0 1 (by omega) (by omega) rfl
  unfold f_27
  rw [show (0 : Int32) = nI 0 from rfl, show (1 : Int32) = nI 1 from rfl, e, hs]
theorem g27 (n : Nat) (I : FI) (L : FL) : ∀ m, c_27_1_0 n I L m = c_27_0 n I L m
  | 0 => rfl
  | m + 1 => by funext x y; show b_27_1_0 n I L (c_27_1_0 n I L m) x y = b_27_0 n I L (c_27_0 n I L m) x y; rw [g27 n I L m]; rfl
theorem f27_1 (n : Nat) (I : FI) (L : FL) : f_27_1 n I L = f_27 n I L := by unfold f_27_1 f_27; rw [g27]
theorem g197 (n : Nat) (I : FI) (L : FL) : ∀ m, c_197_1_0 n I L m = c_197_0 n I L m
  | 0 => rfl
  | m + 1 => by funext a b c d e f; show b_197_1_0 n I L (c_197_1_0 n I L m) a b c d e f = b_197_0 n I L (c_197_0 n I L m) a b c d e f; rw [g197 n I L m]; rfl
theorem f197_1 (n : Nat) (x y z : Int32) (I : FI) (L : FL) : f_197_1 n x y z I L = f_197 n x y z I L := by unfold f_197_1 f_197; rw [g197]
theorem m340 (ho : HOK H W A) (hM : MH I 0 H W A) (hn : 1000 ≤ n) : f_340 n I L = some (nI (tnk (H.1 6))) := by
  have o6 : H.1 6 ≤ 5 := ho.1.2.2.2.2.2.2.1
  have m6 : I 96 5 = nI (H.1 6) := mh96 hM (by decide)
  obtain ⟨s', hs, e⟩ := lpE (fun m k (b : Nat) => c_340_0 n I L m (nI b) (nI k)) (H.1 6) (fun k b => b = tnk k) (fun b => some (nI b)) (fun m s hs => by
      show b_340_0 n I L (c_340_0 n I L m) (nI s) (nI (H.1 6)) = _
      unfold b_340_0
      rw [m6, if_pos (nI_le (Nat.le_refl _) (by omega))]) (fun m k s hk hs => by
      refine ⟨tnk (k + 1), rfl, ?_⟩
      show b_340_0 n I L (c_340_0 n I L m) (nI s) (nI k) = c_340_0 n I L m (nI (tnk k * 10)) (nI (k + 1))
      unfold b_340_0
      rw [m6, if_neg (nI_ge hk (by omega)), ku_10, pk_mul, nI_1, hs]) n 0 1 (by omega) (by omega) rfl
  unfold f_340
  rw [show (0 : Int32) = nI 0 from rfl, show (1 : Int32) = nI 1 from rfl, e, hs]
theorem c24 (ho : HOK H W A) (hC : CH I 3 11 H W A) : f_24_2 I L = some (nI (2 ^ (H.1 4) - 1)) := by
  have o4 : H.1 4 ≤ 4 := ho.1.2.2.2.2.1
  unfold f_24_2
  rw [chs hC (by decide), ku_set (by omega), ku_1, pk_sub Nat.one_le_two_pow]
theorem m298 (ho : HOK H W A) (hM : MH I 0 H W A) : f_298 I L = some (nI (2 ^ (H.1 4) - 1)) := by
  have o4 : H.1 4 ≤ 4 := ho.1.2.2.2.2.1
  unfold f_298
  rw [e237 hM, q_bs, ku_set (by omega), ku_1, pk_sub Nat.one_le_two_pow]
/-- of a night by visitors c: what counts: all burn (mode 0), how many burn (1) -/
def chv (H : HD) (A : AD) (md t : Nat) (cm : Nat → Bool) : Nat := if md = 0 then (if brn H (gV H A cm) t = 2 ^ (H.1 4) - 1 then 1 else 0) else pck (brn H (gV H A cm) t) 4
theorem chv_le (H : HD) (A : AD) (md t : Nat) (cm : Nat → Bool) : chv H A md t cm ≤ 4 := by
  have := pck_le (brn H (gV H A cm) t) 4
  unfold chv
  split
  · split <;> omega
  · exact this
/-- a sum from below; a sum of the same from above -/
def sma (F : Nat → Nat) : Nat → Nat
  | 0 => 0
  | k + 1 => sma F k + F k
theorem sma_le {F : Nat → Nat} {B : Nat} (h : ∀ k, F k ≤ B) : ∀ k, sma F k ≤ B * k
  | 0 => by unfold sma; omega
  | k + 1 => by
    have := sma_le h k
    have := h k
    unfold sma
    rw [Nat.mul_succ]; omega
theorem sma_rev (F : Nat → Nat) : ∀ N, sma (fun a => F (N - 1 - a)) N = sma F N := by
  have key : ∀ N k, k ≤ N → sma (fun a => F (N - 1 - a)) k + sma F (N - k) = sma F N := fun N k => by
    induction k with
    | zero => intro _; show 0 + sma F (N - 0) = _; rw [Nat.zero_add, Nat.sub_zero]
    | succ k ih =>
      intro hk
      have h1 := ih (by omega)
      have e : N - k = (N - (k + 1)) + 1 := by omega
      rw [e] at h1
      have e2 : sma F (N - (k + 1) + 1) = sma F (N - (k + 1)) + F (N - (k + 1)) := rfl
      rw [e2] at h1
      show sma (fun a => F (N - 1 - a)) k + F (N - 1 - k) + sma F (N - (k + 1)) = _
      rw [show N - 1 - k = N - (k + 1) by omega]
      omega
  intro N
  have := key N N (Nat.le_refl _)
  rw [Nat.sub_self] at this
  exact this
theorem sma_cg {F G : Nat → Nat} : ∀ {k : Nat}, (∀ j, j < k → F j = G j) → sma F k = sma G k
  | 0, _ => rfl
  | k + 1, h => by unfold sma; rw [sma_cg (k := k) (fun j hj => h j (by omega)), h k (by omega)]
def chF (H : HD) (A : AD) (md t c : Nat) : Nat := chv H A md t (fun k => c.testBit k) * wgk (H.1 2) c (H.1 6)
theorem chF_le (ho : HOK H W A) (md t c : Nat) : chF H A md t c ≤ 400000 := by
  have h1 := chv_le H A md t (fun k => c.testBit k)
  have h2 := wgk_le (H.1 2) c ho.1.2.2.1 (H.1 6)
  have h3 := tnk_le (H.1 6) ho.1.2.2.2.2.2.2.1
  have := Nat.mul_le_mul h1 (Nat.le_trans h2 h3)
  exact this
theorem pw32 : ∀ k, k ≤ 5 → 2 ^ k ≤ 32 := by decide
theorem c161 (ho : HOK H W A) (hC : CH I 3 11 H W A) {t wh : Nat} (nh : Option Nat) (ht : t < H.1 3) (hw : wh < 2) (hn : 1000 ≤ n) : ∃ J nh', c_161_0 n nh (nI t) (nI wh) (nI 0) (nI 0) I L = some (nI (frc (sma (chF H A 0 t) (2 ^ (H.1 6))) (tnk (H.1 6)) wh), nh', J, L) ∧ (nh' = some 3) ∧ FrC I J := by
  have o6 : H.1 6 ≤ 5 := ho.1.2.2.2.2.2.2.1
  have o4 : H.1 4 ≤ 4 := ho.1.2.2.2.2.1
  have o3 : H.1 3 ≤ 30 := ho.1.2.2.2.1
  have hp := pw32 _ o6
  have hpos : 0 < 2 ^ (H.1 6) := Nat.two_pow_pos _
  have hp4 := pw5 _ (show H.1 4 < 5 by omega)
  have htl := tnk_le _ o6
  have htp := tnk_pos _ o6
  have hsl : sma (chF H A 0 t) (2 ^ (H.1 6)) < 2 ^ 30 := by
    have h1 := sma_le (fun c => chF_le ho 0 t c) (2 ^ (H.1 6))
    have : 400000 * 2 ^ (H.1 6) ≤ 400000 * 32 := Nat.mul_le_mul_left _ hp
    omega
  -- one night
  have hone : ∀ (c : Nat) (s : FI), c < 2 ^ (H.1 6) → FrC I s → ∃ M, f_193 n (nI c) s L = some (M, L) ∧ f_63 n (nI t) M L = some (nI (brn H (gV H A (fun k => c.testBit k)) t)) ∧ f_24_2 M L = some (nI (2 ^ (H.1 4) - 1)) ∧ f_26 n (nI c) M L = some (nI (wgk (H.1 2) c (H.1 6))) ∧ FrC I M := fun c s hc hs => by
    obtain ⟨M, q1, q2, q3⟩ := nvC (n := n) (L := L) ho (CH_C hC hs) (cm := c) (by omega) hn
    have hCM := CH_C hC (FrC_t hs q3)
    exact ⟨M, q1, c63 ho q2 (gV_ok ho _) ht hn, c24 ho hCM, c26 ho hCM (by omega) hn, FrC_t hs q3⟩
  have hadd : ∀ c, (if brn H (gV H A (fun k => c.testBit k)) t = 2 ^ (H.1 4) - 1 then wgk (H.1 2) c (H.1 6) else 0) = chF H A 0 t c := fun c => by
    unfold chF chv
    rw [if_pos rfl]
    split
    · rw [Nat.one_mul]
    · rw [Nat.zero_mul]
  obtain ⟨M0, p1, p2, p3, p4, p5⟩ := hone 0 I hpos (FrC_r I)
  obtain ⟨J, hJ, e⟩ := lpE (fun m k (s : FI) => c_161_1 n nh m (nI t) (nI wh) (nI (sma (chF H A 0 t) k)) (nI (k - 1)) s L) (2 ^ (H.1 6)) (fun k s => 1 ≤ k ∧ FrC I s) (fun s => some (nI (frc (sma (chF H A 0 t) (2 ^ (H.1 6))) (tnk (H.1 6)) wh), some 3, s, L)) (fun m s hs => by
      have hCs := CH_C hC hs.2
      show b_161_1 n nh (c_161_1 n nh m) (nI t) (nI wh) _ (nI (2 ^ (H.1 6) - 1)) s L = _
      unfold b_161_1 c_161_2
      rw [nI_1, show 2 ^ (H.1 6) - 1 + 1 = 2 ^ (H.1 6) by omega, chs hCs (by decide), ku_set (by omega), if_pos (nI_le (Nat.le_refl _) (by omega)), f27_1, c27 ho hCs hn, q_bs, f197_1, c197 hsl (by omega) htp hw hn, q_bs]) (fun m k s hk hs => by
      obtain ⟨k1, hs⟩ := hs
      have hCs := CH_C hC hs
      obtain ⟨M, q1, q2, q3, q4, q5⟩ := hone k s hk hs
      have hbl := brn_lt ho (gV H A (fun j => k.testBit j)) t
      refine ⟨M, ⟨by omega, q5⟩, ?_⟩
      show b_161_1 n nh (c_161_1 n nh m) (nI t) (nI wh) _ (nI (k - 1)) s L = c_161_1 n nh m (nI t) (nI wh) (nI (sma (chF H A 0 t) k + chF H A 0 t k)) (nI (k + 1 - 1)) M L
      unfold b_161_1 c_161_2
      rw [nI_1, show k - 1 + 1 = k by omega, chs hCs (by decide), ku_set (by omega), if_neg (nI_ge hk (by omega)), f193_1, q1, q_bs, q2, q_bs, q3, q_bs, q4, q_bs, Nat.add_sub_cancel, nI_add, ← hadd k]
      by_cases h : brn H (gV H A (fun j => k.testBit j)) t = 2 ^ (H.1 4) - 1
      · rw [if_neg (by rw [h]; exact fun q => q rfl), if_pos h]
      · rw [if_pos (by rw [nI_eq (by omega) (by omega)]; exact h), if_neg h, Nat.add_zero]) n 1 M0 (by omega) (by omega) ⟨by omega, p5⟩
  refine ⟨J, some 3, ?_, rfl, hJ.2⟩
  have hbl := brn_lt ho (gV H A (fun j => (0 : Nat).testBit j)) t
  unfold c_161_0
  rw [chs hC (by decide), ku_set (by omega), if_neg (nI_ge hpos (by omega)), p1, q_bs, p2, q_bs, p3, q_bs, p4, q_bs, nI_add]
  rw [← e]
  show _ = c_161_1 n nh n (nI t) (nI wh) (nI (0 + chF H A 0 t 0)) (nI (1 - 1)) M0 L
  rw [← hadd 0]
  by_cases h : brn H (gV H A (fun j => (0 : Nat).testBit j)) t = 2 ^ (H.1 4) - 1
  · rw [if_neg (by rw [h]; exact fun q => q rfl), if_pos h]
  · rw [if_pos (by rw [nI_eq (by omega) (by omega)]; exact h), if_neg h]
theorem c162 (ho : HOK H W A) (hC : CH I 3 11 H W A) {t wh : Nat} (nh : Option Nat) (ht : t < H.1 3) (hw : wh < 2) (hn : 1000 ≤ n) : ∃ J nh', c_162_0 n nh (nI t) (nI wh) (nI 0) (nI 0) I L = some (nI (frc (sma (chF H A 1 t) (2 ^ (H.1 6))) (tnk (H.1 6)) wh), nh', J, L) ∧ (nh' = some 3) ∧ FrC I J := by
  have o6 : H.1 6 ≤ 5 := ho.1.2.2.2.2.2.2.1
  have o4 : H.1 4 ≤ 4 := ho.1.2.2.2.2.1
  have o3 : H.1 3 ≤ 30 := ho.1.2.2.2.1
  have hp := pw32 _ o6
  have hpos : 0 < 2 ^ (H.1 6) := Nat.two_pow_pos _
  have htl := tnk_le _ o6
  have htp := tnk_pos _ o6
  have hsl : sma (chF H A 1 t) (2 ^ (H.1 6)) < 2 ^ 30 := by
    have h1 := sma_le (fun c => chF_le ho 1 t c) (2 ^ (H.1 6))
    have : 400000 * 2 ^ (H.1 6) ≤ 400000 * 32 := Nat.mul_le_mul_left _ hp
    omega
  have hone : ∀ (c : Nat) (s : FI), c < 2 ^ (H.1 6) → FrC I s → ∃ M, f_193 n (nI c) s L = some (M, L) ∧ f_63 n (nI t) M L = some (nI (brn H (gV H A (fun k => c.testBit k)) t)) ∧ f_26 n (nI c) M L = some (nI (wgk (H.1 2) c (H.1 6))) ∧ FrC I M := fun c s hc hs => by
    obtain ⟨M, q1, q2, q3⟩ := nvC (n := n) (L := L) ho (CH_C hC hs) (cm := c) (by omega) hn
    have hCM := CH_C hC (FrC_t hs q3)
    exact ⟨M, q1, c63 ho q2 (gV_ok ho _) ht hn, c26 ho hCM (by omega) hn, FrC_t hs q3⟩
  have hadd : ∀ c, pck (brn H (gV H A (fun k => c.testBit k)) t) 4 * wgk (H.1 2) c (H.1 6) = chF H A 1 t c := fun c => by
    unfold chF chv
    rw [if_neg (by omega)]
  obtain ⟨M0, p1, p2, p4, p5⟩ := hone 0 I hpos (FrC_r I)
  obtain ⟨J, hJ, e⟩ := lpE (fun m k (s : FI) => c_162_1 n nh m (nI t) (nI wh) (nI (sma (chF H A 1 t) k)) (nI k) s L) (2 ^ (H.1 6)) (fun k s => FrC I s) (fun s => some (nI (frc (sma (chF H A 1 t) (2 ^ (H.1 6))) (tnk (H.1 6)) wh), some 3, s, L)) (fun m s hs => by
      have hCs := CH_C hC hs
      show b_162_1 n nh (c_162_1 n nh m) (nI t) (nI wh) _ (nI (2 ^ (H.1 6))) s L = _
      unfold b_162_1
      rw [chs hCs (by decide), ku_set (by omega), if_pos (nI_le (Nat.le_refl _) (by omega)), f27_1, c27 ho hCs hn, q_bs, f197_1, c197 hsl (by omega) htp hw hn, q_bs]) (fun m k s hk hs => by
      have hCs := CH_C hC hs
      obtain ⟨M, q1, q2, q4, q5⟩ := hone k s hk hs
      have hbl := brn_lt ho (gV H A (fun j => k.testBit j)) t
      refine ⟨M, q5, ?_⟩
      show b_162_1 n nh (c_162_1 n nh m) (nI t) (nI wh) _ (nI k) s L = c_162_1 n nh m (nI t) (nI wh) (nI (sma (chF H A 1 t) k + chF H A 1 t k)) (nI (k + 1)) M L
      unfold b_162_1
      rw [chs hCs (by decide), ku_set (by omega), if_neg (nI_ge hk (by omega)), f193_1, q1, q_bs, q2, q_bs, e360 hbl, q_bs, q4, q_bs, pk_mul, nI_add, nI_1, hadd k]) n 1 M0 (by omega) (by omega) p5
  refine ⟨J, some 3, ?_, rfl, hJ⟩
  have hbl := brn_lt ho (gV H A (fun j => (0 : Nat).testBit j)) t
  unfold c_162_0
  rw [chs hC (by decide), ku_set (by omega), if_neg (nI_ge hpos (by omega)), p1, q_bs, p2, q_bs, e360 hbl, q_bs, p4, q_bs, pk_mul, nI_add, nI_1, hadd 0]
  exact e
/-- those away, of those who come -/
theorem aw_tb {V c k : Nat} (hc : c < 2 ^ V) (hk : k < V) : (!(2 ^ V - 1 - c).testBit k) = c.testBit k := by
  have : 2 ^ V - 1 - c = 2 ^ V - (c + 1) := by omega
  rw [this, Nat.testBit_two_pow_sub_succ hc]
  simp [hk]
theorem gV_aw {a : Nat} (ha : a < 2 ^ (H.1 6)) : gV H A (fun k => !a.testBit k) = gV H A (fun k => (2 ^ (H.1 6) - 1 - a).testBit k) := by
  have : gst H A (fun k => !a.testBit k) = gst H A (fun k => (2 ^ (H.1 6) - 1 - a).testBit k) := by
    funext t
    refine gst_cg (fun k hk => ?_) t
    have h := aw_tb (V := H.1 6) (c := 2 ^ (H.1 6) - 1 - a) (k := k) (by omega) hk
    rw [show 2 ^ (H.1 6) - 1 - (2 ^ (H.1 6) - 1 - a) = a by omega] at h
    exact h
  unfold gV
  rw [this]
def wgm (o a : Nat) : Nat → Nat
  | 0 => 1
  | k + 1 => wgm o a k * (if a.testBit k = true then 10 - o else o)
theorem wgm_eq {V a : Nat} (o : Nat) (ha : a < 2 ^ V) : ∀ k, k ≤ V → wgm o a k = wgk o (2 ^ V - 1 - a) k
  | 0, _ => rfl
  | k + 1, h => by
    have ih := wgm_eq o ha k (by omega)
    have hb := aw_tb (V := V) (c := a) (k := k) ha (by omega)
    unfold wgm wgk
    rw [ih]
    cases e : (2 ^ V - 1 - a).testBit k
    · rw [e] at hb
      rw [if_pos (show a.testBit k = true from hb.symm), if_neg (by decide)]
    · rw [e] at hb
      rw [if_neg (by rw [← hb]; decide), if_pos rfl]
theorem nvM (ho : HOK H W A) (hM : MH I 0 H W A) (hr : MRd I H (gV H A (fun _ => true))) (hv : ∃ aw, MVs I aw 0 0) {a : Nat} (ha : a < 32) (hn : 1000 ≤ n) : ∃ K, f_260 n 0 (u2 I 89 26 (nI a)) L = some (K, L) ∧ NMk K H (gV H A (fun k => !a.testBit k)) (H.1 3) ∧ MRd K H (gV H A (fun _ => true)) ∧ MVs K a 0 0 ∧ FrM I K := by
  obtain ⟨aw, v1, v2, v3, v4, v5⟩ := hv
  have hMj : MH (u2 I 89 26 (nI a)) 0 H W A := MH_fr ho hM (fun c hc i => u2_c (by omega))
  have hv' : MVs (u2 I 89 26 (nI a)) a 0 0 := ⟨u2_s, ha, (u2_o (by decide)).trans v3, by decide, fun q => absurd rfl q⟩
  have hr' : MRd (u2 I 89 26 (nI a)) H (gV H A (fun k => !a.testBit k)) := ⟨(u2_o (by decide)).trans hr.1, (u2_o (by decide)).trans hr.2.1, fun r hr2 => (u2_c (by decide)).trans (hr.2.2 r hr2)⟩
  obtain ⟨K, k1, k2, k3⟩ := e260 (n := n) (L := L) (g := gV H A (fun k => !a.testBit k)) ho hMj (gV_ok ho _) hr' hv' rfl (fun t _ => by
    show gst H A (fun k => !a.testBit k) t = gsm H A a 0 0 t
    unfold gsm
    rw [if_neg (fun q => q.1 rfl), Nat.or_zero]) hn
  refine ⟨K, k1, k2, ?_, MVs_fr hv' (fun i => k3 89 i (by omega)), fun c i hc hc2 => by rw [k3 c i (by omega), u2_c hc], fun i hi => by rw [k3 89 i (by omega), u2_o (by omega)]⟩
  exact ⟨by rw [k3 89 25 (by omega)]; exact hr'.1, by rw [k3 89 27 (by omega)]; exact hr'.2.1, fun r hr2 => by rw [k3 104 r (by omega)]; exact hr'.2.2 r hr2⟩
theorem m341 (ho : HOK H W A) (hM : MH I 0 H W A) {t md : Nat} (hmd : md < 2) (ht : t < H.1 3) (hn : 1000 ≤ n) : ∃ K, f_341 n (nI t) (nI md) I L = some (nI (sma (chF H A md t) (2 ^ (H.1 6))), K, L) ∧ FrM I K := by
  have o6 : H.1 6 ≤ 5 := ho.1.2.2.2.2.2.2.1
  have o4 : H.1 4 ≤ 4 := ho.1.2.2.2.2.1
  have o3 : H.1 3 ≤ 30 := ho.1.2.2.2.1
  have o2 : H.1 2 ≤ 10 := ho.1.2.2.1
  have hp := pw32 _ o6
  have hpos : 0 < 2 ^ (H.1 6) := Nat.two_pow_pos _
  have hp4 := pw5 _ (show H.1 4 < 5 by omega)
  obtain ⟨J, j1, j2, j3, j4, j5⟩ := e252 (n := n) (L := L) ho hM hn
  have hMj : MH J 0 H W A := MH_fr ho hM (fun c hc i => j4 c i (by omega) (by omega))
  have hJ : FrM I J := ⟨fun c i hc hc2 => j4 c i hc (by omega), fun i hi => j5 i (by omega)⟩
  obtain ⟨K, ⟨_, _, _, hK⟩, e⟩ := lpE (fun m k (s : FI) => c_341_0 n m (nI t) (nI md) (nI (sma (fun a => chF H A md t (2 ^ (H.1 6) - 1 - a)) k)) (nI k) s L) (2 ^ (H.1 6)) (fun k s => MH s 0 H W A ∧ MRd s H (gV H A (fun _ => true)) ∧ (∃ aw, MVs s aw 0 0) ∧ FrM I s) (fun s => some (nI (sma (fun a => chF H A md t (2 ^ (H.1 6) - 1 - a)) (2 ^ (H.1 6))), s, L)) (fun m s hs => by
      show b_341_0 n (c_341_0 n m) (nI t) (nI md) _ (nI (2 ^ (H.1 6))) s L = _
      unfold b_341_0
      rw [show s 96 5 = nI (H.1 6) from mh96 hs.1 (by decide), ku_set (by omega), if_pos (nI_le (Nat.le_refl _) (by omega))]) (fun m a s ha hs => by
      obtain ⟨s1, s2, s3, s4⟩ := hs
      have m6 : s 96 5 = nI (H.1 6) := mh96 s1 (by decide)
      have m2 : s 96 1 = nI (H.1 2) := mh96 s1 (by decide)
      -- the weight
      obtain ⟨wt, hw, e2⟩ := lpE (fun m' k (b : Nat) => c_341_1 n (c_341_0 n m) m' (nI t) (nI md) (nI (sma (fun a => chF H A md t (2 ^ (H.1 6) - 1 - a)) a)) (nI a) (nI b) (nI k) s L) (H.1 6) (fun k b => b = wgm (H.1 2) a k) (fun b => b_341_1 n (c_341_0 n m) (c_341_1 n (c_341_0 n m) 0) (nI t) (nI md) (nI (sma (fun a => chF H A md t (2 ^ (H.1 6) - 1 - a)) a)) (nI a) (nI b) (nI (H.1 6)) s L) (fun m' b hb => by
          show b_341_1 n (c_341_0 n m) (c_341_1 n (c_341_0 n m) m') (nI t) (nI md) _ (nI a) (nI b) (nI (H.1 6)) s L = _
          unfold b_341_1
          rw [m6, if_pos (nI_le (Nat.le_refl _) (by omega)), if_pos (nI_le (Nat.le_refl _) (by omega))]) (fun m' k b hk hb => by
          refine ⟨wgm (H.1 2) a (k + 1), rfl, ?_⟩
          show b_341_1 n (c_341_0 n m) (c_341_1 n (c_341_0 n m) m') (nI t) (nI md) _ (nI a) (nI b) (nI k) s L = c_341_1 n (c_341_0 n m) m' (nI t) (nI md) _ (nI a) (nI (wgm (H.1 2) a k * (if a.testBit k = true then 10 - H.1 2 else H.1 2))) (nI (k + 1)) s L
          unfold b_341_1 c_341_4
          rw [m6, if_neg (nI_ge hk (by omega)), e247 (by omega) (by omega), q_bs, q_b1, m2, ku_10, pk_sub (by omega), pk_mul, pk_mul, nI_1, hb]
          by_cases h : a.testBit k = true
          · rw [if_pos h, if_pos h]
          · rw [if_neg h, if_neg h]) n 0 1 (by omega) (by omega) rfl
      have hwq : wt = wgk (H.1 2) (2 ^ (H.1 6) - 1 - a) (H.1 6) := by rw [hw]; exact wgm_eq _ ha _ (Nat.le_refl _)
      have hwl := Nat.le_trans (wgk_le (H.1 2) (2 ^ (H.1 6) - 1 - a) o2 (H.1 6)) (tnk_le _ o6)
      have hg0 : c_341_0 n (m + 1) (nI t) (nI md) (nI (sma (fun a => chF H A md t (2 ^ (H.1 6) - 1 - a)) a)) (nI a) s L = b_341_1 n (c_341_0 n m) (c_341_1 n (c_341_0 n m) 0) (nI t) (nI md) (nI (sma (fun a => chF H A md t (2 ^ (H.1 6) - 1 - a)) a)) (nI a) (nI wt) (nI (H.1 6)) s L := by
        show b_341_0 n (c_341_0 n m) (nI t) (nI md) _ (nI a) s L = _
        unfold b_341_0
        rw [m6, ku_set (by omega), if_neg (nI_ge ha (by omega)), show (0 : Int32) = nI 0 from rfl, show (1 : Int32) = nI 1 from rfl]
        exact e2
      by_cases hz : wt = 0
      · refine ⟨s, ⟨s1, s2, s3, s4⟩, ?_⟩
        show c_341_0 n (m + 1) (nI t) (nI md) _ (nI a) s L = c_341_0 n m (nI t) (nI md) (nI (sma (fun a => chF H A md t (2 ^ (H.1 6) - 1 - a)) a + chF H A md t (2 ^ (H.1 6) - 1 - a))) (nI (a + 1)) s L
        rw [hg0]
        unfold b_341_1 c_341_3
        rw [m6, if_pos (nI_le (Nat.le_refl _) (by omega)), hz, if_neg (by decide), nI_1]
        have : chF H A md t (2 ^ (H.1 6) - 1 - a) = 0 := by unfold chF; rw [← hwq, hz, Nat.mul_zero]
        rw [this]; rfl
      · obtain ⟨M, q1, q2, q3, q4, q5⟩ := nvM (n := n) (L := L) ho s1 s2 s3 (a := a) (by omega) hn
        have hMM := MH_M ho s1 q5
        rw [gV_aw ha] at q2
        have hbl := brn_lt ho (gV H A (fun k => (2 ^ (H.1 6) - 1 - a).testBit k)) t
        refine ⟨M, ⟨hMM, q3, ⟨a, q4⟩, FrM_t s4 q5⟩, ?_⟩
        show c_341_0 n (m + 1) (nI t) (nI md) _ (nI a) s L = c_341_0 n m (nI t) (nI md) (nI (sma (fun a => chF H A md t (2 ^ (H.1 6) - 1 - a)) a + chF H A md t (2 ^ (H.1 6) - 1 - a))) (nI (a + 1)) M L
        rw [hg0]
        have hfin : ∀ u, u = chv H A md t (fun k => (2 ^ (H.1 6) - 1 - a).testBit k) → c_341_2 n (c_341_0 n m) (nI t) (nI md) (nI a) (nI u) (nI wt) (nI (sma (fun a => chF H A md t (2 ^ (H.1 6) - 1 - a)) a)) M L = c_341_0 n m (nI t) (nI md) (nI (sma (fun a => chF H A md t (2 ^ (H.1 6) - 1 - a)) a + chF H A md t (2 ^ (H.1 6) - 1 - a))) (nI (a + 1)) M L := fun u hu => by
          unfold c_341_2 c_341_3
          rw [pk_mul, nI_add, nI_1, hu, hwq]
          unfold chF
          rw [Nat.mul_comm]
        unfold b_341_1
        rw [m6, if_pos (nI_le (Nat.le_refl _) (by omega)), if_pos (by rw [ku_0, nI_eq (by omega) (by omega)]; exact hz), q1, q_bs]
        dsimp only
        rw [m262 ho hMM q2 (gV_ok ho _) ht hn, q_bs]
        by_cases h0 : md = 0
        · rw [if_pos (by rw [h0]; rfl), m298 ho hMM, q_bs]
          by_cases h : brn H (gV H A (fun k => (2 ^ (H.1 6) - 1 - a).testBit k)) t = 2 ^ (H.1 4) - 1
          · rw [if_neg (by rw [h]; exact fun q => q rfl)]
            exact hfin 1 (by unfold chv; rw [if_pos h0, if_pos h])
          · rw [if_pos (by rw [nI_eq (by omega) (by omega)]; exact h)]
            exact hfin 0 (by unfold chv; rw [if_pos h0, if_neg h])
        · rw [if_neg (by rw [ku_0, nI_eq (by omega) (by omega)]; exact h0), e248 hbl hn, q_bs]
          exact hfin _ (by unfold chv; rw [if_neg h0])) n 0 J (by omega) (by omega) ⟨hMj, ⟨j2.1, j2.2.1, j2.2.2⟩, ⟨0, j3⟩, hJ⟩
  refine ⟨K, ?_, hK⟩
  unfold f_341
  rw [j1, q_bs, ← sma_rev]
  exact e
end N3
section N3S
variable {KP : KPT} {RP : RPT} {Ls : Nat} {xs : Nat → Int32} {a1 a2 a3 a4 a5 : Int32}
theorem sk_send : SOK Ls xs (VV KP RP) 163 344 [] := by
  intro kp nh rh tl rl I L hV
  have hV0 := hV
  obtain ⟨H, W, A, ⟨hT, hF, ho, hC, hM, hIm, hRw⟩, hR, hW⟩ := hV
  have o0 : H.1 0 ≤ 1000 := ho.1.1
  have o3 : H.1 3 ≤ 30 := ho.1.2.2.2.1
  have o4 : H.1 4 ≤ 4 := ho.1.2.2.2.2.1
  have c0 : I 3 0 = nI (H.1 0) := chs hC (by decide)
  have c3 : I 3 3 = nI (H.1 3) := chs hC (by decide)
  have c4 : I 3 4 = nI (H.1 4) := chs hC (by decide)
  have m0 : u2 I 89 0 0 95 0 = nI (H.1 0) := (u2_c (by decide)).trans hM.1
  have m3 : u2 I 89 0 0 96 2 = nI (H.1 3) := (u2_c (by decide)).trans (mh96 hM (by decide))
  have m4 : u2 I 89 0 0 96 3 = nI (H.1 4) := (u2_c (by decide)).trans (mh96 hM (by decide))
  have hMt : MH (u2 I 89 0 0) 0 H W A := MH_th hM
  by_cases h0 : H.1 0 = 0
  · exact ⟨-2, kp, nh, rh, tl, rl, I, L, u2 I 89 0 0, L, (t_163 Ls xs 993 kp tl rl nh rh 2000 I L (-2, nh, I, L) (by unfold f_163; rw [e177n c0 o0 h0, q_bs, q_n00])), (t_344 Ls xs 993 kp tl rl nh rh 2000 I L (-2, u2 I 89 0 0, L) (by unfold f_344; rw [e236n m0 o0 h0, q_bs, q_n00])), VV_th hV0⟩
  · obtain ⟨J0, i1, i2, i3, i4⟩ := tonC (n := 2000) (L := L) ho hC (md := 0) (by omega) (by omega)
    have f0 : FrC I J0 := i4
    obtain ⟨J, j1, j2⟩ := l163 (n := 2000) (L := L) ho i3 nh (by omega)
    have fJ : FrC I J := FrC_t f0 j2
    have hMJ : MH (u2 J 89 0 0) 0 H W A := MH_th (MH_C ho hM fJ)
    have q0 : u2 J 89 0 0 95 0 = nI (H.1 0) := hMJ.1
    obtain ⟨K0, k1, k2, k3, k4, k5, k6⟩ := tonM (n := 2000) (L := L) ho hMJ (md := 0) (by omega) (by omega)
    have g0 : FrM (u2 J 89 0 0) K0 := ⟨k5, fun i hi => k6 i (by omega)⟩
    obtain ⟨K, l1, l2⟩ := l344 (n := 2000) (L := L) ho k4 (by omega)
    refine ⟨oI (sdo H A (H.1 4)).1, kp, some 3, rh, tl, rl, J, L, K, L, (t_163 Ls xs 993 kp tl rl nh rh 2000 I L (oI (sdo H A (H.1 4)).1, some 3, J, L) ?_), (t_344 Ls xs 993 kp tl rl (some 3) rh 2000 J L (oI (sdo H A (H.1 4)).1, K, L) ?_), VV_n hV0 fJ (FrM_t g0 l2)⟩
    · unfold f_163
      rw [e177y c0 o0 (by omega), q_bs, q_n11, ku_0, i1, q_bs, c66 ho i2 (by omega), q_bs, e196 H _ o3, q_bs, ku_m]
      exact j1
    · unfold f_344
      rw [e236y q0 o0 (by omega), q_bs, q_n11]
      rw [show f_261 2000 0 (u2 J 89 0 0) L = some (K0, L) from k1, q_bs]
      dsimp only
      rw [m264 ho k4 k2 (gN_ok ho (by omega)) (by omega), q_bs, ku_m]
      exact l1
theorem sk_chance : SOK Ls xs (VV KP RP) 161 342 [.int a1, .int a2] := by
  intro kp nh rh tl rl I L hV
  have hV0 := hV
  obtain ⟨H, W, A, ⟨hT, hF, ho, hC, hM, hIm, hRw⟩, hR, hW⟩ := hV
  have o0 : H.1 0 ≤ 1000 := ho.1.1
  have o3 : H.1 3 ≤ 30 := ho.1.2.2.2.1
  have o4 : H.1 4 ≤ 4 := ho.1.2.2.2.2.1
  have c0 : I 3 0 = nI (H.1 0) := chs hC (by decide)
  have c3 : I 3 3 = nI (H.1 3) := chs hC (by decide)
  have c4 : I 3 4 = nI (H.1 4) := chs hC (by decide)
  have m0 : u2 I 89 0 0 95 0 = nI (H.1 0) := (u2_c (by decide)).trans hM.1
  have m3 : u2 I 89 0 0 96 2 = nI (H.1 3) := (u2_c (by decide)).trans (mh96 hM (by decide))
  have m4 : u2 I 89 0 0 96 3 = nI (H.1 4) := (u2_c (by decide)).trans (mh96 hM (by decide))
  have hMt : MH (u2 I 89 0 0) 0 H W A := MH_th hM
  rcases q_arg a1 (n := H.1 3) (by omega) with h1 | ⟨t, ht, rfl⟩
  · exact ⟨-2, kp, nh, rh, tl, rl, I, L, u2 I 89 0 0, L, (t_161 Ls xs 993 kp tl rl nh rh 2000 a1 a2 I L (-2, nh, I, L) (by unfold f_161; rw [e180n c3 o3 h1, q_bs, q_00])), (t_342 Ls xs 933 kp tl rl nh rh 2000 a1 a2 I L (-2, u2 I 89 0 0, L) (by unfold f_342; rw [e241n m3 o3 h1, q_bs, q_00])), VV_th hV0⟩
  · rcases q_arg a2 (n := 2) (by omega) with h2 | ⟨wh, hw, rfl⟩
    · exact ⟨-2, kp, nh, rh, tl, rl, I, L, u2 I 89 0 0, L, (t_161 Ls xs 993 kp tl rl nh rh 2000 (nI t) a2 I L (-2, nh, I, L) (by unfold f_161; rw [e180y c3 o3 ht, q_bs, q_11, e182n h2, q_bs, q_n00])), (t_342 Ls xs 933 kp tl rl nh rh 2000 (nI t) a2 I L (-2, u2 I 89 0 0, L) (by unfold f_342; rw [e241y m3 o3 ht, q_bs, q_11, e242n h2, q_bs, q_00])), VV_th hV0⟩
    · have o6 : H.1 6 ≤ 5 := ho.1.2.2.2.2.2.2.1
      have htl := tnk_le _ o6
      have htp := tnk_pos _ o6
      have hsl : sma (chF H A 0 t) (2 ^ (H.1 6)) < 2 ^ 30 := by
        have h1 := sma_le (fun c => chF_le ho 0 t c) (2 ^ (H.1 6))
        have : 400000 * 2 ^ (H.1 6) ≤ 400000 * 32 := Nat.mul_le_mul_left _ (pw32 _ o6)
        omega
      obtain ⟨J, nh', j1, rfl, j2⟩ := c161 (n := 2000) (L := L) ho hC nh ht hw (by omega)
      have hMJ : MH (u2 J 89 0 0) 0 H W A := MH_th (MH_C ho hM j2)
      have q3 : u2 J 89 0 0 96 2 = nI (H.1 3) := mh96 hMJ (by decide)
      obtain ⟨K, k1, k2⟩ := m341 (n := 2000) (L := L) ho hMJ (md := 0) (by omega) ht (by omega)
      have hMK := MH_M ho hMJ k2
      refine ⟨nI (frc (sma (chF H A 0 t) (2 ^ (H.1 6))) (tnk (H.1 6)) wh), kp, some 3, rh, tl, rl, J, L, K, L, (t_161 Ls xs 993 kp tl rl nh rh 2000 (nI t) (nI wh) I L (nI (frc (sma (chF H A 0 t) (2 ^ (H.1 6))) (tnk (H.1 6)) wh), some 3, J, L) ?_), (t_342 Ls xs 933 kp tl rl (some 3) rh 2000 (nI t) (nI wh) J L (nI (frc (sma (chF H A 0 t) (2 ^ (H.1 6))) (tnk (H.1 6)) wh), K, L) ?_), VV_n hV0 j2 k2⟩
      · unfold f_161
        rw [e180y c3 o3 ht, q_bs, q_11, e182y hw, q_bs, q_n11]
        exact j1
      · unfold f_342
        rw [e241y q3 o3 ht, q_bs, q_11, e242y hw, q_bs, q_11]
        rw [show f_341 2000 (nI t) 0 (u2 J 89 0 0) L = _ from k1, q_bs]
        dsimp only
        rw [m340 ho hMK (by omega), q_bs, m319 hsl (by omega) htp hw, q_bs]
theorem sk_mean : SOK Ls xs (VV KP RP) 162 343 [.int a1, .int a2] := by
  intro kp nh rh tl rl I L hV
  have hV0 := hV
  obtain ⟨H, W, A, ⟨hT, hF, ho, hC, hM, hIm, hRw⟩, hR, hW⟩ := hV
  have o0 : H.1 0 ≤ 1000 := ho.1.1
  have o3 : H.1 3 ≤ 30 := ho.1.2.2.2.1
  have o4 : H.1 4 ≤ 4 := ho.1.2.2.2.2.1
  have c0 : I 3 0 = nI (H.1 0) := chs hC (by decide)
  have c3 : I 3 3 = nI (H.1 3) := chs hC (by decide)
  have c4 : I 3 4 = nI (H.1 4) := chs hC (by decide)
  have m0 : u2 I 89 0 0 95 0 = nI (H.1 0) := (u2_c (by decide)).trans hM.1
  have m3 : u2 I 89 0 0 96 2 = nI (H.1 3) := (u2_c (by decide)).trans (mh96 hM (by decide))
  have m4 : u2 I 89 0 0 96 3 = nI (H.1 4) := (u2_c (by decide)).trans (mh96 hM (by decide))
  have hMt : MH (u2 I 89 0 0) 0 H W A := MH_th hM
  rcases q_arg a1 (n := H.1 3) (by omega) with h1 | ⟨t, ht, rfl⟩
  · exact ⟨-2, kp, nh, rh, tl, rl, I, L, u2 I 89 0 0, L, (t_162 Ls xs 993 kp tl rl nh rh 2000 a1 a2 I L (-2, nh, I, L) (by unfold f_162; rw [e180n c3 o3 h1, q_bs, q_00])), (t_343 Ls xs 933 kp tl rl nh rh 2000 a1 a2 I L (-2, u2 I 89 0 0, L) (by unfold f_343; rw [e241n m3 o3 h1, q_bs, q_00])), VV_th hV0⟩
  · rcases q_arg a2 (n := 2) (by omega) with h2 | ⟨wh, hw, rfl⟩
    · exact ⟨-2, kp, nh, rh, tl, rl, I, L, u2 I 89 0 0, L, (t_162 Ls xs 993 kp tl rl nh rh 2000 (nI t) a2 I L (-2, nh, I, L) (by unfold f_162; rw [e180y c3 o3 ht, q_bs, q_11, e182n h2, q_bs, q_n00])), (t_343 Ls xs 933 kp tl rl nh rh 2000 (nI t) a2 I L (-2, u2 I 89 0 0, L) (by unfold f_343; rw [e241y m3 o3 ht, q_bs, q_11, e242n h2, q_bs, q_00])), VV_th hV0⟩
    · have o6 : H.1 6 ≤ 5 := ho.1.2.2.2.2.2.2.1
      have htl := tnk_le _ o6
      have htp := tnk_pos _ o6
      have hsl : sma (chF H A 1 t) (2 ^ (H.1 6)) < 2 ^ 30 := by
        have h1 := sma_le (fun c => chF_le ho 1 t c) (2 ^ (H.1 6))
        have : 400000 * 2 ^ (H.1 6) ≤ 400000 * 32 := Nat.mul_le_mul_left _ (pw32 _ o6)
        omega
      obtain ⟨J, nh', j1, rfl, j2⟩ := c162 (n := 2000) (L := L) ho hC nh ht hw (by omega)
      have hMJ : MH (u2 J 89 0 0) 0 H W A := MH_th (MH_C ho hM j2)
      have q3 : u2 J 89 0 0 96 2 = nI (H.1 3) := mh96 hMJ (by decide)
      obtain ⟨K, k1, k2⟩ := m341 (n := 2000) (L := L) ho hMJ (md := 1) (by omega) ht (by omega)
      have hMK := MH_M ho hMJ k2
      refine ⟨nI (frc (sma (chF H A 1 t) (2 ^ (H.1 6))) (tnk (H.1 6)) wh), kp, some 3, rh, tl, rl, J, L, K, L, (t_162 Ls xs 993 kp tl rl nh rh 2000 (nI t) (nI wh) I L (nI (frc (sma (chF H A 1 t) (2 ^ (H.1 6))) (tnk (H.1 6)) wh), some 3, J, L) ?_), (t_343 Ls xs 933 kp tl rl (some 3) rh 2000 (nI t) (nI wh) J L (nI (frc (sma (chF H A 1 t) (2 ^ (H.1 6))) (tnk (H.1 6)) wh), K, L) ?_), VV_n hV0 j2 k2⟩
      · unfold f_162
        rw [e180y c3 o3 ht, q_bs, q_11, e182y hw, q_bs, q_n11]
        exact j1
      · unfold f_343
        rw [e241y q3 o3 ht, q_bs, q_11, e242y hw, q_bs, q_11]
        rw [show f_341 2000 (nI t) 1 (u2 J 89 0 0) L = _ from k1, q_bs]
        dsimp only
        rw [m340 ho hMK (by omega), q_bs, m319 hsl (by omega) htp hw, q_bs]
end N3S
