/-! LAYER 3: drawn, luck. Printed by wip/whole/gen56.py -/
section N4
variable {I : FI} {L : FL} {H : HD} {W : Nat → Nat} {A : AD} {n : Nat}
theorem lN_and (a b : Nat) : lN a &&& lN b = lN (a &&& b) := by
  apply Int64.toBitVec_inj.1
  show BitVec.ofNat 64 a &&& BitVec.ofNat 64 b = BitVec.ofNat 64 (a &&& b)
  apply BitVec.eq_of_getLsbD_eq
  intro i hi
  simp [hi]
def lcg (x : Nat) : Nat := (1103515245 * x + 12345) % 2147483648
def drw (x : Nat) : Nat := x / 65536 % 10
def dxs (x : Nat) : Nat → Nat
  | 0 => x
  | k + 1 => lcg (dxs x k)
def dcm (o x : Nat) : Nat → Nat
  | 0 => 0
  | k + 1 => if drw (dxs x (k + 1)) < o then dcm o x k + 2 ^ k else dcm o x k
def daw (o x : Nat) : Nat → Nat
  | 0 => 0
  | k + 1 => if drw (dxs x (k + 1)) < o then daw o x k else daw o x k + 2 ^ k
theorem dca (o x : Nat) : ∀ k, dcm o x k + daw o x k + 1 = 2 ^ k
  | 0 => rfl
  | k + 1 => by
    have ih := dca o x k
    unfold dcm daw
    rw [Nat.pow_succ]
    split <;> omega
theorem lcg_lt (x : Nat) : lcg x < 2147483648 := Nat.mod_lt _ (by decide)
theorem dxs_lt {x : Nat} (hx : x < 2147483648) : ∀ k, dxs x k < 2147483648
  | 0 => hx
  | k + 1 => lcg_lt _
theorem or_add {a k : Nat} (h : a < 2 ^ k) : a ||| 2 ^ k = a + 2 ^ k := by
  have := Nat.two_pow_add_eq_or_of_lt h 1
  rw [Nat.mul_one] at this
  rw [Nat.or_comm, ← this, Nat.add_comm]
theorem lcgC {x : Nat} (hx : x < 2147483648) : (((1103515245 : Int64) * lN x) + (12345 : Int64)) &&& (2147483647 : Int64) = lN (lcg x) := by
  rw [show (1103515245 : Int64) = lN 1103515245 from rfl, show (12345 : Int64) = lN 12345 from rfl, show (2147483647 : Int64) = lN (2 ^ 31 - 1) from rfl, lN_mul, lN_add, lN_and, Nat.and_two_pow_sub_one_eq_mod]
  rfl
theorem lcgM {x : Nat} (hx : x < 2147483648) : (((1103515245 : Int64) * lN x) + (12345 : Int64)) - (((1103515245 : Int64) * lN x) + (12345 : Int64)) / (2147483648 : Int64) * (2147483648 : Int64) = lN (lcg x) := by
  rw [show (1103515245 : Int64) = lN 1103515245 from rfl, show (12345 : Int64) = lN 12345 from rfl, show (2147483648 : Int64) = lN 2147483648 from rfl, lN_mul, lN_add, pk_lRem (by omega) (by omega) (by omega)]
  rfl
theorem drwL {x : Nat} (hx : x < 2147483648) : lN x / (65536 : Int64) - lN x / (65536 : Int64) / (10 : Int64) * (10 : Int64) = lN (drw x) := by
  have : x / 65536 ≤ x := Nat.div_le_self _ _
  rw [show (65536 : Int64) = lN 65536 from rfl, show (10 : Int64) = lN 10 from rfl, pk_lDiv (by omega) (by omega) (by omega), pk_lRem (by omega) (by omega) (by omega)]
  rfl
theorem drw_lt (x : Nat) : drw x < 10 := Nat.mod_lt _ (by decide)
theorem cmpL {d o : Nat} (hd : d < 2 ^ 31) (ho : o < 2 ^ 31) : 0 ≤ lg_cmp (lN d) (nI o).toInt64 ↔ o ≤ d := by
  rw [q_cmp_ge, Int32.toInt_toInt64, nI_toInt ho, lN_toInt hd]; omega
theorem c28 (ho : HOK H W A) (hC : CH I 3 11 H W A) {x : Nat} (hx : x < 2147483648) (hn : 1000 ≤ n) : f_28 n (lN x) I L = some (nI (dcm (H.1 2) x (H.1 6))) := by
  have o6 : H.1 6 ≤ 5 := ho.1.2.2.2.2.2.2.1
  have o2 : H.1 2 ≤ 10 := ho.1.2.2.1
  obtain ⟨s', hs, e⟩ := lpE (fun m k (b : Nat) => c_28_0 n I L m (lN (dxs x k)) (nI b) (nI k)) (H.1 6) (fun k b => b = dcm (H.1 2) x k) (fun b => some (nI b)) (fun m s hs => by
      show b_28_0 n I L (c_28_0 n I L m) _ (nI s) (nI (H.1 6)) = _
      unfold b_28_0
      rw [chs hC (by decide), if_pos (nI_le (Nat.le_refl _) (by omega))]) (fun m k s hk hs => by
      have hxk := dxs_lt hx k
      have hxk1 := lcg_lt (dxs x k)
      have hdr := drw_lt (lcg (dxs x k))
      have hsum := dca (H.1 2) x k
      refine ⟨dcm (H.1 2) x (k + 1), rfl, ?_⟩
      show b_28_0 n I L (c_28_0 n I L m) (lN (dxs x k)) (nI s) (nI k) = c_28_0 n I L m (lN (lcg (dxs x k))) (nI (if drw (lcg (dxs x k)) < H.1 2 then dcm (H.1 2) x k + 2 ^ k else dcm (H.1 2) x k)) (nI (k + 1))
      unfold b_28_0 c_28_1
      rw [chs hC (by decide), if_neg (nI_ge hk (by omega)), lcgC hxk, drwL hxk1, chs hC (by decide), nI_1, hs]
      by_cases h : drw (lcg (dxs x k)) < H.1 2
      · rw [if_pos h, if_neg (by rw [cmpL (by omega) (by omega)]; omega), ku_or (by omega), or_add (by omega)]
      · rw [if_neg h, if_pos (by rw [cmpL (by omega) (by omega)]; omega)]) n 0 0 (by omega) (by omega) rfl
  unfold f_28
  rw [show (0 : Int32) = nI 0 from rfl]
  exact e.trans (by rw [hs])
theorem g28 (n : Nat) (I : FI) (L : FL) : ∀ m, c_28_1_0 n I L m = c_28_0 n I L m
  | 0 => rfl
  | m + 1 => by funext x y z; show b_28_1_0 n I L (c_28_1_0 n I L m) x y z = b_28_0 n I L (c_28_0 n I L m) x y z; rw [g28 n I L m]; rfl
theorem f28_1 (n : Nat) (y : Int64) (I : FI) (L : FL) : f_28_1 n y I L = f_28 n y I L := by unfold f_28_1 f_28; rw [g28]
theorem m345 (ho : HOK H W A) (hM : MH I 0 H W A) {x : Nat} (hx : x < 2147483648) (hn : 1000 ≤ n) : ∃ K, f_345 n (lN x) I L = some (K, L) ∧ NMk K H (gV H A (fun k => (dcm (H.1 2) x (H.1 6)).testBit k)) (H.1 3) ∧ K 89 26 = nI (daw (H.1 2) x (H.1 6)) ∧ FrM I K := by
  have o6 : H.1 6 ≤ 5 := ho.1.2.2.2.2.2.2.1
  have o2 : H.1 2 ≤ 10 := ho.1.2.2.1
  have hp := pw32 _ o6
  have hsum := dca (H.1 2) x (H.1 6)
  obtain ⟨J, j1, j2, j3, j4, j5⟩ := e252 (n := n) (L := L) ho hM hn
  have hMj : MH J 0 H W A := MH_fr ho hM (fun c hc i => j4 c i (by omega) (by omega))
  -- the draws
  obtain ⟨J', ⟨s1, s2, s3⟩, e⟩ := lpE (fun m k (s : FI) => c_345_0 n m (lN (dxs x k)) (nI k) s L) (H.1 6) (fun k s => s 89 26 = nI (daw (H.1 2) x k) ∧ (∀ c i, c ≠ 89 → s c i = J c i) ∧ ∀ i, i ≠ 26 → s 89 i = J 89 i) (fun s => (f_260 n 0 s L).bind fun q1 => some (q1.1, q1.2)) (fun m s hs => by
      have hMs : MH s 0 H W A := MH_fr ho hMj (fun c hc i => hs.2.1 c i (by omega))
      show b_345_0 n (c_345_0 n m) _ (nI (H.1 6)) s L = _
      unfold b_345_0
      rw [show s 96 5 = nI (H.1 6) from mh96 hMs (by decide), if_pos (nI_le (Nat.le_refl _) (by omega))]) (fun m k s hk hs => by
      obtain ⟨t1, t2, t3⟩ := hs
      have hMs : MH s 0 H W A := MH_fr ho hMj (fun c hc i => t2 c i (by omega))
      have hxk := dxs_lt hx k
      have hxk1 := lcg_lt (dxs x k)
      have hdr := drw_lt (lcg (dxs x k))
      have hsum := dca (H.1 2) x k
      have e1 : c_345_0 n (m + 1) (lN (dxs x k)) (nI k) s L = c_345_0 n m (lN (dxs x (k + 1))) (nI (k + 1)) (u2 s 89 26 (nI (daw (H.1 2) x (k + 1)))) L := by
        show b_345_0 n (c_345_0 n m) (lN (dxs x k)) (nI k) s L = c_345_0 n m (lN (lcg (dxs x k))) (nI (k + 1)) (u2 s 89 26 (nI (if drw (lcg (dxs x k)) < H.1 2 then daw (H.1 2) x k else daw (H.1 2) x k + 2 ^ k))) L
        unfold b_345_0 c_345_1
        rw [show s 96 5 = nI (H.1 6) from mh96 hMs (by decide), if_neg (nI_ge hk (by omega)), lcgM hxk, drwL hxk1, show s 96 1 = nI (H.1 2) from mh96 hMs (by decide), nI_1, t1]
        by_cases h : drw (lcg (dxs x k)) < H.1 2
        · rw [if_pos h, if_neg (by rw [cmpL (by omega) (by omega)]; omega), ku_0, fa_or, Nat.or_zero]
        · rw [if_neg h, if_pos (by rw [cmpL (by omega) (by omega)]; omega), ku_or (by omega), or_add (by omega)]
      exact ⟨_, ⟨u2_s, fun c i hc => by rw [u2_c hc]; exact t2 c i hc, fun i hi => by rw [u2_o hi]; exact t3 i hi⟩, e1⟩) n 0 J (by omega) (by omega) ⟨j3.1, fun _ _ _ => rfl, fun _ _ => rfl⟩
  have hMs : MH J' 0 H W A := MH_fr ho hMj (fun c hc i => s2 c i (by omega))
  have hv : MVs J' (daw (H.1 2) x (H.1 6)) 0 0 := ⟨s1, by omega, by rw [s3 28 (by decide)]; exact j3.2.2.1, by decide, fun q => absurd rfl q⟩
  obtain ⟨K, k1, k2, k3⟩ := e260 (n := n) (L := L) (g := gV H A (fun k => !(daw (H.1 2) x (H.1 6)).testBit k)) ho hMs (gV_ok ho _) ⟨by rw [s3 25 (by decide)]; exact j2.1, by rw [s3 27 (by decide)]; exact j2.2.1, fun r hr => by rw [s2 104 r (by decide)]; exact j2.2.2 r hr⟩ hv rfl (fun t _ => by
    show gst H A (fun k => !(daw (H.1 2) x (H.1 6)).testBit k) t = gsm H A _ 0 0 t
    unfold gsm
    rw [if_neg (fun q => q.1 rfl), Nat.or_zero]) hn
  rw [gV_aw (by omega), show 2 ^ (H.1 6) - 1 - daw (H.1 2) x (H.1 6) = dcm (H.1 2) x (H.1 6) by omega] at k2
  refine ⟨K, ?_, k2, by rw [k3 89 26 (by omega)]; exact s1, fun c i hc hc2 => by rw [k3 c i (by omega), s2 c i hc, j4 c i hc (by omega)], fun i hi => by rw [k3 89 i (by omega), s3 i (by omega), j5 i (by omega)]⟩
  unfold f_345
  rw [j1, q_bs]
  refine Eq.trans e ?_
  show (f_260 n 0 J' L).bind _ = _
  rw [show f_260 n 0 J' L = some (K, L) from k1, q_bs]
theorem awx : ∀ V, V < 6 → ∀ a, a < 32 → a < 2 ^ V → nI (2 ^ V - 1) &&& (nI a ^^^ (-1)) = nI (2 ^ V - 1 - a) := by decide +kernel
theorem e346 (x : Int32) : f_346 x I L = some (bI (0 ≤ x.toInt ∧ x.toInt ≤ 2000000000)) := by
  unfold f_346
  rw [e201, q_bs, q_b3, Int32.toInt_toInt64]; rfl
theorem e346y {r : Nat} (hr : r ≤ 2000000000) : f_346 (nI r) I L = some 1 := by rw [e346, bI_p (by rw [nI_toInt (by omega)]; omega)]
theorem e346n {x : Int32} (hx : x.toInt < 0 ∨ 2000000001 ≤ x.toInt) : f_346 x I L = some 0 := by rw [e346, bI_n (by omega)]
end N4
section N4S
variable {KP : KPT} {RP : RPT} {Ls : Nat} {xs : Nat → Int32} {a1 a2 a3 a4 a5 : Int32}
theorem sk_drawn : SOK Ls xs (VV KP RP) 168 347 [.int a1, .int a2] := by
  intro kp nh rh tl rl I L hV
  have hV0 := hV
  obtain ⟨H, W, A, ⟨hT, hF, ho, hC, hM, hIm, hRw⟩, hR, hW⟩ := hV
  have o0 : H.1 0 ≤ 1000 := ho.1.1
  have o3 : H.1 3 ≤ 30 := ho.1.2.2.2.1
  have o4 : H.1 4 ≤ 4 := ho.1.2.2.2.2.1
  have c0 : I 3 0 = nI (H.1 0) := chs hC (by decide)
  have c3 : I 3 3 = nI (H.1 3) := chs hC (by decide)
  have c4 : I 3 4 = nI (H.1 4) := chs hC (by decide)
  have m0 : u2 I 89 0 0 95 0 = nI (H.1 0) := (u2_c (by decide)).trans hM.1
  have m3 : u2 I 89 0 0 96 2 = nI (H.1 3) := (u2_c (by decide)).trans (mh96 hM (by decide))
  have m4 : u2 I 89 0 0 96 3 = nI (H.1 4) := (u2_c (by decide)).trans (mh96 hM (by decide))
  have hMt : MH (u2 I 89 0 0) 0 H W A := MH_th hM
  by_cases h0 : H.1 0 = 0
  · exact ⟨-2, kp, nh, rh, tl, rl, I, L, u2 I 89 0 0, L, (t_168 Ls xs 993 kp tl rl nh rh 2000 a1 a2 I L (-2, nh, I, L) (by unfold f_168; rw [e177n c0 o0 h0, q_bs, q_00])), (t_347 Ls xs 993 kp tl rl nh rh 2000 a1 a2 I L (-2, u2 I 89 0 0, L) (by unfold f_347; rw [e236n m0 o0 h0, q_bs, q_00])), VV_th hV0⟩
  · rcases q_arg a1 (n := 2000000001) (by omega) with h1 | ⟨s, hs, rfl⟩
    · exact ⟨-2, kp, nh, rh, tl, rl, I, L, u2 I 89 0 0, L, (t_168 Ls xs 993 kp tl rl nh rh 2000 a1 a2 I L (-2, nh, I, L) (by unfold f_168; rw [e177y c0 o0 (by omega), q_bs, q_11, e183n h1, q_bs, q_00])), (t_347 Ls xs 993 kp tl rl nh rh 2000 a1 a2 I L (-2, u2 I 89 0 0, L) (by unfold f_347; rw [e236y m0 o0 (by omega), q_bs, q_11, e346n h1, q_bs, q_00])), VV_th hV0⟩
    · rcases q_arg a2 (n := 2) (by omega) with h2 | ⟨wh, hw, rfl⟩
      · exact ⟨-2, kp, nh, rh, tl, rl, I, L, u2 I 89 0 0, L, (t_168 Ls xs 993 kp tl rl nh rh 2000 (nI s) a2 I L (-2, nh, I, L) (by unfold f_168; rw [e177y c0 o0 (by omega), q_bs, q_11, e183y (by omega), q_bs, q_11, e182n h2, q_bs, q_n00])), (t_347 Ls xs 993 kp tl rl nh rh 2000 (nI s) a2 I L (-2, u2 I 89 0 0, L) (by unfold f_347; rw [e236y m0 o0 (by omega), q_bs, q_11, e346y (by omega), q_bs, q_11, e242n h2, q_bs, q_n00])), VV_th hV0⟩
      · have o6 : H.1 6 ≤ 5 := ho.1.2.2.2.2.2.2.1
        have hp := pw32 _ o6
        have hsum := dca (H.1 2) s (H.1 6)
        have cd := c28 (n := 2000) (L := L) ho hC (x := s) (by omega) (by omega)
        rcases (show wh = 0 ∨ wh = 1 by omega) with rfl | rfl
        · obtain ⟨K, k1, k2, k3, k4⟩ := m345 (n := 2000) (L := L) ho hMt (x := s) (by omega) (by omega)
          have hMK := MH_M ho hMt k4
          refine ⟨nI (dcm (H.1 2) s (H.1 6)), kp, nh, rh, tl, rl, I, L, K, L, (t_168 Ls xs 993 kp tl rl nh rh 2000 (nI s) (nI 0) I L (nI (dcm (H.1 2) s (H.1 6)), nh, I, L) ?_), (t_347 Ls xs 993 kp tl rl nh rh 2000 (nI s) (nI 0) I L (nI (dcm (H.1 2) s (H.1 6)), K, L) ?_), VV_n hV0 (FrC_r I) k4⟩
          · unfold f_168
            rw [e177y c0 o0 (by omega), q_bs, q_11, e183y (by omega), q_bs, q_11, e182y (by omega), q_bs, q_n11, nI_l (by omega), cd, q_bs, if_neg (show ¬ ¬ nI 0 = 0 by decide)]
          · unfold f_347
            rw [e236y m0 o0 (by omega), q_bs, q_11, e346y (by omega), q_bs, q_11, e242y (by omega), q_bs, q_n11, nI_l (by omega), k1, q_bs, if_neg (show ¬ ¬ nI 0 = 0 by decide)]
            dsimp only
            rw [show K 96 5 = nI (H.1 6) from mh96 hMK (by decide), k3, ku_set (by omega), show nI (2 ^ (H.1 6)) - (1 : Int32) = nI (2 ^ (H.1 6) - 1) from by rw [ku_1, pk_sub Nat.one_le_two_pow], awx _ (by omega) _ (by omega) (by omega), show 2 ^ (H.1 6) - 1 - daw (H.1 2) s (H.1 6) = dcm (H.1 2) s (H.1 6) by omega]
        · obtain ⟨J, j1, j2, j3⟩ := nvC (n := 2000) (L := L) ho hC (cm := dcm (H.1 2) s (H.1 6)) (by omega) (by omega)
          have hMJ : MH (u2 J 89 0 0) 0 H W A := MH_th (MH_C ho hM j3)
          have q0 : u2 J 89 0 0 95 0 = nI (H.1 0) := hMJ.1
          obtain ⟨K, k1, k2, k3, k4⟩ := m345 (n := 2000) (L := L) ho hMJ (x := s) (by omega) (by omega)
          have hMK := MH_M ho hMJ k4
          refine ⟨oI (drk H (gV H A (fun k => (dcm (H.1 2) s (H.1 6)).testBit k))), kp, some 3, rh, tl, rl, J, L, K, L, (t_168 Ls xs 993 kp tl rl nh rh 2000 (nI s) (nI 1) I L (oI (drk H (gV H A (fun k => (dcm (H.1 2) s (H.1 6)).testBit k))), some 3, J, L) ?_), (t_347 Ls xs 993 kp tl rl (some 3) rh 2000 (nI s) (nI 1) J L (oI (drk H (gV H A (fun k => (dcm (H.1 2) s (H.1 6)).testBit k))), K, L) ?_), VV_n hV0 j3 k4⟩
          · unfold f_168
            rw [e177y c0 o0 (by omega), q_bs, q_11, e183y (by omega), q_bs, q_11, e182y (by omega), q_bs, q_n11, nI_l (by omega), cd, q_bs, if_pos (show ¬ nI 1 = 0 by decide), j1, q_bs, c66 ho j2 (by omega), q_bs]
          · unfold f_347
            rw [e236y q0 o0 (by omega), q_bs, q_11, e346y (by omega), q_bs, q_11, e242y (by omega), q_bs, q_n11, nI_l (by omega), k1, q_bs, if_pos (show ¬ nI 1 = 0 by decide)]
            dsimp only
            rw [m264 ho hMK k2 (gV_ok ho _) (by omega), q_bs, m265 ho hMK (dkm_le ..), q_bs, dkm_drk]
/-- in how many nights a flame goes out -/
def lkn (H : HD) (A : AD) (s r : Nat) : Nat → Nat
  | 0 => 0
  | k + 1 => if nou H (gV H A (fun j => (dcm (H.1 2) (s + k) (H.1 6)).testBit j)) (H.1 3) r = 0 then lkn H A s r k else lkn H A s r k + 1
theorem c169 {I : FI} {L : FL} {H : HD} {W : Nat → Nat} {A : AD} {n : Nat} (ho : HOK H W A) (hC : CH I 3 11 H W A) (nh : Option Nat) {s q r : Nat} (hs : s ≤ 2000000000) (hq : 1 ≤ q ∧ q ≤ 20) (hr : r < H.1 4) (hn : 1000 ≤ n) : ∃ J, c_169_0 n nh (nI s) (nI q) (nI r) 0 0 I L = some (nI (lkn H A s r q), some 3, J, L) ∧ FrC I J := by
  have o6 : H.1 6 ≤ 5 := ho.1.2.2.2.2.2.2.1
  have o4 : H.1 4 ≤ 4 := ho.1.2.2.2.2.1
  have o3 : H.1 3 ≤ 30 := ho.1.2.2.2.1
  have hp := pw32 _ o6
  have hone : ∀ (k : Nat) (t : FI), k < 20 → FrC I t → ∃ M, f_28 n ((nI s).toInt64 + (nI k).toInt64) t L = some (nI (dcm (H.1 2) (s + k) (H.1 6))) ∧ f_193 n (nI (dcm (H.1 2) (s + k) (H.1 6))) t L = some (M, L) ∧ M 32 r = oI (nou H (gV H A (fun j => (dcm (H.1 2) (s + k) (H.1 6)).testBit j)) (H.1 3) r) ∧ FrC I M := fun k t hk ht => by
    have hsum := dca (H.1 2) (s + k) (H.1 6)
    obtain ⟨M, q1, q2, q3⟩ := nvC (n := n) (L := L) ho (CH_C hC ht) (cm := dcm (H.1 2) (s + k) (H.1 6)) (by omega) hn
    refine ⟨M, ?_, q1, q2.2.2 r hr, FrC_t ht q3⟩
    rw [nI_l (by omega), nI_l (by omega), lN_add]
    exact c28 ho (CH_C hC ht) (by omega) hn
  obtain ⟨M0, p1, p2, p3, p4⟩ := hone 0 I (by omega) (FrC_r I)
  have hl := fun k => nou_le H (gV H A (fun j => (dcm (H.1 2) (s + k) (H.1 6)).testBit j)) (H.1 3) r
  obtain ⟨J, hJ, e⟩ := lpE (fun m k (t : FI) => c_169_1 n nh m (nI s) (nI q) (nI r) (nI (lkn H A s r k)) (nI (k - 1)) t L) q (fun k t => 1 ≤ k ∧ FrC I t) (fun t => some (nI (lkn H A s r q), some 3, t, L)) (fun m t ht => by
      show b_169_1 n nh (c_169_1 n nh m) (nI s) (nI q) (nI r) _ (nI (q - 1)) t L = _
      unfold b_169_1 c_169_2
      rw [nI_1, show q - 1 + 1 = q by omega, if_pos (nI_le (Nat.le_refl _) (by omega))]) (fun m k t hk ht => by
      obtain ⟨k1, ht⟩ := ht
      obtain ⟨M, q1, q2, q3, q4⟩ := hone k t (by omega) ht
      have hlk := hl k
      refine ⟨M, ⟨by omega, q4⟩, ?_⟩
      show b_169_1 n nh (c_169_1 n nh m) (nI s) (nI q) (nI r) _ (nI (k - 1)) t L = c_169_1 n nh m (nI s) (nI q) (nI r) (nI (if nou H (gV H A (fun j => (dcm (H.1 2) (s + k) (H.1 6)).testBit j)) (H.1 3) r = 0 then lkn H A s r k else lkn H A s r k + 1)) (nI (k + 1 - 1)) M L
      unfold b_169_1 c_169_2
      rw [nI_1, show k - 1 + 1 = k by omega, if_neg (nI_ge hk (by omega)), f28_1, q1, q_bs, f193_1, q2, q_bs, ku_if (by omega) (by omega), nI_clamp (by omega), Nat.add_sub_cancel, nI_1]
      dsimp only
      by_cases h : nou H (gV H A (fun j => (dcm (H.1 2) (s + k) (H.1 6)).testBit j)) (H.1 3) r = 0
      · rw [if_pos (show M 32 r = -1 by rw [q3, h, oI_0]), if_pos h]
      · rw [if_neg (show ¬ M 32 r = -1 by rw [q3, oI_m1 (by omega)]; exact h), if_neg h]) n 1 M0 (by omega) (by omega) ⟨by omega, p4⟩
  refine ⟨J, ?_, hJ.2⟩
  have hl0 := hl 0
  unfold c_169_0
  rw [show (0 : Int32) = nI 0 from rfl, if_neg (nI_ge (by omega) (by omega)), p1, q_bs, p2, q_bs, ku_if (by omega) (by omega), nI_clamp (by omega), nI_1, ← e]
  dsimp only
  show _ = c_169_1 n nh n (nI s) (nI q) (nI r) (nI (if nou H (gV H A (fun j => (dcm (H.1 2) (s + 0) (H.1 6)).testBit j)) (H.1 3) r = 0 then 0 else 0 + 1)) (nI (1 - 1)) M0 L
  by_cases h : nou H (gV H A (fun j => (dcm (H.1 2) (s + 0) (H.1 6)).testBit j)) (H.1 3) r = 0
  · rw [if_pos (show M0 32 r = -1 by rw [p3, h, oI_0]), if_pos h]
  · rw [if_neg (show ¬ M0 32 r = -1 by rw [p3, oI_m1 (by omega)]; exact h), if_neg h]
theorem m348 {I : FI} {L : FL} {H : HD} {W : Nat → Nat} {A : AD} {n : Nat} (ho : HOK H W A) (hM : MH I 0 H W A) {s q r : Nat} (hs : s ≤ 2000000000) (hq : 1 ≤ q ∧ q ≤ 20) (hr : r < H.1 4) (hn : 1000 ≤ n) : ∃ K, c_348_0 n n (nI s) (nI q) (nI r) 0 0 I L = some (nI (lkn H A s r q), K, L) ∧ FrM I K := by
  have o4 : H.1 4 ≤ 4 := ho.1.2.2.2.2.1
  have o3 : H.1 3 ≤ 30 := ho.1.2.2.2.1
  obtain ⟨K, hK, e⟩ := lpE (fun m k (t : FI) => c_348_0 n m (nI s) (nI q) (nI r) (nI (lkn H A s r k)) (nI k) t L) q (fun k t => FrM I t) (fun t => some (nI (lkn H A s r q), t, L)) (fun m t ht => by
      show b_348_0 n (c_348_0 n m) (nI s) (nI q) (nI r) _ (nI q) t L = _
      unfold b_348_0
      rw [if_pos (nI_le (Nat.le_refl _) (by omega))]) (fun m k t hk ht => by
      have hMt := MH_M ho hM ht
      obtain ⟨K, k1, k2, k3, k4⟩ := m345 (n := n) (L := L) ho hMt (x := s + k) (by omega) hn
      have hMK := MH_M ho hMt k4
      have hl := oum_le H (gV H A (fun j => (dcm (H.1 2) (s + k) (H.1 6)).testBit j)) r
      refine ⟨K, FrM_t ht k4, ?_⟩
      show b_348_0 n (c_348_0 n m) (nI s) (nI q) (nI r) _ (nI k) t L = c_348_0 n m (nI s) (nI q) (nI r) (nI (if nou H (gV H A (fun j => (dcm (H.1 2) (s + k) (H.1 6)).testBit j)) (H.1 3) r = 0 then lkn H A s r k else lkn H A s r k + 1)) (nI (k + 1)) K L
      unfold b_348_0 c_348_1
      rw [if_neg (nI_ge hk (by omega)), nI_l (by omega), nI_l (by omega), lN_add, k1, q_bs]
      dsimp only
      rw [m263 ho hMK k2 (gV_ok ho _) hr hn, q_bs, e238 hMK, q_bs, ku_0, ku_1, nI_add, nI_add, nI_add]
      have hln := nou_le H (gV H A (fun j => (dcm (H.1 2) (s + k) (H.1 6)).testBit j)) (H.1 3) r
      unfold oum at hl ⊢
      by_cases h : nou H (gV H A (fun j => (dcm (H.1 2) (s + k) (H.1 6)).testBit j)) (H.1 3) r = 0
      · rw [if_pos h, if_pos h, if_pos (nI_le (Nat.le_refl _) (by omega))]; rfl
      · rw [if_neg h, if_neg h, if_neg (nI_ge (by omega) (by omega))]) n 0 I (by omega) (by omega) (FrM_r I)
  exact ⟨K, e, hK⟩
theorem sk_luck : SOK Ls xs (VV KP RP) 169 348 [.int a1, .int a2, .int a3] := by
  intro kp nh rh tl rl I L hV
  have hV0 := hV
  obtain ⟨H, W, A, ⟨hT, hF, ho, hC, hM, hIm, hRw⟩, hR, hW⟩ := hV
  have o0 : H.1 0 ≤ 1000 := ho.1.1
  have o3 : H.1 3 ≤ 30 := ho.1.2.2.2.1
  have o4 : H.1 4 ≤ 4 := ho.1.2.2.2.2.1
  have c0 : I 3 0 = nI (H.1 0) := chs hC (by decide)
  have c3 : I 3 3 = nI (H.1 3) := chs hC (by decide)
  have c4 : I 3 4 = nI (H.1 4) := chs hC (by decide)
  have m0 : u2 I 89 0 0 95 0 = nI (H.1 0) := (u2_c (by decide)).trans hM.1
  have m3 : u2 I 89 0 0 96 2 = nI (H.1 3) := (u2_c (by decide)).trans (mh96 hM (by decide))
  have m4 : u2 I 89 0 0 96 3 = nI (H.1 4) := (u2_c (by decide)).trans (mh96 hM (by decide))
  have hMt : MH (u2 I 89 0 0) 0 H W A := MH_th hM
  have fin : f_169 2000 nh a1 a2 a3 I L = some (-2, nh, I, L) → f_348 2000 a1 a2 a3 I L = some (-2, u2 I 89 0 0, L) → ∃ v kp1 nh1 rh1 tl1 rl1 I1 L1 I2 L2, pEN Ls xs 1000 169 (.ref 0 :: [.int a1, .int a2, .int a3]) (hp kp nh rh tl rl I L) = some (some (.int v), hp kp1 nh1 rh1 tl1 rl1 I1 L1) ∧ pEN Ls xs 1000 348 (.ref 89 :: [.int a1, .int a2, .int a3]) (hp kp1 nh1 rh1 tl1 rl1 I1 L1) = some (some (.int v), hp kp1 nh1 rh1 tl1 rl1 I2 L2) ∧ VV KP RP kp1 nh1 rh1 tl1 rl1 I2 L2 := fun h1 h2 => ⟨-2, kp, nh, rh, tl, rl, I, L, u2 I 89 0 0, L, (t_169 Ls xs 993 kp tl rl nh rh 2000 a1 a2 a3 I L (-2, nh, I, L) h1), (t_348 Ls xs 993 kp tl rl nh rh 2000 a1 a2 a3 I L (-2, u2 I 89 0 0, L) h2), VV_th hV0⟩
  by_cases hok : ((0 ≤ a3.toInt ∧ a3.toInt < H.1 4) ∧ (0 ≤ a1.toInt ∧ a1.toInt ≤ 2000000000)) ∧ (1 ≤ a2.toInt ∧ a2.toInt ≤ 20)
  · obtain ⟨⟨⟨z1, z2⟩, z3, z4⟩, z5, z6⟩ := hok
    rcases q_arg a3 (n := H.1 4) (by omega) with h | ⟨r, hr, rfl⟩
    · omega
    rcases q_arg a1 (n := 2000000001) (by omega) with h | ⟨s, hs, rfl⟩
    · omega
    rcases q_arg a2 (n := 21) (by omega) with h | ⟨q, hq, rfl⟩
    · omega
    rw [nI_toInt (by omega)] at z5 z6
    obtain ⟨J, j1, j2⟩ := c169 (n := 2000) (L := L) ho hC nh (s := s) (q := q) (r := r) (by omega) (by omega) hr (by omega)
    have hMJ : MH (u2 J 89 0 0) 0 H W A := MH_th (MH_C ho hM j2)
    have q4 : u2 J 89 0 0 96 3 = nI (H.1 4) := mh96 hMJ (by decide)
    obtain ⟨K, k1, k2⟩ := m348 (n := 2000) (L := L) ho hMJ (s := s) (q := q) (r := r) (by omega) (by omega) hr (by omega)
    refine ⟨nI (lkn H A s r q), kp, some 3, rh, tl, rl, J, L, K, L, (t_169 Ls xs 993 kp tl rl nh rh 2000 (nI s) (nI q) (nI r) I L (nI (lkn H A s r q), some 3, J, L) ?_), (t_348 Ls xs 993 kp tl rl (some 3) rh 2000 (nI s) (nI q) (nI r) J L (nI (lkn H A s r q), K, L) ?_), VV_n hV0 j2 k2⟩
    · unfold f_169
      rw [e178y c4 o4 hr, q_bs, q_11, e183y (by omega), q_bs, q_11, if_neg (show ¬ nI q < 1 from nI_nlt (b := 1) (by omega) (by omega)), if_pos (show nI q ≤ 20 from nI_le (b := 20) (by omega) (by omega))]
      exact j1
    · unfold f_348
      rw [e346y (by omega), q_bs, q_11, e201, bI_p (by rw [Int32.toInt_toInt64, nI_toInt (by omega), show (1 : Int64).toInt = 1 from rfl, show (20 : Int64).toInt = 20 from rfl]; omega), q_bs, q_11, e239y q4 o4 hr, q_bs, q_n11]
      exact k1
  · refine fin ?_ ?_
    · unfold f_169
      rw [e178 c4 o4, q_bs, q_b1]
      by_cases h1 : 0 ≤ a3.toInt ∧ a3.toInt < H.1 4
      · rw [if_pos h1, e183, q_bs, q_b1]
        by_cases h2 : 0 ≤ a1.toInt ∧ a1.toInt ≤ 2000000000
        · rw [if_pos h2]
          by_cases h3 : a2 < 1
          · rw [if_pos h3]
          · rw [if_neg h3, if_neg (by rw [fa_lt, show (1 : Int32).toInt = 1 from rfl] at h3; rw [fa_le, show (20 : Int32).toInt = 20 from rfl]; omega)]
        · rw [if_neg h2]
      · rw [if_neg h1]
    · unfold f_348
      rw [e346, q_bs, q_b1]
      by_cases h2 : 0 ≤ a1.toInt ∧ a1.toInt ≤ 2000000000
      · rw [if_pos h2, e201, q_bs, q_b1]
        by_cases h3 : (1 : Int64).toInt ≤ a2.toInt64.toInt ∧ a2.toInt64.toInt ≤ (20 : Int64).toInt
        · rw [if_pos h3, e239 m4 o4, q_bs, q_b2, if_neg (by
            rw [Int32.toInt_toInt64, show (1 : Int64).toInt = 1 from rfl, show (20 : Int64).toInt = 20 from rfl] at h3
            rw [Int32.toInt_toInt64]; omega)]
        · rw [if_neg h3]
      · rw [if_neg h2]
end N4S
