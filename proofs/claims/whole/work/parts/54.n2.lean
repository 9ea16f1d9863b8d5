/-! LAYER 3: by, law, gets, rests. Printed by wip/whole/gen54.py -/
section N2
variable {KP : KPT} {RP : RPT} {Ls : Nat} {xs : Nat → Int32} {a1 a2 a3 a4 a5 : Int32}
theorem sk_by : SOK Ls xs (VV KP RP) 157 334 [.int a1] := by
  intro kp nh rh tl rl I L hV
  have hV0 := hV
  obtain ⟨H, W, A, ⟨hT, hF, ho, hC, hM, hIm, hRw⟩, hR, hW⟩ := hV
  have o0 : H.1 0 ≤ 1000 := ho.1.1
  have o3 : H.1 3 ≤ 30 := ho.1.2.2.2.1
  have o4 : H.1 4 ≤ 4 := ho.1.2.2.2.2.1
  have c0 : I 3 0 = nI (H.1 0) := chs hC (by decide)
  have c3 : I 3 3 = nI (H.1 3) := chs hC (by decide)
  have c4 : I 3 4 = nI (H.1 4) := chs hC (by decide)
  have m0 : u2 I 89 0 0 95 0 = nI (H.1 0) := (u2_c (by decide)).trans hM.1
  have m3 : u2 I 89 0 0 96 2 = nI (H.1 3) := (u2_c (by decide)).trans (mh96 hM (by decide))
  have m4 : u2 I 89 0 0 96 3 = nI (H.1 4) := (u2_c (by decide)).trans (mh96 hM (by decide))
  have hMt : MH (u2 I 89 0 0) 0 H W A := MH_th hM
  by_cases h0 : H.1 0 = 0
  · exact ⟨-2, kp, nh, rh, tl, rl, I, L, u2 I 89 0 0, L, (t_157 Ls xs 993 kp tl rl nh rh 2000 a1 I L (-2, nh, I, L) (by unfold f_157; rw [e177n c0 o0 h0, q_bs, q_00])), (t_334 Ls xs 993 kp tl rl nh rh 2000 a1 I L (-2, u2 I 89 0 0, L) (by unfold f_334; rw [e236n m0 o0 h0, q_bs, q_00])), VV_th hV0⟩
  · rcases q_arg a1 (n := 4) (by omega) with h1 | ⟨l, hl, rfl⟩
    · have hc : f_157 2000 nh a1 I L = some (-2, nh, I, L) := by
        unfold f_157
        rw [e177y c0 o0 (by omega), q_bs, q_11]
        by_cases h2 : a1 < 0
        · rw [if_pos h2]
        · rw [if_neg h2, if_neg (by rw [fa_lt, i0] at h2; rw [fa_lt, show (4 : Int32).toInt = 4 from rfl]; omega)]
      exact ⟨-2, kp, nh, rh, tl, rl, I, L, u2 I 89 0 0, L, (t_157 Ls xs 993 kp tl rl nh rh 2000 a1 I L (-2, nh, I, L) hc), (t_334 Ls xs 993 kp tl rl nh rh 2000 a1 I L (-2, u2 I 89 0 0, L) (by unfold f_334; rw [e236y m0 o0 (by omega), q_bs, q_11, show (3 : Int64) = (nI 3).toInt64 from by decide +kernel, e201n (b := 3) (by omega) (by omega), q_bs, q_00])), VV_th hV0⟩
    · obtain ⟨J, j1, j2, j3⟩ := nlC (n := 2000) (L := L) ho hC hl (by omega)
      have hMJ : MH (u2 J 89 0 0) 0 H W A := MH_th (MH_C ho hM j3)
      have q0 : u2 J 89 0 0 95 0 = nI (H.1 0) := hMJ.1
      obtain ⟨K, k1, k2, k3⟩ := nlM (n := 2000) (L := L) ho hMJ hl (by omega)
      have hMK := MH_M ho hMJ k3
      refine ⟨oI (drk H (gL H A l)), kp, some 3, rh, tl, rl, J, L, K, L, (t_157 Ls xs 993 kp tl rl nh rh 2000 (nI l) I L (oI (drk H (gL H A l)), some 3, J, L) ?_), (t_334 Ls xs 993 kp tl rl (some 3) rh 2000 (nI l) J L (oI (drk H (gL H A l)), K, L) ?_), VV_n hV0 j3 k3⟩
      · unfold f_157
        rw [e177y c0 o0 (by omega), q_bs, q_11, if_neg (nI_pos (by omega)), if_pos (show nI l < 4 from nI_lt (b := 4) hl (by omega)), j1, q_bs, c66 ho j2 (by omega), q_bs]
      · unfold f_334
        rw [e236y q0 o0 (by omega), q_bs, q_11, show (3 : Int64) = (nI 3).toInt64 from by decide +kernel, e201y (b := 3) (by omega) (by omega), q_bs, q_11, k1, q_bs, m265 ho hMK (dkm_le ..), q_bs, dkm_drk]
/-- lateness -/
def ltn (M d : Nat) : Nat := if d = M then 1000 else d
theorem ltn_le {M a b : Nat} (ha : a ≤ M) (hb : b ≤ M) (hM : M ≤ 30) : ltn M a ≤ ltn M b ↔ a ≤ b := by
  unfold ltn
  split <;> split <;> omega
theorem ltn_b {M a : Nat} (ha : a ≤ M) (hM : M ≤ 30) : ltn M a ≤ 1000 := by
  unfold ltn
  split <;> omega
theorem e196 (H : HD) (g : NG) (h3 : H.1 3 ≤ 30) {I : FI} {L : FL} : f_196 (oI (drk H g)) I L = some (nI (ltn (H.1 3) (dkm H g))) := by
  have h := dkm_drk H g
  have hd := drk_le H g
  unfold f_196 ltn
  by_cases e : dkm H g = H.1 3
  · rw [if_pos e] at h
    rw [if_neg (by rw [← h, oI_0]; exact fun q => q rfl), if_pos e]; rfl
  · rw [if_neg e] at h
    have := dkm_le H g
    rw [if_pos (by rw [← h, ku_m, ku_on (by omega) (by omega)]; omega), if_neg e, h]
def lbk (H : HD) (A : AD) : Nat → Nat
  | 0 => 0
  | k + 1 => if dkm H (gL H A k) ≤ dkm H (gL H A (lbk H A k)) then lbk H A k else k
theorem lbk_lt (H : HD) (A : AD) : ∀ k, lbk H A k ≤ k - 1 ∧ (k = 0 ∨ lbk H A k < k)
  | 0 => ⟨Nat.le_refl _, Or.inl rfl⟩
  | k + 1 => by
    have := lbk_lt H A k
    unfold lbk
    split
    · omega
    · omega
theorem lbk_1 (H : HD) (A : AD) : lbk H A 1 = 0 := by
  show (if dkm H (gL H A 0) ≤ dkm H (gL H A 0) then 0 else 0) = 0
  rw [if_pos (Nat.le_refl _)]
theorem sk_law : SOK Ls xs (VV KP RP) 158 335 [] := by
  intro kp nh rh tl rl I L hV
  have hV0 := hV
  obtain ⟨H, W, A, ⟨hT, hF, ho, hC, hM, hIm, hRw⟩, hR, hW⟩ := hV
  have o0 : H.1 0 ≤ 1000 := ho.1.1
  have o3 : H.1 3 ≤ 30 := ho.1.2.2.2.1
  have o4 : H.1 4 ≤ 4 := ho.1.2.2.2.2.1
  have c0 : I 3 0 = nI (H.1 0) := chs hC (by decide)
  have c3 : I 3 3 = nI (H.1 3) := chs hC (by decide)
  have c4 : I 3 4 = nI (H.1 4) := chs hC (by decide)
  have m0 : u2 I 89 0 0 95 0 = nI (H.1 0) := (u2_c (by decide)).trans hM.1
  have m3 : u2 I 89 0 0 96 2 = nI (H.1 3) := (u2_c (by decide)).trans (mh96 hM (by decide))
  have m4 : u2 I 89 0 0 96 3 = nI (H.1 4) := (u2_c (by decide)).trans (mh96 hM (by decide))
  have hMt : MH (u2 I 89 0 0) 0 H W A := MH_th hM
  by_cases h0 : H.1 0 = 0
  · exact ⟨-2, kp, nh, rh, tl, rl, I, L, u2 I 89 0 0, L, (t_158 Ls xs 993 kp tl rl nh rh 2000 I L (-2, nh, I, L) (by unfold f_158; rw [e177n c0 o0 h0, q_bs, q_n00])), (t_335 Ls xs 993 kp tl rl nh rh 2000 I L (-2, u2 I 89 0 0, L) (by unfold f_335; rw [e236n m0 o0 h0, q_bs, q_n00])), VV_th hV0⟩
  · have hdl : ∀ l, dkm H (gL H A l) ≤ H.1 3 := fun l => dkm_le ..
    obtain ⟨J, j1, j2, j3⟩ := nlC (n := 2000) (L := L) ho hC (l := 0) (by omega) (by omega)
    -- the class
    obtain ⟨⟨b, J'⟩, ⟨hb, hJ'⟩, je⟩ := lpE (fun m k (s : Nat × FI) => c_158_1 2000 nh m (nI s.1) (nI (ltn (H.1 3) (dkm H (gL H A s.1)))) (nI (k - 1)) s.2 L) 4 (fun k s => 1 ≤ k ∧ s.1 = lbk H A k ∧ FrC I s.2) (fun s => some (nI s.1, some 3, s.2, L)) (fun m s hs => by
        show b_158_1 2000 nh (c_158_1 2000 nh m) (nI s.1) _ (nI 3) s.2 L = _
        unfold b_158_1 c_158_2
        rw [if_pos (by decide)]) (fun m k s hk hs => by
        obtain ⟨k1, s1, s2⟩ := hs
        have hCs := CH_C hC s2
        have hbl := lbk_lt H A k
        obtain ⟨K, q1, q2, q3⟩ := nlC (n := 2000) (L := L) ho hCs (l := k) (by omega) (by omega)
        have e0 : c_158_1 2000 nh (m + 1) (nI s.1) (nI (ltn (H.1 3) (dkm H (gL H A s.1)))) (nI (k - 1)) s.2 L = if dkm H (gL H A k) ≤ dkm H (gL H A (lbk H A k)) then c_158_1 2000 nh m (nI (lbk H A k)) (nI (ltn (H.1 3) (dkm H (gL H A (lbk H A k))))) (nI k) K L else c_158_1 2000 nh m (nI k) (nI (ltn (H.1 3) (dkm H (gL H A k)))) (nI k) K L := by
          show b_158_1 2000 nh (c_158_1 2000 nh m) (nI s.1) _ (nI (k - 1)) s.2 L = _
          unfold b_158_1 c_158_2
          rw [nI_1, show k - 1 + 1 = k by omega, if_neg (show ¬ (4 : Int32) ≤ nI k from nI_ge (b := 4) hk (by omega)), f192_1, q1, q_bs, c66 ho q2 (by omega), q_bs, e196 H _ o3, q_bs, s1]
          have l1 := ltn_b (hdl k) o3
          have l2 := ltn_b (hdl (lbk H A k)) o3
          by_cases h : dkm H (gL H A k) ≤ dkm H (gL H A (lbk H A k))
          · rw [if_pos h, if_pos (nI_le ((ltn_le (hdl _) (hdl _) o3).mpr h) (by omega))]
          · have hh : ¬ ltn (H.1 3) (dkm H (gL H A k)) ≤ ltn (H.1 3) (dkm H (gL H A (lbk H A k))) := fun q => h ((ltn_le (hdl k) (hdl (lbk H A k)) o3).mp q)
            rw [if_neg h, if_neg (nI_ge (by omega) (by omega))]
        refine ⟨(lbk H A (k + 1), K), ⟨by omega, rfl, FrC_t s2 q3⟩, ?_⟩
        show c_158_1 2000 nh (m + 1) (nI s.1) _ (nI (k - 1)) s.2 L = c_158_1 2000 nh m (nI (if dkm H (gL H A k) ≤ dkm H (gL H A (lbk H A k)) then lbk H A k else k)) (nI (ltn (H.1 3) (dkm H (gL H A (if dkm H (gL H A k) ≤ dkm H (gL H A (lbk H A k)) then lbk H A k else k))))) (nI (k + 1 - 1)) K L
        rw [e0, Nat.add_sub_cancel]
        split <;> rfl) 2000 1 (0, J) (by omega) (by omega) ⟨by omega, (lbk_1 H A).symm, j3⟩
    -- the model
    have hMJ : MH (u2 J' 89 0 0) 0 H W A := MH_th (MH_C ho hM hJ'.2)
    have q0 : u2 J' 89 0 0 95 0 = nI (H.1 0) := hMJ.1
    obtain ⟨⟨b', K⟩, ⟨hb', hK⟩, ke⟩ := lpE (fun m k (s : Nat × FI) => c_335_0 2000 m (nI s.1) (nI k) s.2 L) 4 (fun k s => 1 ≤ k ∧ s.1 = lbk H A k ∧ FrM (u2 J' 89 0 0) s.2) (fun s => some (nI s.1, s.2, L)) (fun m s hs => by
        show b_335_0 2000 (c_335_0 2000 m) (nI s.1) (nI 4) s.2 L = _
        unfold b_335_0
        rw [if_pos (by decide)]) (fun m k s hk hs => by
        obtain ⟨k1, s1, s2⟩ := hs
        have hMs := MH_M ho hMJ s2
        have hbl := lbk_lt H A k
        obtain ⟨M, q1, _, q3⟩ := nlM (n := 2000) (L := L) ho hMs (l := k) (by omega) (by omega)
        obtain ⟨M', r1, _, r3⟩ := nlM (n := 2000) (L := L) ho (MH_M ho hMs q3) (l := lbk H A k) (by omega) (by omega)
        refine ⟨(lbk H A (k + 1), M'), ⟨by omega, rfl, FrM_t s2 (FrM_t q3 r3)⟩, ?_⟩
        show b_335_0 2000 (c_335_0 2000 m) (nI s.1) (nI k) s.2 L = c_335_0 2000 m (nI (if dkm H (gL H A k) ≤ dkm H (gL H A (lbk H A k)) then lbk H A k else k)) (nI (k + 1)) M' L
        have l1 := hdl k
        have l2 := hdl (lbk H A k)
        unfold b_335_0 c_335_1
        rw [if_neg (show ¬ (4 : Int32) ≤ nI k from nI_ge (b := 4) hk (by omega)), q1, q_bs, s1]
        dsimp only
        rw [r1, q_bs, nI_1]
        dsimp only
        by_cases h : dkm H (gL H A k) ≤ dkm H (gL H A (lbk H A k))
        · rw [if_pos h, if_pos (nI_le h (by omega))]
        · rw [if_neg h, if_neg (nI_ge (by omega) (by omega))]) 2000 1 (0, u2 J' 89 0 0) (by omega) (by omega) ⟨by omega, (lbk_1 H A).symm, FrM_r _⟩
    refine ⟨nI (lbk H A 4), kp, some 3, rh, tl, rl, J', L, K, L, (t_158 Ls xs 993 kp tl rl nh rh 2000 I L (nI (lbk H A 4), some 3, J', L) ?_), (t_335 Ls xs 993 kp tl rl (some 3) rh 2000 J' L (nI (lbk H A 4), K, L) ?_), VV_n hV0 hJ'.2 hK.2⟩
    · unfold f_158 c_158_0
      rw [e177y c0 o0 (by omega), q_bs, q_n11, if_neg (by decide), ku_0, j1, q_bs, c66 ho j2 (by omega), q_bs, e196 H _ o3, q_bs]
      have l1 := ltn_b (hdl 0) o3
      rw [if_neg (by rw [ku_m, fa_le, oI_toInt (by omega), nI_toInt (by omega)]; omega)]
      dsimp only at je
      rw [← hJ'.1]
      exact je
    · unfold f_335
      rw [e236y q0 o0 (by omega), q_bs, q_n11]
      dsimp only at ke
      rw [← hK.1]
      exact ke
theorem e179y {I : FI} {L : FL} {R a b : Nat} (h : I 3 4 = nI R) (hR : R ≤ 4) (ha : a < R) (hb : b < R) (hab : a ≠ b) : f_179 (nI a) (nI b) I L = some 1 := by
  unfold f_179
  rw [e178y h hR ha, q_bs, q_11, e178y h hR hb, q_bs, q_11, if_neg (by rw [nI_eq (by omega) (by omega)]; exact hab)]
theorem e240y {I : FI} {L : FL} {R a b : Nat} (h : I 96 3 = nI R) (hR : R ≤ 4) (ha : a < R) (hb : b < R) (hab : a ≠ b) : f_240 (nI a) (nI b) I L = some 1 := by
  unfold f_240
  rw [e239y h hR ha, q_bs, q_11, e239y h hR hb, q_bs, q_11, if_neg (by rw [nI_eq (by omega) (by omega)]; exact hab)]
/-- two rooms, or none such -/
theorem q_pair (x y : Int32) {R : Nat} (hR : R ≤ 4) : ((∀ (I : FI) (L : FL), I 3 4 = nI R → f_179 x y I L = some 0) ∧ (∀ (I : FI) (L : FL), I 96 3 = nI R → f_240 x y I L = some 0)) ∨ ∃ a b, a < R ∧ b < R ∧ a ≠ b ∧ x = nI a ∧ y = nI b := by
  rcases q_arg x (n := R) (by omega) with h1 | ⟨a, ha, rfl⟩
  · exact Or.inl ⟨fun I L h => by unfold f_179; rw [e178n h hR h1, q_bs, q_00], fun I L h => by unfold f_240; rw [e239n h hR h1, q_bs, q_00]⟩
  · rcases q_arg y (n := R) (by omega) with h2 | ⟨b, hb, rfl⟩
    · exact Or.inl ⟨fun I L h => by unfold f_179; rw [e178y h hR ha, q_bs, q_11, e178n h hR h2, q_bs, q_00], fun I L h => by unfold f_240; rw [e239y h hR ha, q_bs, q_11, e239n h hR h2, q_bs, q_00]⟩
    · by_cases e : a = b
      · subst e
        exact Or.inl ⟨fun I L h => by unfold f_179; rw [e178y h hR ha, q_bs, q_11, q_bs, q_11, if_pos rfl], fun I L h => by unfold f_240; rw [e239y h hR ha, q_bs, q_11, q_bs, q_11, if_pos rfl]⟩
      · exact Or.inr ⟨a, b, ha, hb, e, rfl, rfl⟩
theorem sk_gets : SOK Ls xs (VV KP RP) 160 339 [.int a1, .int a2, .int a3, .int a4] := by
  intro kp nh rh tl rl I L hV
  have hV0 := hV
  obtain ⟨H, W, A, ⟨hT, hF, ho, hC, hM, hIm, hRw⟩, hR, hW⟩ := hV
  have o0 : H.1 0 ≤ 1000 := ho.1.1
  have o3 : H.1 3 ≤ 30 := ho.1.2.2.2.1
  have o4 : H.1 4 ≤ 4 := ho.1.2.2.2.2.1
  have c0 : I 3 0 = nI (H.1 0) := chs hC (by decide)
  have c3 : I 3 3 = nI (H.1 3) := chs hC (by decide)
  have c4 : I 3 4 = nI (H.1 4) := chs hC (by decide)
  have m0 : u2 I 89 0 0 95 0 = nI (H.1 0) := (u2_c (by decide)).trans hM.1
  have m3 : u2 I 89 0 0 96 2 = nI (H.1 3) := (u2_c (by decide)).trans (mh96 hM (by decide))
  have m4 : u2 I 89 0 0 96 3 = nI (H.1 4) := (u2_c (by decide)).trans (mh96 hM (by decide))
  have hMt : MH (u2 I 89 0 0) 0 H W A := MH_th hM
  rcases q_pair a1 a2 o4 with ⟨p1, p2⟩ | ⟨a, b, ha, hb, hab, rfl, rfl⟩
  · exact ⟨-1000, kp, nh, rh, tl, rl, I, L, u2 I 89 0 0, L, (t_160 Ls xs 993 kp tl rl nh rh 2000 a1 a2 a3 a4 I L (-1000, nh, I, L) (by unfold f_160; rw [p1 I L c4, q_bs, q_00])), (t_339 Ls xs 993 kp tl rl nh rh 2000 a1 a2 a3 a4 I L (-1000, u2 I 89 0 0, L) (by unfold f_339; rw [p2 _ L m4, q_bs, q_00])), VV_th hV0⟩
  · rcases q_arg a3 (n := 2) (by omega) with h1 | ⟨x, hx, rfl⟩
    · exact ⟨-1000, kp, nh, rh, tl, rl, I, L, u2 I 89 0 0, L, (t_160 Ls xs 993 kp tl rl nh rh 2000 (nI a) (nI b) a3 a4 I L (-1000, nh, I, L) (by unfold f_160; rw [e179y c4 o4 ha hb hab, q_bs, q_11, e182n h1, q_bs, q_00])), (t_339 Ls xs 993 kp tl rl nh rh 2000 (nI a) (nI b) a3 a4 I L (-1000, u2 I 89 0 0, L) (by unfold f_339; rw [e240y m4 o4 ha hb hab, q_bs, q_11, e242n h1, q_bs, q_00])), VV_th hV0⟩
    · rcases q_arg a4 (n := 2) (by omega) with h2 | ⟨y, hy, rfl⟩
      · exact ⟨-1000, kp, nh, rh, tl, rl, I, L, u2 I 89 0 0, L, (t_160 Ls xs 993 kp tl rl nh rh 2000 (nI a) (nI b) (nI x) a4 I L (-1000, nh, I, L) (by unfold f_160; rw [e179y c4 o4 ha hb hab, q_bs, q_11, e182y hx, q_bs, q_11, e182n h2, q_bs, q_n00])), (t_339 Ls xs 993 kp tl rl nh rh 2000 (nI a) (nI b) (nI x) a4 I L (-1000, u2 I 89 0 0, L) (by unfold f_339; rw [e240y m4 o4 ha hb hab, q_bs, q_11, e242y hx, q_bs, q_11, e242n h2, q_bs, q_00])), VV_th hV0⟩
      · obtain ⟨J, j1, j3⟩ := getC (n := 2000) (L := L) ho hC ha hb hab (show x ≤ 1 by omega) (show y ≤ 1 by omega) (by omega)
        have hMJ : MH (u2 J 89 0 0) 0 H W A := MH_th (MH_C ho hM j3)
        have q4 : u2 J 89 0 0 96 3 = nI (H.1 4) := mh96 hMJ (by decide)
        obtain ⟨K, k1, k3⟩ := getM (n := 2000) (L := L) ho hMJ (f := a) (Or.inl rfl) ha hb hab (show x ≤ 1 by omega) (show y ≤ 1 by omega) (by omega)
        refine ⟨gtv H A a a b x y, kp, some 3, rh, tl, rl, J, L, K, L, (t_160 Ls xs 993 kp tl rl nh rh 2000 (nI a) (nI b) (nI x) (nI y) I L (gtv H A a a b x y, some 3, J, L) ?_), (t_339 Ls xs 993 kp tl rl (some 3) rh 2000 (nI a) (nI b) (nI x) (nI y) J L (gtv H A a a b x y, K, L) ?_), VV_n hV0 j3 k3⟩
        · unfold f_160
          rw [e179y c4 o4 ha hb hab, q_bs, q_11, e182y hx, q_bs, q_11, e182y hy, q_bs, q_n11, j1, q_bs]
        · unfold f_339
          rw [e240y q4 o4 ha hb hab, q_bs, q_11, e242y hx, q_bs, q_11, e242y hy, q_bs, q_11, k1, q_bs]
/-- pairs of choices at rest -/
noncomputable def rstk (H : HD) (A : AD) (a b : Nat) : Nat → Nat
  | 0 => 0
  | k + 1 => if gtv H A a a b (k % 2) (k / 2) < gtv H A a a b (1 - k % 2) (k / 2) ∨ gtv H A b a b (k % 2) (k / 2) < gtv H A b a b (k % 2) (1 - k / 2) then rstk H A a b k else rstk H A a b k ||| 2 ^ k
theorem gtv_sy (H : HD) (A : AD) {a b : Nat} (h : a ≠ b) (x y : Nat) : gtv H A b b a y x = gtv H A b a b x y := by
  unfold gtv
  rw [if_pos rfl, if_neg (Ne.symm h), hwt_sy H (Ne.symm h)]
theorem sk_rests : SOK Ls xs (VV KP RP) 159 338 [.int a1, .int a2] := by
  intro kp nh rh tl rl I L hV
  have hV0 := hV
  obtain ⟨H, W, A, ⟨hT, hF, ho, hC, hM, hIm, hRw⟩, hR, hW⟩ := hV
  have o0 : H.1 0 ≤ 1000 := ho.1.1
  have o3 : H.1 3 ≤ 30 := ho.1.2.2.2.1
  have o4 : H.1 4 ≤ 4 := ho.1.2.2.2.2.1
  have c0 : I 3 0 = nI (H.1 0) := chs hC (by decide)
  have c3 : I 3 3 = nI (H.1 3) := chs hC (by decide)
  have c4 : I 3 4 = nI (H.1 4) := chs hC (by decide)
  have m0 : u2 I 89 0 0 95 0 = nI (H.1 0) := (u2_c (by decide)).trans hM.1
  have m3 : u2 I 89 0 0 96 2 = nI (H.1 3) := (u2_c (by decide)).trans (mh96 hM (by decide))
  have m4 : u2 I 89 0 0 96 3 = nI (H.1 4) := (u2_c (by decide)).trans (mh96 hM (by decide))
  have hMt : MH (u2 I 89 0 0) 0 H W A := MH_th hM
  rcases q_pair a1 a2 o4 with ⟨p1, p2⟩ | ⟨a, b, ha, hb, hab, rfl, rfl⟩
  · exact ⟨-2, kp, nh, rh, tl, rl, I, L, u2 I 89 0 0, L, (t_159 Ls xs 993 kp tl rl nh rh 2000 a1 a2 I L (-2, nh, I, L) (by unfold f_159; rw [p1 I L c4, q_bs, q_n00])), (t_338 Ls xs 993 kp tl rl nh rh 2000 a1 a2 I L (-2, u2 I 89 0 0, L) (by unfold f_338; rw [p2 _ L m4, q_bs, q_n00])), VV_th hV0⟩
  · have bk : ∀ k, k < 4 → nI k &&& 1 = nI (k % 2) ∧ nI k >>> ((1 : Int32) &&& 31) = nI (k / 2) ∧ (1 : Int32) - nI (k % 2) = nI (1 - k % 2) ∧ (1 : Int32) - nI (k / 2) = nI (1 - k / 2) ∧ k / 2 ≤ 1 ∧ k % 2 ≤ 1 := by decide +kernel
    -- one choice of the class
    have hcl : ∀ (k : Nat) (J : FI), k < 4 → FrC I J → ∃ M1 M2 M3 M4, f_195 2000 (nI a) (nI b) (nI (k % 2)) (nI (k / 2)) J L = some (gtv H A a a b (k % 2) (k / 2), M1, L) ∧ f_195 2000 (nI a) (nI b) (nI (1 - k % 2)) (nI (k / 2)) M1 L = some (gtv H A a a b (1 - k % 2) (k / 2), M2, L) ∧ f_195 2000 (nI b) (nI a) (nI (k / 2)) (nI (k % 2)) M2 L = some (gtv H A b a b (k % 2) (k / 2), M3, L) ∧ f_195 2000 (nI b) (nI a) (nI (1 - k / 2)) (nI (k % 2)) M3 L = some (gtv H A b a b (k % 2) (1 - k / 2), M4, L) ∧ FrC I M1 ∧ FrC I M2 ∧ FrC I M4 := fun k J hk hJ => by
      obtain ⟨_, _, _, _, b5, b6⟩ := bk k hk
      obtain ⟨M1, r1, s1⟩ := getC (n := 2000) (L := L) ho (CH_C hC hJ) ha hb hab b6 b5 (by omega)
      have t1 := FrC_t hJ s1
      obtain ⟨M2, r2, s2⟩ := getC (n := 2000) (L := L) ho (CH_C hC t1) ha hb hab (show 1 - k % 2 ≤ 1 by omega) b5 (by omega)
      have t2 := FrC_t t1 s2
      obtain ⟨M3, r3, s3⟩ := getC (n := 2000) (L := L) ho (CH_C hC t2) hb ha (Ne.symm hab) b5 b6 (by omega)
      have t3 := FrC_t t2 s3
      obtain ⟨M4, r4, s4⟩ := getC (n := 2000) (L := L) ho (CH_C hC t3) hb ha (Ne.symm hab) (show 1 - k / 2 ≤ 1 by omega) b6 (by omega)
      rw [gtv_sy H A hab] at r3 r4
      exact ⟨M1, M2, M3, M4, r1, r2, r3, r4, t1, t2, FrC_t t3 s4⟩
    -- the class: behind the first two of choice k
    obtain ⟨⟨⟨v, s⟩, J'⟩, ⟨⟨hb1, hb2⟩, hJ'⟩, je⟩ := lpE (fun m k (s : (Nat × FI) × FI) => if 4 ≤ k then some (nI s.1.1, some 3, s.2, L) else c_159_1 2000 nh m (nI a) (nI b) (nI s.1.1) (nI k) (nI (k % 2)) (nI (k / 2)) (if gtv H A a a b (k % 2) (k / 2) < gtv H A a a b (1 - k % 2) (k / 2) then 0 else 1) s.2 L) 4 (fun k s => (s.1.1 = rstk H A a b k ∧ (k < 4 → ∃ M3 M4, f_195 2000 (nI b) (nI a) (nI (k / 2)) (nI (k % 2)) s.2 L = some (gtv H A b a b (k % 2) (k / 2), M3, L) ∧ f_195 2000 (nI b) (nI a) (nI (1 - k / 2)) (nI (k % 2)) M3 L = some (gtv H A b a b (k % 2) (1 - k / 2), M4, L) ∧ FrC I M4)) ∧ FrC I s.2) (fun s => some (nI s.1.1, some 3, s.2, L)) (fun m s hs => by
        show (if 4 ≤ 4 then _ else _) = _
        rw [if_pos (Nat.le_refl _)]) (fun m k s hk hs => by
        obtain ⟨⟨s1, s2⟩, s3⟩ := hs
        obtain ⟨M3, M4, r3, r4, t4⟩ := s2 hk
        obtain ⟨b1, b2, b3, b4, b5, b6⟩ := bk k hk
        have hstep : c_159_1 2000 nh (m + 1) (nI a) (nI b) (nI s.1.1) (nI k) (nI (k % 2)) (nI (k / 2)) (if gtv H A a a b (k % 2) (k / 2) < gtv H A a a b (1 - k % 2) (k / 2) then 0 else 1) s.2 L = c_159_4 2000 nh (c_159_1 2000 nh m) (nI a) (nI b) (nI (rstk H A a b (k + 1))) (nI (k + 1)) M4 L := by
          show b_159_1 2000 nh (c_159_1 2000 nh m) (nI a) (nI b) (nI s.1.1) (nI k) (nI (k % 2)) (nI (k / 2)) _ s.2 L = c_159_4 2000 nh (c_159_1 2000 nh m) (nI a) (nI b) (nI (if gtv H A a a b (k % 2) (k / 2) < gtv H A a a b (1 - k % 2) (k / 2) ∨ gtv H A b a b (k % 2) (k / 2) < gtv H A b a b (k % 2) (1 - k / 2) then rstk H A a b k else rstk H A a b k ||| 2 ^ k)) (nI (k + 1)) M4 L
          unfold b_159_1
          rw [f195_1, r3, q_bs]
          dsimp only
          rw [f195_1, b4, r4, q_bs, s1]
          dsimp only
          unfold c_159_2 c_159_3
          rw [nI_1]
          by_cases h1 : gtv H A a a b (k % 2) (k / 2) < gtv H A a a b (1 - k % 2) (k / 2)
          · rw [if_pos h1, if_pos (Or.inl h1), if_pos rfl]
            split <;> rfl
          · rw [if_neg h1, if_neg (show ¬ (1 : Int32) = 0 by decide)]
            by_cases h2 : gtv H A b a b (k % 2) (k / 2) < gtv H A b a b (k % 2) (1 - k / 2)
            · rw [if_pos h2, if_pos rfl, if_pos (Or.inr h2)]
            · rw [if_neg h2, if_neg (show ¬ (1 : Int32) = 0 by decide), if_neg (show ¬ (1 : Int32) = 0 by decide), if_neg (show ¬ (_ ∨ _) from fun q => q.elim h1 h2), ku_or (by omega)]
        by_cases hk4 : k + 1 < 4
        · obtain ⟨b1, b2, b3, b4, b5, b6⟩ := bk (k + 1) hk4
          obtain ⟨N1, N2, N3, N4, u1, u2', u3, u4, w1, w2, w4⟩ := hcl (k + 1) M4 hk4 t4
          refine ⟨((rstk H A a b (k + 1), M4), N2), ⟨⟨rfl, fun _ => ⟨N3, N4, u3, u4, w4⟩⟩, w2⟩, ?_⟩
          show (if 4 ≤ k then _ else _) = (if 4 ≤ k + 1 then _ else _)
          rw [if_neg (show ¬ 4 ≤ k by omega), if_neg (show ¬ 4 ≤ k + 1 by omega), hstep]
          unfold c_159_4
          rw [if_neg (show ¬ (4 : Int32) ≤ nI (k + 1) from nI_ge (b := 4) hk4 (by omega)), b1, b2, f195_1, u1, q_bs]
          dsimp only
          rw [f195_1, b3, u2', q_bs]
          dsimp only
          split <;> rfl
        · refine ⟨((rstk H A a b (k + 1), M4), M4), ⟨⟨rfl, fun q => absurd q hk4⟩, t4⟩, ?_⟩
          show (if 4 ≤ k then _ else _) = (if 4 ≤ k + 1 then _ else _)
          rw [if_neg (show ¬ 4 ≤ k by omega), if_pos (show 4 ≤ k + 1 by omega), hstep]
          unfold c_159_4
          rw [if_pos (show (4 : Int32) ≤ nI (k + 1) from nI_le (a := 4) (by omega) (by omega))]) 2000 0 ((0, I), (hcl 0 I (by omega) (FrC_r I)).choose_spec.choose) (by omega) (by omega) (by
        obtain ⟨M3, M4, u1, u2', u3, u4, w1, w2, w4⟩ := (hcl 0 I (by omega) (FrC_r I)).choose_spec.choose_spec
        exact ⟨⟨rfl, fun _ => ⟨M3, M4, u3, u4, w4⟩⟩, w2⟩)
    obtain ⟨M3, M4, u1, u2', u3, u4, w1, w2, w4⟩ := (hcl 0 I (by omega) (FrC_r I)).choose_spec.choose_spec
    have hMJ : MH (u2 J' 89 0 0) 0 H W A := MH_th (MH_C ho hM hJ')
    have q4 : u2 J' 89 0 0 96 3 = nI (H.1 4) := mh96 hMJ (by decide)
    -- the model
    obtain ⟨⟨v', K⟩, ⟨hv', hK⟩, ke⟩ := lpE (fun m k (s : Nat × FI) => c_338_0 2000 m (nI a) (nI b) (nI s.1) (nI k) s.2 L) 4 (fun k s => s.1 = rstk H A a b k ∧ FrM (u2 J' 89 0 0) s.2) (fun s => some (nI s.1, s.2, L)) (fun m s hs => by
        show b_338_0 2000 (c_338_0 2000 m) (nI a) (nI b) (nI s.1) (nI 4) s.2 L = _
        unfold b_338_0
        rw [if_pos (by decide)]) (fun m k s hk hs => by
        obtain ⟨s1, s2⟩ := hs
        obtain ⟨_, _, b3, b4, b5, b6⟩ := bk k hk
        have hMs := MH_M ho hMJ s2
        obtain ⟨N1, r1, t1⟩ := getM (n := 2000) (L := L) ho hMs (f := a) (Or.inl rfl) ha hb hab (show 1 - k % 2 ≤ 1 by omega) b5 (by omega)
        have hM1 := MH_M ho hMs t1
        obtain ⟨N2, r2, t2⟩ := getM (n := 2000) (L := L) ho hM1 (f := a) (Or.inl rfl) ha hb hab b6 b5 (by omega)
        have hM2 := MH_M ho hM1 t2
        obtain ⟨N3, r3, t3⟩ := getM (n := 2000) (L := L) ho hM2 (f := b) (Or.inr rfl) ha hb hab b6 (show 1 - k / 2 ≤ 1 by omega) (by omega)
        have hM3 := MH_M ho hM2 t3
        obtain ⟨N4, r4, t4⟩ := getM (n := 2000) (L := L) ho hM3 (f := b) (Or.inr rfl) ha hb hab b6 b5 (by omega)
        have er : nI k - nI k / 2 * 2 = nI (k % 2) := by rw [ku_2, pk_rem (by omega) (by omega) (by omega)]
        have ed : nI k / 2 = nI (k / 2) := by rw [ku_2, pk_div (by omega) (by omega) (by omega)]
        have e0 : b_338_0 2000 (c_338_0 2000 m) (nI a) (nI b) (nI s.1) (nI k) s.2 L = if gtv H A a a b (k % 2) (k / 2) < gtv H A a a b (1 - k % 2) (k / 2) then c_338_0 2000 m (nI a) (nI b) (nI (rstk H A a b k)) (nI (k + 1)) N2 L else if gtv H A b a b (k % 2) (k / 2) < gtv H A b a b (k % 2) (1 - k / 2) then c_338_0 2000 m (nI a) (nI b) (nI (rstk H A a b k)) (nI (k + 1)) N4 L else c_338_0 2000 m (nI a) (nI b) (nI (rstk H A a b k ||| 2 ^ k)) (nI (k + 1)) N4 L := by
          unfold b_338_0
          rw [if_neg (show ¬ (4 : Int32) ≤ nI k from nI_ge (b := 4) hk (by omega)), er, ed, b3, b4, r1, q_bs]
          dsimp only
          rw [r2, q_bs]
          dsimp only
          rw [r3, q_bs]
          dsimp only
          rw [r4, q_bs, s1]
          dsimp only
          unfold c_338_1 c_338_2 c_338_3
          rw [nI_1]
          by_cases h1 : gtv H A a a b (k % 2) (k / 2) < gtv H A a a b (1 - k % 2) (k / 2)
          · rw [if_pos h1, if_pos h1, if_pos (show (0 : Int32) = 0 from rfl), ku_0, fa_or, Nat.or_zero]
          · rw [if_neg h1, if_neg h1]
            by_cases h2 : gtv H A b a b (k % 2) (k / 2) < gtv H A b a b (k % 2) (1 - k / 2)
            · rw [if_pos h2, if_pos h2, if_pos (show (0 : Int32) = 0 from rfl), ku_0, fa_or, Nat.or_zero]
            · rw [if_neg h2, if_neg h2, if_neg (show ¬ (1 : Int32) = 0 by decide), ku_or (by omega)]
        show ∃ s', _ ∧ b_338_0 2000 (c_338_0 2000 m) (nI a) (nI b) (nI s.1) (nI k) s.2 L = _
        have hk1 : rstk H A a b (k + 1) = if gtv H A a a b (k % 2) (k / 2) < gtv H A a a b (1 - k % 2) (k / 2) ∨ gtv H A b a b (k % 2) (k / 2) < gtv H A b a b (k % 2) (1 - k / 2) then rstk H A a b k else rstk H A a b k ||| 2 ^ k := rfl
        by_cases h1 : gtv H A a a b (k % 2) (k / 2) < gtv H A a a b (1 - k % 2) (k / 2)
        · exact ⟨(rstk H A a b (k + 1), N2), ⟨rfl, FrM_t s2 (FrM_t t1 t2)⟩, by rw [e0, if_pos h1, hk1, if_pos (Or.inl h1)]⟩
        · by_cases h2 : gtv H A b a b (k % 2) (k / 2) < gtv H A b a b (k % 2) (1 - k / 2)
          · exact ⟨(rstk H A a b (k + 1), N4), ⟨rfl, FrM_t s2 (FrM_t t1 (FrM_t t2 (FrM_t t3 t4)))⟩, by rw [e0, if_neg h1, if_pos h2, hk1, if_pos (Or.inr h2)]⟩
          · exact ⟨(rstk H A a b (k + 1), N4), ⟨rfl, FrM_t s2 (FrM_t t1 (FrM_t t2 (FrM_t t3 t4)))⟩, by rw [e0, if_neg h1, if_neg h2, hk1, if_neg (fun q => q.elim h1 h2)]⟩) 2000 0 (0, u2 J' 89 0 0) (by omega) (by omega) ⟨rfl, FrM_r _⟩
    refine ⟨nI (rstk H A a b 4), kp, some 3, rh, tl, rl, J', L, K, L, (t_159 Ls xs 993 kp tl rl nh rh 2000 (nI a) (nI b) I L (nI (rstk H A a b 4), some 3, J', L) ?_), (t_338 Ls xs 993 kp tl rl (some 3) rh 2000 (nI a) (nI b) J' L (nI (rstk H A a b 4), K, L) ?_), VV_n hV0 hJ' hK⟩
    · obtain ⟨b1, b2, b3, b4, b5, b6⟩ := bk 0 (by omega)
      unfold f_159 c_159_0
      rw [e179y c4 o4 ha hb hab, q_bs, q_n11, if_neg (by decide), show (0 : Int32) = nI 0 from rfl, b1, b2, u1, q_bs]
      dsimp only
      rw [f195_1, b3, u2', q_bs]
      dsimp only at je ⊢
      rw [if_neg (by omega)] at je
      rw [← hb1, ← je]
      split <;> rfl
    · unfold f_338
      rw [e240y q4 o4 ha hb hab, q_bs, q_n11]
      dsimp only at ke
      rw [← hv']
      exact ke
end N2
