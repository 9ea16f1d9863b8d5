/-! LAYER 3: visit, nods. Printed by wip/whole/gen57.py -/
section ACTS
variable {I : FI} {L : FL} {H : HD} {W : Nat → Nat} {A : AD} {n : Nat}
/-- one act more: in room x (and 1; 0 a nod) at t -/
def acA (A : AD) (x t : Nat) : AD := (A.1 + 1, fun i => if i = A.1 then x else A.2.1 i, fun i => if i = A.1 then t else A.2.2 i)
theorem acA_ok (ho : HOK H W A) {x t : Nat} (h30 : A.1 < 30) (hx : x ≤ H.1 4) (ht : t < H.1 3) : HOK H W (acA A x t) := by
  obtain ⟨⟨o0, o1, o2, o3, o4, o5, o6, o7, o8⟩, p1, p2, p3, p4, p5, p6, p7⟩ := ho
  refine ⟨⟨o0, o1, o2, o3, o4, o5, o6, o7, by show A.1 + 1 ≤ 30; omega⟩, p1, p2, p3, p4, fun i hi => ?_, fun h => absurd (p6 h).1 (by omega), p7⟩
  show (if i = A.1 then x else A.2.1 i) ≤ H.1 4 ∧ (if i = A.1 then t else A.2.2 i) < H.1 3
  by_cases e : i = A.1
  · rw [if_pos e, if_pos e]; exact ⟨hx, ht⟩
  · rw [if_neg e, if_neg e]; exact p5 i (by have : i < A.1 + 1 := hi; omega)
theorem acC (ho : HOK H W A) (hC : CH I 3 11 H W A) {x t : Nat} (h30 : A.1 < 30) : f_1 (oI x) (nI t) I L = some (1, u2 (u2 (u2 I 12 A.1 (oI x)) 13 A.1 (nI t)) 11 2 (nI (A.1 + 1)), L) ∧ CH (u2 (u2 (u2 I 12 A.1 (oI x)) 13 A.1 (nI t)) 11 2 (nI (A.1 + 1))) 3 11 H W (acA A x t) := by
  refine ⟨?_, ?_⟩
  · unfold f_1
    rw [ch_an hC, if_pos (show nI A.1 < 30 from nI_lt (b := 30) h30 (by omega)), ku_if h30 (by omega), ku_if h30 (by omega), nI_clamp (by omega), nI_1]
  · have e0 : ∀ c i, c ≠ 11 → c ≠ 12 → c ≠ 13 → u2 (u2 (u2 I 12 A.1 (oI x)) 13 A.1 (nI t)) 11 2 (nI (A.1 + 1)) c i = I c i := fun c i h1 h2 h3 => by rw [u2_c h1, u2_c h3, u2_c h2]
    obtain ⟨h1, h2, h3, h4, h5, h6, h7, h8, h9, h10, h11⟩ := hC
    refine ⟨fun j hj => ?_, fun j hj => ?_, fun j hj => ?_, fun j hj => ?_, fun j q hj hq => ?_, fun j hj => ?_, fun j hj => ?_, fun j hj => ?_, u2_s, fun j hj => ?_, fun j hj => ?_⟩
    · rw [e0 _ _ (by decide) (by decide) (by decide)]; exact h1 j hj
    · rw [e0 _ _ (by decide) (by decide) (by decide)]; exact h2 j hj
    · rw [e0 _ _ (by decide) (by decide) (by decide)]; exact h3 j hj
    · rw [e0 _ _ (by decide) (by decide) (by decide)]; exact h4 j hj
    · rw [e0 _ _ (by decide) (by decide) (by decide)]; exact h5 j q hj hq
    · rw [e0 _ _ (by decide) (by decide) (by decide)]; exact h6 j hj
    · rw [e0 _ _ (by decide) (by decide) (by decide)]; exact h7 j hj
    · rw [e0 _ _ (by decide) (by decide) (by decide)]; exact h8 j hj
    · show _ = oI (if j = A.1 then x else A.2.1 j)
      rw [u2_c (by decide), u2_c (by decide)]
      by_cases e : j = A.1
      · subst e; rw [if_pos rfl]; exact u2_s
      · rw [if_neg e]; exact (u2_o e).trans (h10 j (by have : j < A.1 + 1 := hj; omega))
    · show _ = nI (if j = A.1 then t else A.2.2 j)
      rw [u2_c (by decide)]
      by_cases e : j = A.1
      · subst e; rw [if_pos rfl]; exact u2_s
      · rw [if_neg e]; exact (u2_o e).trans ((u2_c (by decide)).trans (h11 j (by have : j < A.1 + 1 := hj; omega)))
theorem acM (ho : HOK H W A) (hM : MH I 0 H W A) {x t : Nat} (h30 : A.1 < 30) : MH (u2 (u2 (u2 I 101 (2 * A.1) (oI x)) 101 (2 * A.1 + 1) (nI t)) 96 7 (nI (A.1 + 1))) 0 H W (acA A x t) := by
  have e0 : ∀ c i, c ≠ 96 → c ≠ 101 → u2 (u2 (u2 I 101 (2 * A.1) (oI x)) 101 (2 * A.1 + 1) (nI t)) 96 7 (nI (A.1 + 1)) c i = I c i := fun c i h1 h2 => by rw [u2_c h1, u2_c h2, u2_c h2]
  obtain ⟨h1, h2, h3, h4, h5, h6, h7, h8, h9, h10, h11, h12⟩ := hM
  refine ⟨?_, fun j hj => ?_, u2_s, fun j hj => ?_, fun j hj => ?_, fun j hj => ?_, fun j hj => ?_, fun j hj => ?_, fun j hj => ?_, fun j hj => ?_, fun j hj => ?_, fun j hj => ?_⟩
  · rw [e0 _ _ (by decide) (by decide)]; exact h1
  · rw [u2_o (by omega), u2_c (by decide), u2_c (by decide)]; exact h2 j hj
  · rw [e0 _ _ (by decide) (by decide)]; exact h4 j hj
  · rw [e0 _ _ (by decide) (by decide)]; exact h5 j hj
  · rw [e0 _ _ (by decide) (by decide)]; exact h6 j hj
  · rw [e0 _ _ (by decide) (by decide)]; exact h7 j hj
  · rw [e0 _ _ (by decide) (by decide)]; exact h8 j hj
  · rw [e0 _ _ (by decide) (by decide)]; exact h9 j hj
  · rw [e0 _ _ (by decide) (by decide)]; exact h10 j hj
  · show _ = oI (if j = A.1 then x else A.2.1 j)
    rw [u2_c (by decide), u2_o (by omega)]
    by_cases e : j = A.1
    · subst e; rw [if_pos rfl, show 60 * 0 + 2 * A.1 = 2 * A.1 by omega]; exact u2_s
    · rw [if_neg e, u2_o (by omega)]; exact h11 j (by have : j < A.1 + 1 := hj; omega)
  · show _ = nI (if j = A.1 then t else A.2.2 j)
    rw [u2_c (by decide)]
    by_cases e : j = A.1
    · subst e; rw [if_pos rfl, show 60 * 0 + 2 * A.1 + 1 = 2 * A.1 + 1 by omega]; exact u2_s
    · rw [if_neg e, u2_o (by omega), u2_o (by omega)]; exact h12 j (by have : j < A.1 + 1 := hj; omega)
/-- an act on both sides: what stands behind it -/
theorem acB {KP : KPT} {RP : RPT} {kp nh nh' rh : Option Nat} {tl : List (Nat × Nat)} {rl : List (List (Option Nat))} (hB : VB I L H W A) (hR : VRg RP rh I H) (hW : VWd KP kp tl rl I L H) {x t : Nat} (h30 : A.1 < 30) (hx : x ≤ H.1 4) (ht : t < H.1 3) (hn : 1000 ≤ n) :
    ∃ J K, f_1 (oI x) (nI t) I L = some (1, u2 (u2 (u2 I 12 A.1 (oI x)) 13 A.1 (nI t)) 11 2 (nI (A.1 + 1)), L) ∧ f_191 n 0 (u2 (u2 (u2 I 12 A.1 (oI x)) 13 A.1 (nI t)) 11 2 (nI (A.1 + 1))) L = some (J, L) ∧ NDn J H (gN H (acA A x t) 0) ∧ f_349 n (oI x) (nI t) (u2 J 89 0 0) L = some (K, L) ∧ NMk K H (gN H (acA A x t) 0) (H.1 3) ∧ MH K 0 H W (acA A x t) ∧ HOK H W (acA A x t) ∧ MH J 0 H W A ∧ VV KP RP kp nh' rh tl rl K L := by
  have hB0 := hB
  obtain ⟨_, _, ho, hC, hM, _, _⟩ := hB
  have ho' := acA_ok ho h30 hx ht
  obtain ⟨c1, c2⟩ := acC (L := L) (x := x) (t := t) ho hC h30
  obtain ⟨J, j1, j2, j3, j4⟩ := tonC (n := n) (L := L) ho' c2 (md := 0) (by omega) hn
  have eJ : ∀ c i, (c < 26 ∨ 32 < c) → c ≠ 11 → c ≠ 12 → c ≠ 13 → J c i = I c i := fun c i h h1 h2 h3 => by rw [j4 c i h, u2_c h1, u2_c h3, u2_c h2]
  have hMJ0 : MH J 0 H W A := MH_fr ho hM (fun c hc i => eJ c i (by omega) (by omega) (by omega) (by omega))
  have hMJ : MH (u2 J 89 0 0) 0 H W A := MH_th hMJ0
  have hMA := acM ho hMJ (x := x) (t := t) h30
  obtain ⟨K, k1, k2, k3, k4, k5, k6⟩ := tonM (n := n) (L := L) ho' hMA (md := 0) (by omega) hn
  have eK : ∀ c i, c ≠ 89 → (c < 103 ∨ 108 < c) → c ≠ 96 → c ≠ 101 → K c i = J c i := fun c i h1 h2 h3 h4 => by rw [k5 c i h1 h2, u2_c h3, u2_c h4, u2_c h4, u2_c h1]
  refine ⟨J, K, c1, j1, j2, ?_, k2, k4, ho', hMJ0, ?_⟩
  · unfold f_349
    have ha : (u2 J 89 0 0) 96 7 = nI A.1 := mh96a hMJ
    rw [ha, ku_2, pk_mul, nI_1, nI_1, ku_if (by omega) (by omega), ku_if (by omega) (by omega), nI_clamp (by omega), nI_clamp (by omega)]
    show (f_261 n (nI 0) _ L).bind _ = _
    rw [k1, q_bs]
  · refine VV_hs (nh := nh) (nh' := nh') (W' := W) (A' := acA A x t) hB0 hR hW ho' ?_ k4 (fun c hc i => ?_) (fun k hk => ?_) (fun i hi => ?_) Sm_r
    · exact CH_u j3 (fun a i h => by rw [eK a i (by omega) (by omega) (by omega) (by omega)])
    · rw [eK c i (by omega) (by omega) (by omega) (by omega), eJ c i (by omega) (by omega) (by omega) (by omega)]
    · refine MSm_t (I' := J) (MSm_of (fun c hc i => eJ c i (by omega) (by omega) (by omega) (by omega))) ?_
      refine MSm_t (MSm_u hk (c := 89) (i := 0) (x := 0) (by omega)) (MSm_t (MSm_u hk (c := 101) (i := 2 * A.1) (x := oI x) (by omega)) (MSm_t (MSm_u hk (c := 101) (i := 2 * A.1 + 1) (x := nI t) (by omega)) (MSm_t (MSm_u hk (c := 96) (i := 7) (x := nI (A.1 + 1)) (by omega)) (MSm_of (fun c hc i => k5 c i (by omega) (by omega))))))
    · rw [k6 i (by omega), u2_c (by decide), u2_c (by decide), u2_c (by decide), u2_o (by omega), eJ 89 i (by omega) (by omega) (by omega) (by omega)]
end ACTS
section ACTS2
variable {KP : KPT} {RP : RPT} {Ls : Nat} {xs : Nat → Int32} {a1 a2 a3 a4 a5 : Int32}
theorem sk_visit : SOK Ls xs (VV KP RP) 164 350 [.int a1, .int a2] := by
  intro kp nh rh tl rl I L hV
  have hV0 := hV
  obtain ⟨H, W, A, hB, hR, hW⟩ := hV
  have hB0 := hB
  obtain ⟨hT, hF, ho, hC, hM, hIm, hRw⟩ := hB
  have o0 : H.1 0 ≤ 1000 := ho.1.1
  have o3 : H.1 3 ≤ 30 := ho.1.2.2.2.1
  have o4 : H.1 4 ≤ 4 := ho.1.2.2.2.2.1
  have c0 : I 3 0 = nI (H.1 0) := chs hC (by decide)
  have c3 : I 3 3 = nI (H.1 3) := chs hC (by decide)
  have c4 : I 3 4 = nI (H.1 4) := chs hC (by decide)
  have m0 : u2 I 89 0 0 95 0 = nI (H.1 0) := (u2_c (by decide)).trans hM.1
  have m3 : u2 I 89 0 0 96 2 = nI (H.1 3) := (u2_c (by decide)).trans (mh96 hM (by decide))
  have m4 : u2 I 89 0 0 96 3 = nI (H.1 4) := (u2_c (by decide)).trans (mh96 hM (by decide))
  rcases q_arg a1 (n := H.1 4) (by omega) with h1 | ⟨r, hr, rfl⟩
  · exact ⟨-2, kp, nh, rh, tl, rl, I, L, u2 I 89 0 0, L, (t_164 Ls xs 993 kp tl rl nh rh 2000 a1 a2 I L (-2, nh, I, L) (by unfold f_164; rw [e178n c4 o4 h1, q_bs, q_00])), (t_350 Ls xs 992 kp tl rl nh rh 2000 a1 a2 I L (-2, u2 I 89 0 0, L) (by unfold f_350; rw [e239n m4 o4 h1, q_bs, q_00])), VV_th hV0⟩
  · rcases q_arg a2 (n := H.1 3) (by omega) with h2 | ⟨t, ht, rfl⟩
    · exact ⟨-2, kp, nh, rh, tl, rl, I, L, u2 I 89 0 0, L, (t_164 Ls xs 993 kp tl rl nh rh 2000 (nI r) a2 I L (-2, nh, I, L) (by unfold f_164; rw [e178y c4 o4 hr, q_bs, q_11, e180n c3 o3 h2, q_bs, q_n00])), (t_350 Ls xs 992 kp tl rl nh rh 2000 (nI r) a2 I L (-2, u2 I 89 0 0, L) (by unfold f_350; rw [e239y m4 o4 hr, q_bs, q_11, e241n m3 o3 h2, q_bs, q_n00])), VV_th hV0⟩
    · have oA : A.1 ≤ 30 := ho.1.2.2.2.2.2.2.2.2
      by_cases h30 : A.1 < 30
      · obtain ⟨J, K, x1, x2, x3, x4, x5, x6, x7, x8, x9⟩ := acB (n := 2000) (nh := nh) (nh' := some 3) (x := r + 1) hB0 hR hW h30 (by omega) ht (by omega)
        rw [oI_s] at x1 x2 x4
        have hg := gN_ok x7 (md := 0) (by omega)
        have q3 : u2 J 89 0 0 96 2 = nI (H.1 3) := mh96 (MH_th x8) (by decide)
        have q4 : u2 J 89 0 0 96 3 = nI (H.1 4) := mh96 (MH_th x8) (by decide)
        have q7 : J 96 7 = nI A.1 := mh96a x8
        refine ⟨nI (na H (gN H (acA A (r + 1) t) 0) t r), kp, some 3, rh, tl, rl, J, L, K, L, (t_164 Ls xs 993 kp tl rl nh rh 2000 (nI r) (nI t) I L (nI (na H (gN H (acA A (r + 1) t) 0) t r), some 3, J, L) ?_), (t_350 Ls xs 992 kp tl rl (some 3) rh 2000 (nI r) (nI t) J L (nI (na H (gN H (acA A (r + 1) t) 0) t r), K, L) ?_), x9⟩
        · unfold f_164
          rw [e178y c4 o4 hr, q_bs, q_11, e180y c3 o3 ht, q_bs, q_n11, x1, q_bs]
          dsimp only
          rw [q_11, x2, q_bs, e60 (by omega) (by omega), q_bs]
          dsimp only
          rw [(x3.2.1 t ht).2.2 r hr]
        · unfold f_350
          rw [e239y q4 o4 hr, q_bs, q_11, e241y q3 o3 ht, q_bs, q_n11, q7, if_pos (by rw [ku_30, nI_eq (by omega) (by omega)]; omega), x4, q_bs, ku_4, pk_mul, nI_add, ku_if (by omega) (by omega), nI_clamp (by omega)]
          dsimp only
          rw [(x5 t ht).2.2 r hr]
      · have c30 : f_1 (nI r) (nI t) I L = some (0, I, L) := by
          unfold f_1
          rw [ch_an hC, if_neg (show ¬ nI A.1 < 30 from nI_nlt (b := 30) (by omega) (by omega))]
        exact ⟨-5, kp, nh, rh, tl, rl, I, L, u2 I 89 0 0, L, (t_164 Ls xs 993 kp tl rl nh rh 2000 (nI r) (nI t) I L (-5, nh, I, L) (by unfold f_164; rw [e178y c4 o4 hr, q_bs, q_11, e180y c3 o3 ht, q_bs, q_n11, c30, q_bs, q_00])), (t_350 Ls xs 992 kp tl rl nh rh 2000 (nI r) (nI t) I L (-5, u2 I 89 0 0, L) (by unfold f_350; rw [e239y m4 o4 hr, q_bs, q_11, e241y m3 o3 ht, q_bs, q_n11, if_neg (show ¬ ¬ I 96 7 = 30 by rw [mh96a hM, ku_30, nI_eq (by omega) (by omega)]; omega)])), VV_th hV0⟩
theorem sk_nods : SOK Ls xs (VV KP RP) 165 351 [.int a1] := by
  intro kp nh rh tl rl I L hV
  have hV0 := hV
  obtain ⟨H, W, A, hB, hR, hW⟩ := hV
  have hB0 := hB
  obtain ⟨hT, hF, ho, hC, hM, hIm, hRw⟩ := hB
  have o0 : H.1 0 ≤ 1000 := ho.1.1
  have o3 : H.1 3 ≤ 30 := ho.1.2.2.2.1
  have o4 : H.1 4 ≤ 4 := ho.1.2.2.2.2.1
  have c0 : I 3 0 = nI (H.1 0) := chs hC (by decide)
  have c3 : I 3 3 = nI (H.1 3) := chs hC (by decide)
  have c4 : I 3 4 = nI (H.1 4) := chs hC (by decide)
  have m0 : u2 I 89 0 0 95 0 = nI (H.1 0) := (u2_c (by decide)).trans hM.1
  have m3 : u2 I 89 0 0 96 2 = nI (H.1 3) := (u2_c (by decide)).trans (mh96 hM (by decide))
  have m4 : u2 I 89 0 0 96 3 = nI (H.1 4) := (u2_c (by decide)).trans (mh96 hM (by decide))
  rcases q_arg a1 (n := H.1 3) (by omega) with h1 | ⟨t, ht, rfl⟩
  · exact ⟨-2, kp, nh, rh, tl, rl, I, L, u2 I 89 0 0, L, (t_165 Ls xs 993 kp tl rl nh rh 2000 a1 I L (-2, nh, I, L) (by unfold f_165; rw [e180n c3 o3 h1, q_bs, q_n00])), (t_351 Ls xs 992 kp tl rl nh rh 2000 a1 I L (-2, u2 I 89 0 0, L) (by unfold f_351; rw [e241n m3 o3 h1, q_bs, q_n00])), VV_th hV0⟩
  · have oA : A.1 ≤ 30 := ho.1.2.2.2.2.2.2.2.2
    by_cases h30 : A.1 < 30
    · obtain ⟨J, K, x1, x2, x3, x4, x5, x6, x7, x8, x9⟩ := acB (n := 2000) (nh := nh) (nh' := some 3) (x := 0) hB0 hR hW h30 (by omega) ht (by omega)
      rw [oI_0] at x1 x2 x4
      have hg := gN_ok x7 (md := 0) (by omega)
      have q3 : u2 J 89 0 0 96 2 = nI (H.1 3) := mh96 (MH_th x8) (by decide)
      have q7 : J 96 7 = nI A.1 := mh96a x8
      refine ⟨nI (brn H (gN H (acA A 0 t) 0) t), kp, some 3, rh, tl, rl, J, L, K, L, (t_165 Ls xs 993 kp tl rl nh rh 2000 (nI t) I L (nI (brn H (gN H (acA A 0 t) 0) t), some 3, J, L) ?_), (t_351 Ls xs 992 kp tl rl (some 3) rh 2000 (nI t) J L (nI (brn H (gN H (acA A 0 t) 0) t), K, L) ?_), x9⟩
      · unfold f_165
        rw [e180y c3 o3 ht, q_bs, q_n11, x1, q_bs]
        dsimp only
        rw [q_11, x2, q_bs, c63 x7 x3 hg ht (by omega), q_bs]
      · unfold f_351
        rw [e241y q3 o3 ht, q_bs, q_n11, q7, if_pos (by rw [ku_30, nI_eq (by omega) (by omega)]; omega), x4, q_bs, m262 x7 x6 x5 hg ht (by omega), q_bs]
    · have c30 : f_1 (-1) (nI t) I L = some (0, I, L) := by
        unfold f_1
        rw [ch_an hC, if_neg (show ¬ nI A.1 < 30 from nI_nlt (b := 30) (by omega) (by omega))]
      exact ⟨-5, kp, nh, rh, tl, rl, I, L, u2 I 89 0 0, L, (t_165 Ls xs 993 kp tl rl nh rh 2000 (nI t) I L (-5, nh, I, L) (by unfold f_165; rw [e180y c3 o3 ht, q_bs, q_n11, c30, q_bs, q_00])), (t_351 Ls xs 992 kp tl rl nh rh 2000 (nI t) I L (-5, u2 I 89 0 0, L) (by unfold f_351; rw [e241y m3 o3 ht, q_bs, q_n11, if_neg (show ¬ ¬ I 96 7 = 30 by rw [mh96a hM, ku_30, nI_eq (by omega) (by omega)]; omega)])), VV_th hV0⟩
end ACTS2
