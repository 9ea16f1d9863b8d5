/-! LAYER 3: the model reads all; the call of house -/
section MHS
variable {I : FI} {L : FL} {t : Nat → Int32} {N n p : Nat} {o : Nat × Nat} {H : HD} {W : Nat → Nat}
theorem cdw_h : lN (cdw.getD (4 - 4) 0) = 4562600 ∧ lN (cdw.getD (5 - 4) 0) = 8798 ∧ lN (cdw.getD (6 - 4) 0) = 298288 ∧ lN (cdw.getD (7 - 4) 0) = 5173474771 := ⟨rfl, rfl, rfl, rfl⟩
/-- a line that is the first -/
theorem hdO_B (hz : H.1 0 = 0) : lnB t N p H = hdO t N (0, p) := by
  unfold lnB
  rw [if_pos hz]
  by_cases h4 : tk t N p = 4
  · rw [if_pos h4]
  · rw [if_neg h4]
    have e : xp t N 4 (0, p) = (1, p) := by unfold xp; rw [if_pos rfl, if_neg h4]
    have n1 : (1, p).1 ≠ 0 := by show (1 : Nat) ≠ 0; omega
    unfold hdO hdC hdB hdA
    rw [e, xp_f n1, nmo_f n1, xp_f n1, nmo_f n1, xp_f n1, nmo_f n1]
theorem e233h (h : MQr t N I L (0, p)) (hD : DRM I H W) (hz : H.1 0 = 0) (hn : 1000 ≤ n) (F : FI → FL → Option (Int32 × FI × FL)) : ∃ A B, ((f_216 n 4562600 I L).bind fun q8 => (f_218 n 8798 0 3 q8.1 q8.2).bind fun q9 => (f_224 0 q9.1 q9.2.1 q9.2.2).bind fun q10 => (f_218 n 298288 0 10 q10.1 q10.2).bind fun q11 => (f_224 1 q11.1 q11.2.1 q11.2.2).bind fun q12 => (f_218 n 5173474771 1 30 q12.1 q12.2).bind fun q13 => (f_224 2 q13.1 q13.2.1 q13.2.2).bind fun q14 => F q14.1 q14.2) = F A B ∧ MQr t N A B (lnB t N p H) ∧ DRM A (lnH0 t N p H) (lnW t N p H W) ∧ FS I A L B := by
  have eH : lnH0 t N p H = hdH t N (0, p) H := by unfold lnH0; rw [if_pos hz]
  have eW : lnW t N p H W = W := by unfold lnW; rw [if_pos hz]
  obtain ⟨g4, g5, g6, g7⟩ := cdw_h
  obtain ⟨A1, B1, a1, a2, a3⟩ := e216 (n := n) h (k := 4) (by omega) (by omega) hn
  rw [g4] at a1
  obtain ⟨A2, B2, b1, b2, b3⟩ := e218 (n := n) a2 (k := 5) (by omega) (by omega) (lo := 0) (hx := 4) (by omega) (by omega) hn
  rw [g5, oI_4] at b1
  have b4 := MQ_fr (K := u2 A2 96 36 (nI (nmv t N 0 4 (hdA t N (0, p))))) b2 (fun c i hc => u2_c (by omega))
  obtain ⟨A3, B3, c1, c2, c3⟩ := e218 (n := n) b4 (k := 6) (by omega) (by omega) (lo := 0) (hx := 11) (by omega) (by omega) hn
  rw [g6, oI_11] at c1
  have c4 := MQ_fr (K := u2 A3 96 37 (nI (nmv t N 0 11 (hdB t N (0, p))))) c2 (fun c i hc => u2_c (by omega))
  obtain ⟨A4, B4, d1, d2, d3⟩ := e218 (n := n) c4 (k := 7) (by omega) (by omega) (lo := 1) (hx := 31) (by omega) (by omega) hn
  rw [g7, oI_31] at d1
  have d4 := MQ_fr (K := u2 A4 96 38 (nI (nmv t N 1 31 (hdC t N (0, p))))) d2 (fun c i hc => u2_c (by omega))
  have q1 := DRM_hs (j := 0) (v := nmv t N 0 4 (hdA t N (0, p))) (DRM_q hD (FQ_t a3 b3)) (by omega)
  have q2 := DRM_hs (j := 1) (v := nmv t N 0 11 (hdB t N (0, p))) (DRM_q q1 c3) (by omega)
  have q3 := DRM_hs (j := 2) (v := nmv t N 1 31 (hdC t N (0, p))) (DRM_q q2 d3) (by omega)
  refine ⟨u2 A4 96 38 (nI (nmv t N 1 31 (hdC t N (0, p)))), B4, ?_, by rw [hdO_B hz]; exact d4, by rw [eH, eW]; exact q3, FS_t (FS_t (FS_t (FS_t (FS_t (FS_q (FQ_t a3 b3)) (FS_u (by unfold kpc; omega))) (FS_q c3)) (FS_u (by unfold kpc; omega))) (FS_q d3)) (FS_u (by unfold kpc; omega))⟩
  rw [a1, q_bs]
  (first | dsimp +instances only | skip)
  rw [show f_218 n 8798 0 3 A1 B1 = some (nI (nmv t N 0 4 (hdA t N (0, p))), A2, B2) from b1, q_bs]
  (first | dsimp +instances only | skip)
  rw [show f_224 0 (nI (nmv t N 0 4 (hdA t N (0, p)))) A2 B2 = some (u2 A2 96 36 (nI (nmv t N 0 4 (hdA t N (0, p)))), B2) from e224 (k := 0) (by omega) _, q_bs]
  (first | dsimp +instances only | skip)
  rw [show f_218 n 298288 0 10 (u2 A2 96 36 (nI (nmv t N 0 4 (hdA t N (0, p))))) B2 = some (nI (nmv t N 0 11 (hdB t N (0, p))), A3, B3) from c1, q_bs]
  (first | dsimp +instances only | skip)
  rw [show f_224 1 (nI (nmv t N 0 11 (hdB t N (0, p)))) A3 B3 = some (u2 A3 96 37 (nI (nmv t N 0 11 (hdB t N (0, p)))), B3) from e224 (k := 1) (by omega) _, q_bs]
  (first | dsimp +instances only | skip)
  rw [show f_218 n 5173474771 1 30 (u2 A3 96 37 (nI (nmv t N 0 11 (hdB t N (0, p))))) B3 = some (nI (nmv t N 1 31 (hdC t N (0, p))), A4, B4) from d1, q_bs]
  (first | dsimp +instances only | skip)
  rw [show f_224 2 (nI (nmv t N 1 31 (hdC t N (0, p)))) A4 B4 = some (u2 A4 96 38 (nI (nmv t N 1 31 (hdC t N (0, p)))), B4) from e224 (k := 2) (by omega) _, q_bs]
theorem e212 (h : MQr t N I L o) : f_212 I L = some (bI (o.1 = 0)) := by
  obtain ⟨f1, f2⟩ := MQ_f h
  unfold f_212
  rw [f1]
  by_cases z : o.1 = 0
  · rw [if_neg (fun q => q (by rw [z]; rfl)), bI_p z]
  · rw [if_pos (nI_ne0 (by omega) (by omega)), bI_n z]
/-- the end of a line -/
theorem e233e {H' : HD} {W' : Nat → Nat} (h : MQr t N I L o) (hD : o.1 = 0 → DRM I H' W') (hn : 1000 ≤ n) (K : FI → FL → Option (Int32 × FI × FL)) : ∃ A B, c_233_2 n K I L = K A B ∧ MQr t N A B (xp t N 3 o) ∧ ((xp t N 3 o).1 = 0 → DRM A (hs H' 0 (H'.1 0 + 1)) W') ∧ FS I A L B := by
  unfold c_233_2 c_233_3
  rw [e212 h, q_bs, q_b1]
  by_cases z : o.1 = 0
  · obtain ⟨A, B, a1, a2, a3⟩ := e219 (n := n) h hn
    rw [if_pos z, a1, q_bs]
    (first | dsimp +instances only | skip)
    refine ⟨u2 A 95 4 (A 95 4 + 1), B, rfl, MQ_fr a2 (fun c i hc => u2_c (by omega)), fun _ => ?_, FS_t (FS_q a3) (FS_u (by unfold kpc; omega))⟩
    have hd := DRM_q (hD z) a3
    obtain ⟨h1, h2, h3, h4, h5, h6, h7, h8, h9, h10, h11⟩ := hd
    have eo : ∀ j, j ≠ 0 → (hs H' 0 (H'.1 0 + 1)).1 j = H'.1 j := fun j hj => hs_o hj
    refine ⟨by rw [u2_s, h1, nI_1, hs_s], fun j hj => by rw [u2_c (by decide), eo _ (by omega)]; exact h2 j hj, by rw [u2_c (by decide)]; exact h3, by rw [u2_c (by decide), eo 7 (by decide)]; exact h4, fun r hr => ?_, fun r hr => ?_, fun r hr => ?_, fun r hr => ?_, fun r hr => ?_, fun r hr => ?_, fun r hr => ?_⟩
    · rw [eo 4 (by decide)] at hr; rw [u2_c (by decide)]; exact h5 r hr
    · rw [eo 4 (by decide)] at hr; rw [u2_c (by decide)]; exact h6 r hr
    · rw [eo 5 (by decide)] at hr; rw [u2_c (by decide)]; exact h7 r hr
    · rw [eo 5 (by decide)] at hr; rw [u2_c (by decide)]; exact h8 r hr
    · rw [eo 6 (by decide)] at hr; rw [u2_c (by decide)]; exact h9 r hr
    · rw [eo 6 (by decide)] at hr; rw [u2_c (by decide)]; exact h10 r hr
    · rw [eo 7 (by decide)] at hr; rw [u2_c (by decide)]; exact h11 r hr
  · rw [if_neg z, xp_f z]
    exact ⟨u2 I 95 4 (I 95 4 + 1), L, rfl, MQ_fr h (fun c i hc => u2_c (by omega)), fun q => absurd q z, FS_u (by unfold kpc; omega)⟩
theorem e232 (hn : 1000 ≤ n) (W : Nat → Nat) : ∃ A, f_232 n I L = some (A, L) ∧ DRM A HD0 W ∧ FS I A L L ∧ ∀ c i, c ≠ 95 → c ≠ 96 → A c i = I c i := by
  unfold f_232
  refine lpEk (fun m k (s : FI) => c_232_0 n m (nI k) s L) 9 (fun k s => (∀ j, j < k → s 96 (36 + j) = nI 0) ∧ s 95 4 = nI 0 ∧ FS I s L L ∧ ∀ c i, c ≠ 95 → c ≠ 96 → s c i = I c i) (fun s => some (s, L)) n 0 (u2 I 95 4 0) (by omega) (by omega) ⟨fun j hj => absurd hj (by omega), u2_s, FS_u (by unfold kpc; omega), fun c i h1 _ => u2_c h1⟩ (fun s hs e => ?_) (fun m s hs => ?_) (fun m k s hk hs => ?_)
  · obtain ⟨s1, s2, s3, s4⟩ := hs
    refine ⟨s, e, ⟨s2, fun j hj => s1 j (by omega), s1 7 (by omega), s1 8 (by omega), fun r hr => absurd hr (Nat.not_lt_zero r), fun r hr => absurd hr (Nat.not_lt_zero r), fun r hr => absurd hr (Nat.not_lt_zero r), fun r hr => absurd hr (Nat.not_lt_zero r), fun r hr => absurd hr (Nat.not_lt_zero r), fun r hr => absurd hr (Nat.not_lt_zero r), fun r hr => absurd hr (Nat.not_lt_zero r)⟩, s3, s4⟩
  · show b_232_0 n (c_232_0 n m) (nI 9) s L = _
    unfold b_232_0
    rw [if_pos (by decide)]
  · obtain ⟨s1, s2, s3, s4⟩ := hs
    refine ⟨u2 s 96 (36 + k) (nI 0), ⟨fun j hj => ?_, by rw [u2_c (by decide)]; exact s2, FS_t s3 (FS_u (by unfold kpc; omega)), fun c i h1 h2 => by rw [u2_c h2]; exact s4 c i h1 h2⟩, ?_⟩
    · by_cases e : j = k
      · subst e; exact u2_s
      · rw [u2_o (by omega)]; exact s1 j (by omega)
    · show b_232_0 n (c_232_0 n m) (nI k) s L = _
      unfold b_232_0
      rw [ku_9, if_neg (nI_ge hk (by omega)), show f_224 (nI k) 0 s L = some (u2 s 96 (36 + k) (nI 0), L) from e224 hk _, q_bs, nI_1]
/-- the model has read -/
theorem e233 (hX : MX t N I) (hn : 1000 ≤ n) : ∃ A B, f_233 n I L = c_233_1 n A B ∧ MQr t N A B (rdR t N).1 ∧ ((rdR t N).1.1 = 0 → DRM A (rdR t N).2.1 (rdR t N).2.2) ∧ FS (u2 I 89 0 0) A L B := by
  have hN := hX.1
  obtain ⟨A1, a1, a2, a3, a4⟩ := e232 (I := u2 I 89 0 0) (L := L) hn (fun _ => 0)
  have hX1 : MX t N (u2 (u2 (u2 A1 89 12 0) 89 13 (-1)) 89 7 0) := MX_fr hX (by rw [u2_o (by decide), u2_o (by decide), u2_o (by decide), a4 89 6 (by decide) (by decide), u2_o (by decide)]) (fun i => by rw [u2_c (by decide), u2_c (by decide), u2_c (by decide), a4 94 i (by decide) (by decide), u2_c (by decide)])
  obtain ⟨A2, B2, b1, b2, b3⟩ := e211 (L := L) hX1 (q := 0) (Nat.zero_le _) u2_s hn
  have hQ : MQr t N A2 B2 (0, tP t N 0) := ⟨FM_X hX1 b3, by rw [b3.1 89 12 (by omega), u2_o (by decide), u2_o (by decide), u2_s]; rfl, by show 0 ≤ 3; omega, fun _ => b2, fun q => absurd rfl q, tP_le 0⟩
  have hF0 : FS A1 A2 L B2 := FS_t (FS_t (FS_t (FS_u (c := 89) (i := 12) (by unfold kpc; omega)) (FS_u (c := 89) (i := 13) (by unfold kpc; omega))) (FS_u (c := 89) (i := 7) (by unfold kpc; omega))) (FS_q (FQ_m b3))
  have hD0 : DRM A2 HD0 (fun _ => 0) := DRM_fr a2 (fun c i h1 h2 => by rw [b3.1 c i (by omega), u2_c (by omega), u2_c (by omega), u2_c (by omega)])
  have key : ∀ (d i m : Nat) (s : (Nat × Nat) × HD × (Nat → Nat)) (B : FI) (M : FL), i + d = 501 → d < m → LNI N i s → MQr t N B M s.1 → (s.1.1 = 0 → DRM B s.2.1 s.2.2) → FS (u2 I 89 0 0) B L M → ∃ A D, c_233_0 n m B M = c_233_1 n A D ∧ MQr t N A D (lns t N d s).1 ∧ ((lns t N d s).1.1 = 0 → DRM A (lns t N d s).2.1 (lns t N d s).2.2) ∧ FS (u2 I 89 0 0) A L D := by
    intro d
    induction d with
    | zero =>
      intro i m s B M hi hm k0 k1 k2 k3
      obtain ⟨m, rfl⟩ : ∃ m', m = m' + 1 := ⟨m - 1, by omega⟩
      have z : ¬ s.1.1 = 0 := fun z => by have := k0 z; omega
      refine ⟨B, M, ?_, k1, k2, k3⟩
      show b_233_0 n (c_233_0 n m) B M = _
      unfold b_233_0
      rw [e212 k1, q_bs, q_b1, if_neg z]
    | succ d ih =>
      intro i m s B M hi hm k0 k1 k2 k3
      obtain ⟨m, rfl⟩ : ∃ m', m = m' + 1 := ⟨m - 1, by omega⟩
      have er : lns t N (d + 1) s = if s.1.1 = 0 ∧ tk t N s.1.2 ≠ 0 then lns t N d (lnO t N s.1.2 s.2.1, lnH t N s.1.2 s.2.1, lnW t N s.1.2 s.2.1 s.2.2) else s := rfl
      have hl := mtk_le (t := t) (N := N) (p := s.1.2)
      show ∃ A D, b_233_0 n (c_233_0 n m) B M = c_233_1 n A D ∧ _
      unfold b_233_0
      rw [e212 k1, q_bs, q_b1]
      by_cases z : s.1.1 = 0
      · have hm2 := k1.2.2.2.1 z
        rw [if_pos z, hm2.2.2.1]
        by_cases q : tk t N s.1.2 = 0
        · rw [if_neg (fun x => x.2 q)] at er
          rw [if_pos (by rw [mtk_0.mpr q]; rfl), er]
          exact ⟨B, M, rfl, k1, k2, k3⟩
        · rw [if_pos ⟨z, q⟩] at er
          obtain ⟨u1, u2', u3, u4⟩ := k0 z
          have hp : s.1.2 < N := by
            rcases Nat.lt_or_ge s.1.2 N with x | x
            · exact x
            · exact absurd (tk_0.mpr x) q
          have hs1 : s.1 = (0, s.1.2) := by rw [← z]
          have hQs : MQr t N B M (0, s.1.2) := by rw [← hs1]; exact k1
          have q0 : s.2.1.1 0 ≤ 1000 := u1.1.1
          have i0 : B 95 4 = nI (s.2.1.1 0) := (k2 z).1
          -- behind the body
          have fin : ∀ (A : FI) (D : FL), MQr t N A D (lnB t N s.1.2 s.2.1) → ((lnB t N s.1.2 s.2.1).1 = 0 → DRM A (lnH0 t N s.1.2 s.2.1) (lnW t N s.1.2 s.2.1 s.2.2)) → FS B A M D → ∃ A' D', c_233_2 n (c_233_0 n m) A D = c_233_1 n A' D' ∧ MQr t N A' D' (lns t N (d + 1) s).1 ∧ ((lns t N (d + 1) s).1.1 = 0 → DRM A' (lns t N (d + 1) s).2.1 (lns t N (d + 1) s).2.2) ∧ FS (u2 I 89 0 0) A' L D' := fun A D x1 x2 x3 => by
            obtain ⟨A', D', y1, y2, y3, y4⟩ := e233e (n := n) x1 x2 hn (c_233_0 n m)
            rw [← lnO_B] at y2 y3
            rw [lnH0_0] at y3
            rw [y1, er]
            exact ih (i + 1) m (lnO t N s.1.2 s.2.1, lnH t N s.1.2 s.2.1, lnW t N s.1.2 s.2.1 s.2.2) A' D' (by omega) (by omega) (LNI_s hN k0 z q) y2 y3 (FS_t (FS_t k3 x3) y4)
          rw [if_neg (nI_ne0 (by
            rcases Nat.eq_zero_or_pos (mtk t N s.1.2) with x | x
            · exact absurd (mtk_0.mp x) q
            · exact x) (by omega)), i0]
          by_cases hz : s.2.1.1 0 = 0
          · obtain ⟨A, D, x1, x2, x3, x4⟩ := e233h (n := n) hQs (k2 z) hz hn (c_233_2 n (c_233_0 n m))
            rw [if_neg (fun x => x (by rw [hz]; rfl)), x1]
            exact fin A D x2 (fun _ => x3) x4
          · obtain ⟨A, D, x1, x2, x3, x4⟩ := e231 (n := n) hQs hp (k2 z) u1 hz hn
            rw [if_pos (nI_ne0 (by omega) (by omega)), x1, q_bs]
            exact fin A D x2 x3 x4
      · rw [if_neg (fun x => z x.1)] at er
        rw [if_neg z, er]
        exact ⟨B, M, rfl, k1, k2, k3⟩
  obtain ⟨A, D, r1, r2, r3, r4⟩ := key 501 0 n ((0, tP t N 0), HD0, fun _ => 0) A2 B2 (by omega) (by omega) LNI_0 hQ (fun _ => hD0) (FS_t a3 hF0)
  refine ⟨A, D, ?_, r2, r3, r4⟩
  unfold f_233
  rw [a1, q_bs]
  (first | dsimp +instances only | skip)
  unfold f_220
  rw [b1, q_bs, q_bs]
  exact r1
/-- the model's draft is a house -/
theorem DRM_MH (h : DRM I H W) : MH I 4 H W AD0 := by
  obtain ⟨h1, h2, h3, h4, h5, h6, h7, h8, h9, h10, h11⟩ := h
  exact ⟨h1, h2, h3, h5, h6, h7, h8, h9, h10, h11, fun i hi => absurd hi (Nat.not_lt_zero i), fun i hi => absurd hi (Nat.not_lt_zero i)⟩
end MHS
section HSK
variable {KP : KPT} {RP : RPT} {Ls : Nat} {xs : Nat → Int32} {I : FI} {L : FL} {H : HD} {W : Nat → Nat} {A : AD}
theorem FS_M {I A : FI} {L B : FL} (h : FS I A L B) {s : Nat} (hs : s < 4) : MSm s I A := by
  obtain ⟨h1, _⟩ := h
  refine ⟨h1 95 s (by unfold kpc; omega), fun i a b => h1 96 i (by unfold kpc; omega), fun i a b => h1 97 i (by unfold kpc; omega), fun i a b => h1 98 i (by unfold kpc; omega), fun i a b => h1 99 i (by unfold kpc; omega), fun i a b => h1 100 i (by unfold kpc; omega), fun i a b => h1 101 i (by unfold kpc; omega)⟩
theorem sk_house (hKf : KPf KP) (hRf : RPf RP) : SOK Ls xs (VV KP RP) 115 233 [] := by
  intro kp nh rh tl rl I L hV
  obtain ⟨H, W, A, hB, hR, hW⟩ := hV
  obtain ⟨hT, hF, ho, hC, hM, hIm, hRw⟩ := hB
  obtain ⟨N, t1, t2, t3, t4⟩ := hT
  have hkk : (kp = none ∧ tl = [] ∧ rl = []) ∨ (kp = some 114 ∧ tl = TK ∧ rl = RK (some 3)) := by
    rcases hW with h | h
    · exact Or.inl h
    · exact Or.inr ⟨h.1, h.2.1, h.2.2.1⟩
  -- the class reads
  obtain ⟨C, c1, c2, c3, c4, c5, c6⟩ := e74 (I := I) (L := L) (t := I 2) (N := N) (n := 2000) (fun _ _ => rfl) t1 t2 (by omega)
  have hMX : ∀ {K : FI}, (∀ i, K 89 i = I 89 i) → (∀ i, K 94 i = I 94 i) → MX (I 2) N K := fun h1 h2 => ⟨t1, by rw [h1]; exact t3, fun i hi => by rw [h2]; exact (t4 i hi).symm⟩
  by_cases z : (rdR (I 2) N).1.1 = 0
  · obtain ⟨c51, c52, c53⟩ := c5 z
    have hCz : C 14 1 = 0 := by rw [c2, z]; rfl
    -- the class's house
    have hD1 : DRC (u2 C 1 1 0) (rdR (I 2) N).2.1 (rdR (I 2) N).2.2 := DRC_fr c52 (fun c i a b => u2_c (by omega))
    obtain ⟨D, E, d1, d2, d3, d4⟩ := eHC (L := L) (n := 2000) c53 hD1 (by omega)
    obtain ⟨F, f1, f2, f3, f4⟩ := e95 (n := 2000) (L := L) (I := u2 E 11 2 0) (by omega)
    have hF1 : ∀ c i, (c < 1 ∨ (1 < c ∧ c < 3) ∨ 25 < c) → c ≠ 35 → c ≠ 39 → F c i = I c i := fun c i h1 h2 h3 => by rw [f4 c i h2 h3, u2_c (by omega), d4 c i (by omega), u2_c (by omega), c6 c i (by omega)]
    have hF14 : ∀ i, F 14 i = C 14 i := fun i => by rw [f4 14 i (by decide) (by decide), u2_c (by decide), d4 14 i (by omega), u2_c (by decide)]
    have hF11 : F 1 1 = 0 := by rw [f4 1 1 (by decide) (by decide), u2_c (by decide), d4 1 1 (by omega), u2_s]
    have hCF : CH F 3 11 (rdR (I 2) N).2.1 (rdR (I 2) N).2.2 AD0 := CH_fr d3 (fun c hc i => f4 c i (by omega) (by omega))
    have fin : ∀ (J : FI) (kp1 : Option Nat) (tl1 : List (Nat × Nat)) (rl1 : List (List (Option Nat))), (∀ c i, c < 114 ∨ 121 < c → J c i = F c i) → pEN Ls xs 1000 115 (.ref 0 :: []) (hp kp1 nh rh tl1 rl1 I L) = some (some (.int (J 3 0)), hp kp1 nh (some 3) tl1 rl1 J L) → (∀ (K : FI) (M : FL), (∀ c, 114 ≤ c ∧ c ≤ 121 → ∀ i, K c i = J c i) → VWd KP kp1 tl1 rl1 K M (rdR (I 2) N).2.1) → ∃ v kp2 nh1 rh1 tl2 rl2 I1 L1 I2 L2, pEN Ls xs 1000 115 (.ref 0 :: []) (hp kp1 nh rh tl1 rl1 I L) = some (some (.int v), hp kp2 nh1 rh1 tl2 rl2 I1 L1) ∧ pEN Ls xs 1000 233 (.ref 89 :: []) (hp kp2 nh1 rh1 tl2 rl2 I1 L1) = some (some (.int v), hp kp2 nh1 rh1 tl2 rl2 I2 L2) ∧ VV KP RP kp2 nh1 rh1 tl2 rl2 I2 L2 := fun J kp1 tl1 rl1 hJF hrun hWd => by
      have hJ : ∀ c i, (c < 1 ∨ (1 < c ∧ c < 3) ∨ 25 < c) → c ≠ 35 → c ≠ 39 → (c < 114 ∨ 121 < c) → J c i = I c i := fun c i h1 h2 h3 h4 => by rw [hJF c i h4, hF1 c i h1 h2 h3]
      obtain ⟨P, Q, p1, p2, p3, p4⟩ := e233 (I := J) (L := L) (t := I 2) (N := N) (n := 2000) (hMX (fun i => hJ 89 i (by omega) (by omega) (by omega) (by omega)) (fun i => hJ 94 i (by omega) (by omega) (by omega) (by omega))) (by omega)
      have hpz : P 89 12 = 0 := by rw [(MQ_f p2).1, z]; rfl
      obtain ⟨S, hS⟩ : ∃ S, S = u2 (u2 (u2 P 89 6 0) 89 14 0) 89 15 (-1) := ⟨_, rfl⟩
      have hMS : MH S 4 (rdR (I 2) N).2.1 (rdR (I 2) N).2.2 AD0 := MH_fs c53 (DRM_MH (p3 z)) (MSm_of (fun c hc i => by rw [hS, u2_c (by omega), u2_c (by omega), u2_c (by omega)]))
      obtain ⟨K, k1, k2, k3, k4⟩ := e235 (n := 2000) (L := Q) (a := 4) (b := 0) c53 hMS (by omega) (by omega) (by omega) (by omega)
      have hK : ∀ c i, c ≠ 89 → (c < 95 ∨ 101 < c) → K c i = J c i := fun c i h1 h2 => by rw [k4 c i h2, hS, u2_c h1, u2_c h1, u2_c h1, p4.1 c i (by unfold kpc; omega), u2_c h1]
      have hK2 : ∀ c i, (c < 1 ∨ (1 < c ∧ c < 3) ∨ 25 < c) → c ≠ 35 → c ≠ 39 → c ≠ 89 → (c < 95 ∨ (101 < c ∧ c < 114) ∨ 121 < c) → K c i = I c i := fun c i h1 h2 h3 h4 h5 => by rw [hK c i h4 (by omega), hJ c i h1 h2 h3 (by omega)]
      have hQL : ∀ c i, c ≠ 89 → Q c i = L c i := fun c i hc => p4.2 c i (Or.inl hc)
      have hMI : ∀ s, s ≠ 0 → s < 4 → MSm s I K := fun s hs hs4 => MSm_t (I' := J) (MSm_of (fun c hc i => hJ c i (by omega) (by omega) (by omega) (by omega))) (MSm_t (I' := u2 J 89 0 0) (MSm_of (fun c hc i => u2_c (by omega))) (MSm_t (FS_M p4 hs4) (MSm_t (I' := S) (MSm_of (fun c hc i => by rw [hS, u2_c (by omega), u2_c (by omega), u2_c (by omega)])) (k3 s hs))))
      have hans : K 95 0 = J 3 0 := by
        rw [k2.1, hJF 3 0 (by omega)]
        exact (hCF.1 0 (by omega)).symm
      refine ⟨J 3 0, kp1, nh, some 3, tl1, rl1, J, L, K, Q, hrun, (t_233 Ls xs 992 kp1 tl1 rl1 nh (some 3) 2000 J L (J 3 0, K, Q) ?_), (rdR (I 2) N).2.1, (rdR (I 2) N).2.2, AD0, ⟨?_, ?_, c53, ?_, k2, fun j hj => ?_, fun j hj => ?_⟩, ?_, ?_⟩
      · rw [p1]
        unfold c_233_1 f_221
        rw [hpz, if_neg (fun q => q rfl), q_bs]
        (first | dsimp +instances only | skip)
        rw [← hS, if_pos (by rw [hS, u2_o (by decide), u2_o (by decide), u2_o (by decide)]; exact hpz), show f_235 2000 4 0 S Q = some (K, Q) from k1, q_bs]
        (first | dsimp +instances only | skip)
        rw [hans]
      · refine ⟨0, by omega, ?_, ?_, fun i hi => absurd hi (by omega)⟩
        · rw [hK 1 1 (by omega) (by omega), hJF 1 1 (by omega), hF11]; rfl
        · rw [k4 89 6 (by omega), hS, u2_o (by decide), u2_o (by decide), u2_s]; rfl
      · constructor
        · rw [hK 14 1 (by omega) (by omega), hJF 14 1 (by omega), hF14, hCz, k4 89 14 (by omega), hS, u2_o (by decide), u2_s]
        · rw [hK 14 2 (by omega) (by omega), hJF 14 2 (by omega), hF14, c51, k4 89 15 (by omega), hS, u2_s]
      · exact CH_fr hCF (fun c hc i => by rw [hK c i (by omega) (by omega), hJF c i (by omega)])
      · exact VIm_fs hj (hIm j hj) (fun c hc i => by rw [hK2 c i (by omega) (by omega) (by omega) (by omega) (by omega)]) (by rw [hK2 102 j (by omega) (by omega) (by omega) (by omega) (by omega)]) (hMI (j + 1) (by omega) (by omega))
      · exact VRw_fr (hRw j hj) (fun c hc i => by rw [hK2 c i (by omega) (by omega) (by omega) (by omega) (by omega)]) (fun c hc i => hQL c i (by omega))
      · intro _
        refine ⟨rfl, hRf (rdR (I 2) N).2.1 _ ?_ (fun i hi => ?_)⟩
        · rw [rgI_i (by omega), hK 35 7 (by omega) (by omega), hJF 35 7 (by omega)]; exact f2
        · rw [rgI_i (by omega), hK 39 i (by omega) (by omega), hJF 39 i (by omega)]; exact f3 i hi
      · exact hWd K Q (fun c hc i => hK c i (by omega) (by omega))
    rcases hkk with ⟨rfl, rfl, rfl⟩ | ⟨rfl, rfl, rfl⟩
    · refine fin F none [] [] (fun _ _ _ => rfl) ?_ (fun K M _ => Or.inl ⟨rfl, rfl, rfl⟩)
      refine (t_115 Ls xs 991 nh rh 2000 I L (F 3 0, some 3, F, L) ?_)
      unfold f_115
      rw [c1, q_bs]
      (first | dsimp +instances only | skip)
      rw [if_pos hCz, d1, q_bs]
      (first | dsimp +instances only | skip)
      rw [d2, q_bs]
      (first | dsimp +instances only | skip)
      unfold f_186
      rw [f1, q_bs, q_bs]
    · obtain ⟨G, g1, g2, g3, g4, g5, g6⟩ := e31 (n := 2000) (L := L) (I := F) (by omega)
      refine fin G (some 114) TK (RK (some 3)) (fun c i hc => g6 c i (by omega) (by omega) (by omega)) ?_ (fun K M hK => Or.inr ⟨rfl, rfl, rfl, hKf _ _ _ ?_ ?_ (fun i hi => ?_) (fun i hi => ?_)⟩)
      · refine (t_115_1 Ls xs 991 nh rh 2000 I L (G 3 0, some 3, G, L) ?_)
        unfold f_115_1
        rw [c1, q_bs]
        (first | dsimp +instances only | skip)
        rw [if_pos hCz, d1, q_bs]
        (first | dsimp +instances only | skip)
        rw [d2, q_bs]
        (first | dsimp +instances only | skip)
        unfold f_186_1
        rw [f1, q_bs]
        (first | dsimp +instances only | skip)
        rw [g1, q_bs, q_bs]
      · rw [rgI_i (by omega), hK 114 (by omega)]; exact g2
      · rw [rgI_i (by omega), hK 114 (by omega)]; exact g3
      · rw [rgI_i (by omega), hK 120 (by omega)]; exact g4 i hi
      · rw [rgI_i (by omega), hK 121 (by omega)]; exact g5 i hi
  · -- a fault
    have hCz : ¬ C 14 1 = 0 := by rw [c2]; exact nI_ne0 (by omega) (by omega)
    obtain ⟨J, hJ0⟩ : ∃ J, J = u2 C 1 1 0 := ⟨_, rfl⟩
    have hJ : ∀ c i, (c < 1 ∨ (1 < c ∧ c < 14) ∨ 25 < c) → J c i = I c i := fun c i h1 => by rw [hJ0, u2_c (by omega), c6 c i (by omega)]
    obtain ⟨P, Q, p1, p2, p3, p4⟩ := e233 (I := J) (L := L) (t := I 2) (N := N) (n := 2000) (hMX (fun i => hJ 89 i (by omega)) (fun i => hJ 94 i (by omega))) (by omega)
    have hpz : P 89 12 = nI (rdR (I 2) N).1.1 := (MQ_f p2).1
    have hpn : ¬ P 89 12 = 0 := by rw [hpz]; exact nI_ne0 (by omega) (by omega)
    have hpp : P 89 13 = nI (rdR (I 2) N).1.2 := p2.2.2.2.2.1 z
    obtain ⟨K, hKd⟩ : ∃ K, K = u2 (u2 (u2 P 89 6 0) 89 14 (P 89 12)) 89 15 (P 89 13) := ⟨_, rfl⟩
    have hK : ∀ c i, c ≠ 89 → (c < 95 ∨ 101 < c) → K c i = J c i := fun c i h1 h2 => by rw [hKd, u2_c h1, u2_c h1, u2_c h1, p4.1 c i (by unfold kpc; omega), u2_c h1]
    have hK2 : ∀ c i, (c < 1 ∨ (1 < c ∧ c < 14) ∨ 25 < c) → c ≠ 89 → (c < 95 ∨ 101 < c) → K c i = I c i := fun c i h1 h2 h3 => by rw [hK c i h2 h3, hJ c i h1]
    have hMI : ∀ s, s < 4 → MSm s I K := fun s hs4 => MSm_t (I' := J) (MSm_of (fun c hc i => hJ c i (by omega))) (MSm_t (I' := u2 J 89 0 0) (MSm_of (fun c hc i => u2_c (by omega))) (MSm_t (FS_M p4 hs4) (MSm_of (fun c hc i => by rw [hKd, u2_c (by omega), u2_c (by omega), u2_c (by omega)]))))
    have hQL : ∀ c i, c ≠ 89 → Q c i = L c i := fun c i hc => p4.2 c i (Or.inl hc)
    have hrun : pEN Ls xs 1000 115 (.ref 0 :: []) (hp kp nh rh tl rl I L) = some (some (.int (-4)), hp kp nh rh tl rl J L) := by
      rcases hkk with ⟨rfl, rfl, rfl⟩ | ⟨rfl, rfl, rfl⟩
      · refine (t_115 Ls xs 991 nh rh 2000 I L (-4, rh, J, L) ?_)
        unfold f_115
        rw [c1, q_bs]
        (first | dsimp +instances only | skip)
        rw [if_neg hCz, hJ0]
      · refine (t_115_1 Ls xs 991 nh rh 2000 I L (-4, rh, J, L) ?_)
        unfold f_115_1
        rw [c1, q_bs]
        (first | dsimp +instances only | skip)
        rw [if_neg hCz, hJ0]
    refine ⟨-4, kp, nh, rh, tl, rl, J, L, K, Q, hrun, (t_233 Ls xs 992 kp tl rl nh rh 2000 J L (-4, K, Q) ?_), H, W, A, ⟨?_, ?_, ho, ?_, ?_, fun j hj => ?_, fun j hj => ?_⟩, ?_, ?_⟩
    · rw [p1]
      unfold c_233_1 f_221
      rw [if_pos hpn, q_bs]
      (first | dsimp +instances only | skip)
      rw [← hKd, if_neg (by rw [hKd, u2_o (by decide), u2_o (by decide), u2_o (by decide)]; exact hpn)]
    · refine ⟨0, by omega, ?_, ?_, fun i hi => absurd hi (by omega)⟩
      · rw [hK 1 1 (by omega) (by omega), hJ0, u2_s]; rfl
      · rw [hKd, u2_o (by decide), u2_o (by decide), u2_s]; rfl
    · constructor
      · rw [hK 14 1 (by omega) (by omega), hJ0, u2_c (by decide), c2, hKd, u2_o (by decide), u2_s, hpz]
      · rw [hK 14 2 (by omega) (by omega), hJ0, u2_c (by decide), c4 z, hKd, u2_s, hpp]
    · exact CH_fr hC (fun c hc i => hK2 c i (by omega) (by omega) (by omega))
    · exact MH_fs ho hM (hMI 0 (by omega))
    · exact VIm_fs hj (hIm j hj) (fun c hc i => hK2 c i (by omega) (by omega) (by omega)) (hK2 102 j (by omega) (by omega) (by omega)) (hMI (j + 1) (by omega))
    · exact VRw_fr (hRw j hj) (fun c hc i => hK2 c i (by omega) (by omega) (by omega)) (fun c hc i => hQL c i (by omega))
    · intro h0
      obtain ⟨r1, r2⟩ := hR h0
      refine ⟨r1, ?_⟩
      rw [rgI_eq (f := I) (fun c hc i => hK2 c i (by omega) (by omega) (by omega))]
      exact r2
    · unfold VWd at hW ⊢
      rw [rgI_eq (f := I) (g := K) (fun c hc i => hK2 c i (by omega) (by omega) (by omega)), rgL_eq (f := L) (g := Q) (fun c hc i => hQL c i (by omega))]
      exact hW
end HSK
