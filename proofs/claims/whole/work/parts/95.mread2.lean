/-! LAYER 3: the model reads ways, rounds, lines, all -/
section MRL
variable {I : FI} {L : FL} {t : Nat → Int32} {N n p : Nat} {o : Nat × Nat} {H : HD} {W : Nat → Nat}
theorem e227 (h : MQr t N I L (xp t N 11 o)) (hD : DRM I H W) (o4 : H.1 4 ≤ 4) (hR : H.1 5 < 6) (hn : 1000 ≤ n) : ∃ A B, f_227 n I L = some (A, B) ∧ MQr t N A B (wyO t N (H.1 4) o) ∧ DRM A (wyH t N o H) W ∧ FS I A L B := by
  have i4 : I 96 39 = nI (H.1 4) := hD.2.1 3 (by omega)
  have i5 : I 96 40 = nI (H.1 5) := hD.2.1 4 (by omega)
  obtain ⟨A1, B1, a1, a2, a3⟩ := e225 (n := n) h (R := H.1 4) i4 o4 hn
  have a2' : MQr t N A1 B1 (wyA t N (H.1 4) o) := a2
  have a4 := MQ_fr (K := u2 A1 98 (48 + 2 * H.1 5) (nI (wy1 t N (H.1 4) o))) a2' (fun c i hc => u2_c (by omega))
  have hx1 : wy1 t N (H.1 4) o < 100 := by
    unfold wy1
    by_cases z : 0 < H.1 4
    · have := nmv_b (t := t) (N := N) (o := xp t N 11 o) z; omega
    · unfold nmv; rw [if_neg (fun q => by omega)]; omega
  -- behind the first
  have fin : ∀ (A2 : FI) (B2 : FL), MQr t N A2 B2 (wyB t N (H.1 4) o) → FQ (u2 A1 98 (48 + 2 * H.1 5) (nI (wy1 t N (H.1 4) o))) A2 B1 B2 → ∃ A B, c_227_0 n (nI (48 + 2 * H.1 5)) A2 B2 = some (A, B) ∧ MQr t N A B (wyO t N (H.1 4) o) ∧ DRM A (wyH t N o H) W ∧ FS I A L B := fun A2 B2 k1 k2 => by
    have j4 : A2 96 39 = nI (H.1 4) := by rw [k2.1 96 39 (by omega), u2_c (by decide), a3.1 96 39 (by omega)]; exact i4
    obtain ⟨A3, B3, b1, b2, b3⟩ := e225 (n := n) k1 (R := H.1 4) j4 o4 hn
    have j5 : A3 96 40 = nI (H.1 5) := by rw [b3.1 96 40 (by omega), k2.1 96 40 (by omega), u2_c (by decide), a3.1 96 40 (by omega)]; exact i5
    refine ⟨u2 (u2 A3 98 (48 + 2 * H.1 5 + 1) (nI (nmv t N 0 (H.1 4) (wyB t N (H.1 4) o)))) 96 40 (nI (H.1 5 + 1)), B3, ?_, MQ_fr b2 (fun c i hc => by rw [u2_c (by omega), u2_c (by omega)]), ?_, FS_t (FS_t (FS_t (FS_t (FS_q a3) (FS_u (by unfold kpc; omega))) (FS_q (FQ_t k2 b3))) (FS_u (by unfold kpc; omega))) (FS_u (by unfold kpc; omega))⟩
    · unfold c_227_0
      rw [b1, q_bs]
      (first | dsimp +instances only | skip)
      rw [nI_1, ku_if (by omega) (by omega), nI_clamp (by omega), show f_223 4 (u2 A3 98 (48 + 2 * H.1 5 + 1) (nI (nmv t N 0 (H.1 4) (wyB t N (H.1 4) o)))) B3 = some (u2 A3 98 (48 + 2 * H.1 5 + 1) (nI (nmv t N 0 (H.1 4) (wyB t N (H.1 4) o))) 96 40) from e223 (k := 4) (by omega), q_bs, u2_c (by decide), j5, nI_1, show f_224 4 (nI (H.1 5 + 1)) (u2 A3 98 (48 + 2 * H.1 5 + 1) (nI (nmv t N 0 (H.1 4) (wyB t N (H.1 4) o)))) B3 = some (u2 (u2 A3 98 (48 + 2 * H.1 5 + 1) (nI (nmv t N 0 (H.1 4) (wyB t N (H.1 4) o)))) 96 40 (nI (H.1 5 + 1)), B3) from e224 (k := 4) (by omega) _, q_bs]
    · have hA : ∀ c i, 95 ≤ c → c ≤ 100 → c ≠ 98 → A3 c i = I c i := fun c i x y z => by rw [b3.1 c i (by omega), k2.1 c i (by omega), u2_c z, a3.1 c i (by omega)]
      have hA7 : ∀ i, A3 98 i = u2 I 98 (48 + 2 * H.1 5) (nI (wy1 t N (H.1 4) o)) 98 i := fun i => by
        rw [b3.1 98 i (by omega), k2.1 98 i (by omega)]
        by_cases q : i = 48 + 2 * H.1 5
        · rw [q, u2_s, u2_s]
        · rw [u2_o q, u2_o q, a3.1 98 i (by omega)]
      obtain ⟨h1, h2, h3, h4, h5, h6, h7, h8, h9, h10, h11⟩ := hD
      have e4 : (wyH t N o H).1 5 = H.1 5 + 1 := hs_s
      have eo : ∀ j, j ≠ 5 → (wyH t N o H).1 j = H.1 j := fun j hj => hs_o hj
      have ev : ∀ b i, (wyH t N o H).2 b i = (ha (ha H 4 (H.1 5) (wy1 t N (H.1 4) o)) 5 (H.1 5) (nmv t N 0 (H.1 4) (wyB t N (H.1 4) o))).2 b i := fun _ _ => rfl
      have ew : ∀ b i, b ≠ 4 → b ≠ 5 → (wyH t N o H).2 b i = H.2 b i := fun b i x y => by rw [ev, ha_o (Or.inl y), ha_o (Or.inl x)]
      refine ⟨?_, fun j hj => ?_, ?_, ?_, fun r hr => ?_, fun r hr => ?_, fun r hr => ?_, fun r hr => ?_, fun r hr => ?_, fun r hr => ?_, fun r hr => ?_⟩
      · rw [u2_c (by decide), u2_c (by decide), hA 95 4 (by omega) (by omega) (by omega), eo 0 (by decide)]; exact h1
      · by_cases e : j = 4
        · subst e; rw [u2_s, e4]
        · rw [u2_o (by omega), u2_c (by decide), hA _ _ (by omega) (by omega) (by omega), eo _ (by omega)]; exact h2 j hj
      · rw [u2_o (by omega), u2_c (by decide), hA _ _ (by omega) (by omega) (by omega)]; exact h3
      · rw [u2_o (by omega), u2_c (by decide), hA _ _ (by omega) (by omega) (by omega), eo 7 (by decide)]; exact h4
      · rw [eo 4 (by decide)] at hr
        rw [u2_c (by decide), u2_c (by decide), hA _ _ (by omega) (by omega) (by omega), ew _ _ (by decide) (by decide)]; exact h5 r hr
      · rw [eo 4 (by decide)] at hr
        rw [u2_c (by decide), u2_c (by decide), hA _ _ (by omega) (by omega) (by omega)]; exact h6 r hr
      · rw [e4] at hr
        rw [u2_c (by decide), u2_o (by omega), hA7, ev, ha_o (Or.inl (by decide))]
        by_cases e : r = H.1 5
        · subst e; rw [u2_s, ha_s]
        · rw [u2_o (by omega), ha_o (Or.inr e)]; exact h7 r (by omega)
      · rw [e4] at hr
        rw [u2_c (by decide), ev]
        by_cases e : r = H.1 5
        · subst e; rw [u2_s, ha_s]
        · rw [u2_o (by omega), ha_o (Or.inr e), ha_o (Or.inl (by decide)), hA7, u2_o (by omega)]; exact h8 r (by omega)
      · rw [eo 6 (by decide)] at hr
        rw [u2_c (by decide), u2_c (by decide), hA _ _ (by omega) (by omega) (by omega), ew _ _ (by decide) (by decide)]; exact h9 r hr
      · rw [eo 6 (by decide)] at hr
        rw [u2_c (by decide), u2_c (by decide), hA _ _ (by omega) (by omega) (by omega), ew _ _ (by decide) (by decide)]; exact h10 r hr
      · rw [eo 7 (by decide)] at hr
        rw [u2_c (by decide), u2_c (by decide), hA _ _ (by omega) (by omega) (by omega), ew _ _ (by decide) (by decide)]; exact h11 r hr
  obtain ⟨f1, f2⟩ := MQ_f a2'
  have hl := mtk_le (t := t) (N := N) (p := (wyA t N (H.1 4) o).2)
  unfold f_227
  rw [show f_223 4 I L = some (I 96 40) from e223 (k := 4) (by omega), q_bs, i5, a1, q_bs]
  (first | dsimp +instances only | skip)
  rw [show (24 : Int32) = nI 24 from rfl, nI_add, ku_2, pk_mul, show 2 * (24 + H.1 5) = 48 + 2 * H.1 5 by omega, ku_if (by omega) (by omega), nI_clamp (by omega), f1, ku_if (by omega) (by omega), u2_s]
  show ∃ A B, (if ¬ nI (wyA t N (H.1 4) o).1 = 0 then c_227_0 n (nI (48 + 2 * H.1 5)) (u2 A1 98 (48 + 2 * H.1 5) (nI (wy1 t N (H.1 4) o))) B1 else if ¬ A1 89 8 = nI 2 then c_227_0 n (nI (48 + 2 * H.1 5)) (u2 A1 98 (48 + 2 * H.1 5) (nI (wy1 t N (H.1 4) o))) B1 else if ¬ A1 89 10 = nI (wy1 t N (H.1 4) o) then c_227_0 n (nI (48 + 2 * H.1 5)) (u2 A1 98 (48 + 2 * H.1 5) (nI (wy1 t N (H.1 4) o))) B1 else (f_213 (nI 2) (u2 A1 98 (48 + 2 * H.1 5) (nI (wy1 t N (H.1 4) o))) B1).bind fun q5 => c_227_0 n (nI (48 + 2 * H.1 5)) q5.1 q5.2) = some (A, B) ∧ _
  by_cases z : (wyA t N (H.1 4) o).1 = 0
  · have hm := a2'.2.2.2.1 z
    have h6 := a2'.2.2.2.2.2
    rw [if_neg (fun q => q (by rw [z]; rfl)), hm.2.2.1]
    by_cases c : tk t N (wyA t N (H.1 4) o).2 = 2
    · obtain ⟨v, v1, v2, v3⟩ := vmv_e h6 c
      rw [if_neg (fun q => q (by rw [mtk_2.mpr c])), hm.2.2.2.1, v1]
      by_cases d : va t N (wyA t N (H.1 4) o).2 = wy1 t N (H.1 4) o
      · have e : wyB t N (H.1 4) o = flo 2 (wyA t N (H.1 4) o) := by unfold wyB; rw [if_pos ⟨c, d⟩]
        obtain ⟨A2, d1, d2, d3⟩ := e213 a4 (k := 2) (by omega) (by omega)
        rw [if_neg (fun q => q (by rw [show v = wy1 t N (H.1 4) o by omega])), d1, q_bs]
        exact fin A2 B1 (by rw [e]; exact d2) d3
      · have e : wyB t N (H.1 4) o = wyA t N (H.1 4) o := by unfold wyB; rw [if_neg (fun q => d q.2)]
        rw [if_pos (by rw [nI_eq (by omega) (by omega)]; omega)]
        exact fin _ B1 (by rw [e]; exact a4) FQ_r
    · have e : wyB t N (H.1 4) o = wyA t N (H.1 4) o := by unfold wyB; rw [if_neg (fun q => c q.1)]
      rw [if_pos (by rw [nI_eq (by omega) (by omega)]; exact fun q => c (mtk_2.mp q))]
      exact fin _ B1 (by rw [e]; exact a4) FQ_r
  · have e : wyB t N (H.1 4) o = wyA t N (H.1 4) o := by
      unfold wyB
      rw [flo_f z]
      split <;> rfl
    rw [if_pos (nI_ne0 (by omega) (by omega))]
    exact fin _ B1 (by rw [e]; exact a4) FQ_r
theorem rds_f {d : Nat} {s : (Nat × Nat) × HD} (h : ¬ (s.1.1 = 0 ∧ tk t N s.1.2 = 2)) : rds t N d s = s := by
  cases d with
  | zero => rfl
  | succ d => show (if s.1.1 = 0 ∧ tk t N s.1.2 = 2 then rds t N d (plq t N s) else s) = s; rw [if_neg h]
/-- the places of a round, by the model -/
theorem e229l {R : Nat} (hR : R ≤ 4) (hn : 1000 ≤ n) : ∀ (d : Nat) (o : Nat × Nat) (H : HD) (B : FI) (M : FL) (m : Nat), d + 1 < m → H.1 4 = R → H.1 7 < 12 → 12 ≤ H.1 7 + d → MQr t N B M (nmo t N 0 R o) → DRMf 1 B H W → ∃ A D, c_229_0 n m (nI (nmv t N 0 R o)) B M = some (A, D) ∧ MQr t N A D (rds t N d (plq t N (o, H))).1 ∧ ((rds t N d (plq t N (o, H))).1.1 = 0 → DRMf 1 A (rds t N d (plq t N (o, H))).2 W) ∧ FS B A M D := by
  intro d
  induction d with
  | zero => intro o H B M m _ _ h1 h2; omega
  | succ d ih =>
    intro o H B M m hm hR4 h12 hd hQ hD
    obtain ⟨m, rfl⟩ : ∃ m', m = m' + 1 := ⟨m - 1, by omega⟩
    obtain ⟨f1, f2⟩ := MQ_f hQ
    have ep : plq t N (o, H) = (nmo t N 0 R o, hs (ha H 3 (H.1 7) (nmv t N 0 R o)) 7 (H.1 7 + 1)) := by
      unfold plq
      rw [if_pos h12, hR4]
    rw [ep]
    show ∃ A D, b_229_0 n (c_229_0 n m) (nI (nmv t N 0 R o)) B M = some (A, D) ∧ _
    unfold b_229_0
    rw [f1]
    by_cases z : (nmo t N 0 R o).1 = 0
    · have i7 : B 96 42 = nI (H.1 7) := hD.2.1 6 (by omega)
      have i4 : B 96 39 = nI R := by rw [← hR4]; exact hD.2.1 3 (by omega)
      rw [if_neg (fun q => q (by rw [z]; rfl)), show f_223 6 B M = some (B 96 42) from e223 (k := 6) (by omega), q_bs, i7, show (48 : Int32) = nI 48 from rfl, nI_add, ku_if (by omega) (by omega), nI_clamp (by omega), show f_223 6 (u2 B 100 (48 + H.1 7) (nI (nmv t N 0 R o))) M = some (u2 B 100 (48 + H.1 7) (nI (nmv t N 0 R o)) 96 42) from e223 (k := 6) (by omega), q_bs, u2_c (by decide), i7, nI_1, show f_224 6 (nI (H.1 7 + 1)) (u2 B 100 (48 + H.1 7) (nI (nmv t N 0 R o))) M = some (u2 (u2 B 100 (48 + H.1 7) (nI (nmv t N 0 R o))) 96 42 (nI (H.1 7 + 1)), M) from e224 (k := 6) (by omega) _, q_bs]
      (first | dsimp +instances only | skip)
      obtain ⟨C, hC⟩ : ∃ C, C = u2 (u2 B 100 (48 + H.1 7) (nI (nmv t N 0 R o))) 96 42 (nI (H.1 7 + 1)) := ⟨_, rfl⟩
      have hF : FS B C M M := by rw [hC]; exact FS_t (FS_u (by unfold kpc; omega)) (FS_u (by unfold kpc; omega))
      have hQC : MQr t N C M (nmo t N 0 R o) := MQ_fr hQ (fun c i hc => by rw [hC, u2_c (by omega), u2_c (by omega)])
      have c7 : C 96 42 = nI (H.1 7 + 1) := by rw [hC, u2_s]
      have c4 : C 96 39 = nI R := by rw [hC, u2_o (by decide), u2_c (by decide)]; exact i4
      have hDC : DRMf 1 C (hs (ha H 3 (H.1 7) (nmv t N 0 R o)) 7 (H.1 7 + 1)) W := by
        rw [hC]
        obtain ⟨h1, h2, h3, h4, h5, h6, h7, h8, h9, h10, h11⟩ := hD
        have e4 : (hs (ha H 3 (H.1 7) (nmv t N 0 R o)) 7 (H.1 7 + 1)).1 7 = H.1 7 + 1 := hs_s
        have eo : ∀ j, j ≠ 7 → (hs (ha H 3 (H.1 7) (nmv t N 0 R o)) 7 (H.1 7 + 1)).1 j = H.1 j := fun j hj => hs_o hj
        have ev : ∀ b i, (hs (ha H 3 (H.1 7) (nmv t N 0 R o)) 7 (H.1 7 + 1)).2 b i = (ha H 3 (H.1 7) (nmv t N 0 R o)).2 b i := fun _ _ => rfl
        refine ⟨?_, fun j hj => ?_, ?_, ?_, fun r hr => ?_, fun r hr => ?_, fun r hr => ?_, fun r hr => ?_, fun r hr => ?_, fun r hr => ?_, fun r hr => ?_⟩
        · rw [u2_c (by decide), u2_c (by decide), eo 0 (by decide)]; exact h1
        · by_cases e : j = 6
          · subst e; rw [u2_s, e4]
          · rw [u2_o (by omega), u2_c (by decide), eo _ (by omega)]; exact h2 j hj
        · rw [u2_o (by omega), u2_c (by decide)]; exact h3
        · rw [u2_o (by omega), u2_c (by decide)]; exact h4
        · rw [eo 4 (by decide)] at hr
          rw [u2_c (by decide), u2_c (by decide), ev, ha_o (Or.inl (by decide))]; exact h5 r hr
        · rw [eo 4 (by decide)] at hr
          rw [u2_c (by decide), u2_c (by decide)]; exact h6 r hr
        · rw [eo 5 (by decide)] at hr
          rw [u2_c (by decide), u2_c (by decide), ev, ha_o (Or.inl (by decide))]; exact h7 r hr
        · rw [eo 5 (by decide)] at hr
          rw [u2_c (by decide), u2_c (by decide), ev, ha_o (Or.inl (by decide))]; exact h8 r hr
        · rw [eo 6 (by decide)] at hr
          rw [u2_c (by decide), u2_c (by decide), ev, ha_o (Or.inl (by decide))]; exact h9 r hr
        · rw [eo 6 (by decide)] at hr
          rw [u2_c (by decide), u2_c (by decide), ev, ha_o (Or.inl (by decide))]; exact h10 r hr
        · rw [e4] at hr
          rw [u2_c (by decide), ev]
          by_cases e : r = H.1 7
          · subst e; rw [u2_s, ha_s]
          · rw [u2_o (by omega), ha_o (Or.inr e)]; exact h11 r (by omega)
      rw [← hC]
      have hm2 := hQC.2.2.2.1 z
      have h6 := hQC.2.2.2.2.2
      have hl := mtk_le (t := t) (N := N) (p := (nmo t N 0 R o).2)
      obtain ⟨H1, hH1⟩ : ∃ H1, H1 = hs (ha H 3 (H.1 7) (nmv t N 0 R o)) 7 (H.1 7 + 1) := ⟨_, rfl⟩
      rw [← hH1] at hDC ⊢
      have H7 : H1.1 7 = H.1 7 + 1 := by rw [hH1, hs_s]
      have H4 : H1.1 4 = R := by rw [hH1, hs_o (by decide)]; exact hR4
      rw [hm2.2.2.1]
      by_cases c : tk t N (nmo t N 0 R o).2 = 2
      · have er : rds t N (d + 1) (nmo t N 0 R o, H1) = rds t N d (plq t N (nmo t N 0 R o, H1)) := by
          show (if (nmo t N 0 R o).1 = 0 ∧ tk t N (nmo t N 0 R o).2 = 2 then _ else _) = _
          rw [if_pos ⟨z, c⟩]
        rw [er, if_pos (by rw [mtk_2.mpr c]; rfl), show f_223 6 C M = some (C 96 42) from e223 (k := 6) (by omega), q_bs, c7, ku_12]
        by_cases e12 : H.1 7 + 1 = 12
        · obtain ⟨v, v1, v2, v3⟩ := vmv_e h6 c
          have hv : C 89 10 = nI v := by rw [hm2.2.2.2.1, v1]
          have ep2 : plq t N (nmo t N 0 R o, H1) = (flo (if va t N (nmo t N 0 R o).2 < R then 3 else 2) (nmo t N 0 R o), H1) := by
            unfold plq
            (first | dsimp +instances only | skip)
            rw [if_neg (by omega), H4]
          have bad : ∀ k, 1 ≤ k → k ≤ 3 → k = (if va t N (nmo t N 0 R o).2 < R then 3 else 2) → ∃ A D, c_229_2 n (c_229_0 n m) (nI k) C M = some (A, D) ∧ MQr t N A D (rds t N d (plq t N (nmo t N 0 R o, H1))).1 ∧ ((rds t N d (plq t N (nmo t N 0 R o, H1))).1.1 = 0 → DRMf 1 A (rds t N d (plq t N (nmo t N 0 R o, H1))).2 W) ∧ FS B A M D := fun k k1 k2 k3 => by
            rw [ep2, ← k3]
            have hb : (flo k (nmo t N 0 R o)).1 ≠ 0 := flo_1 (by omega)
            rw [rds_f (fun q => hb q.1)]
            obtain ⟨A1, a1, a2, a3⟩ := e213 hQC k1 k2
            obtain ⟨A2, B2, b1, b2, b3⟩ := e225 (n := n) a2 (R := R) (by rw [a3.1 96 39 (by omega)]; exact c4) hR hn
            rw [nmo_f hb] at b2
            obtain ⟨m', hm'⟩ : ∃ m', m = m' + 1 := ⟨m - 1, by omega⟩
            refine ⟨A2, B2, ?_, b2, fun q => absurd q hb, FS_t hF (FS_q (FQ_t a3 b3))⟩
            unfold c_229_2 c_229_1
            rw [a1, q_bs]
            (first | dsimp +instances only | skip)
            rw [b1, q_bs, hm']
            show b_229_0 n (c_229_0 n m') _ A2 B2 = _
            unfold b_229_0
            rw [if_pos (by rw [(MQ_f b2).1]; exact nI_ne0 (by omega) (by have := (MQ_f b2).2; omega))]
          rw [if_neg (fun q => q (by rw [e12])), show f_223 3 C M = some (C 96 39) from e223 (k := 3) (by omega), q_bs, c4, hv]
          by_cases dv : va t N (nmo t N 0 R o).2 < R
          · rw [if_neg (nI_ge (by omega) (by omega))]
            exact bad 3 (by omega) (by omega) (by rw [if_pos dv])
          · rw [if_pos (nI_le (by omega) (by omega))]
            exact bad 2 (by omega) (by omega) (by rw [if_neg dv])
        · obtain ⟨A1, B1, a1, a2, a3⟩ := e225 (n := n) hQC (R := R) c4 hR hn
          rw [if_pos (by rw [nI_eq (by omega) (by omega)]; exact e12)]
          unfold c_229_1
          rw [a1, q_bs]
          (first | dsimp +instances only | skip)
          obtain ⟨A, D, r1, r2, r3, r4⟩ := ih (nmo t N 0 R o) H1 A1 B1 m (by omega) H4 (by omega) (by omega) a2 (DRM_q hDC a3)
          exact ⟨A, D, r1, r2, r3, FS_t (FS_t hF (FS_q a3)) r4⟩
      · rw [if_neg (by rw [ku_2, nI_eq (by omega) (by omega)]; exact fun q => c (mtk_2.mp q)), rds_f (fun q => c q.2)]
        exact ⟨C, M, rfl, hQC, fun _ => hDC, hF⟩
    · rw [if_pos (nI_ne0 (by omega) (by omega)), rds_f (fun q => z q.1)]
      exact ⟨B, M, rfl, hQ, fun q => absurd q z, ⟨fun _ _ _ => rfl, fun _ _ _ => rfl⟩⟩
theorem e229 (h : MQr t N I L (xp t N 15 (0, p))) (hp : p < N) (h15 : tk t N p = 15) (hD : DRM I H W) (o4 : H.1 4 ≤ 4) (hz : H.1 7 = 0) (hn : 1000 ≤ n) : ∃ A B, f_229 n I L = some (A, B) ∧ MQr t N A B (rdS t N (0, p) H).1 ∧ ((rdS t N (0, p) H).1.1 = 0 → DRM A (rdS t N (0, p) H).2 W) ∧ FS I A L B := by
  have i4 : I 96 39 = nI (H.1 4) := hD.2.1 3 (by omega)
  obtain ⟨C, hC⟩ : ∃ C, C = u2 (u2 I 96 44 1) 96 42 0 := ⟨_, rfl⟩
  have hQC : MQr t N C L (xp t N 15 (0, p)) := MQ_fr h (fun c i hc => by rw [hC, u2_c (by omega), u2_c (by omega)])
  have hF : FS I C L L := by rw [hC]; exact FS_t (FS_u (by unfold kpc; omega)) (FS_u (by unfold kpc; omega))
  have hDC : DRMf 1 C H W := by
    rw [hC]
    obtain ⟨h1, h2, h3, h4, h5, h6, h7, h8, h9, h10, h11⟩ := hD
    refine ⟨?_, fun j hj => ?_, ?_, ?_, fun r hr => ?_, fun r hr => ?_, fun r hr => ?_, fun r hr => ?_, fun r hr => ?_, fun r hr => ?_, fun r hr => ?_⟩
    · rw [u2_c (by decide), u2_c (by decide)]; exact h1
    · by_cases e : j = 6
      · subst e; rw [u2_s, hz]; rfl
      · rw [u2_o (by omega), u2_o (by omega)]; exact h2 j hj
    · rw [u2_o (by omega), u2_o (by omega)]; exact h3
    · rw [u2_o (by omega), u2_s]; rfl
    · rw [u2_c (by decide), u2_c (by decide)]; exact h5 r hr
    · rw [u2_c (by decide), u2_c (by decide)]; exact h6 r hr
    · rw [u2_c (by decide), u2_c (by decide)]; exact h7 r hr
    · rw [u2_c (by decide), u2_c (by decide)]; exact h8 r hr
    · rw [u2_c (by decide), u2_c (by decide)]; exact h9 r hr
    · rw [u2_c (by decide), u2_c (by decide)]; exact h10 r hr
    · omega
  have c4 : C 96 39 = nI (H.1 4) := by rw [hC, u2_o (by decide), u2_o (by decide)]; exact i4
  obtain ⟨A1, B1, a1, a2, a3⟩ := e225 (n := n) hQC (R := H.1 4) c4 o4 hn
  obtain ⟨A, D, r1, r2, r3, r4⟩ := e229l (t := t) (N := N) (W := W) (R := H.1 4) o4 hn 13 (xp t N 15 (0, p)) H A1 B1 n (by omega) rfl (by omega) (by omega) a2 (DRM_q hDC a3)
  have hi := rdS_i (H := H) h15 hp hz
  refine ⟨A, D, ?_, r2, fun q => ?_, FS_t (FS_t hF (FS_q a3)) r4⟩
  · unfold f_229
    rw [show f_224 8 1 I L = some (u2 I 96 44 1, L) from e224 (k := 8) (by omega) 1, q_bs]
    (first | dsimp +instances only | skip)
    rw [show f_224 6 0 (u2 I 96 44 1) L = some (u2 (u2 I 96 44 1) 96 42 0, L) from e224 (k := 6) (by omega) 0, q_bs, ← hC]
    (first | dsimp +instances only | skip)
    rw [a1, q_bs]
    exact r1
  · have := r3 q
    have e7 : ¬ (rdS t N (0, p) H).2.1 7 = 0 := by have := hi.2; omega
    show DRMf (if (rdS t N (0, p) H).2.1 7 = 0 then 0 else 1) A (rdS t N (0, p) H).2 W
    rw [if_neg e7]
    exact this
/-- room for one more -/
theorem e230n {x2 x3 : Int32} : f_230 n 0 x2 x3 I L = some (0, I, L) := by
  unfold f_230 c_230_0 c_230_1
  rw [if_pos rfl, if_pos rfl, if_pos rfl]
theorem e230y (h : MQr t N I L (0, p)) {k w c m : Nat} (hw : w < 9) (hk : tk t N p = k) (hc : I 96 (36 + w) = nI c) (hcm : c < m) (hm : m ≤ 9) (hn : 1000 ≤ n) : ∃ A B, f_230 n 1 (nI w) (nI m) I L = some (1, A, B) ∧ MQr t N A B (xp t N k (0, p)) ∧ FQ I A L B := by
  obtain ⟨A, B, a1, a2, a3⟩ := e211q (L := L) h rfl hn
  have f1 : I 89 12 = 0 := (MQ_f h).1
  have f2 : A 89 12 = 0 := (MQ_f a2).1
  refine ⟨A, B, ?_, by rw [xp_g hk]; exact a2, a3⟩
  unfold f_230 c_230_0 c_230_1
  rw [if_neg (by decide), e223 hw, q_bs, hc, if_pos (by rw [nI_eq (by omega) (by omega)]; omega), if_neg (by decide), f1, if_neg (fun q => q rfl), a1, q_bs]
  (first | dsimp +instances only | skip)
  rw [if_neg (by decide), f2, if_neg (fun q => q rfl)]
theorem e230f (h : MQr t N I L (0, p)) {w m : Nat} (hw : w < 9) (hc : I 96 (36 + w) = nI m) : ∃ A, f_230 n 1 (nI w) (nI m) I L = some (0, A, L) ∧ MQr t N A L (3, p) ∧ FQ I A L L := by
  obtain ⟨A, a1, a2, a3⟩ := e213 h (k := 3) (by omega) (by omega)
  have a2' : MQr t N A L (3, p) := a2
  have f2 : ¬ A 89 12 = 0 := by rw [(MQ_f a2').1]; show ¬ nI 3 = 0; decide
  refine ⟨A, ?_, a2', a3⟩
  unfold f_230 c_230_0 c_230_1
  rw [if_neg (by decide), e223 hw, q_bs, hc, if_neg (fun q => q rfl), show f_213 3 I L = some (A, L) from a1, q_bs]
  (first | dsimp +instances only | skip)
  rw [if_neg (by decide), if_pos f2, if_neg (by decide), if_pos f2]
/-- a line's body, ahead of its end -/
def lnB (t : Nat → Int32) (N p : Nat) (H : HD) : Nat × Nat := if H.1 0 = 0 then (if tk t N p = 4 then hdO t N (0, p) else (1, p))
  else if tk t N p = 8 then (if H.1 4 < 4 then rmO t N (0, p) else (3, p))
  else if tk t N p = 11 then (if H.1 5 < 6 then wyO t N (H.1 4) (0, p) else (3, p))
  else if tk t N p = 12 then (if H.1 6 < 5 then vsO t N (H.1 4) (0, p) else (3, p))
  else if tk t N p = 15 then (if H.1 7 = 0 then (rdS t N (0, p) H).1 else (3, p))
  else (1, p)
theorem lnO_B : lnO t N p H = xp t N 3 (lnB t N p H) := by
  have e1 : xp t N 3 (1, p) = (1, p) := xp_f (by show (1 : Nat) ≠ 0; omega)
  have e3 : xp t N 3 (3, p) = (3, p) := xp_f (by show (3 : Nat) ≠ 0; omega)
  unfold lnO lnB
  split
  · split
    · rfl
    · exact e1.symm
  · split
    · split
      · rfl
      · exact e3.symm
    · split
      · split
        · rfl
        · exact e3.symm
      · split
        · split
          · rfl
          · exact e3.symm
        · split
          · split
            · rfl
            · exact e3.symm
          · exact e1.symm
theorem rds_0 : ∀ (d : Nat) (s : (Nat × Nat) × HD), (rds t N d s).2.1 0 = s.2.1 0
  | 0, s => rfl
  | d + 1, s => by
    show (if s.1.1 = 0 ∧ tk t N s.1.2 = 2 then rds t N d (plq t N s) else s).2.1 0 = _
    split
    · rw [rds_0 d]
      unfold plq
      split
      · exact hs_o (by decide)
      · rfl
    · rfl
theorem lnH0_0 : (lnH0 t N p H).1 0 = H.1 0 := by
  unfold lnH0
  split
  · show (hs (hs (hs H 1 _) 2 _) 3 _).1 0 = _
    rw [hs_o (by decide), hs_o (by decide), hs_o (by decide)]
  · split
    · exact hs_o (by decide)
    · split
      · exact hs_o (by decide)
      · split
        · exact hs_o (by decide)
        · unfold rdS
          rw [rds_0]
          unfold plq
          split
          · exact hs_o (by decide)
          · rfl
theorem cdw_g : lN (cdw.getD (8 - 4) 0) = 365647 ∧ lN (cdw.getD (11 - 4) 0) = 16819 ∧ lN (cdw.getD (12 - 4) 0) = 8662680450 ∧ lN (cdw.getD (15 - 4) 0) = 9876874 := ⟨rfl, rfl, rfl, rfl⟩
/-- a line that isn't the first -/
theorem e231 (h : MQr t N I L (0, p)) (hp : p < N) (hD : DRM I H W) (ho : HOK H W AD0) (hz : ¬ H.1 0 = 0) (hn : 1000 ≤ n) : ∃ A B, f_231 n I L = some (A, B) ∧ MQr t N A B (lnB t N p H) ∧ ((lnB t N p H).1 = 0 → DRM A (lnH0 t N p H) (lnW t N p H W)) ∧ FS I A L B := by
  have q4 : H.1 4 ≤ 4 := ho.1.2.2.2.2.1
  have q5 : H.1 5 ≤ 6 := ho.1.2.2.2.2.2.1
  have q6 : H.1 6 ≤ 5 := ho.1.2.2.2.2.2.2.1
  have i4 : I 96 (36 + 3) = nI (H.1 4) := hD.2.1 3 (by omega)
  have i5 : I 96 (36 + 4) = nI (H.1 5) := hD.2.1 4 (by omega)
  have i6 : I 96 (36 + 5) = nI (H.1 6) := hD.2.1 5 (by omega)
  have i8 : I 96 (36 + 8) = nI (if H.1 7 = 0 then 0 else 1) := hD.2.2.2.1
  have f1 : I 89 12 = 0 := (MQ_f h).1
  have is : ∀ k, 4 ≤ k → k ≤ 15 → f_214 (lN (cdw.getD (k - 4) 0)) I L = some (bI (tk t N p = k)) := fun k a b => by
    rw [e214 h a b]
    exact congrArg some (bI_cong ⟨fun q => q.2, fun q => ⟨rfl, q⟩⟩)
  obtain ⟨g8, g11, g12, g15⟩ := cdw_g
  have is8 := is 8 (by omega) (by omega)
  have is11 := is 11 (by omega) (by omega)
  have is12 := is 12 (by omega) (by omega)
  have is15 := is 15 (by omega) (by omega)
  rw [g8] at is8
  rw [g11] at is11
  rw [g12] at is12
  rw [g15] at is15
  -- behind a fault nothing is done
  have c2f : ∀ (A : FI) (B : FL), ¬ A 89 12 = 0 → c_231_2 n A B = some (A, B) := fun A B q => by unfold c_231_2; rw [if_pos q]
  have c1f : ∀ (A : FI) (B : FL), ¬ A 89 12 = 0 → c_231_1 n A B = some (A, B) := fun A B q => by unfold c_231_1; rw [if_pos q, c2f A B q]
  have c0f : ∀ (A : FI) (B : FL), ¬ A 89 12 = 0 → c_231_0 n A B = some (A, B) := fun A B q => by unfold c_231_0; rw [if_pos q, c1f A B q]
  have bad3 : ∀ {A : FI} {B : FL}, MQr t N A B (3, p) → ¬ A 89 12 = 0 := fun q => by rw [(MQ_f q).1]; show ¬ nI 3 = 0; decide
  unfold f_231
  rw [is8, q_bs]
  by_cases h8 : tk t N p = 8
  · have eB : lnB t N p H = if H.1 4 < 4 then rmO t N (0, p) else (3, p) := by unfold lnB; rw [if_neg hz, if_pos h8]
    have eH : lnH0 t N p H = rmH t N (0, p) H := by unfold lnH0; rw [if_neg hz, if_pos h8]
    have eW : lnW t N p H W = rmW t N (0, p) H W := by unfold lnW; rw [if_neg hz, if_pos h8]
    rw [bI_p h8]
    by_cases hR : H.1 4 < 4
    · obtain ⟨A, B, a1, a2, a3⟩ := e230y (n := n) h (w := 3) (m := 4) (by omega) h8 i4 hR (by omega) hn
      obtain ⟨C, D, b1, b2, b3, b4⟩ := e226 (n := n) a2 (DRM_q hD a3) hR hn
      rw [show f_230 n 1 3 4 I L = some (1, A, B) from a1, q_bs]
      (first | dsimp +instances only | skip)
      rw [if_neg (by decide), b1, q_bs, eB, if_pos hR, eH, eW]
      exact ⟨C, D, rfl, b2, fun _ => b3, FS_t (FS_q a3) b4⟩
    · obtain ⟨A, a1, a2, a3⟩ := e230f (n := n) h (w := 3) (m := 4) (by omega) (by rw [i4, show H.1 4 = 4 by omega])
      rw [show f_230 n 1 3 4 I L = some (0, A, L) from a1, q_bs]
      (first | dsimp +instances only | skip)
      rw [if_pos rfl, if_pos (bad3 a2), c0f A L (bad3 a2), eB, if_neg hR]
      exact ⟨A, L, rfl, a2, fun q => absurd q (show ¬ (3 : Nat) = 0 by omega), FS_q a3⟩
  · have eW : lnW t N p H W = W := by unfold lnW; rw [if_neg hz, if_neg h8]
    rw [bI_n h8, e230n, q_bs]
    (first | dsimp +instances only | skip)
    rw [if_pos rfl, f1, if_neg (fun q => q rfl), is11, q_bs]
    by_cases h11 : tk t N p = 11
    · have eB : lnB t N p H = if H.1 5 < 6 then wyO t N (H.1 4) (0, p) else (3, p) := by unfold lnB; rw [if_neg hz, if_neg h8, if_pos h11]
      have eH : lnH0 t N p H = wyH t N (0, p) H := by unfold lnH0; rw [if_neg hz, if_neg h8, if_pos h11]
      rw [bI_p h11]
      by_cases hR : H.1 5 < 6
      · obtain ⟨A, B, a1, a2, a3⟩ := e230y (n := n) h (w := 4) (m := 6) (by omega) h11 i5 hR (by omega) hn
        obtain ⟨C, D, b1, b2, b3, b4⟩ := e227 (n := n) a2 (DRM_q hD a3) q4 hR hn
        rw [show f_230 n 1 4 6 I L = some (1, A, B) from a1, q_bs]
        (first | dsimp +instances only | skip)
        rw [if_neg (by decide), b1, q_bs, eB, if_pos hR, eH, eW]
        exact ⟨C, D, rfl, b2, fun _ => b3, FS_t (FS_q a3) b4⟩
      · obtain ⟨A, a1, a2, a3⟩ := e230f (n := n) h (w := 4) (m := 6) (by omega) (by rw [i5, show H.1 5 = 6 by omega])
        rw [show f_230 n 1 4 6 I L = some (0, A, L) from a1, q_bs]
        (first | dsimp +instances only | skip)
        rw [if_pos rfl, c0f A L (bad3 a2), eB, if_neg hR]
        exact ⟨A, L, rfl, a2, fun q => absurd q (show ¬ (3 : Nat) = 0 by omega), FS_q a3⟩
    · rw [bI_n h11, e230n, q_bs]
      (first | dsimp +instances only | skip)
      rw [if_pos rfl]
      unfold c_231_0
      rw [f1, if_neg (fun q => q rfl), is12, q_bs]
      by_cases h12 : tk t N p = 12
      · have eB : lnB t N p H = if H.1 6 < 5 then vsO t N (H.1 4) (0, p) else (3, p) := by unfold lnB; rw [if_neg hz, if_neg h8, if_neg h11, if_pos h12]
        have eH : lnH0 t N p H = vsH t N (0, p) H := by unfold lnH0; rw [if_neg hz, if_neg h8, if_neg h11, if_pos h12]
        rw [bI_p h12]
        by_cases hR : H.1 6 < 5
        · obtain ⟨A, B, a1, a2, a3⟩ := e230y (n := n) h (w := 5) (m := 5) (by omega) h12 i6 hR (by omega) hn
          obtain ⟨C, D, b1, b2, b3, b4⟩ := e228 (n := n) a2 (DRM_q hD a3) q4 hR hn
          rw [show f_230 n 1 5 5 I L = some (1, A, B) from a1, q_bs]
          (first | dsimp +instances only | skip)
          rw [if_neg (by decide), b1, q_bs, eB, if_pos hR, eH, eW]
          exact ⟨C, D, rfl, b2, fun _ => b3, FS_t (FS_q a3) b4⟩
        · obtain ⟨A, a1, a2, a3⟩ := e230f (n := n) h (w := 5) (m := 5) (by omega) (by rw [i6, show H.1 6 = 5 by omega])
          rw [show f_230 n 1 5 5 I L = some (0, A, L) from a1, q_bs]
          (first | dsimp +instances only | skip)
          rw [if_pos rfl, c1f A L (bad3 a2), eB, if_neg hR]
          exact ⟨A, L, rfl, a2, fun q => absurd q (show ¬ (3 : Nat) = 0 by omega), FS_q a3⟩
      · rw [bI_n h12, e230n, q_bs]
        (first | dsimp +instances only | skip)
        rw [if_pos rfl]
        unfold c_231_1
        rw [f1, if_neg (fun q => q rfl), is15, q_bs]
        by_cases h15 : tk t N p = 15
        · have eB : lnB t N p H = if H.1 7 = 0 then (rdS t N (0, p) H).1 else (3, p) := by unfold lnB; rw [if_neg hz, if_neg h8, if_neg h11, if_neg h12, if_pos h15]
          have eH : lnH0 t N p H = (rdS t N (0, p) H).2 := by unfold lnH0; rw [if_neg hz, if_neg h8, if_neg h11, if_neg h12]
          rw [bI_p h15]
          by_cases hR : H.1 7 = 0
          · rw [if_pos hR] at i8
            obtain ⟨A, B, a1, a2, a3⟩ := e230y (n := n) h (w := 8) (c := 0) (m := 1) (by omega) h15 i8 (by omega) (by omega) hn
            obtain ⟨C, D, b1, b2, b3, b4⟩ := e229 (n := n) a2 hp h15 (DRM_q hD a3) q4 hR hn
            rw [show f_230 n 1 8 1 I L = some (1, A, B) from a1, q_bs]
            (first | dsimp +instances only | skip)
            rw [if_neg (by decide), b1, q_bs, eB, if_pos hR, eH, eW]
            exact ⟨C, D, rfl, b2, b3, FS_t (FS_q a3) b4⟩
          · rw [if_neg hR] at i8
            obtain ⟨A, a1, a2, a3⟩ := e230f (n := n) h (w := 8) (m := 1) (by omega) i8
            rw [show f_230 n 1 8 1 I L = some (0, A, L) from a1, q_bs]
            (first | dsimp +instances only | skip)
            rw [if_pos rfl, c2f A L (bad3 a2), eB, if_neg hR]
            exact ⟨A, L, rfl, a2, fun q => absurd q (show ¬ (3 : Nat) = 0 by omega), FS_q a3⟩
        · have eB : lnB t N p H = (1, p) := by unfold lnB; rw [if_neg hz, if_neg h8, if_neg h11, if_neg h12, if_neg h15]
          obtain ⟨A, a1, a2, a3⟩ := e213 h (k := 1) (by omega) (by omega)
          rw [bI_n h15, e230n, q_bs]
          (first | dsimp +instances only | skip)
          rw [if_pos rfl]
          unfold c_231_2
          rw [f1, if_neg (fun q => q rfl), show f_213 1 I L = some (A, L) from a1, q_bs, eB]
          exact ⟨A, L, rfl, a2, fun q => absurd q (show ¬ (1 : Nat) = 0 by omega), FS_q a3⟩
end MRL
