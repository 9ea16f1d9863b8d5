/-! LAYER 3: rings: the class's search -/
section RGG
variable {I : FI} {L : FL} {H : HD} {W : Nat → Nat} {A : AD} {n : Nat}
/-- what a row found adds -/
noncomputable def rcv (H : HD) (N : Nat) (x : List Nat) : Nat := pI (NK (xt N x) ∧ ERG H (xt N x)) * plp (xt N x)
def rfd (H : HD) (N : Nat) (x : List Nat) : Prop := NK (xt N x) ∧ ERG H (xt N x)
theorem rcv_0 {N : Nat} {x : List Nat} (h : ¬ rfd H N x) : rcv H N x = 0 := by
  show pI (rfd H N x) * plp (xt N x) = 0
  rw [pI_0 h, Nat.zero_mul]
def Fd36 (N : Nat) (c : Nat) (o : Option (List Nat)) (J : FI) : Prop := (o = none ∧ c = 0) ∨ (∃ x, o = some x ∧ 0 < c ∧ c ≤ 12 ∧ ∀ k, k < N → J 36 k = nI (wf x k))
/-- what the search says: found c, of a mode b -/
def GRS (H : HD) (N b c c' sm : Nat) (o : Option (List Nat)) (I J : FI) : Prop := (b = 0 ∧ c' = c + sm ∧ ∀ i, J 36 i = I 36 i) ∨ (b = 1 ∧ Fd36 N c' o J)
theorem app1 (u : List Nat) (k : Nat) (l : List Nat) : (u ++ [k]) ++ l = u ++ k :: l := by simp
theorem e101 (hn : 1000 ≤ n) {N b : Nat} (h1 : 1 ≤ N) (h10 : N ≤ 10) (hb : b ≤ 1) : ∀ (d : Nat) (u : List Nat) (p c : Nat) (I : FI) (fu : Nat), u.length + d = N → d < fu → RC H W A I → CRW H u I → PN (wf u) u.length → LPX (wf u) u.length p → I 35 8 = nI N → I 35 10 = nI b → I 35 9 = nI c → (b = 1 → c = 0) → ∃ J c', f_101 n fu (nI (u.length + 1)) (nI p) I L = some (J, L) ∧ J 35 9 = nI c' ∧ CRW H u J ∧ GRS H N b c c' (wsm (H.1 4) d (fun l => rcv H N (u ++ l))) ((fsw (H.1 4) d (fun l => rfd H N (u ++ l))).map (fun l => u ++ l)) I J ∧ ∀ e i, e ≠ 36 → e ≠ 40 → e ≠ 41 → e ≠ 42 → (e ≠ 35 ∨ i ≠ 9) → J e i = I e i := by
  intro d
  induction d with
  | zero =>
    intro u p c I fu hu hf hR hr hP hL h8 h10' h9 hc
    obtain ⟨fu, rfl⟩ : ∃ f, fu = f + 1 := ⟨fu - 1, by omega⟩
    have hp1 := hL.1
    have hpN : p ≤ N := by have := hL.2.1; omega
    have huN : u.length = N := by omega
    rw [huN] at hP hL
    have e0 : f_101 n (fu + 1) (nI (u.length + 1)) (nI p) I L = c_101_0 n (f_101 n fu) (nI p) I L := by
      show g_101 n (f_101 n fu) (nI (u.length + 1)) (nI p) I L = _
      unfold g_101
      rw [h8, if_pos (nI_lt (by omega) (by omega))]
    have hws : wsm (H.1 4) 0 (fun l => rcv H N (u ++ l)) = rcv H N u := by
      show rcv H N (u ++ []) = _
      rw [List.append_nil]
    have hfs0 : ¬ rfd H N u → (fsw (H.1 4) 0 (fun l => rfd H N (u ++ l))).map (fun l => u ++ l) = none := fun q => by
      unfold fsw
      rw [if_neg (show ¬ rfd H N (u ++ []) by rw [List.append_nil]; exact q)]; rfl
    have hfs1 : rfd H N u → (fsw (H.1 4) 0 (fun l => rfd H N (u ++ l))).map (fun l => u ++ l) = some u := fun q => by
      unfold fsw
      rw [if_pos (show rfd H N (u ++ []) by rw [List.append_nil]; exact q)]
      show some (u ++ []) = _
      rw [List.append_nil]
    have hno : ∀ J, ¬ rfd H N u → (∀ i, J 36 i = I 36 i) → GRS H N b c c (wsm (H.1 4) 0 (fun l => rcv H N (u ++ l))) ((fsw (H.1 4) 0 (fun l => rfd H N (u ++ l))).map (fun l => u ++ l)) I J := fun J q hJ => by
      rw [hws, rcv_0 q, hfs0 q]
      rcases (show b = 0 ∨ b = 1 by omega) with e | e
      · exact Or.inl ⟨e, by omega, hJ⟩
      · exact Or.inr ⟨e, Or.inl ⟨rfl, hc e⟩⟩
    rw [e0]
    unfold c_101_0
    rw [if_neg (nI_nle hp1 (by omega)), if_neg (nI_ne0 hp1 (by omega)), h8, pk_rem (by omega) hp1 (by omega)]
    have hml := Nat.mod_lt N (show p > 0 by omega)
    by_cases hd : p ∣ N
    · have hnk := PN_NK h1 hP hL hd
      obtain ⟨b', J, j1, j2, j3⟩ := e104 (L := L) hR hr huN h1 h8 hn
      rw [if_neg (fun q => q (by rw [Nat.mod_eq_zero_of_dvd hd]; rfl)), j1, q_bs]
      (try dsimp only)
      rcases j2 with ⟨rfl, j2⟩ | ⟨rfl, j2⟩
      · have hf : rfd H N u := ⟨hnk.1, j2⟩
        have hrv : rcv H N u = p := by
          show pI (rfd H N u) * plp (xt N u) = p
          rw [pI_1 hf, hnk.2, Nat.one_mul]
        have j9 : J 35 9 = nI c := by rw [j3 35 9 (by decide)]; exact h9
        have j10 : J 35 10 = nI b := by rw [j3 35 10 (by decide)]; exact h10'
        have j8 : J 35 8 = nI N := by rw [j3 35 8 (by decide)]; exact h8
        rw [if_neg (by decide)]
        unfold f_102
        rw [j10]
        rcases (show b = 0 ∨ b = 1 by omega) with e | e
        · rw [if_pos (by rw [e]; rfl), q_bs, j9, nI_add]
          refine ⟨_, c + p, rfl, (by (try dsimp only); exact u2_s), CRW_fr hr (fun k _ => ?_), Or.inl ⟨e, by rw [hws, hrv], fun i => ?_⟩, fun e i _ _ _ e42 e9 => ?_⟩
          · exact ⟨by (try dsimp only); rw [u2_c (by decide), j3 _ _ (by decide)], by (try dsimp only); rw [u2_c (by decide), j3 _ _ (by decide)]⟩
          · (try dsimp only)
            rw [u2_c (by decide), j3 _ _ (by decide)]
          · (try dsimp only)
            rw [show u2 J 35 9 (nI (c + p)) e i = J e i from by
              by_cases q : e = 35
              · subst q; rw [u2_o (by omega)]
              · rw [u2_c q], j3 _ _ e42]
        · have c0 := hc e
          subst c0
          have z0 : (0 : Int32).toNatClampNeg = 0 := rfl
          have z1 : (1 : Int32).toNatClampNeg = 1 := rfl
          rw [if_neg (by rw [e]; decide), j8, if_neg (fun q => by
            rcases q with q | q | q | q
            · exact absurd q (by decide)
            · exact absurd q (by decide)
            · exact nI_pos (show N < 2 ^ 31 by omega) q
            · exact absurd q (by decide)), if_pos (by rw [z0, z1, nI_clamp (show N < 2 ^ 31 by omega)]; omega), q_bs, j9, nI_add, nI_clamp (show N < 2 ^ 31 by omega)]
          have hcp : ∀ e i, e ≠ 36 → u2 (c2 J 40 36 1 0 N) 35 9 (nI (0 + p)) e i = u2 J 35 9 (nI (0 + p)) e i := fun e i he => by
            by_cases q : e = 35
            · subst q
              by_cases q2 : i = 9
              · subst q2; rw [u2_s, u2_s]
              · rw [u2_o q2, u2_o q2, c2_ne (by decide)]
            · rw [u2_c q, u2_c q, c2_ne he]
          refine ⟨_, 0 + p, rfl, (by (try dsimp only); exact u2_s), CRW_fr hr (fun k _ => ?_), Or.inr ⟨e, Or.inr ⟨u, hfs1 hf, by omega, by omega, fun k hk => ?_⟩⟩, fun e i e36 _ _ e42 e9 => ?_⟩
          · exact ⟨by (try dsimp only); rw [hcp _ _ (by decide), u2_c (by decide), j3 _ _ (by decide)], by (try dsimp only); rw [hcp _ _ (by decide), u2_c (by decide), j3 _ _ (by decide)]⟩
          · (try dsimp only)
            rw [u2_c (by decide), c2_eq, pk_cpy_in (by omega) (by omega), show 1 + (k - 0) = k + 1 by omega, j3 _ _ (by decide)]
            exact hr.1 k (by omega)
          · (try dsimp only)
            rw [hcp _ _ e36]
            rw [show u2 J 35 9 (nI (0 + p)) e i = J e i from by
              by_cases q : e = 35
              · subst q; rw [u2_o (by omega)]
              · rw [u2_c q], j3 _ _ e42]
      · rw [if_pos (show nI 0 = 0 from rfl)]
        exact ⟨J, c, rfl, by rw [j3 35 9 (by decide)]; exact h9, CRW_fr hr (fun k _ => ⟨j3 _ _ (by decide), j3 _ _ (by decide)⟩), hno J (fun q => j2 q.2) (fun i => j3 _ _ (by decide)), fun e i _ _ _ e42 _ => j3 _ _ e42⟩
    · rw [if_pos (show ¬ nI (N % p) = 0 from fun q => hd (Nat.dvd_of_mod_eq_zero ((nI_eq (b := 0) (by omega) (by omega)).mp q)))]
      exact ⟨I, c, rfl, h9, hr, hno I (fun q => hd (NK_dv h1 q.1 hL)) (fun _ => rfl), fun _ _ _ _ _ _ _ => rfl⟩
  | succ d ih =>
    intro u p c I fu hu hf hR hr hP hL h8 h10' h9 hc
    obtain ⟨fu, rfl⟩ : ∃ f, fu = f + 1 := ⟨fu - 1, by omega⟩
    have hp1 := hL.1
    have o4 : H.1 4 ≤ 4 := hR.1.1.2.2.2.2.1
    have hlt : u.length < N := by omega
    obtain ⟨rp, hrp⟩ : ∃ rp, rp = if u.length = 0 then 0 else wf u (u.length - p) := ⟨_, rfl⟩
    have hpm : p ≤ u.length + 1 := by have := hL.2.1; omega
    have hrpR : rp ≤ H.1 4 := by
      rw [hrp]
      by_cases e : u.length = 0
      · rw [if_pos e]; omega
      · rw [if_neg e]; exact Nat.le_of_lt (hr.2.2.2.2.1.2 _ (by omega))
    have hcell : I 40 (u.length + 1 - p) = nI rp := by
      rw [hrp]
      by_cases e : u.length = 0
      · rw [if_pos e, show u.length + 1 - p = 0 by omega]; exact hr.2.1
      · have hp2 : p ≤ u.length := by have := hL.2.1; omega
        rw [if_neg e, show u.length + 1 - p = u.length - p + 1 by omega]; exact hr.1 _ (by omega)
    have e0 : f_101 n (fu + 1) (nI (u.length + 1)) (nI p) I L = c_101_1 n (f_101 n fu) n (nI (u.length + 1)) (nI p) (nI rp) (nI rp) I L := by
      show g_101 n (f_101 n fu) (nI (u.length + 1)) (nI p) I L = _
      unfold g_101
      rw [h8, if_neg (nI_nlt (by omega) (by omega)), if_pos (by rw [ku_10]; exact nI_le (by omega) (by omega)), pk_sub hpm, ku_if (by omega) (by omega), nI_clamp (by omega), hcell]
    rw [e0]
    -- the branches
    have hG0 : ∀ k, (∀ l, Wd (H.1 4) d l → ¬ rfd H N (u ++ k :: l)) → wsm (H.1 4) d (fun l => rcv H N (u ++ k :: l)) = 0 ∧ fsw (H.1 4) d (fun l => rfd H N (u ++ k :: l)) = none := fun k h => ⟨wsm_z (fun l hl => rcv_0 (h l hl)), fsw_0 h⟩
    have hnoP : ∀ k, ¬ PRE H (wf (u ++ [k])) (u.length + 1) → ∀ l, Wd (H.1 4) d l → ¬ rfd H N (u ++ k :: l) := fun k hk l _ q => hk (by
      have hl : (u ++ [k]).length = u.length + 1 := by simp
      have := ERG_PRE (u := u ++ [k]) (l := l) (N := N) (by rw [app1]; exact q.2) (by rw [hl]; omega)
      rw [hl] at this; exact this)
    have hlow : ∀ k, k < rp → ∀ l, Wd (H.1 4) d l → ¬ rfd H N (u ++ k :: l) := fun k hk l _ q => by
      have hz : ¬ u.length = 0 := fun e => by rw [hrp, if_pos e] at hk; omega
      rw [hrp, if_neg hz] at hk
      have h1 := PN_lo (NK_PN q.1) (show u.length + 1 ≤ N by omega)
      have h2 := PN_ge h1 (LP_cg (fun i hi => (wf_l hi).symm) hL) (by omega)
      rw [wf_m, wf_l (by omega)] at h2
      omega
    have fin : ∀ (J : FI) (c' : Nat), J 35 9 = nI c' → CRW H u J → GRS H N b c c' (sma (fun r => wsm (H.1 4) d (fun l => rcv H N (u ++ r :: l))) (H.1 4)) ((frs (fun r => (fsw (H.1 4) d (fun l => rfd H N (u ++ r :: l))).map (fun l => r :: l)) (H.1 4)).map (fun l => u ++ l)) I J → (∀ e i, e ≠ 36 → e ≠ 40 → e ≠ 41 → e ≠ 42 → (e ≠ 35 ∨ i ≠ 9) → J e i = I e i) → c_101_1 n (f_101 n fu) n (nI (u.length + 1)) (nI p) (nI rp) (nI rp) I L = some (J, L) → ∃ J c', c_101_1 n (f_101 n fu) n (nI (u.length + 1)) (nI p) (nI rp) (nI rp) I L = some (J, L) ∧ J 35 9 = nI c' ∧ CRW H u J ∧ GRS H N b c c' (wsm (H.1 4) (d + 1) (fun l => rcv H N (u ++ l))) ((fsw (H.1 4) (d + 1) (fun l => rfd H N (u ++ l))).map (fun l => u ++ l)) I J ∧ ∀ e i, e ≠ 36 → e ≠ 40 → e ≠ 41 → e ≠ 42 → (e ≠ 35 ∨ i ≠ 9) → J e i = I e i := fun J c' a1 a2 a3 a4 a5 => ⟨J, c', a5, a1, a2, a3, a4⟩
    refine lpGk (fun m k (s : FI) => c_101_1 n (f_101 n fu) m (nI (u.length + 1)) (nI p) (nI rp) (nI k) s L) (H.1 4) (fun k s => rp ≤ k ∧ ∃ ck, s 35 9 = nI ck ∧ CRW H u s ∧ GRS H N b c ck (sma (fun r => wsm (H.1 4) d (fun l => rcv H N (u ++ r :: l))) k) ((frs (fun r => (fsw (H.1 4) d (fun l => rfd H N (u ++ r :: l))).map (fun l => r :: l)) k).map (fun l => u ++ l)) I s ∧ ∀ e i, e ≠ 36 → e ≠ 40 → e ≠ 41 → e ≠ 42 → (e ≠ 35 ∨ i ≠ 9) → s e i = I e i) (fun s => some (s, L)) (fun r => ∃ J c', r = some (J, L) ∧ J 35 9 = nI c' ∧ CRW H u J ∧ GRS H N b c c' (sma (fun r => wsm (H.1 4) d (fun l => rcv H N (u ++ r :: l))) (H.1 4)) ((frs (fun r => (fsw (H.1 4) d (fun l => rfd H N (u ++ r :: l))).map (fun l => r :: l)) (H.1 4)).map (fun l => u ++ l)) I J ∧ ∀ e i, e ≠ 36 → e ≠ 40 → e ≠ 41 → e ≠ 42 → (e ≠ 35 ∨ i ≠ 9) → J e i = I e i) n rp I hrpR (by omega) ⟨Nat.le_refl _, c, h9, hr, ?_, fun _ _ _ _ _ _ _ => rfl⟩ (fun ⟨J, c', a1, a2, a3, a4, a5⟩ => fin J c' a2 a3 a4 a5 a1) (fun s ⟨_, ck, a1, a2, a3, a4⟩ e => fin s ck a1 a2 a3 a4 e) (fun m s hs => ?_) (fun m k s hk hs => ?_)
    · have hz1 : sma (fun r => wsm (H.1 4) d (fun l => rcv H N (u ++ r :: l))) rp = 0 := by
        rw [sma_cg (G := fun _ => 0) (fun r hr => (hG0 r (hlow r hr)).1)]; exact sma_0 rp
      have hz2 : frs (fun r => (fsw (H.1 4) d (fun l => rfd H N (u ++ r :: l))).map (fun l => r :: l)) rp = none := frs_n (fun r hr => by rw [(hG0 r (hlow r hr)).2]; rfl)
      rw [hz1, hz2]
      rcases (show b = 0 ∨ b = 1 by omega) with e | e
      · exact Or.inl ⟨e, by omega, fun _ => rfl⟩
      · exact Or.inr ⟨e, Or.inl ⟨rfl, hc e⟩⟩
    · obtain ⟨_, ck, a1, a2, a3, a4⟩ := hs
      show b_101_1 n (f_101 n fu) (c_101_1 n (f_101 n fu) m) (nI (u.length + 1)) (nI p) (nI rp) (nI (H.1 4)) s L = _
      unfold b_101_1
      rw [a4 3 4 (by decide) (by decide) (by decide) (by decide) (Or.inl (by decide)), chs hR.2.1 (by decide), if_pos (nI_le (Nat.le_refl _) (by omega))]
    · obtain ⟨hrk, ck, a1, a2, a3, a4⟩ := hs
      have hRs : RC H W A s := RC_fr hR (fun c i hc => a4 c i (by omega) (by omega) (by omega) (by omega) (Or.inl (by omega)))
      have s10 : s 35 10 = nI b := by rw [a4 35 10 (by decide) (by decide) (by decide) (by decide) (Or.inr (by decide))]; exact h10'
      have s8 : s 35 8 = nI N := by rw [a4 35 8 (by decide) (by decide) (by decide) (by decide) (Or.inr (by decide))]; exact h8
      have hu0 : c_101_1 n (f_101 n fu) (m + 1) (nI (u.length + 1)) (nI p) (nI rp) (nI k) s L = if nI b = 0 then c_101_2 n (f_101 n fu) (c_101_1 n (f_101 n fu) m) (nI (u.length + 1)) (nI p) (nI rp) (nI k) s L else if nI ck ≤ 0 then c_101_2 n (f_101 n fu) (c_101_1 n (f_101 n fu) m) (nI (u.length + 1)) (nI p) (nI rp) (nI k) s L else some (s, L) := by
        show b_101_1 n (f_101 n fu) (c_101_1 n (f_101 n fu) m) (nI (u.length + 1)) (nI p) (nI rp) (nI k) s L = _
        unfold b_101_1
        rw [a4 3 4 (by decide) (by decide) (by decide) (by decide) (Or.inl (by decide)), chs hR.2.1 (by decide), if_neg (nI_ge hk (by omega)), s10, a1]
      -- going in
      have go : (b = 1 → ck = 0 ∧ frs (fun r => (fsw (H.1 4) d (fun l => rfd H N (u ++ r :: l))).map (fun l => r :: l)) k = none) → c_101_1 n (f_101 n fu) (m + 1) (nI (u.length + 1)) (nI p) (nI rp) (nI k) s L = c_101_2 n (f_101 n fu) (c_101_1 n (f_101 n fu) m) (nI (u.length + 1)) (nI p) (nI rp) (nI k) s L → ∃ s', (rp ≤ k + 1 ∧ ∃ ck', s' 35 9 = nI ck' ∧ CRW H u s' ∧ GRS H N b c ck' (sma (fun r => wsm (H.1 4) d (fun l => rcv H N (u ++ r :: l))) (k + 1)) ((frs (fun r => (fsw (H.1 4) d (fun l => rfd H N (u ++ r :: l))).map (fun l => r :: l)) (k + 1)).map (fun l => u ++ l)) I s' ∧ ∀ e i, e ≠ 36 → e ≠ 40 → e ≠ 41 → e ≠ 42 → (e ≠ 35 ∨ i ≠ 9) → s' e i = I e i) ∧ c_101_1 n (f_101 n fu) (m + 1) (nI (u.length + 1)) (nI p) (nI rp) (nI k) s L = c_101_1 n (f_101 n fu) m (nI (u.length + 1)) (nI p) (nI rp) (nI (k + 1)) s' L := fun hg hu1 => by
        obtain ⟨b', J, j1, j2, j3, j4⟩ := e103 (L := L) hRs a2 (show u.length < 12 by omega) hk
        have hcS : c_101_2 n (f_101 n fu) (c_101_1 n (f_101 n fu) m) (nI (u.length + 1)) (nI p) (nI rp) (nI k) s L = if nI b' = 0 then c_101_1 n (f_101 n fu) m (nI (u.length + 1)) (nI p) (nI rp) (nI (k + 1)) J L else if ¬ nI k = nI rp then c_101_4 n (f_101 n fu) (c_101_1 n (f_101 n fu) m) (nI (u.length + 1)) (nI p) (nI rp) (nI k) (nI (u.length + 1)) (nI (u.length + 1 + 1)) J L else c_101_4 n (f_101 n fu) (c_101_1 n (f_101 n fu) m) (nI (u.length + 1)) (nI p) (nI rp) (nI k) (nI p) (nI (u.length + 1 + 1)) J L := by
          unfold c_101_2 c_101_3
          rw [j1, q_bs]
          (try dsimp only)
          rw [nI_1, nI_1]
        have jf : ∀ e i, e ≠ 36 → e ≠ 40 → e ≠ 41 → e ≠ 42 → (e ≠ 35 ∨ i ≠ 9) → J e i = I e i := fun e i h36 h40 h41 h42 h9 => (j4 e i h40 h41).trans (a4 e i h36 h40 h41 h42 h9)
        have j9 : J 35 9 = nI ck := by rw [j4 35 9 (by decide) (by decide)]; exact a1
        rcases j2 with ⟨rfl, j2⟩ | ⟨rfl, j2⟩
        · have hl : (u ++ [k]).length = u.length + 1 := by simp
          obtain ⟨q, hq⟩ : ∃ q, q = if k = rp then p else u.length + 1 := ⟨_, rfl⟩
          have hwl : ∀ i, i < u.length → wf u i = wf (u ++ [k]) i := fun i hi => (wf_l hi).symm
          have hwm : wf (u ++ [k]) u.length = k := wf_m
          have hPL : PN (wf (u ++ [k])) (u.length + 1) ∧ LPX (wf (u ++ [k])) (u.length + 1) q := by
            by_cases hz : u.length = 0
            · have hp : p = 1 := by have := hL.2.1; omega
              have hq1 : q = 1 := by rw [hq, hp, hz]; split <;> rfl
              rw [hz, hq1]
              exact ⟨PN_1, LP_1⟩
            · have hP' := PN_cg hwl hP
              have hL' := LP_cg hwl hL
              have hp2 : p ≤ u.length := by have := hL.2.1; omega
              have hrp' : wf (u ++ [k]) (u.length - p) = rp := by rw [hrp, if_neg hz, ← hwl _ (by omega)]
              refine ⟨PN_st hP' hL' (by omega) (by rw [hrp', hwm]; exact hrk), ?_⟩
              by_cases e : k = rp
              · rw [hq, if_pos e]; exact LP_eq hL' (by omega) (by rw [hrp', hwm]; exact e)
              · rw [hq, if_neg e]; exact LP_ne hP' hL' (by omega) (by rw [hrp', hwm]; omega)
          have hRJ : RC H W A J := RC_fr hRs (fun c i hc => j4 c i (by omega) (by omega))
          obtain ⟨K, c', k1, k2, k3, k4, k5⟩ := ih (u ++ [k]) q ck J fu (by rw [hl]; omega) (by omega) hRJ j2 (by rw [hl]; exact hPL.1) (by rw [hl]; exact hPL.2) (by rw [j4 35 8 (by decide) (by decide)]; exact s8) (by rw [j4 35 10 (by decide) (by decide)]; exact s10) j9 (fun e => (hg e).1)
          rw [hl] at k1
          have hc4 : c_101_4 n (f_101 n fu) (c_101_1 n (f_101 n fu) m) (nI (u.length + 1)) (nI p) (nI rp) (nI k) (nI q) (nI (u.length + 1 + 1)) J L = c_101_1 n (f_101 n fu) m (nI (u.length + 1)) (nI p) (nI rp) (nI (k + 1)) K L := by
            unfold c_101_4 c_101_3
            rw [k1, q_bs]
            (try dsimp only)
            rw [nI_1]
          have e1 : (fun l => rcv H N (u ++ [k] ++ l)) = fun l => rcv H N (u ++ k :: l) := by funext l; rw [app1]
          have e2 : (fun l => rfd H N (u ++ [k] ++ l)) = fun l => rfd H N (u ++ k :: l) := by funext l; rw [app1]
          rw [e1, e2] at k4
          refine ⟨K, ⟨by omega, c', k2, CRW_lo k3, ?_, fun e i h36 h40 h41 h42 h9 => (k5 e i h36 h40 h41 h42 h9).trans (jf e i h36 h40 h41 h42 h9)⟩, ?_⟩
          · rcases k4 with ⟨x1, x2, x3⟩ | ⟨x1, x2⟩
            · rcases a3 with ⟨y1, y2, y3⟩ | ⟨y1, _⟩
              · refine Or.inl ⟨x1, ?_, fun i => by rw [x3 i, j4 36 i (by decide) (by decide)]; exact y3 i⟩
                show c' = c + (sma (fun r => wsm (H.1 4) d (fun l => rcv H N (u ++ r :: l))) k + wsm (H.1 4) d (fun l => rcv H N (u ++ k :: l)))
                omega
              · omega
            · refine Or.inr ⟨x1, ?_⟩
              rw [show frs (fun r => (fsw (H.1 4) d (fun l => rfd H N (u ++ r :: l))).map (fun l => r :: l)) (k + 1) = (fsw (H.1 4) d (fun l => rfd H N (u ++ k :: l))).map (fun l => k :: l) from by
                show (frs _ k).or ((fsw (H.1 4) d (fun l => rfd H N (u ++ k :: l))).map (fun l => k :: l)) = _
                rw [(hg x1).2]; rfl, Option.map_map, show (fun l => u ++ l) ∘ (fun l => k :: l) = fun l => u ++ [k] ++ l from funext (fun l => (app1 u k l).symm)]
              exact x2
          · rw [hu1, hcS, if_neg (by decide)]
            by_cases e : k = rp
            · rw [if_neg (fun x => x (by rw [e])), ← hc4, hq, if_pos e]
            · rw [if_pos (by rw [nI_eq (by omega) (by omega)]; exact e), ← hc4, hq, if_neg e]
        · have hz := hG0 k (hnoP k j2)
          refine ⟨J, ⟨by omega, ck, j9, j3, ?_, jf⟩, by rw [hu1, hcS, if_pos (show nI 0 = 0 from rfl)]⟩
          rw [show sma (fun r => wsm (H.1 4) d (fun l => rcv H N (u ++ r :: l))) (k + 1) = sma (fun r => wsm (H.1 4) d (fun l => rcv H N (u ++ r :: l))) k from by show _ + wsm (H.1 4) d (fun l => rcv H N (u ++ k :: l)) = _; rw [hz.1]; rfl]
          rw [show frs (fun r => (fsw (H.1 4) d (fun l => rfd H N (u ++ r :: l))).map (fun l => r :: l)) (k + 1) = frs (fun r => (fsw (H.1 4) d (fun l => rfd H N (u ++ r :: l))).map (fun l => r :: l)) k from by
            show (frs _ k).or ((fsw (H.1 4) d (fun l => rfd H N (u ++ k :: l))).map (fun l => k :: l)) = _
            rw [hz.2]; exact Option.or_none]
          rcases a3 with ⟨e1, e2, e3⟩ | ⟨e1, e2⟩
          · exact Or.inl ⟨e1, e2, fun i => by rw [j4 36 i (by decide) (by decide)]; exact e3 i⟩
          · refine Or.inr ⟨e1, ?_⟩
            rcases e2 with ⟨x1, x2⟩ | ⟨x, x1, x2, x3, x4⟩
            · exact Or.inl ⟨x1, x2⟩
            · exact Or.inr ⟨x, x1, x2, x3, fun k hk => by rw [j4 36 k (by decide) (by decide)]; exact x4 k hk⟩
      rcases (show b = 0 ∨ b = 1 by omega) with e | e
      · exact Or.inr (go (fun q => by omega) (by rw [hu0, if_pos (by rw [e]; rfl)]))
      · rcases a3 with ⟨y1, _, _⟩ | ⟨_, y2⟩
        · omega
        · rcases y2 with ⟨y1, y2⟩ | ⟨x, y1, y2, y3, y4⟩
          · exact Or.inr (go (fun _ => ⟨y2, Option.map_eq_none_iff.mp y1⟩) (by rw [hu0, if_neg (by rw [e]; decide), if_pos (by rw [y2]; decide)]))
          · obtain ⟨y, z1, z2⟩ := Option.map_eq_some_iff.mp y1
            refine Or.inl ⟨s, ck, by (try dsimp only); rw [hu0, if_neg (by rw [e]; decide), if_neg (nI_nle y2 (by omega))], a1, a2, Or.inr ⟨e, Or.inr ⟨x, ?_, y2, y3, y4⟩⟩, a4⟩
            rw [frs_k z1 (Nat.le_of_lt hk)]
            exact congrArg some z2
theorem RC_b (ho : HOK H W A) (hC : CH I 3 11 H W A) (hn : 1000 ≤ n) (N : Nat) : ∃ J, f_100 n (nI N) I L = some (J, L) ∧ RC H W A J ∧ CRW H [] J ∧ J 35 8 = nI N ∧ J 35 9 = nI 0 ∧ ∀ c i, c ≠ 37 → c ≠ 38 → c ≠ 40 → c ≠ 41 → (c ≠ 35 ∨ (i ≠ 8 ∧ i ≠ 9)) → J c i = I c i := by
  obtain ⟨J, j1, j2, j3⟩ := e4_1 (L := L) ho hC (evr_lt H) hn
  have e24 : f_24_1 I L = some (nI (evr H)) := e24 (L := L) ho hC
  refine ⟨u2 (u2 (u2 (u2 J 35 8 (nI N)) 35 9 0) 40 0 0) 41 0 0, ?_, ?_, ⟨fun k hk => absurd hk (by simp), ?_, fun k hk => ?_, ⟨fun i hi => absurd hi (by simp), fun k hk => ?_⟩, ⟨rfl, fun k hk => absurd hk (by simp)⟩, by simp⟩, ?_, ?_, fun c i h37 h38 h40 h41 h35 => ?_⟩
  · unfold f_100
    rw [e24, q_bs, j1, q_bs]
  · have h1 : RC H W A J := ⟨ho, CH_u hC (fun a i ha => j3 a i (by omega) (by omega)), j2⟩
    exact RC_fr h1 (fun c i hc => by rw [u2_c (by omega), u2_c (by omega), u2_c (by omega), u2_c (by omega)])
  · rw [u2_c (by decide), u2_s]; rfl
  · have : k = 0 := by simpa using hk
    subst this
    rw [u2_s]; rfl
  · have : k = 0 := by simpa using hk
    subst this
    exact BN_0
  · rw [u2_c (by decide), u2_c (by decide), u2_o (by decide), u2_s]
  · rw [u2_c (by decide), u2_c (by decide), u2_s]; rfl
  · rw [u2_c h41, u2_c h40]
    by_cases e : c = 35
    · subst e
      rw [u2_o (by omega), u2_o (by omega)]; exact j3 35 i h37 h38
    · rw [u2_c e, u2_c e]; exact j3 c i h37 h38
noncomputable def rgn (H : HD) (N : Nat) : Nat := wsm (H.1 4) N (fun x => pI (ERG H (xt N x)))
noncomputable def rg1 (H : HD) (N : Nat) : Option (List Nat) := fsw (H.1 4) N (fun x => ERG H (xt N x))
/-- a search of the class -/
theorem e99 (ho : HOK H W A) (hC : CH I 3 11 H W A) (hn : 1000 ≤ n) {N b : Nat} (h1 : 1 ≤ N) (h10 : N ≤ 10) (hb : b ≤ 1) : ∃ J c, f_99 n (nI N) (nI b) I L = some (nI c, J, L) ∧ ((b = 0 ∧ c = rgn H N ∧ ∀ i, J 36 i = I 36 i) ∨ (b = 1 ∧ Fd36 N c (rg1 H N) J)) ∧ (∀ c i, (c < 35 ∨ 42 < c ∨ c = 39) → J c i = I c i) ∧ J 35 7 = I 35 7 := by
  obtain ⟨J, j1, j2, j3, j4, j5, j6⟩ := RC_b (L := L) ho hC hn N
  obtain ⟨K, c, k1, k2, k3, k4, k5⟩ := e101 (L := L) (H := H) (W := W) (A := A) hn h1 h10 hb N [] 1 0 (u2 J 35 10 (nI b)) 64 (by simp) (by omega) (RC_fr j2 (fun c i hc => u2_c (by omega))) (CRW_fr j3 (fun k _ => ⟨u2_c (by decide), u2_c (by decide)⟩)) PN_0 LP_0 (by rw [u2_o (by decide)]; exact j4) u2_s (by rw [u2_o (by decide)]; exact j5) (fun _ => rfl)
  have hE : ∀ X, PD X N → (ERG H (fun i => X (i + 1)) ↔ ERG H X) := fun X hX => ERG_sh h1 hX
  have e1 : wsm (H.1 4) N (fun l => rcv H N ([] ++ l)) = rgn H N := (wsm_nk h1 hE).symm
  have e2 : (fsw (H.1 4) N (fun l => rfd H N ([] ++ l))).map (fun l => [] ++ l) = rg1 H N := by
    have : fsw (H.1 4) N (fun l => rfd H N ([] ++ l)) = rg1 H N := fsw_nk h1 hE
    rw [this]
    show (rg1 H N).map (fun l => l) = _
    cases rg1 H N <;> rfl
  rw [e1, e2] at k4
  refine ⟨K, c, ?_, ?_, fun e i he => ?_, ?_⟩
  · unfold f_99
    rw [j1, q_bs]
    (try dsimp only)
    rw [if_pos (by rcases (show b = 0 ∨ b = 1 by omega) with e | e <;> rw [e] <;> decide)]
    rw [show f_101 n 64 1 1 (u2 J 35 10 (nI b)) L = some (K, L) from k1, q_bs]
    (try dsimp only)
    rw [k2]
  · rcases k4 with ⟨x1, x2, x3⟩ | ⟨x1, x2⟩
    · exact Or.inl ⟨x1, by omega, fun i => by rw [x3 i, u2_c (by decide)]; exact j6 36 i (by decide) (by decide) (by decide) (by decide) (Or.inl (by decide))⟩
    · exact Or.inr ⟨x1, x2⟩
  · rw [k5 e i (by omega) (by omega) (by omega) (by omega) (Or.inl (by omega)), u2_c (by omega)]; exact j6 e i (by omega) (by omega) (by omega) (by omega) (Or.inl (by omega))
  · rw [k5 35 7 (by decide) (by decide) (by decide) (by decide) (Or.inr (by decide)), u2_o (by decide)]; exact j6 35 7 (by decide) (by decide) (by decide) (by decide) (Or.inr (by decide))
/-- the shortest ring -/
noncomputable def rgs (H : HD) : Option (List Nat) := frs (fun k => rg1 H (k + 1)) 10
noncomputable def rgv (o : Option (List Nat)) : Nat := match o with
  | none => 0
  | some x => x.length + 1
def SH36 (o : Option (List Nat)) (I : FI) : Prop := ∀ x, o = some x → ∀ k, k < x.length → I 36 k = nI (wf x k)
def RPR : RPT := fun H I => (I 35 7 = -3 ∨ (I 35 7 = oI (rgv (rgs H)) ∧ SH36 (rgs H) I)) ∧ ∀ N, 1 ≤ N → N ≤ 10 → I 39 N = -3 ∨ I 39 N = nI (rgn H N)
theorem RPR_f : RPf RPR := fun H I h1 h2 => ⟨Or.inl h1, fun N _ h10 => Or.inl (h2 N (by omega))⟩
theorem RPR_cg {J : FI} (h : RPR H I) (e : ∀ c i, (c = 36 ∨ c = 39) → J c i = I c i) (e2 : J 35 7 = I 35 7) : RPR H J := by
  obtain ⟨h1, h2⟩ := h
  refine ⟨?_, fun N a b => by rw [e 39 N (by omega)]; exact h2 N a b⟩
  rw [e2]
  rcases h1 with h | ⟨h, h3⟩
  · exact Or.inl h
  · exact Or.inr ⟨h, fun x hx k hk => by rw [e 36 k (by omega)]; exact h3 x hx k hk⟩
theorem rg1_len {N : Nat} {x : List Nat} (h : rg1 H N = some x) : x.length = N := (fsw_s h).1.1
theorem rgv_m3 (o : Option (List Nat)) (h : rgv o ≤ 11) : ¬ oI (rgv o) = -3 := by
  intro q
  rw [fa_eq, oI_toInt (by omega)] at q
  have : (-3 : Int32).toInt = -3 := by decide
  omega
theorem rgs_le : rgv (rgs H) ≤ 11 := by
  cases e : rgs H with
  | none => show 0 ≤ 11; omega
  | some x =>
    obtain ⟨r, r1, r2, _⟩ := frs_s e
    have := rg1_len r2
    show x.length + 1 ≤ 11
    omega
/-- how many rings, by the class -/
theorem e96 (ho : HOK H W A) (hC : CH I 3 11 H W A) (hP : RPR H I) (hn : 1000 ≤ n) {N : Nat} (h1 : 1 ≤ N) (h10 : N ≤ 10) : ∃ J, f_96 n (nI N) I L = some (nI (rgn H N), J, L) ∧ RPR H J ∧ ∀ c i, (c < 35 ∨ 42 < c) → J c i = I c i := by
  unfold f_96 c_96_0
  rw [ku_if (show N < 11 by omega) (by omega), nI_clamp (by omega)]
  by_cases h3 : I 39 N = -3
  · obtain ⟨J, c, j1, j2, j3, j4⟩ := e99 (L := L) ho hC hn h1 h10 (b := 0) (by omega)
    rcases j2 with ⟨_, rfl, j2⟩ | ⟨q, _⟩
    · rw [if_neg (fun q => q h3), show f_99 n (nI N) 0 I L = some (nI (rgn H N), J, L) from j1, q_bs]
      (try dsimp only)
      rw [ku_if (show N < 11 by omega) (by omega), ku_if (show N < 11 by omega) (by omega), u2_s]
      refine ⟨_, rfl, ?_, fun c i hc => by rw [u2_c (by omega)]; exact j3 c i (by omega)⟩
      obtain ⟨p1, p2⟩ := hP
      refine ⟨?_, fun M a b => ?_⟩
      · rw [u2_c (by decide), j4]
        rcases p1 with p | ⟨p, q⟩
        · exact Or.inl p
        · exact Or.inr ⟨p, fun x hx k hk => by rw [u2_c (by decide), j2 k]; exact q x hx k hk⟩
      · by_cases e : M = N
        · subst e; exact Or.inr u2_s
        · rw [u2_o e, j3 39 M (by omega)]; exact p2 M a b
    · omega
  · rw [if_pos h3]
    rcases hP.2 N h1 h10 with q | q
    · exact absurd q h3
    · exact ⟨I, by rw [ku_if (by omega) (by omega), q], hP, fun _ _ _ => rfl⟩
/-- the shortest, by the class -/
theorem e97 (ho : HOK H W A) (hC : CH I 3 11 H W A) (hP : RPR H I) (hn : 1000 ≤ n) : ∃ J, f_97 n I L = some (oI (rgv (rgs H)), J, L) ∧ RPR H J ∧ J 35 7 = oI (rgv (rgs H)) ∧ SH36 (rgs H) J ∧ ∀ c i, (c < 35 ∨ 42 < c) → J c i = I c i := by
  unfold f_97
  by_cases h3 : I 35 7 = -3
  · rw [if_neg (fun q => q h3)]
    obtain ⟨p1, p2⟩ := hP
    have done : ∀ s : FI, s 35 7 = oI (rgv (rgs H)) → SH36 (rgs H) s → (∀ c i, (c < 35 ∨ 42 < c ∨ c = 39) → s c i = I c i) → ∃ J, some (s 35 7, s, L) = some (oI (rgv (rgs H)), J, L) ∧ RPR H J ∧ J 35 7 = oI (rgv (rgs H)) ∧ SH36 (rgs H) J ∧ ∀ c i, (c < 35 ∨ 42 < c) → J c i = I c i := fun s a b c => ⟨s, by rw [a], ⟨Or.inr ⟨a, b⟩, fun M x y => by rw [c 39 M (by omega)]; exact p2 M x y⟩, a, b, fun c' i hc => c c' i (by omega)⟩
    refine lpGk (fun m k (s : FI) => c_97_0 n m (nI (k + 1)) s L) 10 (fun k s => s 35 7 = oI (rgv (frs (fun k => rg1 H (k + 1)) k)) ∧ SH36 (frs (fun k => rg1 H (k + 1)) k) s ∧ ∀ c i, (c < 35 ∨ 42 < c ∨ c = 39) → s c i = I c i) (fun s => some (s 35 7, s, L)) (fun r => ∃ J, r = some (oI (rgv (rgs H)), J, L) ∧ RPR H J ∧ J 35 7 = oI (rgv (rgs H)) ∧ SH36 (rgs H) J ∧ ∀ c i, (c < 35 ∨ 42 < c) → J c i = I c i) n 0 (u2 I 35 7 (-1)) (by omega) (by omega) ⟨by rw [u2_s]; exact oI_0.symm, (fun x hx => by cases hx), fun c i hc => u2_c (by omega)⟩ (fun h => h) (fun s ⟨a, b, c⟩ e => ?_) (fun m s hs => ?_) (fun m k s hk hs => ?_)
    · obtain ⟨J, d1, d2⟩ := done s a b c
      exact ⟨J, e.trans d1, d2⟩
    · show b_97_0 n (c_97_0 n m) (nI (10 + 1)) s L = _
      unfold b_97_0
      rw [if_pos (by decide)]
    · obtain ⟨a, b, c⟩ := hs
      have hCs : CH s 3 11 H W A := CH_u hC (fun a i ha => c a i (by omega))
      cases hfk : frs (fun k => rg1 H (k + 1)) k with
      | some x =>
        left
        have hgs : rgs H = some x := frs_k hfk (by omega)
        rw [hfk, ← hgs] at a b
        obtain ⟨J, d1, d2⟩ := done s a b c
        refine ⟨J, Eq.trans ?_ d1, d2⟩
        show b_97_0 n (c_97_0 n m) (nI (k + 1)) s L = _
        unfold b_97_0
        rw [show (10 : Int32) = nI 10 from rfl, if_neg (nI_nlt (by omega) (by omega)), if_pos (by rw [a, oI_m1 (by have := rgs_le (H := H); omega), hgs]; show ¬ x.length + 1 = 0; omega)]
      | none =>
        right
        rw [hfk] at a b
        have b1 : s 35 7 = -1 := a.trans oI_0
        obtain ⟨J, c', j1, j2, j3, j4⟩ := e99 (L := L) (I := s) ho hCs hn (N := k + 1) (by omega) (by omega) (b := 1) (by omega)
        have hst : c_97_0 n (m + 1) (nI (k + 1)) s L = if nI c' ≤ 0 then c_97_0 n m (nI (k + 1 + 1)) J L else c_97_0 n m (nI (k + 1 + 1)) (u2 J 35 7 (nI (k + 1))) L := by
          show b_97_0 n (c_97_0 n m) (nI (k + 1)) s L = _
          unfold b_97_0 c_97_1
          rw [show (10 : Int32) = nI 10 from rfl, if_neg (nI_nlt (by omega) (by omega)), b1, if_neg (fun q => q rfl), show f_99 n (nI (k + 1)) 1 s L = some (nI c', J, L) from j1, q_bs, nI_1]
        have hor : frs (fun k => rg1 H (k + 1)) (k + 1) = rg1 H (k + 1) := by
          show (frs (fun k => rg1 H (k + 1)) k).or (rg1 H (k + 1)) = _
          rw [hfk]; rfl
        rcases j2 with ⟨q, _⟩ | ⟨_, j2⟩
        · omega
        · rcases j2 with ⟨x1, x2⟩ | ⟨x, x1, x2, x3, x4⟩
          · refine ⟨J, ⟨by rw [hor, x1, j4]; exact a, (fun x hx => by rw [hor, x1] at hx; cases hx), fun c'' i hc => (j3 c'' i hc).trans (c c'' i hc)⟩, by (try dsimp only); rw [hst, if_pos (by rw [x2]; decide)]⟩
          · have hxl := rg1_len x1
            refine ⟨u2 J 35 7 (nI (k + 1)), ⟨?_, fun y hy i hi => ?_, fun c'' i hc => by rw [u2_c (by omega), j3 c'' i (by omega)]; exact c c'' i (by omega)⟩, by (try dsimp only); rw [hst, if_neg (nI_nle x2 (by omega))]⟩
            · rw [hor, x1, u2_s]
              show nI (k + 1) = oI (x.length + 1)
              rw [oI_s, hxl]
            · rw [hor, x1] at hy
              cases hy
              rw [u2_c (by decide)]; exact x4 i (by omega)
  · rw [if_pos h3]
    rcases hP.1 with q | ⟨q1, q2⟩
    · exact absurd q h3
    · exact ⟨I, by rw [q1], hP, q1, q2, fun _ _ _ => rfl⟩
/-- the round as a row -/
def plw (H : HD) (k : Nat) : List Nat := (List.range k).map (H.2 3)
theorem pls_l (k : Nat) : (plw H k).length = k := by unfold plw; simp
theorem pls_s (k : Nat) : plw H (k + 1) = plw H k ++ [H.2 3 k] := by unfold plw; rw [List.range_succ, List.map_append]; rfl
theorem pls_w {N : Nat} : ∀ {k : Nat}, k < N → wf (plw H N) k = H.2 3 k := by
  induction N with
  | zero => intro k hk; omega
  | succ N ih =>
    intro k hk
    rw [pls_s]
    by_cases e : k = N
    · subst e
      have := wf_m (u := plw H k) (v := []) (j := H.2 3 k)
      rw [pls_l] at this; exact this
    · rw [wf_l (by rw [pls_l]; omega)]; exact ih (by omega)
def RRD (H : HD) : Prop := 0 < H.1 7 ∧ ERG H (xt (H.1 7) (plw H (H.1 7)))
theorem e98 (ho : HOK H W A) (hC : CH I 3 11 H W A) (hn : 1000 ≤ n) : ∃ b J, f_98 n I L = some (nI b, J, L) ∧ ((b = 1 ∧ RRD H) ∨ (b = 0 ∧ ¬ RRD H)) ∧ (∀ c i, (c < 35 ∨ 42 < c ∨ c = 36 ∨ c = 39) → J c i = I c i) ∧ J 35 7 = I 35 7 := by
  have o7 : H.1 7 ≤ 12 := ho.1.2.2.2.2.2.2.2.1
  have o4 : H.1 4 ≤ 4 := ho.1.2.2.2.2.1
  obtain ⟨J, j1, j2, j3, j4, j5, j6⟩ := RC_b (L := L) ho hC hn (H.1 7)
  have hf : f_98 n I L = c_98_0 n n (nI (0 + 1)) J L := by
    unfold f_98
    rw [chs hC (by decide), j1, q_bs]; rfl
  rw [hf]
  have jf : (∀ c i, (c < 35 ∨ 42 < c ∨ c = 36 ∨ c = 39) → J c i = I c i) ∧ J 35 7 = I 35 7 := ⟨fun c i hc => j6 c i (by omega) (by omega) (by omega) (by omega) (Or.inl (by omega)), j6 35 7 (by decide) (by decide) (by decide) (by decide) (Or.inr (by decide))⟩
  refine lpGk (fun m k (s : FI) => c_98_0 n m (nI (k + 1)) s L) (H.1 7) (fun k s => RC H W A s ∧ CRW H (plw H k) s ∧ s 35 8 = nI (H.1 7) ∧ ∀ c i, c ≠ 40 → c ≠ 41 → s c i = J c i) (fun s => if nI (H.1 7) ≤ 0 then some (0, s, L) else (f_104 n s L).bind fun q1 => if q1.1 = 0 then some (0, q1.2.1, q1.2.2) else some (1, q1.2.1, q1.2.2)) (fun r => ∃ b K, r = some (nI b, K, L) ∧ ((b = 1 ∧ RRD H) ∨ (b = 0 ∧ ¬ RRD H)) ∧ (∀ c i, (c < 35 ∨ 42 < c ∨ c = 36 ∨ c = 39) → K c i = I c i) ∧ K 35 7 = I 35 7) n 0 J (by omega) (by omega) ⟨j2, j3, j4, fun _ _ _ _ => rfl⟩ (fun h => h) (fun s hs e => ?_) (fun m s hs => ?_) (fun m k s hk hs => ?_)
  · obtain ⟨a1, a2, a3, a4⟩ := hs
    have af : (∀ c i, (c < 35 ∨ 42 < c ∨ c = 36 ∨ c = 39) → s c i = I c i) ∧ s 35 7 = I 35 7 := ⟨fun c i hc => (a4 c i (by omega) (by omega)).trans (jf.1 c i hc), (a4 35 7 (by decide) (by decide)).trans jf.2⟩
    (try dsimp only at e)
    by_cases hz : H.1 7 = 0
    · rw [if_pos (by rw [hz]; decide)] at e
      exact ⟨0, s, e, Or.inr ⟨rfl, fun q => by have := q.1; omega⟩, af⟩
    · rw [if_neg (nI_nle (by omega) (by omega))] at e
      obtain ⟨b, K, k1, k2, k3⟩ := e104 (L := L) a1 a2 (pls_l (H.1 7)) (by omega) a3 hn
      rw [k1, q_bs] at e
      (try dsimp only at e)
      refine ⟨b, K, ?_, ?_, fun c i hc => (k3 c i (by omega)).trans (af.1 c i hc), (k3 35 7 (by decide)).trans af.2⟩
      · rw [e]
        rcases k2 with ⟨rfl, _⟩ | ⟨rfl, _⟩ <;> rfl
      · rcases k2 with ⟨h1, h2⟩ | ⟨h1, h2⟩
        · exact Or.inl ⟨h1, by omega, h2⟩
        · exact Or.inr ⟨h1, fun q => h2 q.2⟩
  · obtain ⟨a1, a2, a3, a4⟩ := hs
    show b_98_0 n (c_98_0 n m) (nI (H.1 7 + 1)) s L = _
    unfold b_98_0
    rw [a3, if_pos (nI_lt (by omega) (by omega))]
  · obtain ⟨a1, a2, a3, a4⟩ := hs
    have hpk : s 10 k = nI (H.2 3 k) := ch_pl a1.2.1 hk
    have hpl := ho.2.2.2.1 k hk
    obtain ⟨b, K, k1, k2, k3, k4⟩ := e103 (L := L) a1 a2 (by rw [pls_l]; omega) hpl
    rw [pls_l] at k1 k2
    have hst : c_98_0 n (m + 1) (nI (k + 1)) s L = if ¬ nI b = 0 then c_98_0 n m (nI (k + 1 + 1)) K L else some (0, K, L) := by
      show b_98_0 n (c_98_0 n m) (nI (k + 1)) s L = _
      unfold b_98_0
      rw [a3, if_neg (nI_nlt (by omega) (by omega)), nI_pred, ku_if (by omega) (by omega), nI_clamp (by omega), hpk, k1, q_bs]
      (try dsimp only)
      rw [nI_1]
    have kf : ∀ c i, c ≠ 40 → c ≠ 41 → K c i = J c i := fun c i x y => (k4 c i x y).trans (a4 c i x y)
    rcases k2 with ⟨rfl, k2⟩ | ⟨rfl, k2⟩
    · right
      refine ⟨K, ⟨RC_fr a1 (fun c i hc => k4 c i (by omega) (by omega)), by rw [pls_s]; exact k2, by rw [k4 35 8 (by decide) (by decide)]; exact a3, kf⟩, by (try dsimp only); rw [hst, if_pos (by decide)]⟩
    · left
      refine ⟨0, K, by (try dsimp only); rw [hst, if_neg (by decide)]; rfl, Or.inr ⟨rfl, fun q => k2 ?_⟩, fun c i hc => (kf c i (by omega) (by omega)).trans (jf.1 c i hc), (kf 35 7 (by decide) (by decide)).trans jf.2⟩
      have e : ∀ i, i < k + 1 → xt (H.1 7) (plw H (H.1 7)) i = wf (plw H k ++ [H.2 3 k]) i := fun i hi => by
        rw [xt_l (by omega), pls_w (by omega), ← pls_s, pls_w hi]
      exact PRE_cg e ⟨fun i _ => q.2.1 i, fun j _ => q.2.2 j⟩
end RGG
