/-! LAYER 3: the class's search goes to its end -/
section LOOP
variable {H : HD} {W : Nat → Nat} {A : AD} {l set : Nat} {wt : Nat → Nat} {n : Nat}
theorem c7m {p x : Nat} (hx : x < 8) (hp : p < 262144) : nI (8 * p + x) &&& 7 = nI x := by
  rw [show (7 : Int32) = nI (2 ^ 3 - 1) from rfl, fa_mask]
  congr 1; show (8 * p + x) % 8 = x; omega
theorem c3s {p x : Nat} (hx : x < 8) (hp : p < 262144) : nI (8 * p + x) >>> ((3 : Int32) &&& 31) = nI p := by
  rw [show (3 : Int32) &&& 31 = nI 3 by decide, ku_shr (by omega) (by omega)]
  congr 1; show (8 * p + x) / 8 = p; omega
def SRE (H : HD) (l set : Nat) (wt : Nat → Nat) (I : FI) (L : FL) (r : Option (FI × FL)) : Prop := ∃ I' L', r = some (I', L') ∧ KNW H l set wt I' L' ∧ (∀ s, mko L s ≠ 0 → mko L' s ≠ 0) ∧ (∀ c i, c ≠ 118 → c ≠ 119 → I' c i = I c i) ∧ ∀ c i, c ≠ 117 → L' c i = L c i
theorem SRE_t {I J : FI} {L M : FL} {r : Option (FI × FL)} (h : SRE H l set wt J M r) (h1 : ∀ s, mko L s ≠ 0 → mko M s ≠ 0) (h2 : ∀ c i, c ≠ 118 → c ≠ 119 → J c i = I c i) (h3 : ∀ c i, c ≠ 117 → M c i = L c i) : SRE H l set wt I L r := by
  obtain ⟨I', L', a, b, c, d, e⟩ := h
  exact ⟨I', L', a, b, fun s hs => c s (h1 s hs), fun x i p q => (d x i p q).trans (h2 x i p q), fun x i p => (e x i p).trans (h3 x i p)⟩
theorem phi_u (L : FL) (c : Nat → Nat) {s v : Nat} (hs : s < 16384) (hm : mko L s = 1) (hv : v ≤ 5) (hcs : c s < v) : sma (phi L (fun x => if x = s then v else c x)) 16384 + (v - c s) = sma (phi L c) 16384 := by
  have h := sma_upd (F := phi L c) (G := phi L (fun x => if x = s then v else c x)) (j := s) (fun k hk => by unfold phi; (try dsimp only); rw [if_neg hk]) hs
  have e1 : phi L c s = 5 - c s := by unfold phi; (try dsimp only); rw [if_neg (by omega), if_pos hm]
  have e2 : phi L (fun x => if x = s then v else c x) s = 5 - v := by unfold phi; (try dsimp only); rw [if_neg (by omega), if_pos hm, if_pos rfl]
  omega
theorem srch (hn : 200000 ≤ n) : ∀ (P h : Nat) (T c : Nat → Nat) (I : FI) (L : FL) (i m : Nat), KQ H W A l set wt I → SRI H l set wt h T c I L → sma (phi L c) 16384 ≤ P → i + P < 999999 → P < m → SRE H l set wt I L (c_43_0 n m (nI h) (nI i) I L) := by
  intro P
  induction P with
  | zero =>
    intro h T c I L i m hQ hS hP hi hm
    have o4 : H.1 4 ≤ 4 := hQ.1.1.2.2.2.2.1
    obtain ⟨s1, s2, s3, s4, s5, s6, s7, s8⟩ := hS
    obtain ⟨m', rfl⟩ : ∃ m', m = m' + 1 := ⟨m - 1, by omega⟩
    cases h with
    | zero =>
      refine ⟨I, L, ?_, fun s hs => ?_, fun _ h => h, fun _ _ _ _ => rfl, fun _ _ _ => rfl⟩
      · show b_43_0 n (c_43_0 n m') (nI 0) (nI i) I L = _
        unfold b_43_0
        rw [if_neg (show ¬ (1000000 : Int32) ≤ nI i from nI_ge (b := 1000000) (by omega) (by omega)), if_pos (by decide)]
      · have := mko_lt L s
        rcases (show mko L s = 0 ∨ mko L s = 1 ∨ mko L s = 2 ∨ mko L s = 3 by omega) with h | h | h | h
        · exact Or.inl h
        · obtain ⟨i, hi, _⟩ := s3 s hs h; omega
        · exact Or.inr (Or.inl ⟨h, s6 s hs h⟩)
        · exact Or.inr (Or.inr ⟨h, s7 s hs h⟩)
    | succ k =>
      exfalso
      obtain ⟨t1, t2, t3, _⟩ := s1 k (by omega)
      have := sma_one (F := phi L c) (VSt_lt o4 t1)
      have : phi L c (T k) = 5 - c (T k) := by unfold phi; (try dsimp only); rw [if_neg (by omega), if_pos t2]
      omega
  | succ P ih =>
    intro h T c I L i m hQ hS hP hi hm
    have hQ0 := hQ
    obtain ⟨ho, hC, hA, hl, hw⟩ := hQ
    have o4 : H.1 4 ≤ 4 := ho.1.2.2.2.2.1
    have hS0 := hS
    obtain ⟨s1, s2, s3, s4, s5, s6, s7, s8⟩ := hS
    obtain ⟨m', rfl⟩ : ∃ m', m = m' + 1 := ⟨m - 1, by omega⟩
    cases h with
    | zero =>
      refine ⟨I, L, ?_, fun s hs => ?_, fun _ h => h, fun _ _ _ _ => rfl, fun _ _ _ => rfl⟩
      · show b_43_0 n (c_43_0 n m') (nI 0) (nI i) I L = _
        unfold b_43_0
        rw [if_neg (show ¬ (1000000 : Int32) ≤ nI i from nI_ge (b := 1000000) (by omega) (by omega)), if_pos (by decide)]
      · have := mko_lt L s
        rcases (show mko L s = 0 ∨ mko L s = 1 ∨ mko L s = 2 ∨ mko L s = 3 by omega) with h | h | h | h
        · exact Or.inl h
        · obtain ⟨i, hi, _⟩ := s3 s hs h; omega
        · exact Or.inr (Or.inl ⟨h, s6 s hs h⟩)
        · exact Or.inr (Or.inr ⟨h, s7 s hs h⟩)
    | succ k =>
      obtain ⟨t1, t2, t3, t4⟩ := s1 k (by omega)
      have tl := VSt_lt o4 t1
      have hpk := pks_lt tl
      have hk : k < 16384 := by omega
      obtain ⟨v, v1, v2⟩ := s5 k (by omega)
      rw [if_neg (by omega)] at v2
      have hv100 := v2.1
      have hTl : ∀ i, i < k + 1 → T i < 16384 := fun i hi => VSt_lt o4 (s1 i hi).1
      have hTne : ∀ i, i < k → T i ≠ T k := fun i hi e => by have := s2 i k (by omega) (by omega) e; omega
      have c4 : I 3 4 = nI (H.1 4) := chs hC (by decide)
      by_cases hcc : c (T k) < H.1 4
      · -- a room to try
        have hJ4 : ∀ x i, x ≠ 118 → u2 I 118 k (nI (8 * pks (T k) + (c (T k) + 1))) x i = I x i := fun x i hx => u2_c hx
        have hQJ : KQ H W A l set wt (u2 I 118 k (nI (8 * pks (T k) + (c (T k) + 1)))) := KQ_fr hQ0 (fun x i hx => hJ4 x i (by omega))
        have hf41 := e41 (L := L) hQJ t1 hcc
        have hphi := phi_u L c (s := T k) (v := c (T k) + 1) tl t2 (by omega) (by omega)
        -- the trail with its next room
        have hrow : ∀ i, i < k + 1 → VSt H set wt (T i) ∧ mko L (T i) = 1 ∧ (if T i = T k then c (T k) + 1 else c (T i)) ≤ H.1 4 ∧ u2 I 118 k (nI (8 * pks (T k) + (c (T k) + 1))) 118 i = nI (8 * pks (T i) + (if T i = T k then c (T k) + 1 else c (T i))) := fun i hi => by
          obtain ⟨a1, a2, a3, a4⟩ := s1 i hi
          rcases (show i < k ∨ i = k by omega) with h6 | rfl
          · rw [if_neg (hTne i h6), u2_o (by omega)]
            exact ⟨a1, a2, a3, a4⟩
          · rw [if_pos rfl, u2_s]
            exact ⟨a1, a2, by omega, rfl⟩
        have hbody : ∀ r, (∀ q1, q1 = (if nxt H l set wt (T k) (c (T k)) = 0 then oI 0 else nI (pks (nxt H l set wt (T k) (c (T k)) - 1))) → (if ¬ q1 = (-1) then (f_48 q1 (u2 I 118 k (nI (8 * pks (T k) + (c (T k) + 1)))) L).bind fun q2 => (f_50 q2 (u2 I 118 k (nI (8 * pks (T k) + (c (T k) + 1)))) L).bind fun q3 => c_43_1 n (c_43_0 n m') (nI (k + 1)) (nI i) q1 q3 (u2 I 118 k (nI (8 * pks (T k) + (c (T k) + 1)))) L else c_43_1 n (c_43_0 n m') (nI (k + 1)) (nI i) q1 3 (u2 I 118 k (nI (8 * pks (T k) + (c (T k) + 1)))) L) = r) → c_43_0 n (m' + 1) (nI (k + 1)) (nI i) I L = r := fun r hr => by
          show b_43_0 n (c_43_0 n m') (nI (k + 1)) (nI i) I L = _
          unfold b_43_0
          rw [if_neg (show ¬ (1000000 : Int32) ≤ nI i from nI_ge (b := 1000000) (by omega) (by omega)), if_neg (nI_nle (by omega) (by omega)), nI_pred, ku_if hk (by omega), ku_if hk (by omega), nI_clamp (by omega), t4, c7m (by omega) (by omega), c4, if_pos (nI_lt hcc (by omega)), c3s (by omega) (by omega), nI_1, Nat.add_assoc, hf41, q_bs]
          exact hr _ rfl
        by_cases hnx : nxt H l set wt (T k) (c (T k)) = 0
        · -- no move
          have e0 : c_43_0 n (m' + 1) (nI (k + 1)) (nI i) I L = c_43_0 n m' (nI (k + 1)) (nI (i + 1)) (u2 I 118 k (nI (8 * pks (T k) + (c (T k) + 1)))) L := hbody _ (fun q1 hq1 => by
            rw [if_pos hnx] at hq1
            rw [hq1, if_neg (by rw [oI_0]; exact fun q => q rfl)]
            unfold c_43_1 c_43_2 c_43_3
            rw [if_pos (show ¬ (3 : Int32) = 0 by decide), if_pos rfl, if_pos oI_0, nI_1])
          rw [e0]
          refine SRE_t (ih (k + 1) T (fun x => if x = T k then c (T k) + 1 else c x) _ L (i + 1) m' hQJ ⟨hrow, s2, s3, fun j hj => ?_, fun j hj => ?_, s6, fun s hs hm => ?_, s8⟩ (by omega) (by omega) (by omega)) (fun _ h => h) (fun x i h _ => hJ4 x i h) (fun _ _ _ => rfl)
          · (try dsimp only)
            rw [if_neg (hTne j (by omega))]; exact s4 j hj
          · rcases (show j < k ∨ j = k by omega) with h6 | rfl
            · obtain ⟨u, u1, u2'⟩ := s5 j hj
              rw [if_pos (by omega)] at u2'
              (try dsimp only)
              rw [if_neg (hTne j h6), if_pos (show j + 1 < k + 1 by omega)]
              exact ⟨u, by rw [hJ4 119 _ (by decide)]; exact u1, u2'⟩
            · (try dsimp only)
              rw [if_pos rfl, if_neg (by omega)]
              exact ⟨v, by rw [hJ4 119 _ (by decide)]; exact v1, MXS_n v2 hnx⟩
          · obtain ⟨a, u, b1, b2⟩ := s7 s hs hm
            exact ⟨a, u, by rw [hJ4 119 _ (by decide)]; exact b1, b2⟩
        · -- a move
          obtain ⟨t, ht⟩ : ∃ t, nxt H l set wt (T k) (c (T k)) = t + 1 := ⟨nxt H l set wt (T k) (c (T k)) - 1, by omega⟩
          obtain ⟨tV, tl2⟩ := nxt_V (fun r hr hs => (hw r hr hs).2) o4 hcc ht
          have hp2 := pks_lt tl2
          have hbody2 : ∀ r, c_43_1 n (c_43_0 n m') (nI (k + 1)) (nI i) (nI (pks t)) (nI (mko L t)) (u2 I 118 k (nI (8 * pks (T k) + (c (T k) + 1)))) L = r → c_43_0 n (m' + 1) (nI (k + 1)) (nI i) I L = r := fun r hr => hbody r (fun q1 hq1 => by
            rw [if_neg hnx, ht, Nat.add_sub_cancel] at hq1
            rw [hq1, if_pos (by rw [ku_m, ku_on (by omega) (by omega)]; omega), e48 tl2, q_bs, e50 tl2, q_bs]
            exact hr)
          have hm4 := mko_lt L t
          rcases (show mko L t = 0 ∨ mko L t = 3 ∨ (mko L t = 1 ∨ mko L t = 2) by omega) with hm0 | hm3 | hm12
          · -- pushed
            have hu1 := sma_one (F := ukn L) tl2
            have hu2 : ukn L t = 1 := by unfold ukn; rw [if_pos hm0]
            have hkn : k + 1 < 16384 := by omega
            have htne : ∀ j, j < k + 1 → T j ≠ t := fun j hj e => by have := (s1 j hj).2.1; rw [e, hm0] at this; omega
            have e0 : c_43_0 n (m' + 1) (nI (k + 1)) (nI i) I L = c_43_0 n m' (nI (k + 2)) (nI (i + 1)) (u2 (u2 (u2 I 118 k (nI (8 * pks (T k) + (c (T k) + 1)))) 118 (k + 1) (nI (8 * pks t))) 119 t (nI 0)) (mkS L t 1) := hbody2 _ (by
              unfold c_43_1 c_43_3
              rw [hm0, if_neg (by decide), if_neg (show ¬ (16384 : Int32) ≤ nI (k + 1) from nI_ge (b := 16384) (by omega) (by omega)), e44 hkn tl2, q_bs, nI_1, nI_1])
            have hmk : ∀ s, mko (mkS L t 1) s = if s = t then 1 else mko L s := fun s => mko_S (by omega) s
            have hphi2 : sma (phi (mkS L t 1) (fun x => if x = t then 0 else if x = T k then c (T k) + 1 else c x)) 16384 + 1 = sma (phi L (fun x => if x = T k then c (T k) + 1 else c x)) 16384 := by
              have h := sma_upd (F := phi L (fun x => if x = T k then c (T k) + 1 else c x)) (G := phi (mkS L t 1) (fun x => if x = t then 0 else if x = T k then c (T k) + 1 else c x)) (j := t) (fun x hx => by unfold phi; (try dsimp only); rw [hmk, if_neg hx, if_neg hx]) tl2
              have a1 : phi L (fun x => if x = T k then c (T k) + 1 else c x) t = 6 := by unfold phi; (try dsimp only); rw [if_pos hm0]
              have a2 : phi (mkS L t 1) (fun x => if x = t then 0 else if x = T k then c (T k) + 1 else c x) t = 5 := by unfold phi; (try dsimp only); rw [hmk, if_pos rfl, if_neg (by omega), if_pos rfl, if_pos rfl]
              omega
            have huk : sma (ukn (mkS L t 1)) 16384 + 1 = sma (ukn L) 16384 := by
              have h := sma_upd (F := ukn L) (G := ukn (mkS L t 1)) (j := t) (fun x hx => by unfold ukn; rw [hmk, if_neg hx]) tl2
              have a2 : ukn (mkS L t 1) t = 0 := by unfold ukn; rw [hmk, if_pos rfl, if_neg (by omega)]
              omega
            have hJ2 : ∀ x i, x ≠ 118 → x ≠ 119 → u2 (u2 (u2 I 118 k (nI (8 * pks (T k) + (c (T k) + 1)))) 118 (k + 1) (nI (8 * pks t))) 119 t (nI 0) x i = I x i := fun x i a b => by rw [u2_c b, u2_c a, u2_c a]
            have h119 : ∀ s, s ≠ t → u2 (u2 (u2 I 118 k (nI (8 * pks (T k) + (c (T k) + 1)))) 118 (k + 1) (nI (8 * pks t))) 119 t (nI 0) 119 s = I 119 s := fun s hs => by rw [u2_o hs, u2_c (by decide), u2_c (by decide)]
            rw [e0]
            refine SRE_t (ih (k + 2) (fun j => if j = k + 1 then t else T j) (fun x => if x = t then 0 else if x = T k then c (T k) + 1 else c x) _ (mkS L t 1) (i + 1) m' (KQ_fr hQ0 (fun x i hx => hJ2 x i (by omega) (by omega))) ⟨fun j hj => ?_, fun a b ha hb hab => ?_, fun s hs hm => ?_, fun j hj => ?_, fun j hj => ?_, fun s hs hm => ?_, fun s hs hm => ?_, by omega⟩ (by omega) (by omega) (by omega)) (fun s hs => by rw [hmk]; split <;> omega) (fun x i a b => hJ2 x i a b) (fun x i hx => by unfold mkS; rw [u2_c hx])
            · by_cases ej : j = k + 1
              · subst ej
                (try dsimp only)
                rw [if_pos rfl, hmk, if_pos rfl, if_pos rfl, u2_c (by decide), u2_s]
                exact ⟨tV, rfl, by omega, rfl⟩
              · have hj2 : j < k + 1 := by omega
                obtain ⟨a1, a2, a3, a4⟩ := hrow j hj2
                (try dsimp only)
                rw [if_neg ej, hmk, if_neg (htne j hj2), if_neg (htne j hj2), u2_c (by decide), u2_o ej]
                exact ⟨a1, a2, a3, a4⟩
            · by_cases ea : a = k + 1
              · by_cases eb : b = k + 1
                · omega
                · dsimp only at hab; rw [if_pos ea, if_neg eb] at hab
                  exact absurd hab.symm (htne b (by omega))
              · by_cases eb : b = k + 1
                · dsimp only at hab; rw [if_neg ea, if_pos eb] at hab
                  exact absurd hab (htne a (by omega))
                · dsimp only at hab; rw [if_neg ea, if_neg eb] at hab
                  exact s2 a b (by omega) (by omega) hab
            · rw [hmk] at hm
              by_cases es : s = t
              · exact ⟨k + 1, by omega, by dsimp only; rw [if_pos rfl, es]⟩
              · rw [if_neg es] at hm
                obtain ⟨j, hj, e⟩ := s3 s hs hm
                exact ⟨j, by omega, by dsimp only; rw [if_neg (by omega)]; exact e⟩
            · rcases (show j < k ∨ j = k by omega) with h6 | rfl
              · (try dsimp only)
                rw [if_neg (show ¬ j = k + 1 by omega), if_neg (show ¬ j + 1 = k + 1 by omega), if_neg (htne j (by omega)), if_neg (hTne j h6)]
                exact s4 j (by omega)
              · (try dsimp only)
                rw [if_neg (show ¬ j = j + 1 by omega), if_pos (show j + 1 = j + 1 from rfl), if_neg (htne j (by omega)), if_pos rfl]
                exact ⟨by omega, ht⟩
            · by_cases ej : j = k + 1
              · subst ej
                (try dsimp only)
                rw [if_pos rfl, if_neg (by omega), if_pos rfl]
                exact ⟨0, u2_s, MXS_0 t⟩
              · (try dsimp only)
                rw [if_neg ej, if_pos (by omega), if_neg (htne j (by omega))]
                rcases (show j < k ∨ j = k by omega) with h6 | rfl
                · rw [if_neg (hTne j h6)]
                  obtain ⟨u, u1, u2'⟩ := s5 j (by omega)
                  rw [if_pos (by omega)] at u2'
                  exact ⟨u, by rw [h119 _ (htne j (by omega))]; exact u1, u2'⟩
                · rw [if_pos rfl, Nat.add_sub_cancel]
                  exact ⟨v, by rw [h119 _ (htne j (by omega))]; exact v1, v2⟩
            · rw [hmk] at hm
              by_cases es : s = t
              · rw [if_pos es] at hm; omega
              · rw [if_neg es] at hm; exact s6 s hs hm
            · rw [hmk] at hm
              by_cases es : s = t
              · rw [if_pos es] at hm; omega
              · rw [if_neg es] at hm
                obtain ⟨a, u, b1, b2⟩ := s7 s hs hm
                exact ⟨a, u, by rw [h119 _ es]; exact b1, b2⟩
          · -- lost
            obtain ⟨la, u, lb, lc⟩ := s7 t tl2 hm3
            have hu100 := lc.2.1
            have htk : t ≠ T k := fun e => by rw [e, t2] at hm3; omega
            have e0 : c_43_0 n (m' + 1) (nI (k + 1)) (nI i) I L = c_43_0 n m' (nI (k + 1)) (nI (i + 1)) (u2 (u2 I 118 k (nI (8 * pks (T k) + (c (T k) + 1)))) 119 (T k) (nI (if v < u then u else v))) L := hbody2 _ (by
              unfold c_43_1 c_43_2 c_43_3
              rw [hm3, if_pos (by decide), if_pos (show nI 3 = 3 from rfl), if_neg (by rw [ku_m, ku_on (by omega) (by omega)]; omega), e48 tl2, q_bs, ku_if tl2 (by omega), nI_clamp (by omega), hJ4 119 t (by decide), lb, nI_pred, e46 (c := c (T k) + 1) hk tl (by omega) u2_s (by rw [hJ4 119 _ (by decide)]; exact v1) hv100 hu100, q_bs, nI_1])
            have hJ2 : ∀ x i, x ≠ 118 → x ≠ 119 → u2 (u2 I 118 k (nI (8 * pks (T k) + (c (T k) + 1)))) 119 (T k) (nI (if v < u then u else v)) x i = I x i := fun x i a b => by rw [u2_c b, u2_c a]
            have h119 : ∀ s, s ≠ T k → u2 (u2 I 118 k (nI (8 * pks (T k) + (c (T k) + 1)))) 119 (T k) (nI (if v < u then u else v)) 119 s = I 119 s := fun s hs => by rw [u2_o hs, u2_c (by decide)]
            rw [e0]
            refine SRE_t (ih (k + 1) T (fun x => if x = T k then c (T k) + 1 else c x) _ L (i + 1) m' (KQ_fr hQ0 (fun x i hx => hJ2 x i (by omega) (by omega))) ⟨fun j hj => ?_, s2, s3, fun j hj => ?_, fun j hj => ?_, s6, fun s hs hm => ?_, s8⟩ (by omega) (by omega) (by omega)) (fun _ h => h) (fun x i a b => hJ2 x i a b) (fun _ _ _ => rfl)
            · obtain ⟨a1, a2, a3, a4⟩ := hrow j hj
              exact ⟨a1, a2, a3, by rw [u2_c (by decide)]; exact a4⟩
            · (try dsimp only)
              rw [if_neg (hTne j (by omega))]; exact s4 j hj
            · rcases (show j < k ∨ j = k by omega) with h6 | rfl
              · obtain ⟨x, u1, u2'⟩ := s5 j hj
                rw [if_pos (by omega)] at u2'
                (try dsimp only)
                rw [if_neg (hTne j h6), if_pos (show j + 1 < k + 1 by omega)]
                exact ⟨x, by rw [h119 _ (hTne j h6)]; exact u1, u2'⟩
              · (try dsimp only)
                rw [if_pos rfl, if_neg (show ¬ j + 1 < j + 1 by omega)]
                refine ⟨_, u2_s, ?_⟩
                have hy := MXS_y v2 hcc hnx (by rw [ht, Nat.add_sub_cancel]; exact la) (u := u) (by rw [ht, Nat.add_sub_cancel]; exact lc)
                exact hy
            · have hne : s ≠ T k := fun e => by rw [e, t2] at hm; omega
              obtain ⟨a, x, b1, b2⟩ := s7 s hs hm
              exact ⟨a, x, by rw [h119 _ hne]; exact b1, b2⟩
          · -- kept
            have hkeep : ∀ j, j < k + 1 → Kept H l set wt (T j) := by
              have hco := Kept_co (H := H) (l := l) (set := set) (wt := wt) (X := fun s => ∃ j, j < k + 1 ∧ T j = s) (fun s ⟨j, hj, e⟩ => by
                subst e
                rcases (show j < k ∨ j = k by omega) with h6 | rfl
                · obtain ⟨q1, q2⟩ := s4 j (by omega)
                  have q3 := (s1 j hj).2.2.1
                  exact ⟨c (T j) - 1, by omega, by rw [q2]; omega, Or.inl ⟨j + 1, by omega, by rw [q2]; rfl⟩⟩
                · refine ⟨c (T j), hcc, hnx, ?_⟩
                  rw [ht, Nat.add_sub_cancel]
                  rcases hm12 with hm1 | hm2
                  · exact Or.inl (s3 t tl2 hm1)
                  · exact Or.inr (s6 t tl2 hm2))
              exact fun j hj => hco (T j) ⟨j, hj, rfl⟩
            obtain ⟨L', f1, f2, f3, f4⟩ := e47 (n := n) (L := L) (h := k + 1) (T := T) (c := fun x => if x = T k then c (T k) + 1 else c x) (by omega) (fun j hj => ⟨hTl j hj, by have := (hrow j hj).2.2.1; omega, (hrow j hj).2.2.2⟩) (by omega)
            obtain ⟨m2, rfl⟩ : ∃ m2, m' = m2 + 1 := ⟨m' - 1, by
              have h1 := sma_one (F := phi L c) tl
              have h2 : phi L c (T k) = 5 - c (T k) := by unfold phi; (try dsimp only); rw [if_neg (by omega), if_pos t2]
              omega⟩
            have e0 : c_43_0 n (m2 + 1 + 1) (nI (k + 1)) (nI i) I L = some (u2 I 118 k (nI (8 * pks (T k) + (c (T k) + 1))), L') := hbody2 _ (by
              have hne0 : ¬ nI (mko L t) = 0 := by rw [ku_0, nI_eq (by omega) (by omega)]; omega
              have hne3 : ¬ nI (mko L t) = 3 := by rw [ku_3, nI_eq (by omega) (by omega)]; omega
              unfold c_43_1 c_43_2 c_43_3
              rw [if_pos hne0, if_neg hne3, f1, q_bs]
              show b_43_0 n (c_43_0 n m2) 0 (nI i + 1) _ L' = _
              unfold b_43_0
              rw [nI_1, if_neg (show ¬ (1000000 : Int32) ≤ nI (i + 1) from nI_ge (b := 1000000) (by omega) (by omega)), if_pos (by decide)])
            rw [e0]
            refine ⟨_, L', rfl, fun s hs => ?_, fun s hs => ?_, fun x i a _ => hJ4 x i a, f4⟩
            · by_cases hT : ∃ j, j < k + 1 ∧ T j = s
              · obtain ⟨j, hj, e⟩ := hT
                exact Or.inr (Or.inl ⟨f2 s ⟨j, hj, e⟩, by rw [← e]; exact hkeep j hj⟩)
              · have e := f3 s hT
                have := mko_lt L s
                rcases (show mko L s = 0 ∨ mko L s = 1 ∨ mko L s = 2 ∨ mko L s = 3 by omega) with h | h | h | h
                · exact Or.inl (e.trans h)
                · exact absurd (s3 s hs h) hT
                · exact Or.inr (Or.inl ⟨e.trans h, s6 s hs h⟩)
                · obtain ⟨a, u, b1, b2⟩ := s7 s hs h
                  exact Or.inr (Or.inr ⟨e.trans h, a, u, by rw [hJ4 119 _ (by decide)]; exact b1, b2⟩)
            · by_cases hT : ∃ j, j < k + 1 ∧ T j = s
              · rw [f2 s hT]; omega
              · rw [f3 s hT]; exact hs
      · -- no room is left: lost
        have hcR : c (T k) = H.1 4 := by omega
        rw [hcR] at v2
        obtain ⟨m1, m2⟩ := MXS_l v2
        have hmk : ∀ s, mko (mkS L (T k) 3) s = if s = T k then 3 else mko L s := fun s => mko_S (by omega) s
        have hphi2 : sma (phi (mkS L (T k) 3) c) 16384 + 1 ≤ sma (phi L c) 16384 := by
          have h := sma_upd (F := phi L c) (G := phi (mkS L (T k) 3) c) (j := T k) (fun x hx => by unfold phi; (try dsimp only); rw [hmk, if_neg hx]) tl
          have a1 : phi L c (T k) = 5 - c (T k) := by unfold phi; (try dsimp only); rw [if_neg (by omega), if_pos t2]
          have a2 : phi (mkS L (T k) 3) c (T k) = 0 := by unfold phi; (try dsimp only); rw [hmk, if_pos rfl, if_neg (by omega), if_neg (by omega)]
          omega
        have huk : sma (ukn (mkS L (T k) 3)) 16384 = sma (ukn L) 16384 := sma_cg (fun x _ => by
          unfold ukn
          rw [hmk]
          by_cases e : x = T k
          · rw [if_pos e, if_neg (by omega), e, if_neg (by omega)]
          · rw [if_neg e])
        have hvl : (if 100 < v + 1 then 100 else v + 1) ≤ 100 := by split <;> omega
        -- what stands behind it, of the parent
        have hgo : ∃ J, c_43_0 n (m' + 1) (nI (k + 1)) (nI i) I L = c_43_0 n m' (nI k) (nI (i + 1)) J (mkS L (T k) 3) ∧ (∀ x i, x ≠ 119 → J x i = I x i) ∧ J 119 (T k) = nI (if 100 < v + 1 then 100 else v + 1) ∧ (∀ s, s ≠ T k → (∀ j, j + 1 = k → s ≠ T j) → J 119 s = I 119 s) ∧ ∀ j, j + 1 = k → ∃ u, J 119 (T j) = nI u ∧ MXS H l set wt (T j) (c (T j)) u := by
          have hpre : ∀ r, (∀ q9, f_46 (nI k - 1) (nI (if 100 < v + 1 then 100 else v + 1)) (u2 I 119 (T k) (nI (if 100 < v + 1 then 100 else v + 1))) (mkS L (T k) 3) = some q9 → c_43_0 n m' (nI k) (nI (i + 1)) q9.1 q9.2 = r) → (∃ q9, f_46 (nI k - 1) (nI (if 100 < v + 1 then 100 else v + 1)) (u2 I 119 (T k) (nI (if 100 < v + 1 then 100 else v + 1))) (mkS L (T k) 3) = some q9) → c_43_0 n (m' + 1) (nI (k + 1)) (nI i) I L = r := fun r hr ⟨q9, hq⟩ => by
            show b_43_0 n (c_43_0 n m') (nI (k + 1)) (nI i) I L = _
            unfold b_43_0
            rw [if_neg (show ¬ (1000000 : Int32) ≤ nI i from nI_ge (b := 1000000) (by omega) (by omega)), if_neg (nI_nle (by omega) (by omega)), nI_pred, ku_if hk (by omega), nI_clamp (by omega), t4, c7m (by omega) (by omega), c4, if_neg (by rw [hcR]; exact nI_nlt (Nat.le_refl _) (by omega)), c3s (by omega) (by omega), e45 tl v1 hv100, q_bs]
            dsimp only
            rw [pk_m1, hq, q_bs]
            unfold c_43_3
            rw [nI_1]
            exact hr q9 hq
          cases k with
          | zero =>
            refine ⟨u2 I 119 (T 0) (nI (if 100 < v + 1 then 100 else v + 1)), hpre _ (fun q9 hq => ?_) ⟨_, e46n⟩, fun x i hx => u2_c hx, u2_s, fun s hs _ => u2_o hs, fun j hj => absurd hj (by omega)⟩
            rw [e46n] at hq
            rw [← Option.some.inj hq]
          | succ k =>
            obtain ⟨p1, p2, p3, p4⟩ := s1 k (by omega)
            obtain ⟨x, x1, x2⟩ := s5 k (by omega)
            rw [if_pos (by omega)] at x2
            obtain ⟨y1, y2⟩ := s4 k (by omega)
            have hx100 := x2.1
            have hne : T k ≠ T (k + 1) := hTne k (by omega)
            have hq : f_46 (nI (k + 1) - 1) (nI (if 100 < v + 1 then 100 else v + 1)) (u2 I 119 (T (k + 1)) (nI (if 100 < v + 1 then 100 else v + 1))) (mkS L (T (k + 1)) 3) = some (u2 (u2 I 119 (T (k + 1)) (nI (if 100 < v + 1 then 100 else v + 1))) 119 (T k) (nI (if x < (if 100 < v + 1 then 100 else v + 1) then (if 100 < v + 1 then 100 else v + 1) else x)), mkS L (T (k + 1)) 3) := by
              rw [nI_pred]
              exact e46 (c := c (T k)) (by omega) (hTl k (by omega)) (by omega) (by rw [u2_c (by decide)]; exact p4) (by rw [u2_o hne]; exact x1) hx100 hvl
            refine ⟨u2 (u2 I 119 (T (k + 1)) (nI (if 100 < v + 1 then 100 else v + 1))) 119 (T k) (nI (if x < (if 100 < v + 1 then 100 else v + 1) then (if 100 < v + 1 then 100 else v + 1) else x)), hpre _ (fun q9 hq9 => by rw [hq] at hq9; rw [← Option.some.inj hq9]) ⟨_, hq⟩, fun z i hz => by rw [u2_c hz, u2_c hz], by rw [u2_o (Ne.symm hne)]; exact u2_s, fun s hs hj => by rw [u2_o (hj k rfl), u2_o hs], fun j hj => ?_⟩
            have : j = k := by omega
            subst this
            refine ⟨_, u2_s, ?_⟩
            have hy := MXS_y x2 (by omega) (by rw [y2]; omega) (by rw [y2, Nat.add_sub_cancel]; exact m1) (u := if 100 < v + 1 then 100 else v + 1) (by rw [y2, Nat.add_sub_cancel]; exact m2)
            rwa [show c (T j) - 1 + 1 = c (T j) by omega] at hy
        obtain ⟨J, e0, j1, j2, j3, j4⟩ := hgo
        rw [e0]
        refine SRE_t (ih k T c J (mkS L (T k) 3) (i + 1) m' (KQ_fr hQ0 (fun x i hx => j1 x i (by omega))) ⟨fun j hj => ?_, fun a b ha hb hab => s2 a b (by omega) (by omega) hab, fun s hs hm => ?_, fun j hj => s4 j (by omega), fun j hj => ?_, fun s hs hm => ?_, fun s hs hm => ?_, by omega⟩ (by omega) (by omega) (by omega)) (fun s hs => by rw [hmk]; split <;> omega) (fun x i _ b => j1 x i b) (fun x i hx => by unfold mkS; rw [u2_c hx])
        · obtain ⟨a1, a2, a3, a4⟩ := s1 j (by omega)
          exact ⟨a1, by rw [hmk, if_neg (hTne j hj)]; exact a2, a3, by rw [j1 118 _ (by decide)]; exact a4⟩
        · rw [hmk] at hm
          by_cases es : s = T k
          · rw [if_pos es] at hm; omega
          · rw [if_neg es] at hm
            obtain ⟨j, hj, e⟩ := s3 s hs hm
            refine ⟨j, ?_, e⟩
            rcases (show j < k ∨ j = k by omega) with h6 | rfl
            · exact h6
            · exact absurd e.symm es
        · by_cases hj2 : j + 1 = k
          · rw [if_neg (by omega)]
            exact j4 j hj2
          · obtain ⟨x, x1, x2⟩ := s5 j (by omega)
            rw [if_pos (by omega)] at x2
            rw [if_pos (by omega)]
            refine ⟨x, ?_, x2⟩
            rw [j3 (T j) (hTne j hj) (fun q hq e => by have := s2 j q (by omega) (by omega) e; omega)]
            exact x1
        · rw [hmk] at hm
          by_cases es : s = T k
          · rw [if_pos es] at hm; omega
          · rw [if_neg es] at hm; exact s6 s hs hm
        · by_cases es : s = T k
          · subst es
            exact ⟨m1, _, j2, m2⟩
          · rw [hmk, if_neg es] at hm
            obtain ⟨a, u, b1, b2⟩ := s7 s hs hm
            refine ⟨a, u, ?_, b2⟩
            rw [j3 s es (fun q hq e => by
              have := (s1 q (by omega)).2.1
              rw [← e, hm] at this; omega)]
            exact b1
end LOOP
