/-! LAYER 3: the class takes its tokens -/
section TOK
variable {I : FI} {L : FL} {t : Nat → Int32} {N n p : Nat}
theorem e92 (x : Int32) : f_92 x I L = some (bI (48 ≤ x.toInt ∧ x.toInt ≤ 57)) := by
  have h4 : (48 : Int32).toInt = 48 := rfl
  have h5 : (57 : Int32).toInt = 57 := rfl
  unfold f_92
  simp only [fa_lt, h4, h5]
  by_cases h1 : x.toInt < 48
  · rw [if_pos h1, bI_n (by omega)]
  · rw [if_neg h1]
    by_cases h2 : (57 : Int) < x.toInt
    · rw [if_pos h2, bI_n (by omega)]
    · rw [if_neg h2, bI_p (by omega)]
theorem e93 (x : Int32) : f_93 x I L = some (bI (97 ≤ x.toInt ∧ x.toInt ≤ 122)) := by
  have h4 : (97 : Int32).toInt = 97 := rfl
  have h5 : (122 : Int32).toInt = 122 := rfl
  unfold f_93
  simp only [fa_lt, h4, h5]
  by_cases h1 : x.toInt < 97
  · rw [if_pos h1, bI_n (by omega)]
  · rw [if_neg h1]
    by_cases h2 : (122 : Int) < x.toInt
    · rw [if_pos h2, bI_n (by omega)]
    · rw [if_neg h2, bI_p (by omega)]
theorem e92t (ht : ∀ i, i < N → I 2 i = t i) (hp : p < N) : f_92 (I 2 p) I L = some (bI (ty t p = 2)) := by
  rw [e92, ht p hp]; exact congrArg some (bI_cong ty_d.symm)
theorem e93t (ht : ∀ i, i < N → I 2 i = t i) (hp : p < N) : f_93 (I 2 p) I L = some (bI (ty t p = 1)) := by
  rw [e93, ht p hp]; exact congrArg some (bI_cong ty_l.symm)
/-- behind a token -/
theorem e87l (ht : ∀ i, i < N → I 2 i = t i) (hN : N ≤ 500) (hd : ¬ (ty t p = 1 ∧ ty t p = 2)) : ∀ (m q : Nat), q ≤ N → N - q < m → c_87_0 n I L m (nI N) (bI (ty t p = 2)) (bI (ty t p = 1)) (nI q) = some (nI (if ty t p = 1 ∨ ty t p = 2 then ru t N (ty t p) q else q)) := by
  intro m
  induction m with
  | zero => intro q _ h; omega
  | succ m ih =>
    intro q hq hm
    show b_87_0 n I L (c_87_0 n I L m) (nI N) (bI (ty t p = 2)) (bI (ty t p = 1)) (nI q) = _
    unfold b_87_0
    by_cases e : q = N
    · rw [if_pos (nI_le (by omega) (by omega)), ru_no (fun z => by omega)]
      split <;> rfl
    · have hlt : q < N := by omega
      rw [if_neg (nI_ge hlt (by omega)), q_b1]
      have c2 : c_87_2 n I L (c_87_0 n I L m) (nI N) (bI (ty t p = 2)) (bI (ty t p = 1)) (nI q) = some (nI (if ty t p = 1 ∨ ty t p = 2 then ru t N (ty t p) (q + 1) else q + 1)) := by
        unfold c_87_2
        rw [nI_1]
        exact ih (q + 1) (by omega) (by omega)
      have c1 : ¬ (ty t p = 2 ∧ ty t q = 2) → c_87_1 n I L (c_87_0 n I L m) (nI N) (bI (ty t p = 2)) (bI (ty t p = 1)) (nI q) = some (nI (if ty t p = 1 ∨ ty t p = 2 then ru t N (ty t p) q else q)) := fun hn2 => by
        unfold c_87_1
        rw [q_b1]
        by_cases h1 : ty t p = 1
        · rw [if_pos h1, ku_if (by omega) (by omega), nI_clamp (by omega), e93t ht hlt, q_bs, q_b1, if_pos (Or.inl h1)]
          by_cases h3 : ty t q = 1
          · rw [if_pos h3, c2, if_pos (Or.inl h1), ru_st hlt (by rw [h1]; exact h3)]
          · rw [if_neg h3, ru_no (fun z => h3 (by rw [z.2]; exact h1))]
        · rw [if_neg h1]
          by_cases h2 : ty t p = 2
          · rw [if_pos (Or.inr h2), ru_no (fun z => hn2 ⟨h2, by rw [z.2]; exact h2⟩)]
          · rw [if_neg (fun z => z.elim h1 h2)]
      by_cases h2 : ty t p = 2
      · rw [if_pos h2, ku_if (by omega) (by omega), nI_clamp (by omega), e92t ht hlt, q_bs, q_b2]
        by_cases h3 : ty t q = 2
        · rw [if_pos h3, c2, if_pos (Or.inr h2), if_pos (Or.inr h2), ru_st hlt (by rw [h2]; exact h3)]
        · rw [if_neg h3]; exact c1 (fun z => h3 z.2)
      · rw [if_neg h2]; exact c1 (fun z => h2 z.1)
theorem e87 (ht : ∀ i, i < N → I 2 i = t i) (hN : N ≤ 500) (hp : p < N) (hn : 1000 ≤ n) : f_87 n (nI p) (nI N) I L = some (nI (bh t N p)) := by
  unfold f_87
  rw [ku_if (by omega) (by omega), nI_clamp (by omega), e92t ht hp, q_bs, ku_if (by omega) (by omega), e93t ht hp, q_bs, nI_1, e87l ht hN (fun z => by omega) n (p + 1) (by omega) (by omega)]
  unfold bh
  rw [if_pos hp]
theorem e88 (ht : ∀ i, i < N → I 2 i = t i) (hN : N ≤ 500) {e : Nat} (he : e ≤ N) (hpe : p ≤ e) (hd : ∀ i, p ≤ i → i < e → ty t i = 2) (hn : 1000 ≤ n) : f_88 n (nI p) (nI e) I L = some (nI (vl t p (e - p))) := by
  unfold f_88
  obtain ⟨s, hs, h⟩ := lpE (fun m k (s : Nat) => c_88_0 n I L m (nI e) (nI s) (nI (p + k))) (e - p) (fun k s => s = vl t p k) (fun s => some (nI s)) (fun m s hs => by
      show b_88_0 n I L (c_88_0 n I L m) (nI e) (nI s) (nI (p + (e - p))) = _
      unfold b_88_0
      rw [if_pos (nI_le (by omega) (by omega))]) (fun m k s hk hs => by
      have hdg := dgt_le (hd (p + k) (by omega) (by omega))
      have hv := vl_le (t := t) (p := p) k
      refine ⟨vl t p (k + 1), rfl, ?_⟩
      show b_88_0 n I L (c_88_0 n I L m) (nI e) (nI s) (nI (p + k)) = _
      unfold b_88_0
      rw [if_neg (nI_ge (by omega) (by omega)), ku_if (by omega) (by omega), nI_clamp (by omega), ht _ (by omega), hdg.2, hs, ku_10, pk_mul, nI_add, show (48 : Int32) = nI 48 from rfl, pk_sub (by omega), show vl t p k * 10 + (48 + dgt t (p + k)) - 48 = vl t p k * 10 + dgt t (p + k) by omega, nI_1]
      unfold f_359
      rw [show (1000000 : Int32) = nI 1000000 from rfl]
      show _ = c_88_0 n I L m (nI e) (nI (min 1000000 (vl t p k * 10 + dgt t (p + k)))) (nI (p + (k + 1)))
      by_cases h : vl t p k * 10 + dgt t (p + k) < 1000000
      · rw [if_pos (nI_lt h (by omega)), q_bs, Nat.min_eq_right (by omega)]; rfl
      · rw [if_neg (nI_nlt (by omega) (by omega)), q_bs, Nat.min_eq_left (by omega)]; rfl) n 0 0 (by omega) (by omega) rfl
  rw [hs] at h
  exact h
theorem plen_ok : ∀ j, j < 12 → 2 ≤ plen.getD j 0 ∧ plen.getD j 0 ≤ 7 := by decide
theorem e91 (ht : ∀ i, i < N → I 2 i = t i) (hN : N ≤ 500) {e k : Nat} (he : e ≤ N) (hpe : p ≤ e) (hk4 : 4 ≤ k) (hk : k ≤ 15) (hn : 1000 ≤ n) : f_91 n (k - 3) (nI p) (nI e) I L = some (bI (splB t p e k = true)) := by
  have hpl := plen_ok (k - 4) (by omega)
  have hsl : f_slen (k - 3) = some (nI (plen.getD (k - 4) 0)) := by
    unfold f_slen
    rw [if_pos (by omega), show k - 3 - 1 = k - 4 by omega]
  unfold f_91
  rw [hsl, q_bs, pk_sub hpe]
  by_cases hl : e - p = plen.getD (k - 4) 0
  · rw [if_pos (by rw [hl])]
    rcases lpG (fun m i (_ : Unit) => c_91_0 n I L m (k - 3) (nI p) (nI i)) (plen.getD (k - 4) 0) (fun i _ => ∀ j, j < i → t (p + j) = (pbyt.getD (k - 4) []).getD j 0) (fun _ => some 1) (fun r => r = some 0 ∧ ¬ splB t p e k = true) (fun m _ hs => by
        show b_91_0 n I L (c_91_0 n I L m) (k - 3) (nI p) (nI (plen.getD (k - 4) 0)) = _
        unfold b_91_0
        rw [hsl, q_bs, if_pos (nI_le (Nat.le_refl _) (by omega))]) (fun m i _ hi hs => by
        have hsc : f_schr (k - 3) (nI i) = some ((pbyt.getD (k - 4) []).getD i 0) := by
          unfold f_schr
          rw [show k - 3 - 1 = k - 4 by omega, if_pos ⟨by omega, (ku_pin (by omega)).mpr hi⟩, nI_clamp (by omega)]
        have hst : c_91_0 n I L (m + 1) (k - 3) (nI p) (nI i) = if t (p + i) = (pbyt.getD (k - 4) []).getD i 0 then c_91_0 n I L m (k - 3) (nI p) (nI (i + 1)) else some 0 := by
          show b_91_0 n I L (c_91_0 n I L m) (k - 3) (nI p) (nI i) = _
          unfold b_91_0
          rw [hsl, q_bs, if_neg (nI_ge hi (by omega)), nI_add, ku_if (by omega) (by omega), hsc, q_bs, nI_clamp (by omega), ht _ (by omega), nI_1]
        by_cases h : t (p + i) = (pbyt.getD (k - 4) []).getD i 0
        · right
          refine ⟨(), fun j hj => ?_, by (try dsimp only); rw [hst, if_pos h]⟩
          rcases (show j < i ∨ j = i by omega) with a | a
          · exact hs j a
          · rw [a]; exact h
        · left
          refine ⟨by (try dsimp only); rw [hst, if_neg h], fun q => h ?_⟩
          unfold splB at q
          simp only [Bool.and_eq_true, List.all_eq_true, List.mem_range, beq_iff_eq] at q
          exact q.2 i hi) n 0 () (by omega) (by omega) (fun j hj => absurd hj (by omega)) with ⟨h1, h2⟩ | ⟨_, h1, h2⟩
    · rw [bI_n h2]; exact h1
    · have : splB t p e k = true := by
        unfold splB
        simp only [Bool.and_eq_true, List.all_eq_true, List.mem_range, beq_iff_eq, decide_eq_true_eq]
        exact ⟨hl, h1⟩
      rw [bI_p this]; exact h2
  · rw [if_neg (by rw [nI_eq (by omega) (by omega)]; exact fun q => hl q.symm), bI_n (fun q => by
      unfold splB at q
      simp only [Bool.and_eq_true, decide_eq_true_eq] at q
      exact hl q.1)]
theorem e90 {k : Nat} (h4 : 4 ≤ k) (h : k ≤ 15) : f_90 (nI k) I L = some (k - 3) := by
  rcases (show k = 4 ∨ k = 5 ∨ k = 6 ∨ k = 7 ∨ k = 8 ∨ k = 9 ∨ k = 10 ∨ k = 11 ∨ k = 12 ∨ k = 13 ∨ k = 14 ∨ k = 15 by omega) with rfl | rfl | rfl | rfl | rfl | rfl | rfl | rfl | rfl | rfl | rfl | rfl <;> rfl
/-- what a token is -/
theorem e89 (ht : ∀ i, i < N → I 2 i = t i) (hN : N ≤ 500) (hp : p < N) (hn : 1000 ≤ n) : f_89 n (nI p) (nI (bh t N p)) I L = some (nI (tk t N p)) := by
  have hb := bh_gt (t := t) hp
  unfold f_89 tk
  rw [if_pos hp, ku_if (by omega) (by omega), nI_clamp (by omega), e92t ht hp, q_bs, q_b1]
  by_cases h2 : ty t p = 2
  · rw [if_pos h2, if_pos h2]; rfl
  · rw [if_neg h2, if_neg h2, ku_if (by omega) (by omega), ht p hp]
    have h59 : t p = 59 ↔ ty t p = 3 := by rw [ty_s, fa_eq]; rfl
    by_cases h3 : ty t p = 3
    · rw [if_neg (fun q => q (h59.mpr h3)), if_pos h3]; rfl
    · rw [if_pos (fun q => h3 (h59.mp q)), if_neg h3]
      rcases lpG (fun m i (_ : Unit) => c_89_0 n I L m (nI p) (nI (bh t N p)) (nI (i + 4))) 12 (fun i _ => fnd (fun i => splB t p (bh t N p) (i + 4)) i = 0) (fun _ => some (nI 1)) (fun r => ∃ i, i < 12 ∧ fnd (fun i => splB t p (bh t N p) (i + 4)) 12 = i + 1 ∧ r = some (nI (i + 4))) (fun m _ hs => by
          show b_89_0 n I L (c_89_0 n I L m) (nI p) (nI (bh t N p)) (nI (12 + 4)) = _
          unfold b_89_0
          rw [if_pos (by decide)]; rfl) (fun m i _ hi hs => by
          have hst : c_89_0 n I L (m + 1) (nI p) (nI (bh t N p)) (nI (i + 4)) = if splB t p (bh t N p) (i + 4) = true then some (nI (i + 4)) else c_89_0 n I L m (nI p) (nI (bh t N p)) (nI (i + 4 + 1)) := by
            show b_89_0 n I L (c_89_0 n I L m) (nI p) (nI (bh t N p)) (nI (i + 4)) = _
            unfold b_89_0
            rw [ku_15, if_neg (nI_nlt (by omega) (by omega)), e90 (by omega) (by omega), q_bs, e91 ht hN hb.2 (by omega) (by omega) (by omega) hn, q_bs, q_b1, nI_1]
          cases hsp : splB t p (bh t N p) (i + 4) with
          | true =>
            left
            rw [hsp, if_pos rfl] at hst
            exact ⟨i, hi, by rw [fnd_mono (n := i + 1) (by rw [fnd_p hs hsp]; omega) (by omega), fnd_p hs hsp], hst⟩
          | false =>
            right
            rw [hsp, if_neg (by decide)] at hst
            exact ⟨(), fnd_n hs hsp, by rw [show i + 1 + 4 = i + 4 + 1 by omega]; exact hst⟩) n 0 () (by omega) (by omega) rfl with ⟨i, h4, h5, h6⟩ | ⟨_, h4, h5⟩
      · unfold kdw
        rw [h5, if_neg (by omega)]
        exact h6
      · unfold kdw
        rw [h4, if_pos rfl]
        exact h5
theorem nar_y : ∀ k, k < 16 → vp_nar .byte (nI k).toInt8.toInt32 = nI k := by decide +kernel
def ARR (t : Nat → Int32) (N J : Nat) (I : FI) : Prop := J ≤ N ∧ tP t N J = N ∧ ∀ i, i ≤ J → I 24 i = nI (tP t N i) ∧ I 23 i = nI (tk t N (tP t N i)) ∧ I 25 i = nI (va t N (tP t N i))
/-- all tokens -/
theorem e86 (ht : ∀ i, i < N → I 2 i = t i) (hN : N ≤ 500) (hn : 1000 ≤ n) : ∃ J A, f_86 n (nI N) I L = some (A, L) ∧ ARR t N J A ∧ ∀ c i, c ≠ 23 → c ≠ 24 → c ≠ 25 → A c i = I c i := by
  have key : ∀ (m i q j : Nat) (s : FI), 500 - i < m → i ≤ q → i ≤ 500 → q ≤ N → j ≤ q → ru t N 0 q = tP t N j → (∀ k, k < j → s 24 k = nI (tP t N k) ∧ s 23 k = nI (tk t N (tP t N k)) ∧ s 25 k = nI (va t N (tP t N k))) → (∀ c i, c ≠ 23 → c ≠ 24 → c ≠ 25 → s c i = I c i) → ∃ J A, c_86_0 n m (nI N) (nI j) (nI q) (nI i) s L = some (A, L) ∧ ARR t N J A ∧ ∀ c i, c ≠ 23 → c ≠ 24 → c ≠ 25 → A c i = I c i := by
    intro m
    induction m with
    | zero => intro i q j s h; omega
    | succ m ih =>
      intro i q j s hm hiq hi hq hj hr hs hf
      have hts : ∀ k, k < N → s 2 k = t k := fun k hk => by rw [hf 2 k (by decide) (by decide) (by decide)]; exact ht k hk
      show ∃ J A, b_86_0 n (c_86_0 n m) (nI N) (nI j) (nI q) (nI i) s L = some (A, L) ∧ _
      by_cases hqN : q = N
      · subst hqN
        have hP : tP t q j = q := by rw [← hr, ru_no (fun z => by omega)]
        have hend : ∃ J A, c_86_1 n (nI q) (nI j) s L = some (A, L) ∧ ARR t q J A ∧ ∀ c i, c ≠ 23 → c ≠ 24 → c ≠ 25 → A c i = I c i := by
          unfold c_86_1
          rw [ku_if (show j < 501 by omega) (by omega), ku_if (show j < 501 by omega) (by omega), ku_if (show j < 501 by omega) (by omega), nI_clamp (by omega)]
          refine ⟨j, _, rfl, ⟨hj, hP, fun k hk => ?_⟩, fun c i a b c' => by rw [u2_c c', u2_c a, u2_c b]; exact hf c i a b c'⟩
          by_cases e : k = j
          · subst e
            have h0 : tk t q (tP t q k) = 0 := tk_0.mpr (by omega)
            refine ⟨by rw [u2_c (by decide), u2_c (by decide), u2_s, hP], by rw [u2_c (by decide), u2_s, h0]; decide +kernel, ?_⟩
            rw [u2_s]
            unfold va
            rw [h0, if_neg (by decide)]; rfl
          · have := hs k (by omega)
            exact ⟨by rw [u2_c (by decide), u2_c (by decide), u2_o e]; exact this.1, by rw [u2_c (by decide), u2_o e, u2_c (by decide)]; exact this.2.1, by rw [u2_o e, u2_c (by decide), u2_c (by decide)]; exact this.2.2⟩
        unfold b_86_0
        by_cases h5 : i = 500
        · rw [if_pos (by rw [h5]; decide)]; exact hend
        · rw [show (500 : Int32) = nI 500 from rfl, if_neg (nI_ge (by omega) (by omega)), if_pos (nI_le (Nat.le_refl _) (by omega))]; exact hend
      · have hlt : q < N := by omega
        have hb := bh_gt (t := t) hlt
        unfold b_86_0
        rw [show (500 : Int32) = nI 500 from rfl, if_neg (nI_ge (by omega) (by omega)), if_neg (nI_ge hlt (by omega)), ku_if (by omega) (by omega), e87 hts hN hlt hn, q_bs, nI_clamp (by omega), hts q hlt]
        by_cases hw : ty t q = 0
        · have hbq : bh t N q = q + 1 := by unfold bh; rw [if_pos hlt, if_neg (by omega)]
          have hgo : ∃ J A, c_86_2 n (c_86_0 n m) (nI N) (nI j) (nI i) (nI (bh t N q)) s L = some (A, L) ∧ ARR t N J A ∧ ∀ c i, c ≠ 23 → c ≠ 24 → c ≠ 25 → A c i = I c i := by
            unfold c_86_2
            rw [nI_1, hbq]
            exact ih (i + 1) (q + 1) j s (by omega) (by omega) (by omega) (by omega) (by omega) (by rw [← ru_st hlt hw]; exact hr) hs hf
          rcases ty_w.mp hw with h | h
          · rw [if_pos (by rw [fa_eq]; exact h)]; exact hgo
          · rw [if_neg (by rw [fa_eq, h]; decide), if_pos (by rw [fa_eq]; exact h)]; exact hgo
        · have hnw : ¬ ((t q).toInt = 32 ∨ (t q).toInt = 10) := fun z => hw (ty_w.mpr z)
          have hP : tP t N j = q := by rw [← hr, ru_no (fun z => hw z.2)]
          have hP1 : tP t N (j + 1) = nx t N q := by show nx t N (tP t N j) = _; rw [hP]
          have hk15 := tk_le (t := t) (n := N) (p := q)
          rw [if_neg (by rw [fa_eq]; exact fun z => hnw (Or.inl z)), if_neg (by rw [fa_eq]; exact fun z => hnw (Or.inr z)), ku_if (show j < 501 by omega) (by omega), nI_clamp (show j < 2 ^ 31 by omega), e89 (t := t) (I := u2 s 24 j (nI q)) (fun k hk => by rw [u2_c (by decide)]; exact hts k hk) hN hlt hn, q_bs, ku_if (show j < 501 by omega) (by omega), ku_if (show j < 501 by omega) (by omega), nar_y _ (by omega), u2_s]
          have fin : ∀ v, v = va t N q → ∃ J A, c_86_3 n (c_86_0 n m) (nI N) (nI j) (nI i) (nI (bh t N q)) (nI v) (nI j) (u2 (u2 s 24 j (nI q)) 23 j (nI (tk t N q))) L = some (A, L) ∧ ARR t N J A ∧ ∀ c i, c ≠ 23 → c ≠ 24 → c ≠ 25 → A c i = I c i := fun v hv => by
            unfold c_86_3 c_86_2
            rw [ku_if (show j < 501 by omega) (by omega), nI_clamp (by omega), nI_1, nI_1]
            refine ih (i + 1) (bh t N q) (j + 1) _ (by omega) (by omega) (by omega) hb.2 (by omega) (by rw [hP1]; rfl) (fun k hk => ?_) (fun c i a b c' => by rw [u2_c c', u2_c a, u2_c b]; exact hf c i a b c')
            by_cases e : k = j
            · subst e
              rw [hP]
              exact ⟨by rw [u2_c (by decide), u2_c (by decide), u2_s], by rw [u2_c (by decide), u2_s], by rw [u2_s, hv]⟩
            · have := hs k (by omega)
              exact ⟨by rw [u2_c (by decide), u2_c (by decide), u2_o e]; exact this.1, by rw [u2_c (by decide), u2_o e, u2_c (by decide)]; exact this.2.1, by rw [u2_o e, u2_c (by decide), u2_c (by decide)]; exact this.2.2⟩
          by_cases h2 : tk t N q = 2
          · have hq2 := tk_2.mp h2
            rw [if_neg (fun z => z (by rw [h2]; rfl)), e88 (t := t) (I := u2 (u2 s 24 j (nI q)) 23 j (nI (tk t N q))) (fun k hk => by rw [u2_c (by decide), u2_c (by decide)]; exact hts k hk) hN hb.2 (by omega) (fun k a b => by
              by_cases e : k = q
              · rw [e]; exact hq2.2
              · have hbe : bh t N q = ru t N 2 (q + 1) := by unfold bh; rw [if_pos hlt, if_pos (Or.inr hq2.2), hq2.2]
                rw [hbe] at b
                exact ru_in (by omega) (by omega) b) hn, q_bs]
            exact fin _ (by unfold va; rw [if_pos h2])
          · rw [if_pos (by rw [ku_2, nI_eq (by omega) (by omega)]; exact h2)]
            exact fin 0 (by unfold va; rw [if_neg h2])
  unfold f_86
  obtain ⟨J, A, h⟩ := key n 0 0 0 I (by omega) (by omega) (by omega) (by omega) (by omega) rfl (fun k hk => absurd hk (by omega)) (fun _ _ _ _ _ => rfl)
  exact ⟨J, A, h⟩
end TOK
