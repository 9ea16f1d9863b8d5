/-! LAYER 3: the model's tokens -/
def wcf (a : Nat → Nat) : Nat → Nat
  | 0 => 0
  | k + 1 => 27 * wcf a k + a k
theorem wcf_cg {a b : Nat → Nat} : ∀ {k : Nat}, (∀ i, i < k → a i = b i) → wcf a k = wcf b k
  | 0, _ => rfl
  | k + 1, h => by
    show 27 * wcf a k + a k = 27 * wcf b k + b k
    rw [wcf_cg (fun i hi => h i (by omega)), h k (by omega)]
theorem wcf_inj {a b : Nat → Nat} : ∀ {n m : Nat}, (∀ i, i < n → 1 ≤ a i ∧ a i ≤ 26) → (∀ i, i < m → 1 ≤ b i ∧ b i ≤ 26) → wcf a n = wcf b m → n = m ∧ ∀ i, i < n → a i = b i
  | 0, 0, _, _, _ => ⟨rfl, fun i hi => by omega⟩
  | 0, m + 1, _, hb, h => by
    have h' : 0 = 27 * wcf b m + b m := h
    have := hb m (by omega)
    omega
  | n + 1, 0, ha, _, h => by
    have h' : 27 * wcf a n + a n = 0 := h
    have := ha n (by omega)
    omega
  | n + 1, m + 1, ha, hb, h => by
    have h' : 27 * wcf a n + a n = 27 * wcf b m + b m := h
    have h1 := ha n (by omega)
    have h2 := hb m (by omega)
    obtain ⟨e1, e2⟩ := wcf_inj (n := n) (m := m) (fun i hi => ha i (by omega)) (fun i hi => hb i (by omega)) (by omega)
    subst e1
    refine ⟨rfl, fun i hi => ?_⟩
    by_cases e : i = n
    · rw [e]; omega
    · exact e2 i (by omega)
theorem wcf_lt {a : Nat → Nat} : ∀ {k : Nat}, (∀ i, i < k → a i ≤ 26) → wcf a k < 27 ^ k
  | 0, _ => by show 0 < 1; omega
  | k + 1, h => by
    have h1 := wcf_lt (fun i hi => h i (by omega) : ∀ i, i < k → a i ≤ 26)
    have h2 := h k (by omega)
    show 27 * wcf a k + a k < 27 ^ (k + 1)
    rw [Nat.pow_succ]; omega
def cdw : List Nat := [4562600, 8798, 298288, 5173474771, 365647, 453701, 12532058, 16819, 8662680450, 257, 47, 9876874]
def wdg (j i : Nat) : Nat := (((pbyt.getD j []).getD i 0).toInt - 96).toNat
def ltt (t : Nat → Int32) (p i : Nat) : Nat := ((t (p + i)).toInt - 96).toNat
theorem cdw_ok : ∀ j, j < 12 → wcf (wdg j) (plen.getD j 0) = cdw.getD j 0 ∧ cdw.getD j 0 < 2 ^ 62 := by decide +kernel
theorem wdg_ok : ∀ j, j < 12 → ∀ i, i < 8 → i < plen.getD j 0 → 97 ≤ ((pbyt.getD j []).getD i 0).toInt ∧ ((pbyt.getD j []).getD i 0).toInt ≤ 122 := by decide +kernel
theorem cdw_ne : ∀ j, j < 12 → ∀ i, i < 12 → cdw.getD j 0 = cdw.getD i 0 → j = i := by decide +kernel
section MTK
variable {I : FI} {L : FL} {t : Nat → Int32} {N n p : Nat}
/-- a word spelt, a word's number -/
theorem spl_c {e k : Nat} (h4 : 4 ≤ k) (h15 : k ≤ 15) (hpe : p ≤ e) (hl : ∀ i, p ≤ i → i < e → ty t i = 1) : splB t p e k = true ↔ wcf (ltt t p) (e - p) = cdw.getD (k - 4) 0 := by
  have hpl := plen_ok (k - 4) (by omega)
  have hcd := (cdw_ok (k - 4) (by omega)).1
  have hlt : ∀ i, i < e - p → 97 ≤ (t (p + i)).toInt ∧ (t (p + i)).toInt ≤ 122 := fun i hi => ty_l.mp (hl (p + i) (by omega) (by omega))
  have hw := wdg_ok (k - 4) (by omega)
  unfold splB
  simp only [Bool.and_eq_true, List.all_eq_true, List.mem_range, beq_iff_eq, decide_eq_true_eq]
  constructor
  · rintro ⟨h1, h2⟩
    rw [h1, ← hcd]
    refine wcf_cg (fun i hi => ?_)
    unfold ltt wdg
    rw [h2 i hi]
  · intro h
    rw [← hcd] at h
    obtain ⟨e1, e2⟩ := wcf_inj (n := e - p) (m := plen.getD (k - 4) 0) (fun i hi => by have := hlt i hi; unfold ltt; omega) (fun i hi => by have := hw i (by omega) hi; unfold wdg; omega) h
    refine ⟨e1, fun i hi => ?_⟩
    have h1 := hlt i (by omega)
    have h2 := hw i (by omega) hi
    have h3 := e2 i (by omega)
    unfold ltt wdg at h3
    rw [fa_eq]; omega
theorem kdw_k {e k : Nat} (h4 : 4 ≤ k) (h15 : k ≤ 15) (hpe : p ≤ e) (hl : ∀ i, p ≤ i → i < e → ty t i = 1) : kdw t p e = k ↔ wcf (ltt t p) (e - p) = cdw.getD (k - 4) 0 := by
  constructor
  · intro h
    rcases kdw_c (t := t) (p := p) (e := e) with q | ⟨k', a1, a2, a3, a4⟩
    · omega
    · have : k' = k := by omega
      subst this
      exact (spl_c h4 h15 hpe hl).mp a4
  · intro h
    have hs := (spl_c h4 h15 hpe hl).mpr h
    rcases kdw_c (t := t) (p := p) (e := e) with q | ⟨k', a1, a2, a3, a4⟩
    · exfalso
      unfold kdw at q
      by_cases z : fnd (fun i => splB t p e (i + 4)) 12 = 0
      · have := fnd_0.mp z (k - 4) (by omega)
        (try dsimp only at this)
        rw [show k - 4 + 4 = k by omega, hs] at this
        exact absurd this (by decide)
      · rw [if_neg z] at q; omega
    · have h2 := (spl_c a1 a2 hpe hl).mp a4
      have := cdw_ne (k' - 4) (by omega) (k - 4) (by omega) (by rw [← h2, ← h])
      omega
/-- what the model holds of a token at p -/
def mtk (t : Nat → Int32) (N p : Nat) : Nat := if p < N then (if ty t p = 1 then 1 else if ty t p = 2 then 2 else if ty t p = 3 then 3 else 4) else 0
def vlm (t : Nat → Int32) (p : Nat) : Nat → Nat
  | 0 => 0
  | k + 1 => if 100000 < vlm t p k then 1000000 else 10 * vlm t p k + dgt t (p + k)
def wdv (t : Nat → Int32) (p k : Nat) : Int64 := if k ≤ 12 then lN (wcf (ltt t p) k) else -1
def MT (t : Nat → Int32) (N : Nat) (I : FI) (L : FL) (p : Nat) : Prop := I 89 9 = nI p ∧ I 89 7 = nI (bh t N p) ∧ I 89 8 = nI (mtk t N p) ∧ I 89 10 = nI (if p < N ∧ ty t p = 2 then vlm t p (bh t N p - p) else 0) ∧ L 89 11 = (if p < N ∧ ty t p = 1 then wdv t p (bh t N p - p) else 0)
theorem vlm_e : ∀ k, (∀ i, i < k → dgt t (p + i) ≤ 9) → vlm t p k ≤ 1000009 ∧ (vl t p k = vlm t p k ∨ (1000000 ≤ vl t p k ∧ 1000000 ≤ vlm t p k))
  | 0, _ => ⟨by show 0 ≤ 1000009; omega, Or.inl rfl⟩
  | k + 1, h => by
    obtain ⟨h1, h2⟩ := vlm_e k (fun i hi => h i (by omega))
    have h3 := h k (by omega)
    show (if 100000 < vlm t p k then 1000000 else 10 * vlm t p k + dgt t (p + k)) ≤ 1000009 ∧ (min 1000000 (vl t p k * 10 + dgt t (p + k)) = (if 100000 < vlm t p k then 1000000 else 10 * vlm t p k + dgt t (p + k)) ∨ _)
    by_cases c : 100000 < vlm t p k
    · rw [if_pos c]
      exact ⟨by omega, Or.inl (by omega)⟩
    · rw [if_neg c]
      refine ⟨by omega, ?_⟩
      rcases h2 with h2 | h2
      · rw [h2]
        by_cases d : 10 * vlm t p k + dgt t (p + k) ≤ 1000000
        · exact Or.inl (by omega)
        · refine Or.inr ⟨by show 1000000 ≤ min 1000000 (vl t p k * 10 + dgt t (p + k)); omega, ?_⟩
          show 1000000 ≤ (if 100000 < vlm t p k then 1000000 else 10 * vlm t p k + dgt t (p + k))
          rw [if_neg c]; omega
      · omega
/-- the text as the model holds it -/
def MX (t : Nat → Int32) (N : Nat) (I : FI) : Prop := N ≤ 500 ∧ I 89 6 = nI N ∧ ∀ i, i < N → I 94 i = t i
theorem MX_fr {K : FI} (h : MX t N I) (e1 : K 89 6 = I 89 6) (e2 : ∀ i, K 94 i = I 94 i) : MX t N K := ⟨h.1, by rw [e1]; exact h.2.1, fun i hi => by rw [e2]; exact h.2.2 i hi⟩
theorem e210 (hX : MX t N I) {q : Nat} (hq : q ≤ N) (x y : Int32) : f_210 (nI q) x y I L = some (bI (q < N ∧ x.toInt ≤ (t q).toInt ∧ (t q).toInt ≤ y.toInt)) := by
  obtain ⟨h0, h1, h2⟩ := hX
  unfold f_210
  rw [h1]
  by_cases e : q = N
  · rw [if_pos (nI_le (by omega) (by omega)), bI_n (fun z => by omega)]
  · have hlt : q < N := by omega
    rw [if_neg (nI_ge hlt (by omega)), ku_if (by omega) (by omega), ku_if (by omega) (by omega), nI_clamp (by omega), h2 q hlt]
    by_cases c : t q < x
    · rw [if_pos c, bI_n (fun z => by rw [fa_lt] at c; omega)]
    · rw [if_neg c]
      by_cases d : y < t q
      · rw [if_pos d, bI_n (fun z => by rw [fa_lt] at d; omega)]
      · rw [if_neg d, bI_p (by rw [fa_lt] at c d; omega)]
theorem e210l (hX : MX t N I) {q : Nat} (hq : q ≤ N) : f_210 (nI q) 97 122 I L = some (bI (q < N ∧ ty t q = 1)) := by
  rw [e210 hX hq]; exact congrArg some (bI_cong ⟨fun z => ⟨z.1, ty_l.mpr z.2⟩, fun z => ⟨z.1, ty_l.mp z.2⟩⟩)
theorem e210d (hX : MX t N I) {q : Nat} (hq : q ≤ N) : f_210 (nI q) 48 57 I L = some (bI (q < N ∧ ty t q = 2)) := by
  rw [e210 hX hq]; exact congrArg some (bI_cong ⟨fun z => ⟨z.1, ty_d.mpr z.2⟩, fun z => ⟨z.1, ty_d.mp z.2⟩⟩)
def FM (I K : FI) (L M : FL) : Prop := (∀ c i, (c ≠ 89 ∨ (i < 7 ∨ 10 < i)) → K c i = I c i) ∧ ∀ c i, (c ≠ 89 ∨ i ≠ 11) → M c i = L c i
theorem FM_t {I K R : FI} {L M S : FL} (h1 : FM I K L M) (h2 : FM K R M S) : FM I R L S := ⟨fun c i h => (h2.1 c i h).trans (h1.1 c i h), fun c i h => (h2.2 c i h).trans (h1.2 c i h)⟩
theorem FM_X {K : FI} {M : FL} (h : MX t N I) (e : FM I K L M) : MX t N K := MX_fr h (e.1 89 6 (by omega)) (fun i => e.1 94 i (by omega))
theorem FM_u {i : Nat} {v : Int32} (h1 : 7 ≤ i) (h2 : i ≤ 10) : FM I (u2 I 89 i v) L L := ⟨fun c j h => by
    by_cases e : c = 89
    · subst e; rw [u2_o (by omega)]
    · rw [u2_c e], fun _ _ _ => rfl⟩
theorem FM_l {v : Int64} : FM I I L (u2 L 89 11 v) := ⟨fun _ _ _ => rfl, fun c j h => by
    by_cases e : c = 89
    · subst e; rw [u2_o (by omega)]
    · rw [u2_c e]⟩
theorem ltt_b {i : Nat} (h : ty t (p + i) = 1) : 1 ≤ ltt t p i ∧ ltt t p i ≤ 26 ∧ t (p + i) = nI (96 + ltt t p i) := by
  have h1 := ty_l.mp h
  unfold ltt
  refine ⟨by omega, by omega, ?_⟩
  rw [fa_eq, nI_toInt (by omega)]; omega
/-- a word -/
theorem e211w (hX : MX t N I) (hp : p < N) (h1 : ty t p = 1) (h7 : I 89 7 = nI p) (hL : L 89 11 = 0) (hn : 1000 ≤ n) : ∃ A B, c_211_5 n n 0 I L = some (A, B) ∧ A 89 7 = nI (bh t N p) ∧ B 89 11 = wdv t p (bh t N p - p) ∧ FM I A L B ∧ ∀ i, i ≠ 7 → A 89 i = I 89 i := by
  have hbe : bh t N p = ru t N 1 p := by unfold bh; rw [if_pos hp, if_pos (Or.inl h1), h1, ru_st hp h1]
  have hge := ru_ge (t := t) (c := 1) (show p ≤ N by omega)
  have hle := ru_le (t := t) (c := 1) (show p ≤ N by omega)
  have hN := hX.1
  rw [hbe]
  refine lpEk (fun m k (s : FI × FL) => c_211_5 n m (nI k) s.1 s.2) (ru t N 1 p - p) (fun k s => s.1 89 7 = nI (p + k) ∧ s.2 89 11 = wdv t p k ∧ FM I s.1 L s.2 ∧ ∀ i, i ≠ 7 → s.1 89 i = I 89 i) (fun s => some (s.1, s.2)) n 0 (I, L) (by omega) (by omega) ⟨h7, by show L 89 11 = _; rw [hL]; rfl, ⟨fun _ _ _ => rfl, fun _ _ _ => rfl⟩, fun _ _ => rfl⟩ (fun s hs e => ?_) (fun m s hs => ?_) (fun m k s hk hs => ?_)
  · obtain ⟨a1, a2, a3, a4⟩ := hs
    exact ⟨s.1, s.2, e, by rw [a1, show p + (ru t N 1 p - p) = ru t N 1 p by omega], a2, a3, a4⟩
  · obtain ⟨a1, a2, a3, a4⟩ := hs
    have hXs := FM_X hX a3
    show b_211_5 n (c_211_5 n m) (nI (ru t N 1 p - p)) s.1 s.2 = _
    unfold b_211_5
    rw [a1, show p + (ru t N 1 p - p) = ru t N 1 p by omega, e210l hXs hle, q_bs, q_b1, if_neg (fun z => ru_en (by omega) z.1 z.2)]
  · obtain ⟨a1, a2, a3, a4⟩ := hs
    have hXs := FM_X hX a3
    have hty : ty t (p + k) = 1 := ru_in (show p ≤ N by omega) (by omega) (by omega)
    obtain ⟨d1, d2, d3⟩ := ltt_b hty
    have hby : s.1 94 (p + k) = t (p + k) := hXs.2.2 _ (by omega)
    refine ⟨(u2 s.1 89 7 (nI (p + (k + 1))), u2 s.2 89 11 (wdv t p (k + 1))), ⟨(by dsimp only; exact u2_s), (by dsimp only; exact u2_s), FM_t (FM_t a3 (FM_u (by omega) (by omega))) FM_l, fun i hi => by show u2 s.1 89 7 _ 89 i = _; rw [u2_o hi]; exact a4 i hi⟩, ?_⟩
    show b_211_5 n (c_211_5 n m) (nI k) s.1 s.2 = _
    unfold b_211_5
    rw [a1, e210l hXs (by omega), q_bs, q_b1, if_pos ⟨by omega, hty⟩, show (11 : Int32) = nI 11 from rfl, ku_if (by omega) (by omega), nI_clamp (by omega), hby, a2]
    unfold c_211_6 c_211_7
    rw [show (11 : Int32) = nI 11 from rfl, a1, nI_1, nI_1]
    by_cases hk11 : k ≤ 11
    · rw [if_pos (nI_le hk11 (by omega)), if_pos (nI_le hk11 (by omega))]
      have : (27 : Int64) * wdv t p k + (t (p + k)).toInt64 - 96 = wdv t p (k + 1) := by
        unfold wdv
        rw [if_pos (by omega), if_pos (by omega), d3, nI_l (by omega), show (27 : Int64) = lN 27 from rfl, lN_mul, lN_add, show (96 : Int64) = lN 96 from rfl, lN_sub (by omega)]
        congr 1
        show 27 * wcf (ltt t p) k + (96 + ltt t p k) - 96 = 27 * wcf (ltt t p) k + ltt t p k
        omega
      rw [this]; rfl
    · rw [if_neg (nI_ge (by omega) (by omega)), if_neg (nI_ge (by omega) (by omega))]
      have e1 : u2 (u2 s.2 89 11 (-1)) 89 11 (-1) = u2 s.2 89 11 (wdv t p (k + 1)) := by
        funext c i
        have : wdv t p (k + 1) = -1 := by unfold wdv; rw [if_neg (by omega)]
        rw [this]
        by_cases z : c = 89
        · subst z
          by_cases y : i = 11
          · subst y; rw [u2_s, u2_s]
          · rw [u2_o y, u2_o y]
        · rw [u2_c z, u2_c z]
      rw [e1]; rfl
/-- a number -/
theorem e211n (hX : MX t N I) (hp : p < N) (h1 : ty t p = 2) (h7 : I 89 7 = nI p) (hv : I 89 10 = 0) (hn : 1000 ≤ n) : ∃ A, c_211_3 n n I L = some (A, L) ∧ A 89 7 = nI (bh t N p) ∧ A 89 10 = nI (vlm t p (bh t N p - p)) ∧ FM I A L L ∧ ∀ i, i ≠ 7 → i ≠ 10 → A 89 i = I 89 i := by
  have hbe : bh t N p = ru t N 2 p := by unfold bh; rw [if_pos hp, if_pos (Or.inr h1), h1, ru_st hp h1]
  have hge := ru_ge (t := t) (c := 2) (show p ≤ N by omega)
  have hle := ru_le (t := t) (c := 2) (show p ≤ N by omega)
  have hN := hX.1
  have hdg : ∀ k, k < ru t N 2 p - p → ∀ i, i < k → dgt t (p + i) ≤ 9 := fun k hk i hi => (dgt_le (ru_in (show p ≤ N by omega) (by omega) (by omega))).1
  rw [hbe]
  refine lpEk (fun m k (s : FI) => c_211_3 n m s L) (ru t N 2 p - p) (fun k s => s 89 7 = nI (p + k) ∧ s 89 10 = nI (vlm t p k) ∧ FM I s L L ∧ ∀ i, i ≠ 7 → i ≠ 10 → s 89 i = I 89 i) (fun s => some (s, L)) n 0 I (by omega) (by omega) ⟨h7, by rw [hv]; rfl, ⟨fun _ _ _ => rfl, fun _ _ _ => rfl⟩, fun _ _ _ => rfl⟩ (fun s hs e => ?_) (fun m s hs => ?_) (fun m k s hk hs => ?_)
  · obtain ⟨a1, a2, a3, a4⟩ := hs
    exact ⟨s, e, by rw [a1, show p + (ru t N 2 p - p) = ru t N 2 p by omega], a2, a3, a4⟩
  · obtain ⟨a1, a2, a3, a4⟩ := hs
    have hXs := FM_X hX a3
    show b_211_3 n (c_211_3 n m) s L = _
    unfold b_211_3
    rw [a1, show p + (ru t N 2 p - p) = ru t N 2 p by omega, e210d hXs hle, q_bs, q_b1, if_neg (fun z => ru_en (by omega) z.1 z.2)]
  · obtain ⟨a1, a2, a3, a4⟩ := hs
    have hXs := FM_X hX a3
    have hty : ty t (p + k) = 2 := ru_in (show p ≤ N by omega) (by omega) (by omega)
    obtain ⟨d1, d2⟩ := dgt_le hty
    have hvl := (vlm_e (t := t) (p := p) k (hdg k hk)).1
    have hby : s 94 (p + k) = t (p + k) := hXs.2.2 _ (by omega)
    refine ⟨u2 (u2 s 89 10 (nI (vlm t p (k + 1)))) 89 7 (nI (p + (k + 1))), ⟨u2_s, by rw [u2_o (by decide), u2_s], FM_t (FM_t a3 (FM_u (i := 10) (by omega) (by omega))) (FM_u (by omega) (by omega)), fun i h7 h10 => by rw [u2_o h7, u2_o h10]; exact a4 i h7 h10⟩, ?_⟩
    show b_211_3 n (c_211_3 n m) s L = _
    unfold b_211_3 c_211_4
    rw [a1, e210d hXs (by omega), q_bs, q_b1, if_pos ⟨by omega, hty⟩, a2, ku_100k, ku_if (by omega) (by omega), nI_clamp (by omega), hby, d2, ku_10, pk_mul, nI_add, show (48 : Int32) = nI 48 from rfl, pk_sub (by omega), nI_1]
    show _ = c_211_3 n m (u2 (u2 s 89 10 (nI (if 100000 < vlm t p k then 1000000 else 10 * vlm t p k + dgt t (p + k)))) 89 7 (nI (p + (k + 1)))) L
    by_cases c : 100000 < vlm t p k
    · rw [if_neg (nI_ge c (by omega)), if_pos c]; rfl
    · rw [if_pos (nI_le (by omega) (by omega)), if_neg c, show 10 * vlm t p k + (48 + dgt t (p + k)) - 48 = 10 * vlm t p k + dgt t (p + k) by omega]; rfl
/-- the next token -/
theorem e211l (hn : 1000 ≤ n) : ∀ (m q : Nat) (I : FI) (L : FL), MX t N I → q ≤ N → N - q < m → I 89 7 = nI q → ∃ A B, c_211_0 n m I L = some (A, B) ∧ MT t N A B (ru t N 0 q) ∧ FM I A L B := by
  intro m
  induction m with
  | zero => intro q I L _ _ h; omega
  | succ m ih =>
    intro q I L hX hq hm h7
    have hN := hX.1
    show ∃ A B, b_211_0 n (c_211_0 n m) I L = some (A, B) ∧ _
    unfold b_211_0
    rw [h7, e210 hX hq, q_bs, q_b2]
    have h32 : (32 : Int32).toInt = 32 := rfl
    have h10 : (10 : Int32).toInt = 10 := rfl
    -- a blank
    have go : q < N → ty t q = 0 → ∃ A B, c_211_1 n (c_211_0 n m) I L = some (A, B) ∧ MT t N A B (ru t N 0 q) ∧ FM I A L B := fun hlt hw => by
      unfold c_211_1
      rw [h7, nI_1]
      obtain ⟨A, B, a1, a2, a3⟩ := ih (q + 1) (u2 I 89 7 (nI (q + 1))) L (MX_fr hX (u2_o (by decide)) (fun i => u2_c (by decide))) (by omega) (by omega) u2_s
      exact ⟨A, B, a1, by rw [ru_st hlt hw]; exact a2, FM_t (FM_u (by omega) (by omega)) a3⟩
    by_cases c1 : q < N ∧ (32 : Int32).toInt ≤ (t q).toInt ∧ (t q).toInt ≤ (32 : Int32).toInt
    · rw [if_pos c1]
      exact go c1.1 (ty_w.mpr (Or.inl (by rw [h32] at c1; omega)))
    · rw [if_neg c1, e210 hX hq, q_bs, q_b1]
      by_cases c2 : q < N ∧ (10 : Int32).toInt ≤ (t q).toInt ∧ (t q).toInt ≤ (10 : Int32).toInt
      · rw [if_pos c2]
        exact go c2.1 (ty_w.mpr (Or.inr (by rw [h10] at c2; omega)))
      · rw [if_neg c2, hX.2.1]
        have hnw : ¬ (q < N ∧ ty t q = 0) := fun z => by
          rcases ty_w.mp z.2 with y | y
          · exact c1 ⟨z.1, by rw [h32]; omega⟩
          · exact c2 ⟨z.1, by rw [h10]; omega⟩
        rw [ru_no hnw]
        by_cases e : q = N
        · rw [if_neg (fun z => z (by rw [e]))]
          have hbq : bh t N q = q := by unfold bh; rw [if_neg (by omega)]
          refine ⟨_, _, rfl, ⟨?_, ?_, ?_, ?_, ?_⟩, FM_t (FM_t (FM_t (FM_u (i := 9) (by omega) (by omega)) (FM_u (i := 10) (by omega) (by omega))) (FM_u (i := 8) (by omega) (by omega))) FM_l⟩
          · rw [u2_o (by decide), u2_o (by decide), u2_s]
          · rw [u2_o (by decide), u2_o (by decide), u2_o (by decide), hbq]; exact h7
          · rw [u2_s]; unfold mtk; rw [if_neg (by omega)]; rfl
          · rw [u2_o (by decide), u2_s, if_neg (fun z => by omega)]; rfl
          · rw [u2_s, if_neg (fun z => by omega)]
        · have hlt : q < N := by omega
          have hX1 : MX t N (u2 (u2 I 89 9 (nI q)) 89 10 0) := MX_fr hX (by rw [u2_o (by decide), u2_o (by decide)]) (fun i => by rw [u2_c (by decide), u2_c (by decide)])
          have hF1 : FM I (u2 (u2 I 89 9 (nI q)) 89 10 0) L (u2 L 89 11 0) := FM_t (FM_t (FM_u (i := 9) (by omega) (by omega)) (FM_u (i := 10) (by omega) (by omega))) FM_l
          rw [if_pos (by rw [nI_eq (by omega) (by omega)]; exact e), e210l hX1 hq, q_bs, q_b1]
          by_cases t1 : ty t q = 1
          · rw [if_pos ⟨hlt, t1⟩]
            obtain ⟨A, B, a1, a2, a3, a4, a5⟩ := e211w (I := u2 (u2 (u2 I 89 9 (nI q)) 89 10 0) 89 8 1) (L := u2 L 89 11 0) (MX_fr hX1 (u2_o (by decide)) (fun i => u2_c (by decide))) hlt t1 (by rw [u2_o (by decide), u2_o (by decide), u2_o (by decide)]; exact h7) u2_s hn
            refine ⟨A, B, a1, ⟨?_, a2, ?_, ?_, ?_⟩, FM_t (FM_t hF1 (FM_u (i := 8) (by omega) (by omega))) a4⟩
            · rw [a5 9 (by decide), u2_o (by decide), u2_o (by decide), u2_s]
            · rw [a5 8 (by decide), u2_s]; unfold mtk; rw [if_pos hlt, if_pos t1]; rfl
            · rw [a5 10 (by decide), u2_o (by decide), u2_s, if_neg (fun z => by omega)]; rfl
            · rw [a3, if_pos ⟨hlt, t1⟩]
          · rw [if_neg (fun z => t1 z.2), e210d hX1 hq, q_bs, q_b1]
            by_cases t2 : ty t q = 2
            · rw [if_pos ⟨hlt, t2⟩]
              obtain ⟨A, a1, a2, a3, a4, a5⟩ := e211n (I := u2 (u2 (u2 I 89 9 (nI q)) 89 10 0) 89 8 2) (L := u2 L 89 11 0) (MX_fr hX1 (u2_o (by decide)) (fun i => u2_c (by decide))) hlt t2 (by rw [u2_o (by decide), u2_o (by decide), u2_o (by decide)]; exact h7) (by rw [u2_o (by decide), u2_s]) hn
              refine ⟨A, _, a1, ⟨?_, a2, ?_, ?_, ?_⟩, FM_t (FM_t hF1 (FM_u (i := 8) (by omega) (by omega))) a4⟩
              · rw [a5 9 (by decide) (by decide), u2_o (by decide), u2_o (by decide), u2_s]
              · rw [a5 8 (by decide) (by decide), u2_s]; unfold mtk; rw [if_pos hlt, if_neg t1, if_pos t2]; rfl
              · rw [a3, if_pos ⟨hlt, t2⟩]
              · rw [u2_s, if_neg (fun z => t1 z.2)]
            · have hbq : bh t N q = q + 1 := by unfold bh; rw [if_pos hlt, if_neg (fun z => z.elim t1 t2)]
              have h59 : t q = 59 ↔ ty t q = 3 := by rw [ty_s, fa_eq]; rfl
              have fin : ∀ x, x = mtk t N q → ∃ A B, c_211_2 n (nI x) (u2 (u2 I 89 9 (nI q)) 89 10 0) (u2 L 89 11 0) = some (A, B) ∧ MT t N A B q ∧ FM I A L B := fun x hx => by
                unfold c_211_2
                refine ⟨_, _, rfl, ⟨?_, ?_, ?_, ?_, ?_⟩, FM_t (FM_t hF1 (FM_u (i := 8) (by omega) (by omega))) (FM_u (i := 7) (by omega) (by omega))⟩
                · rw [u2_o (by decide), u2_o (by decide), u2_o (by decide), u2_s]
                · rw [u2_s, u2_o (by decide), u2_o (by decide), h7, nI_1, hbq]
                · rw [u2_o (by decide), u2_s, hx]
                · rw [u2_o (by decide), u2_o (by decide), u2_s, if_neg (fun z => t2 z.2)]; rfl
                · rw [u2_s, if_neg (fun z => t1 z.2)]
              rw [if_neg (fun z => t2 z.2), ku_if (by omega) (by omega), nI_clamp (by omega), hX.2.2 q hlt]
              by_cases t3 : ty t q = 3
              · rw [if_neg (fun z => z (h59.mpr t3))]
                exact fin 3 (by unfold mtk; rw [if_pos hlt, if_neg t1, if_neg t2, if_pos t3])
              · rw [if_pos (fun z => t3 (h59.mp z))]
                exact fin 4 (by unfold mtk; rw [if_pos hlt, if_neg t1, if_neg t2, if_neg t3])
theorem e211 (hX : MX t N I) {q : Nat} (hq : q ≤ N) (h7 : I 89 7 = nI q) (hn : 1000 ≤ n) : ∃ A B, f_211 n I L = some (A, B) ∧ MT t N A B (ru t N 0 q) ∧ FM I A L B := e211l hn n q I L hX hq (by have := hX.1; omega) h7
/-! how the model's token tells the kind -/
theorem mtk_2 : mtk t N p = 2 ↔ tk t N p = 2 := by
  rw [tk_2]
  unfold mtk
  by_cases h : p < N
  · rw [if_pos h]
    by_cases t1 : ty t p = 1
    · rw [if_pos t1]; exact ⟨fun q => by omega, fun q => by omega⟩
    · rw [if_neg t1]
      by_cases t2 : ty t p = 2
      · rw [if_pos t2]; exact ⟨fun _ => ⟨h, t2⟩, fun _ => rfl⟩
      · rw [if_neg t2]
        refine ⟨fun q => ?_, fun q => absurd q.2 t2⟩
        split at q <;> omega
  · rw [if_neg h]; exact ⟨fun q => by omega, fun q => absurd q.1 h⟩
theorem mtk_3 : mtk t N p = 3 ↔ tk t N p = 3 := by
  rw [tk_3]
  unfold mtk
  by_cases h : p < N
  · rw [if_pos h]
    by_cases t1 : ty t p = 1
    · rw [if_pos t1]; exact ⟨fun q => by omega, fun q => by omega⟩
    · rw [if_neg t1]
      by_cases t2 : ty t p = 2
      · rw [if_pos t2]; exact ⟨fun q => by omega, fun q => by omega⟩
      · rw [if_neg t2]
        by_cases t3 : ty t p = 3
        · rw [if_pos t3]; exact ⟨fun _ => ⟨h, t3⟩, fun _ => rfl⟩
        · rw [if_neg t3]; exact ⟨fun q => by omega, fun q => absurd q.2 t3⟩
  · rw [if_neg h]; exact ⟨fun q => by omega, fun q => absurd q.1 h⟩
theorem mtk_0 : mtk t N p = 0 ↔ tk t N p = 0 := by
  rw [tk_0]
  unfold mtk
  by_cases h : p < N
  · rw [if_pos h]
    refine ⟨fun q => ?_, fun q => by omega⟩
    split at q
    · omega
    · split at q
      · omega
      · split at q <;> omega
  · rw [if_neg h]; exact ⟨fun _ => by omega, fun _ => rfl⟩
theorem mtk_le : mtk t N p ≤ 4 := by
  unfold mtk
  split
  · split
    · omega
    · split
      · omega
      · split <;> omega
  · omega
/-- a word of the grammar -/
theorem mtk_w {k : Nat} (hp : p ≤ N) (h4 : 4 ≤ k) (h15 : k ≤ 15) : (mtk t N p = 1 ∧ (if p < N ∧ ty t p = 1 then wdv t p (bh t N p - p) else 0) = lN (cdw.getD (k - 4) 0)) ↔ tk t N p = k := by
  by_cases h : p < N ∧ ty t p = 1
  · have hm : mtk t N p = 1 := by unfold mtk; rw [if_pos h.1, if_pos h.2]
    have htk : tk t N p = kdw t p (bh t N p) := by unfold tk; rw [if_pos h.1, if_neg (by omega), if_neg (by omega)]
    have hb := bh_gt (t := t) h.1
    have hbe : bh t N p = ru t N 1 (p + 1) := by unfold bh; rw [if_pos h.1, if_pos (Or.inl h.2), h.2]
    have hl : ∀ i, p ≤ i → i < bh t N p → ty t i = 1 := fun i a b => by
      by_cases e : i = p
      · rw [e]; exact h.2
      · rw [hbe] at b; exact ru_in (by omega) (by omega) b
    have hlt : ∀ i, i < bh t N p - p → 1 ≤ ltt t p i ∧ ltt t p i ≤ 26 := fun i hi => by
      have := ltt_b (p := p) (i := i) (hl (p + i) (by omega) (by omega)); omega
    have hcd := cdw_ok (k - 4) (by omega)
    have hpl := plen_ok (k - 4) (by omega)
    rw [if_pos h, htk, kdw_k h4 h15 (by omega) hl]
    unfold wdv
    by_cases hk : bh t N p - p ≤ 12
    · have hw := wcf_lt (a := ltt t p) (k := bh t N p - p) (fun i hi => (hlt i hi).2)
      have h27 : 27 ^ (bh t N p - p) ≤ 27 ^ 12 := Nat.pow_le_pow_right (by omega) hk
      have h272 : 27 ^ 12 < 2 ^ 63 := by decide
      rw [if_pos hk, pk_lEQ (by omega) (by omega)]
      exact ⟨fun q => q.2, fun q => ⟨hm, q⟩⟩
    · rw [if_neg hk]
      constructor
      · rintro ⟨_, q⟩
        exfalso
        have h2 := congrArg Int64.toInt q
        rw [pk_lT (by omega)] at h2
        have : (-1 : Int64).toInt = -1 := by decide
        omega
      · intro q
        exfalso
        rw [← hcd.1] at q
        have := (wcf_inj hlt (fun i hi => by have := wdg_ok (k - 4) (by omega) i (by omega) hi; unfold wdg; omega) q).1
        omega
  · rw [if_neg h]
    constructor
    · rintro ⟨q, _⟩
      exfalso
      unfold mtk at q
      by_cases hp2 : p < N
      · rw [if_pos hp2, if_neg (fun z => h ⟨hp2, z⟩)] at q
        split at q
        · omega
        · split at q <;> omega
      · rw [if_neg hp2] at q; omega
    · intro q
      exfalso
      by_cases hp2 : p < N
      · have h1 : ty t p ≠ 1 := fun z => h ⟨hp2, z⟩
        by_cases h2 : ty t p = 2
        · have := tk_2.mpr ⟨hp2, h2⟩; omega
        · have hbe : bh t N p = p + 1 := by unfold bh; rw [if_pos hp2, if_neg (fun z => z.elim h1 h2)]
          unfold tk at q
          rw [if_pos hp2, if_neg h2] at q
          by_cases h3 : ty t p = 3
          · rw [if_pos h3] at q; omega
          · rw [if_neg h3] at q
            rcases kdw_c (t := t) (p := p) (e := bh t N p) with z | ⟨k', a1, a2, a3, a4⟩
            · omega
            · have hpl := plen_ok (k' - 4) (by omega)
              unfold splB at a4
              simp only [Bool.and_eq_true, decide_eq_true_eq] at a4
              omega
      · have := (tk_0 (t := t) (n := N)).mpr (show N ≤ p by omega)
        omega
end MTK
