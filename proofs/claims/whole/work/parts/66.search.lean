/-! LAYER 3: the class's search -/
theorem sma_upd {F G : Nat → Nat} {j : Nat} (h : ∀ k, k ≠ j → G k = F k) : ∀ {N : Nat}, j < N → sma G N + F j = sma F N + G j
  | 0, hj => absurd hj (by omega)
  | N + 1, hj => by
    show sma G N + G N + F j = sma F N + F N + G j
    rcases (show j < N ∨ j = N by omega) with h1 | rfl
    · have := sma_upd h h1
      rw [h N (by omega)]; omega
    · rw [sma_cg (fun k hk => h k (by omega))]; omega
theorem sma_one {F : Nat → Nat} {j : Nat} : ∀ {N : Nat}, j < N → F j ≤ sma F N
  | 0, hj => absurd hj (by omega)
  | N + 1, hj => by
    show F j ≤ sma F N + F N
    rcases (show j < N ∨ j = N by omega) with h1 | rfl
    · have := sma_one (F := F) h1; omega
    · omega
theorem nar127 : ∀ a, a < 128 → (nI a).toInt8.toInt32 = nI a := by decide +kernel
section SRCH
variable {I : FI} {L : FL} {H : HD} {W : Nat → Nat} {A : AD} {l set : Nat} {wt : Nat → Nat} {n : Nat}
/-- what is known of states is right -/
def KNW (H : HD) (l set : Nat) (wt : Nat → Nat) (I : FI) (L : FL) : Prop := ∀ s, s < 16384 → mko L s = 0 ∨ (mko L s = 2 ∧ Kept H l set wt s) ∨ (mko L s = 3 ∧ LST H l set wt s ∧ ∃ v, I 119 s = nI v ∧ SPN H l set wt s v)
/-- what is left to do -/
def phi (L : FL) (c : Nat → Nat) (s : Nat) : Nat := if mko L s = 0 then 6 else if mko L s = 1 then 5 - c s else 0
def ukn (L : FL) (s : Nat) : Nat := if mko L s = 0 then 1 else 0
/-- the search under way: trail T of height h, next rooms c -/
def SRI (H : HD) (l set : Nat) (wt : Nat → Nat) (h : Nat) (T c : Nat → Nat) (I : FI) (L : FL) : Prop :=
  (∀ i, i < h → VSt H set wt (T i) ∧ mko L (T i) = 1 ∧ c (T i) ≤ H.1 4 ∧ I 118 i = nI (8 * pks (T i) + c (T i))) ∧
  (∀ i j, i < h → j < h → T i = T j → i = j) ∧
  (∀ s, s < 16384 → mko L s = 1 → ∃ i, i < h ∧ T i = s) ∧
  (∀ i, i + 1 < h → 1 ≤ c (T i) ∧ nxt H l set wt (T i) (c (T i) - 1) = T (i + 1) + 1) ∧
  (∀ i, i < h → ∃ v, I 119 (T i) = nI v ∧ MXS H l set wt (T i) (if i + 1 < h then c (T i) - 1 else c (T i)) v) ∧
  (∀ s, s < 16384 → mko L s = 2 → Kept H l set wt s) ∧
  (∀ s, s < 16384 → mko L s = 3 → LST H l set wt s ∧ ∃ v, I 119 s = nI v ∧ SPN H l set wt s v) ∧
  h + sma (ukn L) 16384 ≤ 16384
theorem e44 {h t : Nat} (hh : h < 16384) (ht : t < 16384) : f_44 (nI h) (nI (pks t)) I L = some (u2 (u2 I 118 h (nI (8 * pks t))) 119 t (nI 0), mkS L t 1) := by
  have hp := pks_lt ht
  unfold f_44
  rw [e48 ht, q_bs, ku_if hh (by omega), ku_if ht (by omega), nI_clamp (by omega), nI_clamp (by omega), show (3 : Int32) &&& 31 = nI 3 by decide, ku_shl (by omega) (by show pks t * 8 < _; omega), show pks t * 2 ^ 3 = 8 * pks t by show pks t * 8 = _; omega]
  show (f_51 (nI t) (nI 1) _ L).bind _ = _
  rw [e51 ht, q_bs]; rfl
theorem e45 {t v : Nat} (ht : t < 16384) (hv : I 119 t = nI v) (hv2 : v ≤ 100) : f_45 (nI (pks t)) I L = some (nI (if 100 < v + 1 then 100 else v + 1), u2 I 119 t (nI (if 100 < v + 1 then 100 else v + 1)), mkS L t 3) := by
  unfold f_45
  rw [e48 ht, q_bs]
  rw [show f_51 (nI t) 3 I L = some (I, mkS L t 3) from e51 ht, q_bs, ku_if ht (by omega), nI_clamp (by omega)]
  dsimp only
  rw [hv, nI_1]
  unfold f_359
  have hm : (if nI (v + 1) < (100 : Int32) then some (nI (v + 1)) else some 100) = some (nI (if 100 < v + 1 then 100 else v + 1)) := by
    by_cases h : v + 1 < 100
    · rw [if_pos (show nI (v + 1) < 100 from nI_lt (b := 100) h (by omega)), if_neg (by omega)]
    · rw [if_neg (show ¬ nI (v + 1) < 100 from nI_nlt (b := 100) (by omega) (by omega))]
      by_cases h2 : 100 < v + 1
      · rw [if_pos h2]; rfl
      · rw [if_neg h2, show v + 1 = 100 by omega]; rfl
  have hm2 : (if (100 : Int32) ≤ nI (v + 1) then some 100 else some (nI (v + 1))) = some (nI (if 100 < v + 1 then 100 else v + 1)) := by
    by_cases h : v + 1 < 100
    · rw [if_neg (show ¬ (100 : Int32) ≤ nI (v + 1) from nI_ge (b := 100) h (by omega)), if_neg (by omega)]
    · rw [if_pos (show (100 : Int32) ≤ nI (v + 1) from nI_le (a := 100) (by omega) (by omega))]
      by_cases h2 : 100 < v + 1
      · rw [if_pos h2]; rfl
      · rw [if_neg h2, show v + 1 = 100 by omega]; rfl
  have hl : (if 100 < v + 1 then 100 else v + 1) ≤ 100 := by split <;> omega
  first
    | rw [hm]
    | rw [hm2]
  rw [q_bs, ku_if ht (by omega), ku_if ht (by omega), u2_s, pk_vb, nar127 _ (by omega)]
theorem e46n {x : Int32} : f_46 (nI 0 - 1) x I L = some (I, L) := by
  unfold f_46
  rw [if_pos (by decide)]
theorem e46 {h t c u v : Nat} (hh : h < 16384) (ht : t < 16384) (hc : c < 8) (h118 : I 118 h = nI (8 * pks t + c)) (h119 : I 119 t = nI v) (hv : v ≤ 100) (hu : u ≤ 100) : f_46 (nI h) (nI u) I L = some (u2 I 119 t (nI (if v < u then u else v)), L) := by
  have hp := pks_lt ht
  have e3 : nI (8 * pks t + c) >>> ((3 : Int32) &&& 31) = nI (pks t) := by
    rw [show (3 : Int32) &&& 31 = nI 3 by decide, ku_shr (by omega) (by omega)]
    congr 1; show (8 * pks t + c) / 8 = pks t; omega
  unfold f_46
  rw [if_neg (nI_pos (by omega)), ku_if hh (by omega), nI_clamp (by omega), h118, e3, e48 ht, q_bs, ku_if ht (by omega), nI_clamp (by omega), h119]
  unfold f_358_1
  by_cases h : v < u
  · rw [if_pos (nI_lt h (by omega)), q_bs, ku_if ht (by omega), pk_vb, nar127 _ (by omega), if_pos h]
  · rw [if_neg (nI_nlt (by omega) (by omega)), q_bs, ku_if ht (by omega), pk_vb, nar127 _ (by omega), if_neg h]
theorem e47 {h : Nat} {T c : Nat → Nat} (hh : h ≤ 16384) (hT : ∀ i, i < h → T i < 16384 ∧ c (T i) < 8 ∧ I 118 i = nI (8 * pks (T i) + c (T i))) (hn : 20000 ≤ n) : ∃ L', f_47 n (nI h) I L = some (I, L') ∧ (∀ s, (∃ i, i < h ∧ T i = s) → mko L' s = 2) ∧ (∀ s, (¬ ∃ i, i < h ∧ T i = s) → mko L' s = mko L s) ∧ ∀ c i, c ≠ 117 → L' c i = L c i := by
  obtain ⟨L', ⟨l1, l2, l3⟩, e⟩ := lpE (fun m k (M : FL) => c_47_0 n m (nI h) (nI k) I M) h (fun k M => (∀ s, (∃ i, i < k ∧ T i = s) → mko M s = 2) ∧ (∀ s, (¬ ∃ i, i < k ∧ T i = s) → mko M s = mko L s) ∧ ∀ c i, c ≠ 117 → M c i = L c i) (fun M => some (I, M)) (fun m M hM => by
      show b_47_0 n (c_47_0 n m) (nI h) (nI h) I M = _
      unfold b_47_0
      rw [if_pos (nI_le (Nat.le_refl _) (by omega))]) (fun m k M hk hM => by
      obtain ⟨t1, t2, t3⟩ := hT k hk
      have hp := pks_lt t1
      have e3 : nI (8 * pks (T k) + c (T k)) >>> ((3 : Int32) &&& 31) = nI (pks (T k)) := by
        rw [show (3 : Int32) &&& 31 = nI 3 by decide, ku_shr (by omega) (by omega)]
        congr 1; show (8 * pks (T k) + c (T k)) / 8 = pks (T k); omega
      refine ⟨mkS M (T k) 2, ⟨fun s hs => ?_, fun s hs => ?_, fun c i hc => ?_⟩, ?_⟩
      · rw [mko_S (by omega)]
        by_cases e : s = T k
        · rw [if_pos e]
        · rw [if_neg e]
          obtain ⟨i, hi, hi2⟩ := hs
          refine hM.1 s ⟨i, ?_, hi2⟩
          rcases (show i < k ∨ i = k by omega) with h1 | rfl
          · exact h1
          · exact absurd hi2.symm e
      · rw [mko_S (by omega), if_neg (fun e => hs ⟨k, by omega, e.symm⟩)]
        exact hM.2.1 s (fun ⟨i, hi, hi2⟩ => hs ⟨i, by omega, hi2⟩)
      · unfold mkS; rw [u2_c hc]; exact hM.2.2 c i hc
      · show b_47_0 n (c_47_0 n m) (nI h) (nI k) I M = _
        unfold b_47_0
        rw [if_neg (nI_ge hk (by omega)), ku_if (by omega) (by omega), nI_clamp (by omega), t3, e3, e48 t1, q_bs]
        show (f_51 (nI (T k)) (nI 2) I M).bind _ = _
        rw [e51 t1, q_bs, nI_1]) n 0 L (by omega) (by omega) ⟨fun s hs => absurd hs (fun ⟨i, hi, _⟩ => absurd hi (by omega)), fun _ _ => rfl, fun _ _ _ => rfl⟩
  exact ⟨L', by unfold f_47; rw [show (0 : Int32) = nI 0 from rfl]; exact e, l1, l2, l3⟩
end SRCH
