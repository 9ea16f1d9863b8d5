/-! LAYER 3: loops; the calls fault, end, feed, room, round, undo, anew, rate -/
/-- a loop over k < R: it goes to its end in a state that keeps Inv, or goes out early -/
theorem lpG {σ β : Type} (c : Nat → Nat → σ → β) (R : Nat) (Inv : Nat → σ → Prop) (fin : σ → β) (Ex : β → Prop) (h0 : ∀ m s, Inv R s → c (m + 1) R s = fin s) (h1 : ∀ m k s, k < R → Inv k s → Ex (c (m + 1) k s) ∨ ∃ s', Inv (k + 1) s' ∧ c (m + 1) k s = c m (k + 1) s') : ∀ m k s, k ≤ R → R - k < m → Inv k s → Ex (c m k s) ∨ ∃ s', Inv R s' ∧ c m k s = fin s' := by
  intro m
  induction m with
  | zero => intro k s _ hm; omega
  | succ m ih =>
    intro k s hk hm hi
    rcases Nat.lt_or_ge k R with h | h
    · rcases h1 m k s h hi with he | ⟨s', hi', e⟩
      · exact Or.inl he
      · rw [e]; exact ih (k + 1) s' (by omega) (by omega) hi'
    · have : k = R := by omega
      subst this
      exact Or.inr ⟨s, hi, h0 m s hi⟩
/-- a loop without an early end -/
theorem lpE {σ β : Type} (c : Nat → Nat → σ → β) (R : Nat) (Inv : Nat → σ → Prop) (fin : σ → β) (h0 : ∀ m s, Inv R s → c (m + 1) R s = fin s) (h1 : ∀ m k s, k < R → Inv k s → ∃ s', Inv (k + 1) s' ∧ c (m + 1) k s = c m (k + 1) s') (m k : Nat) (s : σ) (hk : k ≤ R) (hm : R - k < m) (hi : Inv k s) : ∃ s', Inv R s' ∧ c m k s = fin s' := by
  rcases lpG c R Inv fin (fun _ => False) h0 (fun m k s h hi => Or.inr (h1 m k s h hi)) m k s hk hm hi with h | h
  · exact absurd h id
  · exact h
theorem u2_s {α : Type} {f : Nat → Nat → α} {k j : Nat} {x : α} : u2 f k j x k j = x := by simp [u2]
theorem u2_o {α : Type} {f : Nat → Nat → α} {k j i : Nat} {x : α} (h : i ≠ j) : u2 f k j x k i = f k i := by simp [u2, h]
theorem u2_c {α : Type} {f : Nat → Nat → α} {k j a i : Nat} {x : α} (h : a ≠ k) : u2 f k j x a i = f a i := by simp [u2, h]
theorem i0 : (0 : Int32).toInt = 0 := rfl
theorem l0 : (0 : Int64).toInt = 0 := rfl
section EASY1
variable {KP : KPT} {RP : RPT} {Ls : Nat} {xs : Nat → Int32} {a1 a2 a3 a4 a5 : Int32}
theorem sk_fault : SOK Ls xs (VV KP RP) 116 222 [.int a1] := by
  intro kp nh rh tl rl I L hV
  have hF : VF I := by obtain ⟨H, W, A, h, _⟩ := hV; exact h.2.1
  obtain ⟨v, h1, h2⟩ : ∃ v, f_116 a1 I L = some v ∧ f_222 a1 I L = some (v, u2 I 89 0 0, L) := by
    unfold f_116 f_222
    by_cases e0 : a1 = 0
    · exact ⟨I 14 1, by rw [if_pos e0], by rw [if_neg (by simpa using e0), hF.1]⟩
    · by_cases e1 : a1 = 1
      · exact ⟨I 14 2, by rw [if_neg e0, if_pos e1], by rw [if_pos e0, if_neg (by simpa using e1), hF.2]⟩
      · exact ⟨-1, by rw [if_neg e0, if_neg e1], by rw [if_pos e0, if_pos e1]⟩
  exact ⟨v, kp, nh, rh, tl, rl, I, L, _, _, t_116 Ls xs 999 kp tl rl nh rh a1 I L v h1, t_222 Ls xs 999 kp tl rl nh rh a1 I L _ h2, VV_th hV⟩
/-- all is as it was, but for the text -/
theorem VV_tp {kp nh rh : Option Nat} {tl : List (Nat × Nat)} {rl : List (List (Option Nat))} {I I' : FI} {L : FL} (hV : VV KP RP kp nh rh tl rl I L) (hT : VT I') (es : ∀ c, c ≠ 1 → c ≠ 2 → c ≠ 89 → c ≠ 94 → ∀ i, I' c i = I c i) (e9 : ∀ i, i ≠ 0 → i ≠ 6 → I' 89 i = I 89 i) : VV KP RP kp nh rh tl rl I' L := by
  obtain ⟨H, W, A, ⟨_, ⟨f1, f2⟩, h3, h4, h5, h6, h7⟩, hR, hW⟩ := hV
  refine ⟨H, W, A, ⟨hT, ⟨?_, ?_⟩, h3, CH_fr h4 (fun c hc i => es c (by omega) (by omega) (by omega) (by omega) i), MH_fr h3 h5 (fun c hc i => es c (by omega) (by omega) (by omega) (by omega) i), fun k hk => VIm_fr hk (h6 k hk) (fun c hc i => es c (by omega) (by omega) (by omega) (by omega) i), fun k hk => VRw_fr (h7 k hk) (fun c hc i => es c (by omega) (by omega) (by omega) (by omega) i) (fun _ _ _ => rfl)⟩, VRg_fr hR ?_, VWd_fr hW ?_ Sm_r⟩
  · rw [es 14 (by decide) (by decide) (by decide) (by decide), e9 14 (by decide) (by decide)]; exact f1
  · rw [es 14 (by decide) (by decide) (by decide) (by decide), e9 15 (by decide) (by decide)]; exact f2
  · intro a i ha
    have : 35 ≤ fkey a i ∧ fkey a i ≤ 42 := by unfold vkR at ha; simpa using ha
    unfold fkey at this
    split at this
    · omega
    · exact es a (by omega) (by omega) (by omega) (by omega) i
  · intro a i ha
    have : 114 ≤ fkey a i ∧ fkey a i ≤ 121 := by unfold vkK at ha; simpa using ha
    unfold fkey at this
    split at this
    · omega
    · exact es a (by omega) (by omega) (by omega) (by omega) i
theorem sk_end : SOK Ls xs (VV KP RP) 114 209 [.int a1] := by
  intro kp nh rh tl rl I L hV
  have hV0 := hV
  obtain ⟨H, W, A, ⟨⟨t, t1, t2, t3, t4⟩, ⟨f1, f2⟩, h3, h4, h5, h6, h7⟩, hR, hW⟩ := hV
  rcases q_arg a1 (n := t + 1) (by omega) with h | ⟨j, hj, rfl⟩
  · have h1 : f_114 a1 I L = some (-1, I, L) := by
      unfold f_114
      by_cases h0 : a1 < 0
      · rw [if_pos h0]
      · rw [if_neg h0, if_neg (by rw [t2, fa_le, nI_toInt (by omega)]; rw [fa_lt, i0] at h0; omega)]
    have h2 : f_209 a1 I L = some (-1, u2 I 89 0 0, L) := by
      unfold f_209
      rw [e201, q_bs, q_b2, if_neg (by rw [Int32.toInt_toInt64, Int32.toInt_toInt64, t3, nI_toInt (by omega), l0]; omega)]
    exact ⟨-1, kp, nh, rh, tl, rl, I, L, _, _, t_114 Ls xs 999 kp tl rl nh rh a1 I L _ h1, t_209 Ls xs 998 kp tl rl nh rh a1 I L _ h2, VV_th hV0⟩
  · have h1 : f_114 (nI j) I L = some (nI j, u2 I 1 1 (nI j), L) := by
      unfold f_114
      rw [if_neg (nI_pos (by omega)), if_pos (by rw [t2]; exact nI_le (by omega) (by omega))]
    have h2 : f_209 (nI j) (u2 I 1 1 (nI j)) L = some (nI j, u2 (u2 (u2 I 1 1 (nI j)) 89 0 0) 89 6 (nI j), L) := by
      unfold f_209
      rw [e201, q_bs, q_b2, if_pos (by rw [Int32.toInt_toInt64, Int32.toInt_toInt64, u2_c (by decide), t3, nI_toInt (by omega), nI_toInt (by omega), l0]; omega)]
    refine ⟨nI j, kp, nh, rh, tl, rl, _, L, u2 (u2 (u2 I 1 1 (nI j)) 89 0 0) 89 6 (nI j), L, t_114 Ls xs 999 kp tl rl nh rh (nI j) I L _ h1, t_209 Ls xs 998 kp tl rl nh rh (nI j) _ L _ h2, VV_tp hV0 ⟨j, by omega, ?_, u2_s, fun i hi => ?_⟩ (fun c c1 c2 c3 c4 i => ?_) (fun i i0 i6 => ?_)⟩
    · rw [u2_c (by decide), u2_c (by decide), u2_s]
    · rw [u2_c (by decide), u2_c (by decide), u2_c (by decide), u2_c (by decide), u2_c (by decide), u2_c (by decide)]; exact t4 i (by omega)
    · rw [u2_c c3, u2_c c3, u2_c c1]
    · rw [u2_o i6, u2_o i0, u2_c (by decide)]
end EASY1
