/-! THE PURE LAW: behind the constructors the invariant holds; every pair of calls keeps it -/
def zI : FI := z2 (fun _ _ => 0) 0 0
def zL : FL := z2 (fun _ _ => 0) 0 0
def c1F : FI × FL := (f_p112_0 zI zL).getD (zI, zL)
def c2F : FI × FL := (f_p200_89 (z2 c1F.1 89 0) (z2 c1F.2 89 0)).getD (zI, zL)
theorem c2F_ok : (c2F.1 1 1 = nI 0 ∧ c2F.1 89 6 = nI 0 ∧ c2F.1 14 1 = c2F.1 89 14 ∧ c2F.1 14 2 = c2F.1 89 15 ∧ c2F.1 11 2 = nI 0 ∧ c2F.1 95 0 = nI 0 ∧ c2F.1 96 7 = nI 0) ∧ (∀ j, j < 8 → c2F.1 3 j = nI 0) ∧ (∀ r, r < 4 → c2F.1 6 r = nI 0) ∧ (∀ j, j < 7 → c2F.1 96 j = nI 0) ∧ (∀ k, k < 3 → c2F.1 (45 + 12 * k) 2 = c2F.1 102 k ∧ c2F.1 102 k = 0) ∧ ∀ k, k < 4 → c2F.1 (81 + 2 * k) 3 = 0 ∧ c2F.1 90 k = -1 := by decide +kernel
theorem pl_0 {KP : KPT} {RP : RPT} : VV KP RP none none none [] [] c2F.1 c2F.2 := by
  obtain ⟨⟨a1, a2, a3, a4, a5, a6, a7⟩, b1, b2, b3, b4, b5⟩ := c2F_ok
  refine ⟨HD0, fun _ => 0, AD0, ⟨⟨0, by omega, a1, a2, fun i hi => absurd hi (by omega)⟩, ⟨a3, a4⟩, HOK_0 _, ⟨b1, fun r hr => absurd hr (Nat.not_lt_zero r), fun r hr => absurd hr (Nat.not_lt_zero r), b2, fun r q hr => absurd hr (Nat.not_lt_zero r), fun r hr => absurd hr (Nat.not_lt_zero r), fun r hr => absurd hr (Nat.not_lt_zero r), fun r hr => absurd hr (Nat.not_lt_zero r), a5, fun r hr => absurd hr (Nat.not_lt_zero r), fun r hr => absurd hr (Nat.not_lt_zero r)⟩, ⟨a6, fun j hj => ?_, a7, fun r hr => absurd hr (Nat.not_lt_zero r), fun r hr => absurd hr (Nat.not_lt_zero r), fun r hr => absurd hr (Nat.not_lt_zero r), fun r hr => absurd hr (Nat.not_lt_zero r), fun r hr => absurd hr (Nat.not_lt_zero r), fun r hr => absurd hr (Nat.not_lt_zero r), fun r hr => absurd hr (Nat.not_lt_zero r), fun r hr => absurd hr (Nat.not_lt_zero r), fun r hr => absurd hr (Nat.not_lt_zero r)⟩, fun k hk => ⟨(b4 k hk).1, Or.inl (b4 k hk).2⟩, fun k hk => Or.inl (b5 k hk)⟩, fun h => absurd h (Nat.lt_irrefl 0), Or.inl ⟨rfl, rfl, rfl⟩⟩
  rw [show 9 * 0 + j = j by omega]; exact b3 j hj
theorem pl_i (r1 r2 : FI × FL) (h1 : f_p112_0 (z2 (fun _ _ => 0) 0 0) (z2 (fun _ _ => 0) 0 0) = some r1) (h2 : f_p200_89 (z2 r1.1 89 0) (z2 r1.2 89 0) = some r2) : VV KPK RPR none none none [] [] r2.1 r2.2 := by
  have e1 : c1F = r1 := by
    unfold c1F zI zL
    rw [h1]; rfl
  have e2 : c2F = r2 := by
    unfold c2F
    rw [e1, h2]; rfl
  rw [← e2]
  exact pl_0
theorem pl_sz : ((TA ++ ([] : List (Nat × Nat))).length ≤ 600000 ∧ ((TA ++ ([] : List (Nat × Nat))).map (fun (q : Nat × Nat) => q.2)).sum ≤ 7302250) ∧ (TA ++ TK).length ≤ 600000 ∧ ((TA ++ TK).map (fun (q : Nat × Nat) => q.2)).sum ≤ 7302250 := by decide +kernel
theorem pl_s (Ls : Nat) (xs : Nat → Int32) : AllSteps Ls xs (VV KPK RPR) := fun a1 a2 a3 a4 a5 =>
  ⟨sk_feed, sk_end, sk_house KPK_f RPR_f, sk_fault, sk_room, sk_doors, sk_far, sk_round, sk_at, sk_age, sk_left, sk_burns, sk_out, sk_dark, sk_first, sk_looks, sk_oldest, sk_worth, sk_steps, sk_urgent, sk_seen, sk_steady, sk_tight, sk_keeps, sk_states, sk_next, sk_longest, sk_ring, sk_ringed, sk_rings, sk_isRing, sk_most, sk_saved, sk_given, sk_longer, sk_density, sk_even, sk_shares, sk_second, sk_begins, sk_begun, sk_window, sk_leaves, sk_laws, sk_by, sk_law, sk_rests, sk_gets, sk_chance, sk_mean, sk_send, sk_visit, sk_nods, sk_undo, sk_anew, sk_drawn, sk_luck, sk_rate, sk_count, sk_image, sk_back KPK_f RPR_f, sk_row, sk_write, sk_paste⟩
theorem pure_law : PureLaw := pure_of (VV KPK RPR) pl_i pl_s (fun kp nh rh tl rl I L hV => by
  obtain ⟨H, W, A, _, _, hW⟩ := hV
  rcases hW with ⟨_, rfl, _⟩ | ⟨_, rfl, _⟩
  · unfold hp psz
    dsimp only
    exact pl_sz.1
  · unfold hp psz
    dsimp only
    exact pl_sz.2)
