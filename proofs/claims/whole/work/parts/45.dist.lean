/-! LAYER 3: ways and distances: by all graphs of four rooms -/
def grf (b1 b2 b3 b4 b5 b6 : Bool) (x y : Nat) : Bool := match x, y with
  | 0, 1 => b1
  | 1, 0 => b1
  | 0, 2 => b2
  | 2, 0 => b2
  | 0, 3 => b3
  | 3, 0 => b3
  | 1, 2 => b4
  | 2, 1 => b4
  | 1, 3 => b5
  | 3, 1 => b5
  | 2, 3 => b6
  | 3, 2 => b6
  | _, _ => false
theorem gr_D1' : ∀ b1 b2 b3 b4 b5 b6 : Bool, ∀ a, a < 4 → ∀ x, x < 4 → ∀ y, y < 4 → (dst (grf b1 b2 b3 b4 b5 b6) a x == 0 || !grf b1 b2 b3 b4 b5 b6 x y || (dst (grf b1 b2 b3 b4 b5 b6) a y != 0 && decide (dst (grf b1 b2 b3 b4 b5 b6) a y ≤ dst (grf b1 b2 b3 b4 b5 b6) a x + 1))) = true := by decide +kernel
theorem gr_D1 (b1 b2 b3 b4 b5 b6 : Bool) (a : Nat) (ha : a < 4) (x : Nat) (hx : x < 4) (y : Nat) (hy : y < 4) (h : dst (grf b1 b2 b3 b4 b5 b6) a x ≠ 0) (h2 : grf b1 b2 b3 b4 b5 b6 x y = true) : dst (grf b1 b2 b3 b4 b5 b6) a y ≠ 0 ∧ dst (grf b1 b2 b3 b4 b5 b6) a y ≤ dst (grf b1 b2 b3 b4 b5 b6) a x + 1 := by
  have := gr_D1' b1 b2 b3 b4 b5 b6 a ha x hx y hy
  rw [h2] at this
  simp only [Bool.or_eq_true, beq_iff_eq, Bool.not_true, Bool.and_eq_true, bne_iff_ne, decide_eq_true_eq, or_false, Bool.false_eq_true] at this
  exact this.elim (fun q => absurd q h) id
theorem gr_D2 : ∀ b1 b2 b3 b4 b5 b6 : Bool, ∀ a, a < 4 → ∀ y, y < 4 → 2 ≤ dst (grf b1 b2 b3 b4 b5 b6) a y → ∃ x, x < 4 ∧ dst (grf b1 b2 b3 b4 b5 b6) a x + 1 = dst (grf b1 b2 b3 b4 b5 b6) a y ∧ grf b1 b2 b3 b4 b5 b6 x y = true := by decide +kernel
theorem gr_D4 : ∀ b1 b2 b3 b4 b5 b6 : Bool, ∀ a, a < 4 → ∀ b, b < 4 → dst (grf b1 b2 b3 b4 b5 b6) a b = dst (grf b1 b2 b3 b4 b5 b6) b a := by decide +kernel
theorem gr_R1 : ∀ a, a < 1 → ∀ b, b < 1 → dst (grf false false false false false false) a b ≤ 1 := by decide +kernel
theorem gr_R2 : ∀ b1 : Bool, ∀ a, a < 2 → ∀ b, b < 2 → dst (grf b1 false false false false false) a b ≤ 2 := by decide +kernel
theorem gr_R3 : ∀ b1 b2 b4 : Bool, ∀ a, a < 3 → ∀ b, b < 3 → dst (grf b1 b2 false b4 false false) a b ≤ 3 := by decide +kernel
theorem any_cg {p q : Nat → Bool} : ∀ {l : List Nat}, (∀ x, x ∈ l → p x = q x) → l.any p = l.any q
  | [], _ => rfl
  | x :: l, h => by rw [List.any_cons, List.any_cons, h x (List.mem_cons_self ..), any_cg (fun y hy => h y (List.mem_cons_of_mem _ hy))]
theorem dst_cg {g g' : Nat → Nat → Bool} (h : ∀ x y, x < 4 → y < 4 → g x y = g' x y) {a b : Nat} (ha : a < 4) (hb : b < 4) : dst g a b = dst g' a b := by
  unfold dst
  rw [h a b ha hb, any_cg (p := fun c => g a c && g c b) (q := fun c => g' a c && g' c b) (fun c hc => by rw [h a c ha (List.mem_range.mp hc), h c b (List.mem_range.mp hc) hb]), any_cg (p := fun c => g a c && (List.range 4).any fun d => g c d && g d b) (q := fun c => g' a c && (List.range 4).any fun d => g' c d && g' d b) (fun c hc => by
    rw [h a c ha (List.mem_range.mp hc)]
    congr 1
    exact any_cg (fun d hd => by rw [h c d (List.mem_range.mp hc) (List.mem_range.mp hd), h d b (List.mem_range.mp hd) hb]))]
section DIST
variable {H : HD} {W : Nat → Nat} {A : AD}
theorem dor_ir (ho : HOK H W A) (a : Nat) : dor H a a = false := by
  cases h : dor H a a
  · rfl
  · exact absurd rfl (dor_lt ho h).2.2
theorem dor_gr (ho : HOK H W A) : ∀ x y, x < 4 → y < 4 → dor H x y = grf (dor H 0 1) (dor H 0 2) (dor H 0 3) (dor H 1 2) (dor H 1 3) (dor H 2 3) x y := by
  intro x y hx hy
  have c : ∀ k, k < 4 → k = 0 ∨ k = 1 ∨ k = 2 ∨ k = 3 := fun k hk => by omega
  rcases c x hx with rfl | rfl | rfl | rfl <;> rcases c y hy with rfl | rfl | rfl | rfl
  all_goals first | exact dor_ir ho _ | rfl | exact dor_sym ho _ _
theorem dD1 (ho : HOK H W A) {a x y : Nat} (ha : a < 4) (hx : x < 4) (hy : y < 4) (h : dst (dor H) a x ≠ 0) (h2 : dor H x y = true) : dst (dor H) a y ≠ 0 ∧ dst (dor H) a y ≤ dst (dor H) a x + 1 := by
  have e := dor_gr ho
  rw [dst_cg e ha hx] at *
  rw [dst_cg e ha hy] at *
  rw [e x y hx hy] at h2
  exact gr_D1 _ _ _ _ _ _ a ha x hx y hy h h2
theorem dD2 (ho : HOK H W A) {a y : Nat} (ha : a < 4) (hy : y < 4) (h : 2 ≤ dst (dor H) a y) : ∃ x, x < 4 ∧ dst (dor H) a x + 1 = dst (dor H) a y ∧ dor H x y = true := by
  have e := dor_gr ho
  rw [dst_cg e ha hy] at *
  obtain ⟨x, hx, h1, h2⟩ := gr_D2 _ _ _ _ _ _ a ha y hy h
  exact ⟨x, hx, by rw [dst_cg e ha hx]; exact h1, by rw [e x y hx hy]; exact h2⟩
theorem dD4 (ho : HOK H W A) {a b : Nat} (ha : a < 4) (hb : b < 4) : dst (dor H) a b = dst (dor H) b a := by
  have e := dor_gr ho
  rw [dst_cg e ha hb, dst_cg e hb ha]
  exact gr_D4 _ _ _ _ _ _ a ha b hb
theorem dor_no (ho : HOK H W A) {a b : Nat} (h : H.1 4 ≤ a ∨ H.1 4 ≤ b) : dor H a b = false := by
  cases e : dor H a b
  · rfl
  · have := dor_lt ho e; omega
theorem dD3 (ho : HOK H W A) {a b : Nat} (ha : a < H.1 4) (hb : b < H.1 4) : dst (dor H) a b ≤ H.1 4 := by
  have o4 : H.1 4 ≤ 4 := ho.1.2.2.2.2.1
  have e := dor_gr ho
  rw [dst_cg e (by omega) (by omega)]
  rcases (show H.1 4 = 1 ∨ H.1 4 = 2 ∨ H.1 4 = 3 ∨ H.1 4 = 4 by omega) with h | h | h | h
  · rw [dor_no ho (a := 0) (b := 1) (by omega), dor_no ho (a := 0) (b := 2) (by omega), dor_no ho (a := 0) (b := 3) (by omega), dor_no ho (a := 1) (b := 2) (by omega), dor_no ho (a := 1) (b := 3) (by omega), dor_no ho (a := 2) (b := 3) (by omega), h]
    exact gr_R1 a (by omega) b (by omega)
  · rw [dor_no ho (a := 0) (b := 2) (by omega), dor_no ho (a := 0) (b := 3) (by omega), dor_no ho (a := 1) (b := 2) (by omega), dor_no ho (a := 1) (b := 3) (by omega), dor_no ho (a := 2) (b := 3) (by omega), h]
    exact gr_R2 _ a (by omega) b (by omega)
  · rw [dor_no ho (a := 0) (b := 3) (by omega), dor_no ho (a := 1) (b := 3) (by omega), dor_no ho (a := 2) (b := 3) (by omega), h]
    exact gr_R3 _ _ _ a (by omega) b (by omega)
  · rw [h]; exact dst_le _ a b
theorem dst_1 (g : Nat → Nat → Bool) (a b : Nat) : dst g a b = 1 ↔ a = b := by
  unfold dst
  by_cases e : a = b
  · rw [if_pos e]; exact ⟨fun _ => e, fun _ => rfl⟩
  · rw [if_neg e]
    refine ⟨fun h => ?_, fun h => absurd h e⟩
    split at h
    · omega
    · split at h
      · omega
      · split at h <;> omega
end DIST
