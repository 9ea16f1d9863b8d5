/-! WHAT A PRINTED FUNCTION LEAVES: all cells but those of its list. Printed by wip/whole/gen25.py -/
def fkey (a i : Nat) : Nat := if a = 89 then 1000 + i else a
def Fr {α : Type} (S : List Nat) (f g : Nat → Nat → α) : Prop := ∀ a i, fkey a i ∉ S → g a i = f a i
theorem frx_r {α : Type} {S : List Nat} {f : Nat → Nat → α} : Fr S f f := fun _ _ _ => rfl
theorem frx_t {α : Type} {S : List Nat} {f g h : Nat → Nat → α} (h1 : Fr S f g) (h2 : Fr S g h) : Fr S f h := fun a i ha => (h2 a i ha).trans (h1 a i ha)
theorem frx_m {α : Type} {S S' : List Nat} {f g : Nat → Nat → α} (h : Fr S f g) (hs : ∀ a ∈ S, a ∈ S') : Fr S' f g := fun a i ha => h a i (fun q => ha (hs _ q))
theorem frx_u {α : Type} {S : List Nat} {f g : Nat → Nat → α} {k j : Nat} {v : α} (h : Fr S f g) (hk : k ∈ S) (hn : k ≠ 89) : Fr S f (u2 g k j v) := fun a i ha => by
  rw [u2_ne (fun e => ha (by rw [e, fkey, if_neg hn]; exact hk))]; exact h a i ha
theorem frx_v {α : Type} {S : List Nat} {f g : Nat → Nat → α} {j : Nat} {v : α} (h : Fr S f g) (hk : 1000 + j ∈ S) : Fr S f (u2 g 89 j v) := fun a i ha => by
  by_cases e : a = 89
  · subst e
    by_cases e2 : i = j
    · subst e2; exact absurd (by rw [fkey, if_pos rfl]; exact hk) ha
    · simp only [u2, if_neg e2, if_true]; exact h 89 i ha
  · rw [u2_ne e]; exact h a i ha
theorem frx_z {α : Type} {S : List Nat} {f g : Nat → Nat → α} {k : Nat} {v : α} (h : Fr S f g) (hk : k ∈ S) (hn : k ≠ 89) : Fr S f (z2 g k v) := fun a i ha => by
  rw [z2_ne (fun e => ha (by rw [e, fkey, if_neg hn]; exact hk))]; exact h a i ha
theorem frx_c {α : Type} {S : List Nat} {f g : Nat → Nat → α} {k0 k sp dp n : Nat} (h : Fr S f g) (hk : k ∈ S) (hn : k ≠ 89) : Fr S f (c2 g k0 k sp dp n) := fun a i ha => by
  rw [c2_ne (fun e => ha (by rw [e, fkey, if_neg hn]; exact hk))]; exact h a i ha
theorem ite_some {α : Type} {c : Prop} [Decidable c] {A B : Option α} {v : α} (hf : (if c then A else B) = some v) : (c ∧ A = some v) ∨ (¬ c ∧ B = some v) := by
  by_cases h : c
  · rw [if_pos h] at hf; exact Or.inl ⟨h, hf⟩
  · rw [if_neg h] at hf; exact Or.inr ⟨h, hf⟩
def SI_111 : List Nat := [1, 2]
def SL_111 : List Nat := []
theorem frc_111_0 (n : Nat) : ∀ (m : Nat) (x1 : Int32) (x2 : Int32) (I : FI) (L : FL) (r : FI × FL), c_111_0 n m x1 x2 I L = some r → Fr SI_111 I r.1 ∧ Fr SL_111 L r.2
  | 0, x1, x2, I, L, r, hf => by cases hf
  | m + 1, x1, x2, I, L, r, hf => by
    unfold c_111_0 b_111_0 at hf
    have hK0 := frc_111_0 n m
    rcases ite_some hf with ⟨hc, hf⟩ | ⟨hc, hf⟩
    · cases hf; exact ⟨frx_r, frx_r⟩
    · rcases ite_some hf with ⟨hc, hf⟩ | ⟨hc, hf⟩
      · cases hf; exact ⟨frx_r, frx_r⟩
      · rcases ite_some hf with ⟨hc, hf⟩ | ⟨hc, hf⟩
        · exact ⟨frx_t (frx_u (frx_u frx_r (by decide) (by decide)) (by decide) (by decide)) (hK0 x1 (x2 + (-8 : Int32)) (u2 (u2 I 2 ((I 1 1).toNatClampNeg) (vp_nar .byte ((x1 >>> (x2 &&& 31)).toInt8.toInt32))) 1 1 ((I 1 1) + (1 : Int32))) L r hf).1, frx_t frx_r (hK0 x1 (x2 + (-8 : Int32)) (u2 (u2 I 2 ((I 1 1).toNatClampNeg) (vp_nar .byte ((x1 >>> (x2 &&& 31)).toInt8.toInt32))) 1 1 ((I 1 1) + (1 : Int32))) L r hf).2⟩
        · cases hf
theorem fr_111 (n : Nat) (x1 : Int32) (I : FI) (L : FL) (r : FI × FL) (hf : f_111 n x1 I L = some r) : Fr SI_111 I r.1 ∧ Fr SL_111 L r.2 := by
  unfold f_111 at hf
  exact ⟨frx_t frx_r (frc_111_0 n n x1 (24 : Int32) I L r hf).1, frx_t frx_r (frc_111_0 n n x1 (24 : Int32) I L r hf).2⟩
def SI_113 : List Nat := [1, 2]
def SL_113 : List Nat := []
theorem fr_113 (n : Nat) (x1 : Int32) (x2 : Int32) (x3 : Int32) (x4 : Int32) (x5 : Int32) (I : FI) (L : FL) (r : Int32 × FI × FL) (hf : f_113 n x1 x2 x3 x4 x5 I L = some r) : Fr SI_113 I r.2.1 ∧ Fr SL_113 L r.2.2 := by
  unfold f_113 at hf
  rcases ite_some hf with ⟨hc, hf⟩ | ⟨hc, hf⟩
  · obtain ⟨q0, hq0, hf⟩ := Option.bind_eq_some_iff.mp hf
    have hIq0 : Fr SI_113 I q0.1 := frx_t frx_r (frx_m (fr_111 _ _ _ _ q0 hq0).1 (by decide))
    have hLq0 : Fr SL_113 L q0.2 := frx_t frx_r (frx_m (fr_111 _ _ _ _ q0 hq0).2 (by decide))
    obtain ⟨q1, hq1, hf⟩ := Option.bind_eq_some_iff.mp hf
    have hIq1 : Fr SI_113 I q1.1 := frx_t hIq0 (frx_m (fr_111 _ _ _ _ q1 hq1).1 (by decide))
    have hLq1 : Fr SL_113 L q1.2 := frx_t hLq0 (frx_m (fr_111 _ _ _ _ q1 hq1).2 (by decide))
    obtain ⟨q2, hq2, hf⟩ := Option.bind_eq_some_iff.mp hf
    have hIq2 : Fr SI_113 I q2.1 := frx_t hIq1 (frx_m (fr_111 _ _ _ _ q2 hq2).1 (by decide))
    have hLq2 : Fr SL_113 L q2.2 := frx_t hLq1 (frx_m (fr_111 _ _ _ _ q2 hq2).2 (by decide))
    obtain ⟨q3, hq3, hf⟩ := Option.bind_eq_some_iff.mp hf
    have hIq3 : Fr SI_113 I q3.1 := frx_t hIq2 (frx_m (fr_111 _ _ _ _ q3 hq3).1 (by decide))
    have hLq3 : Fr SL_113 L q3.2 := frx_t hLq2 (frx_m (fr_111 _ _ _ _ q3 hq3).2 (by decide))
    obtain ⟨q4, hq4, hf⟩ := Option.bind_eq_some_iff.mp hf
    have hIq4 : Fr SI_113 I q4.1 := frx_t hIq3 (frx_m (fr_111 _ _ _ _ q4 hq4).1 (by decide))
    have hLq4 : Fr SL_113 L q4.2 := frx_t hLq3 (frx_m (fr_111 _ _ _ _ q4 hq4).2 (by decide))
    cases hf; exact ⟨hIq4, hLq4⟩
  · cases hf; exact ⟨frx_r, frx_r⟩
def SI_114 : List Nat := [1]
def SL_114 : List Nat := []
theorem fr_114 (x1 : Int32) (I : FI) (L : FL) (r : Int32 × FI × FL) (hf : f_114 x1 I L = some r) : Fr SI_114 I r.2.1 ∧ Fr SL_114 L r.2.2 := by
  unfold f_114 at hf
  rcases ite_some hf with ⟨hc, hf⟩ | ⟨hc, hf⟩
  · cases hf; exact ⟨frx_r, frx_r⟩
  · rcases ite_some hf with ⟨hc, hf⟩ | ⟨hc, hf⟩
    · cases hf; exact ⟨(frx_u frx_r (by decide) (by decide)), frx_r⟩
    · cases hf; exact ⟨frx_r, frx_r⟩
def SI_86 : List Nat := [23, 24, 25]
def SL_86 : List Nat := []
theorem frc_86_1 (n : Nat) (x2 : Int32) (x3 : Int32) (I : FI) (L : FL) (r : FI × FL) (hf : c_86_1 n x2 x3 I L = some r) : Fr SI_86 I r.1 ∧ Fr SL_86 L r.2 := by
  unfold c_86_1 at hf
  rcases ite_some hf with ⟨hc, hf⟩ | ⟨hc, hf⟩
  · rcases ite_some hf with ⟨hc, hf⟩ | ⟨hc, hf⟩
    · rcases ite_some hf with ⟨hc, hf⟩ | ⟨hc, hf⟩
      · cases hf; exact ⟨(frx_u (frx_u (frx_u frx_r (by decide) (by decide)) (by decide) (by decide)) (by decide) (by decide)), frx_r⟩
      · cases hf
    · cases hf
  · cases hf
theorem frc_86_2 (n : Nat) (K0 : Int32 → Int32 → Int32 → Int32 → FI → FL → Option (FI × FL)) (hK0 : ∀ (x2 : Int32) (x3 : Int32) (x4 : Int32) (x5 : Int32) (I : FI) (L : FL) (r : FI × FL), K0 x2 x3 x4 x5 I L = some r → Fr SI_86 I r.1 ∧ Fr SL_86 L r.2) (x2 : Int32) (x3 : Int32) (x5 : Int32) (x7 : Int32) (I : FI) (L : FL) (r : FI × FL) (hf : c_86_2 n K0 x2 x3 x5 x7 I L = some r) : Fr SI_86 I r.1 ∧ Fr SL_86 L r.2 := by
  unfold c_86_2 at hf
  exact ⟨frx_t frx_r (hK0 x2 x3 x7 (x5 + (1 : Int32)) I L r hf).1, frx_t frx_r (hK0 x2 x3 x7 (x5 + (1 : Int32)) I L r hf).2⟩
theorem frc_86_3 (n : Nat) (K0 : Int32 → Int32 → Int32 → Int32 → FI → FL → Option (FI × FL)) (hK0 : ∀ (x2 : Int32) (x3 : Int32) (x4 : Int32) (x5 : Int32) (I : FI) (L : FL) (r : FI × FL), K0 x2 x3 x4 x5 I L = some r → Fr SI_86 I r.1 ∧ Fr SL_86 L r.2) (x2 : Int32) (x3 : Int32) (x5 : Int32) (x7 : Int32) (s0 : Int32) (s1 : Int32) (I : FI) (L : FL) (r : FI × FL) (hf : c_86_3 n K0 x2 x3 x5 x7 s0 s1 I L = some r) : Fr SI_86 I r.1 ∧ Fr SL_86 L r.2 := by
  unfold c_86_3 at hf
  rcases ite_some hf with ⟨hc, hf⟩ | ⟨hc, hf⟩
  · exact ⟨frx_t (frx_u frx_r (by decide) (by decide)) (frc_86_2 n _ hK0 x2 (x3 + (1 : Int32)) x5 x7 (u2 I 25 s1.toNatClampNeg s0) L r hf).1, frx_t frx_r (frc_86_2 n _ hK0 x2 (x3 + (1 : Int32)) x5 x7 (u2 I 25 s1.toNatClampNeg s0) L r hf).2⟩
  · cases hf
theorem frc_86_0 (n : Nat) : ∀ (m : Nat) (x2 : Int32) (x3 : Int32) (x4 : Int32) (x5 : Int32) (I : FI) (L : FL) (r : FI × FL), c_86_0 n m x2 x3 x4 x5 I L = some r → Fr SI_86 I r.1 ∧ Fr SL_86 L r.2
  | 0, x2, x3, x4, x5, I, L, r, hf => by cases hf
  | m + 1, x2, x3, x4, x5, I, L, r, hf => by
    unfold c_86_0 b_86_0 at hf
    have hK0 := frc_86_0 n m
    rcases ite_some hf with ⟨hc, hf⟩ | ⟨hc, hf⟩
    · exact ⟨frx_t frx_r (frc_86_1 n x2 x3 I L r hf).1, frx_t frx_r (frc_86_1 n x2 x3 I L r hf).2⟩
    · rcases ite_some hf with ⟨hc, hf⟩ | ⟨hc, hf⟩
      · exact ⟨frx_t frx_r (frc_86_1 n x2 x3 I L r hf).1, frx_t frx_r (frc_86_1 n x2 x3 I L r hf).2⟩
      · rcases ite_some hf with ⟨hc, hf⟩ | ⟨hc, hf⟩
        · obtain ⟨q0, hq0, hf⟩ := Option.bind_eq_some_iff.mp hf
          rcases ite_some hf with ⟨hc, hf⟩ | ⟨hc, hf⟩
          · exact ⟨frx_t frx_r (frc_86_2 n _ hK0 x2 x3 x5 q0 I L r hf).1, frx_t frx_r (frc_86_2 n _ hK0 x2 x3 x5 q0 I L r hf).2⟩
          · rcases ite_some hf with ⟨hc, hf⟩ | ⟨hc, hf⟩
            · exact ⟨frx_t frx_r (frc_86_2 n _ hK0 x2 x3 x5 q0 I L r hf).1, frx_t frx_r (frc_86_2 n _ hK0 x2 x3 x5 q0 I L r hf).2⟩
            · rcases ite_some hf with ⟨hc, hf⟩ | ⟨hc, hf⟩
              · obtain ⟨q1, hq1, hf⟩ := Option.bind_eq_some_iff.mp hf
                rcases ite_some hf with ⟨hc, hf⟩ | ⟨hc, hf⟩
                · rcases ite_some hf with ⟨hc, hf⟩ | ⟨hc, hf⟩
                  · rcases ite_some hf with ⟨hc, hf⟩ | ⟨hc, hf⟩
                    · exact ⟨frx_t (frx_u (frx_u frx_r (by decide) (by decide)) (by decide) (by decide)) (frc_86_3 n _ hK0 x2 x3 x5 q0 (0 : Int32) x3 (u2 (u2 I 24 x3.toNatClampNeg x4) 23 x3.toNatClampNeg (vp_nar .byte q1.toInt8.toInt32)) L r hf).1, frx_t frx_r (frc_86_3 n _ hK0 x2 x3 x5 q0 (0 : Int32) x3 (u2 (u2 I 24 x3.toNatClampNeg x4) 23 x3.toNatClampNeg (vp_nar .byte q1.toInt8.toInt32)) L r hf).2⟩
                    · obtain ⟨q2, hq2, hf⟩ := Option.bind_eq_some_iff.mp hf
                      exact ⟨frx_t (frx_u (frx_u frx_r (by decide) (by decide)) (by decide) (by decide)) (frc_86_3 n _ hK0 x2 x3 x5 q0 q2 x3 (u2 (u2 I 24 x3.toNatClampNeg x4) 23 x3.toNatClampNeg (vp_nar .byte q1.toInt8.toInt32)) L r hf).1, frx_t frx_r (frc_86_3 n _ hK0 x2 x3 x5 q0 q2 x3 (u2 (u2 I 24 x3.toNatClampNeg x4) 23 x3.toNatClampNeg (vp_nar .byte q1.toInt8.toInt32)) L r hf).2⟩
                  · cases hf
                · cases hf
              · cases hf
        · cases hf
theorem fr_86 (n : Nat) (x2 : Int32) (I : FI) (L : FL) (r : FI × FL) (hf : f_86 n x2 I L = some r) : Fr SI_86 I r.1 ∧ Fr SL_86 L r.2 := by
  unfold f_86 at hf
  exact ⟨frx_t frx_r (frc_86_0 n n x2 (0 : Int32) (0 : Int32) (0 : Int32) I L r hf).1, frx_t frx_r (frc_86_0 n n x2 (0 : Int32) (0 : Int32) (0 : Int32) I L r hf).2⟩
def SI_16 : List Nat := [15, 18]
def SL_16 : List Nat := []
theorem frc_16_0 (n : Nat) : ∀ (m : Nat) (x1 : Int32) (I : FI) (L : FL) (r : FI × FL), c_16_0 n m x1 I L = some r → Fr SI_16 I r.1 ∧ Fr SL_16 L r.2
  | 0, x1, I, L, r, hf => by cases hf
  | m + 1, x1, I, L, r, hf => by
    unfold c_16_0 b_16_0 at hf
    have hK0 := frc_16_0 n m
    rcases ite_some hf with ⟨hc, hf⟩ | ⟨hc, hf⟩
    · cases hf; exact ⟨frx_r, frx_r⟩
    · rcases ite_some hf with ⟨hc, hf⟩ | ⟨hc, hf⟩
      · exact ⟨frx_t (frx_u frx_r (by decide) (by decide)) (hK0 (x1 + (1 : Int32)) (u2 I 18 x1.toNatClampNeg (0 : Int32)) L r hf).1, frx_t frx_r (hK0 (x1 + (1 : Int32)) (u2 I 18 x1.toNatClampNeg (0 : Int32)) L r hf).2⟩
      · cases hf
theorem fr_16 (n : Nat) (I : FI) (L : FL) (r : FI × FL) (hf : f_16 n I L = some r) : Fr SI_16 I r.1 ∧ Fr SL_16 L r.2 := by
  unfold f_16 at hf
  exact ⟨frx_t (frx_u (frx_u (frx_u (frx_u (frx_u (frx_u (frx_u (frx_u frx_r (by decide) (by decide)) (by decide) (by decide)) (by decide) (by decide)) (by decide) (by decide)) (by decide) (by decide)) (by decide) (by decide)) (by decide) (by decide)) (by decide) (by decide)) (frc_16_0 n n (0 : Int32) (u2 (u2 (u2 (u2 (u2 (u2 (u2 (u2 I 15 0 (0 : Int32)) 15 1 (0 : Int32)) 15 2 (0 : Int32)) 15 3 (0 : Int32)) 15 4 (0 : Int32)) 15 5 (0 : Int32)) 15 6 (0 : Int32)) 15 7 (0 : Int32)) L r hf).1, frx_t frx_r (frc_16_0 n n (0 : Int32) (u2 (u2 (u2 (u2 (u2 (u2 (u2 (u2 I 15 0 (0 : Int32)) 15 1 (0 : Int32)) 15 2 (0 : Int32)) 15 3 (0 : Int32)) 15 4 (0 : Int32)) 15 5 (0 : Int32)) 15 6 (0 : Int32)) 15 7 (0 : Int32)) L r hf).2⟩
def SI_85 : List Nat := [14]
def SL_85 : List Nat := []
theorem fr_85 (x1 : Int32) (I : FI) (L : FL) (r : FI × FL) (hf : f_85 x1 I L = some r) : Fr SI_85 I r.1 ∧ Fr SL_85 L r.2 := by
  unfold f_85 at hf
  rcases ite_some hf with ⟨hc, hf⟩ | ⟨hc, hf⟩
  · cases hf; exact ⟨frx_r, frx_r⟩
  · rcases ite_some hf with ⟨hc, hf⟩ | ⟨hc, hf⟩
    · cases hf; exact ⟨(frx_u (frx_u frx_r (by decide) (by decide)) (by decide) (by decide)), frx_r⟩
    · cases hf
def SI_84 : List Nat := [14]
def SL_84 : List Nat := []
theorem fr_84 (I : FI) (L : FL) (r : FI × FL) (hf : f_84 I L = some r) : Fr SI_84 I r.1 ∧ Fr SL_84 L r.2 := by
  unfold f_84 at hf
  rcases ite_some hf with ⟨hc, hf⟩ | ⟨hc, hf⟩
  · cases hf; exact ⟨frx_r, frx_r⟩
  · rcases ite_some hf with ⟨hc, hf⟩ | ⟨hc, hf⟩
    · rcases ite_some hf with ⟨hc, hf⟩ | ⟨hc, hf⟩
      · cases hf; exact ⟨frx_r, frx_r⟩
      · cases hf; exact ⟨(frx_u frx_r (by decide) (by decide)), frx_r⟩
    · cases hf
def SI_83 : List Nat := [14]
def SL_83 : List Nat := []
theorem frc_83_0 (I : FI) (L : FL) (r : FI × FL) (hf : c_83_0 I L = some r) : Fr SI_83 I r.1 ∧ Fr SL_83 L r.2 := by
  unfold c_83_0 at hf
  rcases ite_some hf with ⟨hc, hf⟩ | ⟨hc, hf⟩
  · cases hf; exact ⟨frx_r, frx_r⟩
  · obtain ⟨q0, hq0, hf⟩ := Option.bind_eq_some_iff.mp hf
    have hIq0 : Fr SI_83 I q0.1 := frx_t frx_r (frx_m (fr_84 _ _ q0 hq0).1 (by decide))
    have hLq0 : Fr SL_83 L q0.2 := frx_t frx_r (frx_m (fr_84 _ _ q0 hq0).2 (by decide))
    cases hf; exact ⟨hIq0, hLq0⟩
theorem fr_83 (x1 : Int32) (I : FI) (L : FL) (r : FI × FL) (hf : f_83 x1 I L = some r) : Fr SI_83 I r.1 ∧ Fr SL_83 L r.2 := by
  unfold f_83 at hf
  rcases ite_some hf with ⟨hc, hf⟩ | ⟨hc, hf⟩
  · rcases ite_some hf with ⟨hc, hf⟩ | ⟨hc, hf⟩
    · exact ⟨frx_t frx_r (frc_83_0 I L r hf).1, frx_t frx_r (frc_83_0 I L r hf).2⟩
    · obtain ⟨q1, hq1, hf⟩ := Option.bind_eq_some_iff.mp hf
      have hIq1 : Fr SI_83 I q1.1 := frx_t frx_r (frx_m (fr_85 _ _ _ q1 hq1).1 (by decide))
      have hLq1 : Fr SL_83 L q1.2 := frx_t frx_r (frx_m (fr_85 _ _ _ q1 hq1).2 (by decide))
      exact ⟨frx_t hIq1 (frc_83_0 q1.1 q1.2 r hf).1, frx_t hLq1 (frc_83_0 q1.1 q1.2 r hf).2⟩
  · cases hf
def SI_82 : List Nat := [14]
def SL_82 : List Nat := []
theorem frc_82_1 (x1 : Int32) (x3 : Int32) (I : FI) (L : FL) (r : Int32 × FI × FL) (hf : c_82_1 x1 x3 I L = some r) : Fr SI_82 I r.2.1 ∧ Fr SL_82 L r.2.2 := by
  unfold c_82_1 at hf
  rcases ite_some hf with ⟨hc, hf⟩ | ⟨hc, hf⟩
  · obtain ⟨q1, hq1, hf⟩ := Option.bind_eq_some_iff.mp hf
    have hIq1 : Fr SI_82 I q1.1 := frx_t frx_r (frx_m (fr_84 _ _ q1 hq1).1 (by decide))
    have hLq1 : Fr SL_82 L q1.2 := frx_t frx_r (frx_m (fr_84 _ _ q1 hq1).2 (by decide))
    cases hf; exact ⟨hIq1, hLq1⟩
  · cases hf; exact ⟨frx_r, frx_r⟩
theorem frc_82_0 (x1 : Int32) (x3 : Int32) (I : FI) (L : FL) (r : Int32 × FI × FL) (hf : c_82_0 x1 x3 I L = some r) : Fr SI_82 I r.2.1 ∧ Fr SL_82 L r.2.2 := by
  unfold c_82_0 at hf
  obtain ⟨q0, hq0, hf⟩ := Option.bind_eq_some_iff.mp hf
  have hIq0 : Fr SI_82 I q0.1 := frx_t frx_r (frx_m (fr_85 _ _ _ q0 hq0).1 (by decide))
  have hLq0 : Fr SL_82 L q0.2 := frx_t frx_r (frx_m (fr_85 _ _ _ q0 hq0).2 (by decide))
  exact ⟨frx_t hIq0 (frc_82_1 x1 x3 q0.1 q0.2 r hf).1, frx_t hLq0 (frc_82_1 x1 x3 q0.1 q0.2 r hf).2⟩
theorem fr_82 (x1 : Int32) (x2 : Int32) (I : FI) (L : FL) (r : Int32 × FI × FL) (hf : f_82 x1 x2 I L = some r) : Fr SI_82 I r.2.1 ∧ Fr SL_82 L r.2.2 := by
  unfold f_82 at hf
  rcases ite_some hf with ⟨hc, hf⟩ | ⟨hc, hf⟩
  · rcases ite_some hf with ⟨hc, hf⟩ | ⟨hc, hf⟩
    · rcases ite_some hf with ⟨hc, hf⟩ | ⟨hc, hf⟩
      · rcases ite_some hf with ⟨hc, hf⟩ | ⟨hc, hf⟩
        · exact ⟨frx_t frx_r (frc_82_0 x1 (I 25 ((I 14 6).toNatClampNeg)) I L r hf).1, frx_t frx_r (frc_82_0 x1 (I 25 ((I 14 6).toNatClampNeg)) I L r hf).2⟩
        · rcases ite_some hf with ⟨hc, hf⟩ | ⟨hc, hf⟩
          · exact ⟨frx_t frx_r (frc_82_1 x1 (I 25 ((I 14 6).toNatClampNeg)) I L r hf).1, frx_t frx_r (frc_82_1 x1 (I 25 ((I 14 6).toNatClampNeg)) I L r hf).2⟩
          · exact ⟨frx_t frx_r (frc_82_0 x1 (I 25 ((I 14 6).toNatClampNeg)) I L r hf).1, frx_t frx_r (frc_82_0 x1 (I 25 ((I 14 6).toNatClampNeg)) I L r hf).2⟩
      · obtain ⟨q2, hq2, hf⟩ := Option.bind_eq_some_iff.mp hf
        have hIq2 : Fr SI_82 I q2.1 := frx_t frx_r (frx_m (fr_85 _ _ _ q2 hq2).1 (by decide))
        have hLq2 : Fr SL_82 L q2.2 := frx_t frx_r (frx_m (fr_85 _ _ _ q2 hq2).2 (by decide))
        exact ⟨frx_t hIq2 (frc_82_1 x1 (I 25 ((I 14 6).toNatClampNeg)) q2.1 q2.2 r hf).1, frx_t hLq2 (frc_82_1 x1 (I 25 ((I 14 6).toNatClampNeg)) q2.1 q2.2 r hf).2⟩
    · cases hf
  · cases hf
def SI_76 : List Nat := [14, 15]
def SL_76 : List Nat := []
theorem fr_76 (I : FI) (L : FL) (r : FI × FL) (hf : f_76 I L = some r) : Fr SI_76 I r.1 ∧ Fr SL_76 L r.2 := by
  unfold f_76 at hf
  obtain ⟨q0, hq0, hf⟩ := Option.bind_eq_some_iff.mp hf
  have hIq0 : Fr SI_76 I q0.1 := frx_t frx_r (frx_m (fr_83 _ _ _ q0 hq0).1 (by decide))
  have hLq0 : Fr SL_76 L q0.2 := frx_t frx_r (frx_m (fr_83 _ _ _ q0 hq0).2 (by decide))
  obtain ⟨q1, hq1, hf⟩ := Option.bind_eq_some_iff.mp hf
  have hIq1 : Fr SI_76 I q1.1 := frx_t hIq0 (frx_m (fr_83 _ _ _ q1 hq1).1 (by decide))
  have hLq1 : Fr SL_76 L q1.2 := frx_t hLq0 (frx_m (fr_83 _ _ _ q1 hq1).2 (by decide))
  obtain ⟨q2, hq2, hf⟩ := Option.bind_eq_some_iff.mp hf
  have hIq2 : Fr SI_76 I q2.2.1 := frx_t hIq1 (frx_m (fr_82 _ _ _ _ q2 hq2).1 (by decide))
  have hLq2 : Fr SL_76 L q2.2.2 := frx_t hLq1 (frx_m (fr_82 _ _ _ _ q2 hq2).2 (by decide))
  obtain ⟨q3, hq3, hf⟩ := Option.bind_eq_some_iff.mp hf
  have hIq3 : Fr SI_76 I q3.1 := frx_t (frx_u hIq2 (by decide) (by decide)) (frx_m (fr_83 _ _ _ q3 hq3).1 (by decide))
  have hLq3 : Fr SL_76 L q3.2 := frx_t hLq2 (frx_m (fr_83 _ _ _ q3 hq3).2 (by decide))
  obtain ⟨q4, hq4, hf⟩ := Option.bind_eq_some_iff.mp hf
  have hIq4 : Fr SI_76 I q4.2.1 := frx_t hIq3 (frx_m (fr_82 _ _ _ _ q4 hq4).1 (by decide))
  have hLq4 : Fr SL_76 L q4.2.2 := frx_t hLq3 (frx_m (fr_82 _ _ _ _ q4 hq4).2 (by decide))
  obtain ⟨q5, hq5, hf⟩ := Option.bind_eq_some_iff.mp hf
  have hIq5 : Fr SI_76 I q5.1 := frx_t (frx_u hIq4 (by decide) (by decide)) (frx_m (fr_83 _ _ _ q5 hq5).1 (by decide))
  have hLq5 : Fr SL_76 L q5.2 := frx_t hLq4 (frx_m (fr_83 _ _ _ q5 hq5).2 (by decide))
  obtain ⟨q6, hq6, hf⟩ := Option.bind_eq_some_iff.mp hf
  have hIq6 : Fr SI_76 I q6.2.1 := frx_t hIq5 (frx_m (fr_82 _ _ _ _ q6 hq6).1 (by decide))
  have hLq6 : Fr SL_76 L q6.2.2 := frx_t hLq5 (frx_m (fr_82 _ _ _ _ q6 hq6).2 (by decide))
  cases hf; exact ⟨(frx_u hIq6 (by decide) (by decide)), hLq6⟩
def SI_77 : List Nat := [14, 15, 16, 17]
def SL_77 : List Nat := []
theorem fr_77 (I : FI) (L : FL) (r : FI × FL) (hf : f_77 I L = some r) : Fr SI_77 I r.1 ∧ Fr SL_77 L r.2 := by
  unfold f_77 at hf
  rcases ite_some hf with ⟨hc, hf⟩ | ⟨hc, hf⟩
  · obtain ⟨q0, hq0, hf⟩ := Option.bind_eq_some_iff.mp hf
    have hIq0 : Fr SI_77 I q0.1 := frx_t frx_r (frx_m (fr_83 _ _ _ q0 hq0).1 (by decide))
    have hLq0 : Fr SL_77 L q0.2 := frx_t frx_r (frx_m (fr_83 _ _ _ q0 hq0).2 (by decide))
    obtain ⟨q1, hq1, hf⟩ := Option.bind_eq_some_iff.mp hf
    have hIq1 : Fr SI_77 I q1.1 := frx_t hIq0 (frx_m (fr_83 _ _ _ q1 hq1).1 (by decide))
    have hLq1 : Fr SL_77 L q1.2 := frx_t hLq0 (frx_m (fr_83 _ _ _ q1 hq1).2 (by decide))
    obtain ⟨q2, hq2, hf⟩ := Option.bind_eq_some_iff.mp hf
    have hIq2 : Fr SI_77 I q2.2.1 := frx_t hIq1 (frx_m (fr_82 _ _ _ _ q2 hq2).1 (by decide))
    have hLq2 : Fr SL_77 L q2.2.2 := frx_t hLq1 (frx_m (fr_82 _ _ _ _ q2 hq2).2 (by decide))
    rcases ite_some hf with ⟨hc, hf⟩ | ⟨hc, hf⟩
    · obtain ⟨q3, hq3, hf⟩ := Option.bind_eq_some_iff.mp hf
      have hIq3 : Fr SI_77 I q3.1 := frx_t (frx_u hIq2 (by decide) (by decide)) (frx_m (fr_83 _ _ _ q3 hq3).1 (by decide))
      have hLq3 : Fr SL_77 L q3.2 := frx_t hLq2 (frx_m (fr_83 _ _ _ q3 hq3).2 (by decide))
      obtain ⟨q4, hq4, hf⟩ := Option.bind_eq_some_iff.mp hf
      have hIq4 : Fr SI_77 I q4.2.1 := frx_t hIq3 (frx_m (fr_82 _ _ _ _ q4 hq4).1 (by decide))
      have hLq4 : Fr SL_77 L q4.2.2 := frx_t hLq3 (frx_m (fr_82 _ _ _ _ q4 hq4).2 (by decide))
      rcases ite_some hf with ⟨hc, hf⟩ | ⟨hc, hf⟩
      · cases hf; exact ⟨(frx_u (frx_u hIq4 (by decide) (by decide)) (by decide) (by decide)), hLq4⟩
      · cases hf
    · cases hf
  · obtain ⟨q5, hq5, hf⟩ := Option.bind_eq_some_iff.mp hf
    have hIq5 : Fr SI_77 I q5.1 := frx_t frx_r (frx_m (fr_85 _ _ _ q5 hq5).1 (by decide))
    have hLq5 : Fr SL_77 L q5.2 := frx_t frx_r (frx_m (fr_85 _ _ _ q5 hq5).2 (by decide))
    cases hf; exact ⟨hIq5, hLq5⟩
def SI_78 : List Nat := [14, 15, 18]
def SL_78 : List Nat := []
theorem frc_78_0 (x1 : Int32) (I : FI) (L : FL) (r : FI × FL) (hf : c_78_0 x1 I L = some r) : Fr SI_78 I r.1 ∧ Fr SL_78 L r.2 := by
  unfold c_78_0 at hf
  obtain ⟨q2, hq2, hf⟩ := Option.bind_eq_some_iff.mp hf
  have hIq2 : Fr SI_78 I q2.2.1 := frx_t frx_r (frx_m (fr_82 _ _ _ _ q2 hq2).1 (by decide))
  have hLq2 : Fr SL_78 L q2.2.2 := frx_t frx_r (frx_m (fr_82 _ _ _ _ q2 hq2).2 (by decide))
  rcases ite_some hf with ⟨hc, hf⟩ | ⟨hc, hf⟩
  · cases hf; exact ⟨hIq2, hLq2⟩
  · rcases ite_some hf with ⟨hc, hf⟩ | ⟨hc, hf⟩
    · rcases ite_some hf with ⟨hc, hf⟩ | ⟨hc, hf⟩
      · rcases ite_some hf with ⟨hc, hf⟩ | ⟨hc, hf⟩
        · rcases ite_some hf with ⟨hc, hf⟩ | ⟨hc, hf⟩
          · cases hf; exact ⟨(frx_u (frx_u (frx_u hIq2 (by decide) (by decide)) (by decide) (by decide)) (by decide) (by decide)), hLq2⟩
          · cases hf
        · cases hf
      · cases hf
    · cases hf
theorem fr_78 (I : FI) (L : FL) (r : FI × FL) (hf : f_78 I L = some r) : Fr SI_78 I r.1 ∧ Fr SL_78 L r.2 := by
  unfold f_78 at hf
  rcases ite_some hf with ⟨hc, hf⟩ | ⟨hc, hf⟩
  · obtain ⟨q0, hq0, hf⟩ := Option.bind_eq_some_iff.mp hf
    have hIq0 : Fr SI_78 I q0.1 := frx_t frx_r (frx_m (fr_83 _ _ _ q0 hq0).1 (by decide))
    have hLq0 : Fr SL_78 L q0.2 := frx_t frx_r (frx_m (fr_83 _ _ _ q0 hq0).2 (by decide))
    obtain ⟨q1, hq1, hf⟩ := Option.bind_eq_some_iff.mp hf
    have hIq1 : Fr SI_78 I q1.2.1 := frx_t hIq0 (frx_m (fr_82 _ _ _ _ q1 hq1).1 (by decide))
    have hLq1 : Fr SL_78 L q1.2.2 := frx_t hLq0 (frx_m (fr_82 _ _ _ _ q1 hq1).2 (by decide))
    rcases ite_some hf with ⟨hc, hf⟩ | ⟨hc, hf⟩
    · rcases ite_some hf with ⟨hc, hf⟩ | ⟨hc, hf⟩
      · exact ⟨frx_t hIq1 (frc_78_0 q1.1 q1.2.1 q1.2.2 r hf).1, frx_t hLq1 (frc_78_0 q1.1 q1.2.1 q1.2.2 r hf).2⟩
      · rcases ite_some hf with ⟨hc, hf⟩ | ⟨hc, hf⟩
        · rcases ite_some hf with ⟨hc, hf⟩ | ⟨hc, hf⟩
          · exact ⟨frx_t hIq1 (frc_78_0 q1.1 q1.2.1 q1.2.2 r hf).1, frx_t hLq1 (frc_78_0 q1.1 q1.2.1 q1.2.2 r hf).2⟩
          · obtain ⟨q3, hq3, hf⟩ := Option.bind_eq_some_iff.mp hf
            have hIq3 : Fr SI_78 I q3.1 := frx_t hIq1 (frx_m (fr_85 _ _ _ q3 hq3).1 (by decide))
            have hLq3 : Fr SL_78 L q3.2 := frx_t hLq1 (frx_m (fr_85 _ _ _ q3 hq3).2 (by decide))
            exact ⟨frx_t hIq3 (frc_78_0 q1.1 q3.1 q3.2 r hf).1, frx_t hLq3 (frc_78_0 q1.1 q3.1 q3.2 r hf).2⟩
        · cases hf
    · cases hf
  · obtain ⟨q4, hq4, hf⟩ := Option.bind_eq_some_iff.mp hf
    have hIq4 : Fr SI_78 I q4.1 := frx_t frx_r (frx_m (fr_85 _ _ _ q4 hq4).1 (by decide))
    have hLq4 : Fr SL_78 L q4.2 := frx_t frx_r (frx_m (fr_85 _ _ _ q4 hq4).2 (by decide))
    cases hf; exact ⟨hIq4, hLq4⟩
def SI_79 : List Nat := [14, 15, 20, 21]
def SL_79 : List Nat := []
theorem fr_79 (I : FI) (L : FL) (r : FI × FL) (hf : f_79 I L = some r) : Fr SI_79 I r.1 ∧ Fr SL_79 L r.2 := by
  unfold f_79 at hf
  rcases ite_some hf with ⟨hc, hf⟩ | ⟨hc, hf⟩
  · obtain ⟨q0, hq0, hf⟩ := Option.bind_eq_some_iff.mp hf
    have hIq0 : Fr SI_79 I q0.1 := frx_t frx_r (frx_m (fr_83 _ _ _ q0 hq0).1 (by decide))
    have hLq0 : Fr SL_79 L q0.2 := frx_t frx_r (frx_m (fr_83 _ _ _ q0 hq0).2 (by decide))
    obtain ⟨q1, hq1, hf⟩ := Option.bind_eq_some_iff.mp hf
    have hIq1 : Fr SI_79 I q1.1 := frx_t hIq0 (frx_m (fr_83 _ _ _ q1 hq1).1 (by decide))
    have hLq1 : Fr SL_79 L q1.2 := frx_t hLq0 (frx_m (fr_83 _ _ _ q1 hq1).2 (by decide))
    obtain ⟨q2, hq2, hf⟩ := Option.bind_eq_some_iff.mp hf
    have hIq2 : Fr SI_79 I q2.2.1 := frx_t hIq1 (frx_m (fr_82 _ _ _ _ q2 hq2).1 (by decide))
    have hLq2 : Fr SL_79 L q2.2.2 := frx_t hLq1 (frx_m (fr_82 _ _ _ _ q2 hq2).2 (by decide))
    rcases ite_some hf with ⟨hc, hf⟩ | ⟨hc, hf⟩
    · obtain ⟨q3, hq3, hf⟩ := Option.bind_eq_some_iff.mp hf
      have hIq3 : Fr SI_79 I q3.1 := frx_t (frx_u hIq2 (by decide) (by decide)) (frx_m (fr_83 _ _ _ q3 hq3).1 (by decide))
      have hLq3 : Fr SL_79 L q3.2 := frx_t hLq2 (frx_m (fr_83 _ _ _ q3 hq3).2 (by decide))
      obtain ⟨q4, hq4, hf⟩ := Option.bind_eq_some_iff.mp hf
      have hIq4 : Fr SI_79 I q4.2.1 := frx_t hIq3 (frx_m (fr_82 _ _ _ _ q4 hq4).1 (by decide))
      have hLq4 : Fr SL_79 L q4.2.2 := frx_t hLq3 (frx_m (fr_82 _ _ _ _ q4 hq4).2 (by decide))
      rcases ite_some hf with ⟨hc, hf⟩ | ⟨hc, hf⟩
      · cases hf; exact ⟨(frx_u (frx_u hIq4 (by decide) (by decide)) (by decide) (by decide)), hLq4⟩
      · cases hf
    · cases hf
  · obtain ⟨q5, hq5, hf⟩ := Option.bind_eq_some_iff.mp hf
    have hIq5 : Fr SI_79 I q5.1 := frx_t frx_r (frx_m (fr_85 _ _ _ q5 hq5).1 (by decide))
    have hLq5 : Fr SL_79 L q5.2 := frx_t frx_r (frx_m (fr_85 _ _ _ q5 hq5).2 (by decide))
    cases hf; exact ⟨hIq5, hLq5⟩
def SI_81 : List Nat := [14, 15, 22]
def SL_81 : List Nat := []
theorem frc_81_0 (s0 : Int32) (I : FI) (L : FL) (r : FI × FL) (hf : c_81_0 s0 I L = some r) : Fr SI_81 I r.1 ∧ Fr SL_81 L r.2 := by
  unfold c_81_0 at hf
  obtain ⟨q1, hq1, hf⟩ := Option.bind_eq_some_iff.mp hf
  have hIq1 : Fr SI_81 I q1.1 := frx_t frx_r (frx_m (fr_85 _ _ _ q1 hq1).1 (by decide))
  have hLq1 : Fr SL_81 L q1.2 := frx_t frx_r (frx_m (fr_85 _ _ _ q1 hq1).2 (by decide))
  cases hf; exact ⟨hIq1, hLq1⟩
theorem fr_81 (I : FI) (L : FL) (r : FI × FL) (hf : f_81 I L = some r) : Fr SI_81 I r.1 ∧ Fr SL_81 L r.2 := by
  unfold f_81 at hf
  rcases ite_some hf with ⟨hc, hf⟩ | ⟨hc, hf⟩
  · obtain ⟨q0, hq0, hf⟩ := Option.bind_eq_some_iff.mp hf
    have hIq0 : Fr SI_81 I q0.2.1 := frx_t frx_r (frx_m (fr_82 _ _ _ _ q0 hq0).1 (by decide))
    have hLq0 : Fr SL_81 L q0.2.2 := frx_t frx_r (frx_m (fr_82 _ _ _ _ q0 hq0).2 (by decide))
    rcases ite_some hf with ⟨hc, hf⟩ | ⟨hc, hf⟩
    · cases hf; exact ⟨(frx_u (frx_u hIq0 (by decide) (by decide)) (by decide) (by decide)), hLq0⟩
    · cases hf
  · rcases ite_some hf with ⟨hc, hf⟩ | ⟨hc, hf⟩
    · rcases ite_some hf with ⟨hc, hf⟩ | ⟨hc, hf⟩
      · exact ⟨frx_t frx_r (frc_81_0 (2 : Int32) I L r hf).1, frx_t frx_r (frc_81_0 (2 : Int32) I L r hf).2⟩
      · exact ⟨frx_t frx_r (frc_81_0 (3 : Int32) I L r hf).1, frx_t frx_r (frc_81_0 (3 : Int32) I L r hf).2⟩
    · cases hf
def SI_80 : List Nat := [14, 15, 22]
def SL_80 : List Nat := []
theorem frc_80_0 (n : Nat) : ∀ (m : Nat) (x1 : Int32) (I : FI) (L : FL) (r : FI × FL), c_80_0 n m x1 I L = some r → Fr SI_80 I r.1 ∧ Fr SL_80 L r.2
  | 0, x1, I, L, r, hf => by cases hf
  | m + 1, x1, I, L, r, hf => by
    unfold c_80_0 b_80_0 at hf
    have hK0 := frc_80_0 n m
    rcases ite_some hf with ⟨hc, hf⟩ | ⟨hc, hf⟩
    · cases hf; exact ⟨frx_r, frx_r⟩
    · rcases ite_some hf with ⟨hc, hf⟩ | ⟨hc, hf⟩
      · cases hf; exact ⟨frx_r, frx_r⟩
      · rcases ite_some hf with ⟨hc, hf⟩ | ⟨hc, hf⟩
        · rcases ite_some hf with ⟨hc, hf⟩ | ⟨hc, hf⟩
          · cases hf; exact ⟨frx_r, frx_r⟩
          · obtain ⟨q2, hq2, hf⟩ := Option.bind_eq_some_iff.mp hf
            have hIq2 : Fr SI_80 I q2.1 := frx_t frx_r (frx_m (fr_81 _ _ q2 hq2).1 (by decide))
            have hLq2 : Fr SL_80 L q2.2 := frx_t frx_r (frx_m (fr_81 _ _ q2 hq2).2 (by decide))
            exact ⟨frx_t hIq2 (hK0 (x1 + (1 : Int32)) q2.1 q2.2 r hf).1, frx_t hLq2 (hK0 (x1 + (1 : Int32)) q2.1 q2.2 r hf).2⟩
        · cases hf
theorem fr_80 (n : Nat) (I : FI) (L : FL) (r : FI × FL) (hf : f_80 n I L = some r) : Fr SI_80 I r.1 ∧ Fr SL_80 L r.2 := by
  unfold f_80 at hf
  rcases ite_some hf with ⟨hc, hf⟩ | ⟨hc, hf⟩
  · obtain ⟨q0, hq0, hf⟩ := Option.bind_eq_some_iff.mp hf
    have hIq0 : Fr SI_80 I q0.1 := frx_t frx_r (frx_m (fr_83 _ _ _ q0 hq0).1 (by decide))
    have hLq0 : Fr SL_80 L q0.2 := frx_t frx_r (frx_m (fr_83 _ _ _ q0 hq0).2 (by decide))
    obtain ⟨q1, hq1, hf⟩ := Option.bind_eq_some_iff.mp hf
    have hIq1 : Fr SI_80 I q1.1 := frx_t hIq0 (frx_m (fr_81 _ _ q1 hq1).1 (by decide))
    have hLq1 : Fr SL_80 L q1.2 := frx_t hLq0 (frx_m (fr_81 _ _ q1 hq1).2 (by decide))
    exact ⟨frx_t hIq1 (frc_80_0 n n (0 : Int32) q1.1 q1.2 r hf).1, frx_t hLq1 (frc_80_0 n n (0 : Int32) q1.1 q1.2 r hf).2⟩
  · obtain ⟨q3, hq3, hf⟩ := Option.bind_eq_some_iff.mp hf
    have hIq3 : Fr SI_80 I q3.1 := frx_t frx_r (frx_m (fr_85 _ _ _ q3 hq3).1 (by decide))
    have hLq3 : Fr SL_80 L q3.2 := frx_t frx_r (frx_m (fr_85 _ _ _ q3 hq3).2 (by decide))
    cases hf; exact ⟨hIq3, hLq3⟩
def SI_75 : List Nat := [14, 15, 16, 17, 18, 20, 21, 22]
def SL_75 : List Nat := []
theorem frc_75_2 (n : Nat) (I : FI) (L : FL) (r : FI × FL) (hf : c_75_2 n I L = some r) : Fr SI_75 I r.1 ∧ Fr SL_75 L r.2 := by
  unfold c_75_2 at hf
  obtain ⟨q1, hq1, hf⟩ := Option.bind_eq_some_iff.mp hf
  have hIq1 : Fr SI_75 I q1.1 := frx_t frx_r (frx_m (fr_83 _ _ _ q1 hq1).1 (by decide))
  have hLq1 : Fr SL_75 L q1.2 := frx_t frx_r (frx_m (fr_83 _ _ _ q1 hq1).2 (by decide))
  cases hf; exact ⟨(frx_u hIq1 (by decide) (by decide)), hLq1⟩
theorem frc_75_1 (n : Nat) (s0 : Int32) (s1 : Int32) (I : FI) (L : FL) (r : FI × FL) (hf : c_75_1 n s0 s1 I L = some r) : Fr SI_75 I r.1 ∧ Fr SL_75 L r.2 := by
  unfold c_75_1 at hf
  rcases ite_some hf with ⟨hc, hf⟩ | ⟨hc, hf⟩
  · rcases ite_some hf with ⟨hc, hf⟩ | ⟨hc, hf⟩
    · rcases ite_some hf with ⟨hc, hf⟩ | ⟨hc, hf⟩
      · obtain ⟨q0, hq0, hf⟩ := Option.bind_eq_some_iff.mp hf
        have hIq0 : Fr SI_75 I q0.1 := frx_t frx_r (frx_m (fr_85 _ _ _ q0 hq0).1 (by decide))
        have hLq0 : Fr SL_75 L q0.2 := frx_t frx_r (frx_m (fr_85 _ _ _ q0 hq0).2 (by decide))
        exact ⟨frx_t hIq0 (frc_75_2 n q0.1 q0.2 r hf).1, frx_t hLq0 (frc_75_2 n q0.1 q0.2 r hf).2⟩
      rcases ite_some hf with ⟨hc, hf⟩ | ⟨hc, hf⟩
      · obtain ⟨q2, hq2, hf⟩ := Option.bind_eq_some_iff.mp hf
        have hIq2 : Fr SI_75 I q2.1 := frx_t frx_r (frx_m (fr_76 _ _ q2 hq2).1 (by decide))
        have hLq2 : Fr SL_75 L q2.2 := frx_t frx_r (frx_m (fr_76 _ _ q2 hq2).2 (by decide))
        exact ⟨frx_t hIq2 (frc_75_2 n q2.1 q2.2 r hf).1, frx_t hLq2 (frc_75_2 n q2.1 q2.2 r hf).2⟩
      rcases ite_some hf with ⟨hc, hf⟩ | ⟨hc, hf⟩
      · obtain ⟨q3, hq3, hf⟩ := Option.bind_eq_some_iff.mp hf
        have hIq3 : Fr SI_75 I q3.1 := frx_t frx_r (frx_m (fr_85 _ _ _ q3 hq3).1 (by decide))
        have hLq3 : Fr SL_75 L q3.2 := frx_t frx_r (frx_m (fr_85 _ _ _ q3 hq3).2 (by decide))
        exact ⟨frx_t hIq3 (frc_75_2 n q3.1 q3.2 r hf).1, frx_t hLq3 (frc_75_2 n q3.1 q3.2 r hf).2⟩
      rcases ite_some hf with ⟨hc, hf⟩ | ⟨hc, hf⟩
      · obtain ⟨q4, hq4, hf⟩ := Option.bind_eq_some_iff.mp hf
        have hIq4 : Fr SI_75 I q4.1 := frx_t frx_r (frx_m (fr_85 _ _ _ q4 hq4).1 (by decide))
        have hLq4 : Fr SL_75 L q4.2 := frx_t frx_r (frx_m (fr_85 _ _ _ q4 hq4).2 (by decide))
        exact ⟨frx_t hIq4 (frc_75_2 n q4.1 q4.2 r hf).1, frx_t hLq4 (frc_75_2 n q4.1 q4.2 r hf).2⟩
      rcases ite_some hf with ⟨hc, hf⟩ | ⟨hc, hf⟩
      · obtain ⟨q5, hq5, hf⟩ := Option.bind_eq_some_iff.mp hf
        have hIq5 : Fr SI_75 I q5.1 := frx_t frx_r (frx_m (fr_85 _ _ _ q5 hq5).1 (by decide))
        have hLq5 : Fr SL_75 L q5.2 := frx_t frx_r (frx_m (fr_85 _ _ _ q5 hq5).2 (by decide))
        exact ⟨frx_t hIq5 (frc_75_2 n q5.1 q5.2 r hf).1, frx_t hLq5 (frc_75_2 n q5.1 q5.2 r hf).2⟩
      rcases ite_some hf with ⟨hc, hf⟩ | ⟨hc, hf⟩
      · obtain ⟨q6, hq6, hf⟩ := Option.bind_eq_some_iff.mp hf
        have hIq6 : Fr SI_75 I q6.1 := frx_t frx_r (frx_m (fr_77 _ _ q6 hq6).1 (by decide))
        have hLq6 : Fr SL_75 L q6.2 := frx_t frx_r (frx_m (fr_77 _ _ q6 hq6).2 (by decide))
        exact ⟨frx_t hIq6 (frc_75_2 n q6.1 q6.2 r hf).1, frx_t hLq6 (frc_75_2 n q6.1 q6.2 r hf).2⟩
      rcases ite_some hf with ⟨hc, hf⟩ | ⟨hc, hf⟩
      · obtain ⟨q7, hq7, hf⟩ := Option.bind_eq_some_iff.mp hf
        have hIq7 : Fr SI_75 I q7.1 := frx_t frx_r (frx_m (fr_85 _ _ _ q7 hq7).1 (by decide))
        have hLq7 : Fr SL_75 L q7.2 := frx_t frx_r (frx_m (fr_85 _ _ _ q7 hq7).2 (by decide))
        exact ⟨frx_t hIq7 (frc_75_2 n q7.1 q7.2 r hf).1, frx_t hLq7 (frc_75_2 n q7.1 q7.2 r hf).2⟩
      rcases ite_some hf with ⟨hc, hf⟩ | ⟨hc, hf⟩
      · obtain ⟨q8, hq8, hf⟩ := Option.bind_eq_some_iff.mp hf
        have hIq8 : Fr SI_75 I q8.1 := frx_t frx_r (frx_m (fr_85 _ _ _ q8 hq8).1 (by decide))
        have hLq8 : Fr SL_75 L q8.2 := frx_t frx_r (frx_m (fr_85 _ _ _ q8 hq8).2 (by decide))
        exact ⟨frx_t hIq8 (frc_75_2 n q8.1 q8.2 r hf).1, frx_t hLq8 (frc_75_2 n q8.1 q8.2 r hf).2⟩
      rcases ite_some hf with ⟨hc, hf⟩ | ⟨hc, hf⟩
      · obtain ⟨q9, hq9, hf⟩ := Option.bind_eq_some_iff.mp hf
        have hIq9 : Fr SI_75 I q9.1 := frx_t frx_r (frx_m (fr_78 _ _ q9 hq9).1 (by decide))
        have hLq9 : Fr SL_75 L q9.2 := frx_t frx_r (frx_m (fr_78 _ _ q9 hq9).2 (by decide))
        exact ⟨frx_t hIq9 (frc_75_2 n q9.1 q9.2 r hf).1, frx_t hLq9 (frc_75_2 n q9.1 q9.2 r hf).2⟩
      rcases ite_some hf with ⟨hc, hf⟩ | ⟨hc, hf⟩
      · obtain ⟨q10, hq10, hf⟩ := Option.bind_eq_some_iff.mp hf
        have hIq10 : Fr SI_75 I q10.1 := frx_t frx_r (frx_m (fr_79 _ _ q10 hq10).1 (by decide))
        have hLq10 : Fr SL_75 L q10.2 := frx_t frx_r (frx_m (fr_79 _ _ q10 hq10).2 (by decide))
        exact ⟨frx_t hIq10 (frc_75_2 n q10.1 q10.2 r hf).1, frx_t hLq10 (frc_75_2 n q10.1 q10.2 r hf).2⟩
      rcases ite_some hf with ⟨hc, hf⟩ | ⟨hc, hf⟩
      · obtain ⟨q11, hq11, hf⟩ := Option.bind_eq_some_iff.mp hf
        have hIq11 : Fr SI_75 I q11.1 := frx_t frx_r (frx_m (fr_85 _ _ _ q11 hq11).1 (by decide))
        have hLq11 : Fr SL_75 L q11.2 := frx_t frx_r (frx_m (fr_85 _ _ _ q11 hq11).2 (by decide))
        exact ⟨frx_t hIq11 (frc_75_2 n q11.1 q11.2 r hf).1, frx_t hLq11 (frc_75_2 n q11.1 q11.2 r hf).2⟩
      rcases ite_some hf with ⟨hc, hf⟩ | ⟨hc, hf⟩
      · obtain ⟨q12, hq12, hf⟩ := Option.bind_eq_some_iff.mp hf
        have hIq12 : Fr SI_75 I q12.1 := frx_t frx_r (frx_m (fr_85 _ _ _ q12 hq12).1 (by decide))
        have hLq12 : Fr SL_75 L q12.2 := frx_t frx_r (frx_m (fr_85 _ _ _ q12 hq12).2 (by decide))
        exact ⟨frx_t hIq12 (frc_75_2 n q12.1 q12.2 r hf).1, frx_t hLq12 (frc_75_2 n q12.1 q12.2 r hf).2⟩
      rcases ite_some hf with ⟨hc, hf⟩ | ⟨hc, hf⟩
      · obtain ⟨q13, hq13, hf⟩ := Option.bind_eq_some_iff.mp hf
        have hIq13 : Fr SI_75 I q13.1 := frx_t frx_r (frx_m (fr_80 _ _ _ q13 hq13).1 (by decide))
        have hLq13 : Fr SL_75 L q13.2 := frx_t frx_r (frx_m (fr_80 _ _ _ q13 hq13).2 (by decide))
        exact ⟨frx_t hIq13 (frc_75_2 n q13.1 q13.2 r hf).1, frx_t hLq13 (frc_75_2 n q13.1 q13.2 r hf).2⟩
      cases hf
    · cases hf
  · obtain ⟨q14, hq14, hf⟩ := Option.bind_eq_some_iff.mp hf
    have hIq14 : Fr SI_75 I q14.1 := frx_t frx_r (frx_m (fr_85 _ _ _ q14 hq14).1 (by decide))
    have hLq14 : Fr SL_75 L q14.2 := frx_t frx_r (frx_m (fr_85 _ _ _ q14 hq14).2 (by decide))
    cases hf; exact ⟨hIq14, hLq14⟩
theorem frc_75_0 (n : Nat) (s0 : Int32) (I : FI) (L : FL) (r : FI × FL) (hf : c_75_0 n s0 I L = some r) : Fr SI_75 I r.1 ∧ Fr SL_75 L r.2 := by
  unfold c_75_0 at hf
  rcases ite_some hf with ⟨hc, hf⟩ | ⟨hc, hf⟩
  · rcases ite_some hf with ⟨hc, hf⟩ | ⟨hc, hf⟩
    · exact ⟨frx_t frx_r (frc_75_1 n (0 : Int32) s0 I L r hf).1, frx_t frx_r (frc_75_1 n (0 : Int32) s0 I L r hf).2⟩
    · exact ⟨frx_t frx_r (frc_75_1 n (1 : Int32) s0 I L r hf).1, frx_t frx_r (frc_75_1 n (1 : Int32) s0 I L r hf).2⟩
  · cases hf
theorem fr_75 (n : Nat) (I : FI) (L : FL) (r : FI × FL) (hf : f_75 n I L = some r) : Fr SI_75 I r.1 ∧ Fr SL_75 L r.2 := by
  unfold f_75 at hf
  rcases ite_some hf with ⟨hc, hf⟩ | ⟨hc, hf⟩
  · exact ⟨frx_t frx_r (frc_75_0 n (0 : Int32) I L r hf).1, frx_t frx_r (frc_75_0 n (0 : Int32) I L r hf).2⟩
  · exact ⟨frx_t frx_r (frc_75_0 n (1 : Int32) I L r hf).1, frx_t frx_r (frc_75_0 n (1 : Int32) I L r hf).2⟩
def SI_74 : List Nat := [14, 15, 16, 17, 18, 20, 21, 22, 23, 24, 25]
def SL_74 : List Nat := []
theorem frc_74_0 (n : Nat) : ∀ (m : Nat) (x2 : Int32) (I : FI) (L : FL) (r : FI × FL), c_74_0 n m x2 I L = some r → Fr SI_74 I r.1 ∧ Fr SL_74 L r.2
  | 0, x2, I, L, r, hf => by cases hf
  | m + 1, x2, I, L, r, hf => by
    unfold c_74_0 b_74_0 at hf
    have hK0 := frc_74_0 n m
    rcases ite_some hf with ⟨hc, hf⟩ | ⟨hc, hf⟩
    · cases hf; exact ⟨frx_r, frx_r⟩
    · rcases ite_some hf with ⟨hc, hf⟩ | ⟨hc, hf⟩
      · cases hf; exact ⟨frx_r, frx_r⟩
      · rcases ite_some hf with ⟨hc, hf⟩ | ⟨hc, hf⟩
        · rcases ite_some hf with ⟨hc, hf⟩ | ⟨hc, hf⟩
          · cases hf; exact ⟨frx_r, frx_r⟩
          · obtain ⟨q3, hq3, hf⟩ := Option.bind_eq_some_iff.mp hf
            have hIq3 : Fr SI_74 I q3.1 := frx_t frx_r (frx_m (fr_75 _ _ _ q3 hq3).1 (by decide))
            have hLq3 : Fr SL_74 L q3.2 := frx_t frx_r (frx_m (fr_75 _ _ _ q3 hq3).2 (by decide))
            exact ⟨frx_t hIq3 (hK0 (x2 + (1 : Int32)) q3.1 q3.2 r hf).1, frx_t hLq3 (hK0 (x2 + (1 : Int32)) q3.1 q3.2 r hf).2⟩
        · cases hf
theorem fr_74 (n : Nat) (I : FI) (L : FL) (r : FI × FL) (hf : f_74 n I L = some r) : Fr SI_74 I r.1 ∧ Fr SL_74 L r.2 := by
  unfold f_74 at hf
  obtain ⟨q0, hq0, hf⟩ := Option.bind_eq_some_iff.mp hf
  obtain ⟨q1, hq1, hf⟩ := Option.bind_eq_some_iff.mp hf
  have hIq1 : Fr SI_74 I q1.1 := frx_t frx_r (frx_m (fr_86 _ _ _ _ q1 hq1).1 (by decide))
  have hLq1 : Fr SL_74 L q1.2 := frx_t frx_r (frx_m (fr_86 _ _ _ _ q1 hq1).2 (by decide))
  obtain ⟨q2, hq2, hf⟩ := Option.bind_eq_some_iff.mp hf
  have hIq2 : Fr SI_74 I q2.1 := frx_t (frx_u (frx_u (frx_u hIq1 (by decide) (by decide)) (by decide) (by decide)) (by decide) (by decide)) (frx_m (fr_16 _ _ _ q2 hq2).1 (by decide))
  have hLq2 : Fr SL_74 L q2.2 := frx_t hLq1 (frx_m (fr_16 _ _ _ q2 hq2).2 (by decide))
  exact ⟨frx_t hIq2 (frc_74_0 n n (0 : Int32) q2.1 q2.2 r hf).1, frx_t hLq2 (frc_74_0 n n (0 : Int32) q2.1 q2.2 r hf).2⟩
def SI_17 : List Nat := [3, 4, 5, 6, 7, 8, 9, 10]
def SL_17 : List Nat := []
theorem fr_17 (I : FI) (L : FL) (r : FI × FL) (hf : f_17 I L = some r) : Fr SI_17 I r.1 ∧ Fr SL_17 L r.2 := by
  unfold f_17 at hf
  cases hf; exact ⟨(frx_c (frx_c (frx_c (frx_c (frx_c (frx_c (frx_c (frx_u (frx_u (frx_u (frx_u (frx_u (frx_u (frx_u (frx_u frx_r (by decide) (by decide)) (by decide) (by decide)) (by decide) (by decide)) (by decide) (by decide)) (by decide) (by decide)) (by decide) (by decide)) (by decide) (by decide)) (by decide) (by decide)) (by decide) (by decide)) (by decide) (by decide)) (by decide) (by decide)) (by decide) (by decide)) (by decide) (by decide)) (by decide) (by decide)) (by decide) (by decide)), frx_r⟩
def SI_19 : List Nat := [7]
def SL_19 : List Nat := []
theorem frc_19_2 (n : Nat) (K0 : Int32 → Int32 → Int32 → Int32 → FI → FL → Option (FI × FL)) (K1 : Int32 → Int32 → Int32 → Int32 → Int32 → Int32 → FI → FL → Option (FI × FL)) (hK0 : ∀ (x1 : Int32) (x2 : Int32) (x3 : Int32) (x4 : Int32) (I : FI) (L : FL) (r : FI × FL), K0 x1 x2 x3 x4 I L = some r → Fr SI_19 I r.1 ∧ Fr SL_19 L r.2) (hK1 : ∀ (x1 : Int32) (x2 : Int32) (x3 : Int32) (x4 : Int32) (x5 : Int32) (x6 : Int32) (I : FI) (L : FL) (r : FI × FL), K1 x1 x2 x3 x4 x5 x6 I L = some r → Fr SI_19 I r.1 ∧ Fr SL_19 L r.2) (x1 : Int32) (x2 : Int32) (x3 : Int32) (x4 : Int32) (x5 : Int32) (x6 : Int32) (I : FI) (L : FL) (r : FI × FL) (hf : c_19_2 n K0 K1 x1 x2 x3 x4 x5 x6 I L = some r) : Fr SI_19 I r.1 ∧ Fr SL_19 L r.2 := by
  unfold c_19_2 at hf
  exact ⟨frx_t frx_r (hK1 x1 x2 x3 x4 x5 (x6 + (1 : Int32)) I L r hf).1, frx_t frx_r (hK1 x1 x2 x3 x4 x5 (x6 + (1 : Int32)) I L r hf).2⟩
theorem frc_19_1 (n : Nat) (K0 : Int32 → Int32 → Int32 → Int32 → FI → FL → Option (FI × FL)) (hK0 : ∀ (x1 : Int32) (x2 : Int32) (x3 : Int32) (x4 : Int32) (I : FI) (L : FL) (r : FI × FL), K0 x1 x2 x3 x4 I L = some r → Fr SI_19 I r.1 ∧ Fr SL_19 L r.2) : ∀ (m : Nat) (x1 : Int32) (x2 : Int32) (x3 : Int32) (x4 : Int32) (x5 : Int32) (x6 : Int32) (I : FI) (L : FL) (r : FI × FL), c_19_1 n K0 m x1 x2 x3 x4 x5 x6 I L = some r → Fr SI_19 I r.1 ∧ Fr SL_19 L r.2
  | 0, x1, x2, x3, x4, x5, x6, I, L, r, hf => by cases hf
  | m + 1, x1, x2, x3, x4, x5, x6, I, L, r, hf => by
    unfold c_19_1 b_19_1 at hf
    have hK1 := frc_19_1 n K0 hK0 m
    rcases ite_some hf with ⟨hc, hf⟩ | ⟨hc, hf⟩
    · exact ⟨frx_t frx_r (hK0 x1 (x2 ||| x3) (x5 &&& ((x2 ||| x3) ^^^ (-1 : Int32))) (x4 + (1 : Int32)) I L r hf).1, frx_t frx_r (hK0 x1 (x2 ||| x3) (x5 &&& ((x2 ||| x3) ^^^ (-1 : Int32))) (x4 + (1 : Int32)) I L r hf).2⟩
    · rcases ite_some hf with ⟨hc, hf⟩ | ⟨hc, hf⟩
      · exact ⟨frx_t frx_r (frc_19_2 n _ _ hK0 hK1 x1 x2 x3 x4 x5 x6 I L r hf).1, frx_t frx_r (frc_19_2 n _ _ hK0 hK1 x1 x2 x3 x4 x5 x6 I L r hf).2⟩
      · rcases ite_some hf with ⟨hc, hf⟩ | ⟨hc, hf⟩
        · rcases ite_some hf with ⟨hc, hf⟩ | ⟨hc, hf⟩
          · exact ⟨frx_t (frx_u frx_r (by decide) (by decide)) (frc_19_2 n _ _ hK0 hK1 x1 x2 x3 x4 (x5 ||| (I 6 x6.toNatClampNeg)) x6 (u2 I 7 (((x1 * (4 : Int32)) + x6).toNatClampNeg) x4) L r hf).1, frx_t frx_r (frc_19_2 n _ _ hK0 hK1 x1 x2 x3 x4 (x5 ||| (I 6 x6.toNatClampNeg)) x6 (u2 I 7 (((x1 * (4 : Int32)) + x6).toNatClampNeg) x4) L r hf).2⟩
          · cases hf
        · cases hf
theorem frc_19_0 (n : Nat) : ∀ (m : Nat) (x1 : Int32) (x2 : Int32) (x3 : Int32) (x4 : Int32) (I : FI) (L : FL) (r : FI × FL), c_19_0 n m x1 x2 x3 x4 I L = some r → Fr SI_19 I r.1 ∧ Fr SL_19 L r.2
  | 0, x1, x2, x3, x4, I, L, r, hf => by cases hf
  | m + 1, x1, x2, x3, x4, I, L, r, hf => by
    unfold c_19_0 b_19_0 at hf
    have hK0 := frc_19_0 n m
    rcases ite_some hf with ⟨hc, hf⟩ | ⟨hc, hf⟩
    · cases hf; exact ⟨frx_r, frx_r⟩
    · exact ⟨frx_t frx_r (frc_19_1 n _ hK0 n x1 x2 x3 x4 (0 : Int32) (0 : Int32) I L r hf).1, frx_t frx_r (frc_19_1 n _ hK0 n x1 x2 x3 x4 (0 : Int32) (0 : Int32) I L r hf).2⟩
theorem fr_19 (n : Nat) (x1 : Int32) (I : FI) (L : FL) (r : FI × FL) (hf : f_19 n x1 I L = some r) : Fr SI_19 I r.1 ∧ Fr SL_19 L r.2 := by
  unfold f_19 at hf
  exact ⟨frx_t frx_r (frc_19_0 n n x1 (0 : Int32) ((1 : Int32) <<< (x1 &&& 31)) (0 : Int32) I L r hf).1, frx_t frx_r (frc_19_0 n n x1 (0 : Int32) ((1 : Int32) <<< (x1 &&& 31)) (0 : Int32) I L r hf).2⟩
def SI_18 : List Nat := [7]
def SL_18 : List Nat := []
theorem frc_18_1 (n : Nat) (K0 : Int32 → FI → FL → Option (FI × FL)) (hK0 : ∀ (x1 : Int32) (I : FI) (L : FL) (r : FI × FL), K0 x1 I L = some r → Fr SI_18 I r.1 ∧ Fr SL_18 L r.2) : ∀ (m : Nat) (x1 : Int32) (x2 : Int32) (I : FI) (L : FL) (r : FI × FL), c_18_1 n K0 m x1 x2 I L = some r → Fr SI_18 I r.1 ∧ Fr SL_18 L r.2
  | 0, x1, x2, I, L, r, hf => by cases hf
  | m + 1, x1, x2, I, L, r, hf => by
    unfold c_18_1 b_18_1 at hf
    have hK1 := frc_18_1 n K0 hK0 m
    rcases ite_some hf with ⟨hc, hf⟩ | ⟨hc, hf⟩
    · obtain ⟨q0, hq0, hf⟩ := Option.bind_eq_some_iff.mp hf
      have hIq0 : Fr SI_18 I q0.1 := frx_t frx_r (frx_m (fr_19 _ _ _ _ q0 hq0).1 (by decide))
      have hLq0 : Fr SL_18 L q0.2 := frx_t frx_r (frx_m (fr_19 _ _ _ _ q0 hq0).2 (by decide))
      exact ⟨frx_t hIq0 (hK0 (x1 + (1 : Int32)) q0.1 q0.2 r hf).1, frx_t hLq0 (hK0 (x1 + (1 : Int32)) q0.1 q0.2 r hf).2⟩
    · rcases ite_some hf with ⟨hc, hf⟩ | ⟨hc, hf⟩
      · exact ⟨frx_t (frx_u frx_r (by decide) (by decide)) (hK1 x1 (x2 + (1 : Int32)) (u2 I 7 (((x1 * (4 : Int32)) + x2).toNatClampNeg) (-1 : Int32)) L r hf).1, frx_t frx_r (hK1 x1 (x2 + (1 : Int32)) (u2 I 7 (((x1 * (4 : Int32)) + x2).toNatClampNeg) (-1 : Int32)) L r hf).2⟩
      · cases hf
theorem frc_18_0 (n : Nat) : ∀ (m : Nat) (x1 : Int32) (I : FI) (L : FL) (r : FI × FL), c_18_0 n m x1 I L = some r → Fr SI_18 I r.1 ∧ Fr SL_18 L r.2
  | 0, x1, I, L, r, hf => by cases hf
  | m + 1, x1, I, L, r, hf => by
    unfold c_18_0 b_18_0 at hf
    have hK0 := frc_18_0 n m
    rcases ite_some hf with ⟨hc, hf⟩ | ⟨hc, hf⟩
    · cases hf; exact ⟨frx_r, frx_r⟩
    · exact ⟨frx_t frx_r (frc_18_1 n _ hK0 n x1 (0 : Int32) I L r hf).1, frx_t frx_r (frc_18_1 n _ hK0 n x1 (0 : Int32) I L r hf).2⟩
theorem fr_18 (n : Nat) (I : FI) (L : FL) (r : FI × FL) (hf : f_18 n I L = some r) : Fr SI_18 I r.1 ∧ Fr SL_18 L r.2 := by
  unfold f_18 at hf
  exact ⟨frx_t frx_r (frc_18_0 n n (0 : Int32) I L r hf).1, frx_t frx_r (frc_18_0 n n (0 : Int32) I L r hf).2⟩
def SI_95 : List Nat := [35, 39]
def SL_95 : List Nat := []
theorem frc_95_0 (n : Nat) : ∀ (m : Nat) (x2 : Int32) (I : FI) (L : FL) (r : FI × FL), c_95_0 n m x2 I L = some r → Fr SI_95 I r.1 ∧ Fr SL_95 L r.2
  | 0, x2, I, L, r, hf => by cases hf
  | m + 1, x2, I, L, r, hf => by
    unfold c_95_0 b_95_0 at hf
    have hK0 := frc_95_0 n m
    rcases ite_some hf with ⟨hc, hf⟩ | ⟨hc, hf⟩
    · cases hf; exact ⟨frx_r, frx_r⟩
    · rcases ite_some hf with ⟨hc, hf⟩ | ⟨hc, hf⟩
      · exact ⟨frx_t (frx_u frx_r (by decide) (by decide)) (hK0 (x2 + (1 : Int32)) (u2 I 39 x2.toNatClampNeg (-3 : Int32)) L r hf).1, frx_t frx_r (hK0 (x2 + (1 : Int32)) (u2 I 39 x2.toNatClampNeg (-3 : Int32)) L r hf).2⟩
      · cases hf
theorem fr_95 (n : Nat) (I : FI) (L : FL) (r : FI × FL) (hf : f_95 n I L = some r) : Fr SI_95 I r.1 ∧ Fr SL_95 L r.2 := by
  unfold f_95 at hf
  exact ⟨frx_t (frx_u frx_r (by decide) (by decide)) (frc_95_0 n n (0 : Int32) (u2 I 35 7 (-3 : Int32)) L r hf).1, frx_t frx_r (frc_95_0 n n (0 : Int32) (u2 I 35 7 (-3 : Int32)) L r hf).2⟩
def SI_31 : List Nat := [114, 120, 121]
def SL_31 : List Nat := []
theorem frc_31_1 (n : Nat) : ∀ (m : Nat) (x2 : Int32) (I : FI) (L : FL) (r : FI × FL), c_31_1 n m x2 I L = some r → Fr SI_31 I r.1 ∧ Fr SL_31 L r.2
  | 0, x2, I, L, r, hf => by cases hf
  | m + 1, x2, I, L, r, hf => by
    unfold c_31_1 b_31_1 at hf
    have hK1 := frc_31_1 n m
    rcases ite_some hf with ⟨hc, hf⟩ | ⟨hc, hf⟩
    · cases hf; exact ⟨frx_r, frx_r⟩
    · rcases ite_some hf with ⟨hc, hf⟩ | ⟨hc, hf⟩
      · exact ⟨frx_t (frx_u frx_r (by decide) (by decide)) (hK1 (x2 + (1 : Int32)) (u2 I 121 x2.toNatClampNeg (-3 : Int32)) L r hf).1, frx_t frx_r (hK1 (x2 + (1 : Int32)) (u2 I 121 x2.toNatClampNeg (-3 : Int32)) L r hf).2⟩
      · cases hf
theorem frc_31_0 (n : Nat) : ∀ (m : Nat) (x2 : Int32) (I : FI) (L : FL) (r : FI × FL), c_31_0 n m x2 I L = some r → Fr SI_31 I r.1 ∧ Fr SL_31 L r.2
  | 0, x2, I, L, r, hf => by cases hf
  | m + 1, x2, I, L, r, hf => by
    unfold c_31_0 b_31_0 at hf
    have hK0 := frc_31_0 n m
    rcases ite_some hf with ⟨hc, hf⟩ | ⟨hc, hf⟩
    · exact ⟨frx_t frx_r (frc_31_1 n n (0 : Int32) I L r hf).1, frx_t frx_r (frc_31_1 n n (0 : Int32) I L r hf).2⟩
    · rcases ite_some hf with ⟨hc, hf⟩ | ⟨hc, hf⟩
      · exact ⟨frx_t (frx_u frx_r (by decide) (by decide)) (hK0 (x2 + (1 : Int32)) (u2 I 120 x2.toNatClampNeg (-3 : Int32)) L r hf).1, frx_t frx_r (hK0 (x2 + (1 : Int32)) (u2 I 120 x2.toNatClampNeg (-3 : Int32)) L r hf).2⟩
      · cases hf
theorem fr_31 (n : Nat) (I : FI) (L : FL) (r : FI × FL) (hf : f_31 n I L = some r) : Fr SI_31 I r.1 ∧ Fr SL_31 L r.2 := by
  unfold f_31 at hf
  exact ⟨frx_t (frx_u (frx_u frx_r (by decide) (by decide)) (by decide) (by decide)) (frc_31_0 n n (0 : Int32) (u2 (u2 I 114 7 (-1 : Int32)) 114 8 (-3 : Int32)) L r hf).1, frx_t frx_r (frc_31_0 n n (0 : Int32) (u2 (u2 I 114 7 (-1 : Int32)) 114 8 (-3 : Int32)) L r hf).2⟩
def SI_186_1 : List Nat := [35, 39, 114, 120, 121]
def SL_186_1 : List Nat := []
theorem fr_186_1 (n : Nat) (I : FI) (L : FL) (r : FI × FL) (hf : f_186_1 n I L = some r) : Fr SI_186_1 I r.1 ∧ Fr SL_186_1 L r.2 := by
  unfold f_186_1 at hf
  obtain ⟨q0, hq0, hf⟩ := Option.bind_eq_some_iff.mp hf
  have hIq0 : Fr SI_186_1 I q0.1 := frx_t frx_r (frx_m (fr_95 _ _ _ q0 hq0).1 (by decide))
  have hLq0 : Fr SL_186_1 L q0.2 := frx_t frx_r (frx_m (fr_95 _ _ _ q0 hq0).2 (by decide))
  obtain ⟨q1, hq1, hf⟩ := Option.bind_eq_some_iff.mp hf
  have hIq1 : Fr SI_186_1 I q1.1 := frx_t hIq0 (frx_m (fr_31 _ _ _ q1 hq1).1 (by decide))
  have hLq1 : Fr SL_186_1 L q1.2 := frx_t hLq0 (frx_m (fr_31 _ _ _ q1 hq1).2 (by decide))
  cases hf; exact ⟨hIq1, hLq1⟩
def SI_115_1 : List Nat := [1, 3, 4, 5, 6, 7, 8, 9, 10, 11, 14, 15, 16, 17, 18, 20, 21, 22, 23, 24, 25, 35, 39, 114, 120, 121]
def SL_115_1 : List Nat := []
theorem fr_115_1 (n : Nat) (rh : Option Nat) (I : FI) (L : FL) (r : Int32 × Option Nat × FI × FL) (hf : f_115_1 n rh I L = some r) : Fr SI_115_1 I r.2.2.1 ∧ Fr SL_115_1 L r.2.2.2 := by
  unfold f_115_1 at hf
  obtain ⟨q0, hq0, hf⟩ := Option.bind_eq_some_iff.mp hf
  have hIq0 : Fr SI_115_1 I q0.1 := frx_t frx_r (frx_m (fr_74 _ _ _ q0 hq0).1 (by decide))
  have hLq0 : Fr SL_115_1 L q0.2 := frx_t frx_r (frx_m (fr_74 _ _ _ q0 hq0).2 (by decide))
  rcases ite_some hf with ⟨hc, hf⟩ | ⟨hc, hf⟩
  · obtain ⟨q1, hq1, hf⟩ := Option.bind_eq_some_iff.mp hf
    have hIq1 : Fr SI_115_1 I q1.1 := frx_t (frx_u hIq0 (by decide) (by decide)) (frx_m (fr_17 _ _ q1 hq1).1 (by decide))
    have hLq1 : Fr SL_115_1 L q1.2 := frx_t hLq0 (frx_m (fr_17 _ _ q1 hq1).2 (by decide))
    obtain ⟨q2, hq2, hf⟩ := Option.bind_eq_some_iff.mp hf
    have hIq2 : Fr SI_115_1 I q2.1 := frx_t hIq1 (frx_m (fr_18 _ _ _ q2 hq2).1 (by decide))
    have hLq2 : Fr SL_115_1 L q2.2 := frx_t hLq1 (frx_m (fr_18 _ _ _ q2 hq2).2 (by decide))
    obtain ⟨q3, hq3, hf⟩ := Option.bind_eq_some_iff.mp hf
    have hIq3 : Fr SI_115_1 I q3.1 := frx_t (frx_u hIq2 (by decide) (by decide)) (frx_m (fr_186_1 _ _ _ q3 hq3).1 (by decide))
    have hLq3 : Fr SL_115_1 L q3.2 := frx_t hLq2 (frx_m (fr_186_1 _ _ _ q3 hq3).2 (by decide))
    cases hf; exact ⟨hIq3, hLq3⟩
  · cases hf; exact ⟨(frx_u hIq0 (by decide) (by decide)), hLq0⟩
def SI_53 : List Nat := [26, 27, 28]
def SL_53 : List Nat := []
theorem frc_53_3 (n : Nat) (K2 : Int32 → FI → FL → Option (FI × FL)) (hK2 : ∀ (x4 : Int32) (I : FI) (L : FL) (r : FI × FL), K2 x4 I L = some r → Fr SI_53 I r.1 ∧ Fr SL_53 L r.2) (x4 : Int32) (I : FI) (L : FL) (r : FI × FL) (hf : c_53_3 n K2 x4 I L = some r) : Fr SI_53 I r.1 ∧ Fr SL_53 L r.2 := by
  unfold c_53_3 at hf
  exact ⟨frx_t frx_r (hK2 (x4 + (1 : Int32)) I L r hf).1, frx_t frx_r (hK2 (x4 + (1 : Int32)) I L r hf).2⟩
theorem frc_53_2 (n : Nat) : ∀ (m : Nat) (x4 : Int32) (I : FI) (L : FL) (r : FI × FL), c_53_2 n m x4 I L = some r → Fr SI_53 I r.1 ∧ Fr SL_53 L r.2
  | 0, x4, I, L, r, hf => by cases hf
  | m + 1, x4, I, L, r, hf => by
    unfold c_53_2 b_53_2 at hf
    have hK2 := frc_53_2 n m
    rcases ite_some hf with ⟨hc, hf⟩ | ⟨hc, hf⟩
    · cases hf; exact ⟨frx_r, frx_r⟩
    · rcases ite_some hf with ⟨hc, hf⟩ | ⟨hc, hf⟩
      · rcases ite_some hf with ⟨hc, hf⟩ | ⟨hc, hf⟩
        · rcases ite_some hf with ⟨hc, hf⟩ | ⟨hc, hf⟩
          · rcases ite_some hf with ⟨hc, hf⟩ | ⟨hc, hf⟩
            · rcases ite_some hf with ⟨hc, hf⟩ | ⟨hc, hf⟩
              · rcases ite_some hf with ⟨hc, hf⟩ | ⟨hc, hf⟩
                · exact ⟨frx_t (frx_u frx_r (by decide) (by decide)) (frc_53_3 n _ hK2 x4 (u2 I 28 ((I 13 x4.toNatClampNeg).toNatClampNeg) ((I 28 ((I 13 x4.toNatClampNeg).toNatClampNeg)) ||| ((1 : Int32) <<< ((I 12 x4.toNatClampNeg) &&& 31)))) L r hf).1, frx_t frx_r (frc_53_3 n _ hK2 x4 (u2 I 28 ((I 13 x4.toNatClampNeg).toNatClampNeg) ((I 28 ((I 13 x4.toNatClampNeg).toNatClampNeg)) ||| ((1 : Int32) <<< ((I 12 x4.toNatClampNeg) &&& 31)))) L r hf).2⟩
                · cases hf
              · cases hf
            · cases hf
          · cases hf
        · rcases ite_some hf with ⟨hc, hf⟩ | ⟨hc, hf⟩
          · exact ⟨frx_t (frx_u frx_r (by decide) (by decide)) (frc_53_3 n _ hK2 x4 (u2 I 26 9 ((I 26 9) ||| ((1 : Int32) <<< ((I 13 x4.toNatClampNeg) &&& 31)))) L r hf).1, frx_t frx_r (frc_53_3 n _ hK2 x4 (u2 I 26 9 ((I 26 9) ||| ((1 : Int32) <<< ((I 13 x4.toNatClampNeg) &&& 31)))) L r hf).2⟩
          · cases hf
      · cases hf
theorem frc_53_4 (n : Nat) (K1 : Int32 → Int32 → FI → FL → Option (FI × FL)) (hK1 : ∀ (x3 : Int32) (x4 : Int32) (I : FI) (L : FL) (r : FI × FL), K1 x3 x4 I L = some r → Fr SI_53 I r.1 ∧ Fr SL_53 L r.2) (x3 : Int32) (x4 : Int32) (I : FI) (L : FL) (r : FI × FL) (hf : c_53_4 n K1 x3 x4 I L = some r) : Fr SI_53 I r.1 ∧ Fr SL_53 L r.2 := by
  unfold c_53_4 at hf
  exact ⟨frx_t frx_r (hK1 x3 (x4 + (1 : Int32)) I L r hf).1, frx_t frx_r (hK1 x3 (x4 + (1 : Int32)) I L r hf).2⟩
theorem frc_53_1 (n : Nat) : ∀ (m : Nat) (x3 : Int32) (x4 : Int32) (I : FI) (L : FL) (r : FI × FL), c_53_1 n m x3 x4 I L = some r → Fr SI_53 I r.1 ∧ Fr SL_53 L r.2
  | 0, x3, x4, I, L, r, hf => by cases hf
  | m + 1, x3, x4, I, L, r, hf => by
    unfold c_53_1 b_53_1 at hf
    have hK1 := frc_53_1 n m
    rcases ite_some hf with ⟨hc, hf⟩ | ⟨hc, hf⟩
    · exact ⟨frx_t frx_r (frc_53_2 n n (0 : Int32) I L r hf).1, frx_t frx_r (frc_53_2 n n (0 : Int32) I L r hf).2⟩
    · rcases ite_some hf with ⟨hc, hf⟩ | ⟨hc, hf⟩
      · exact ⟨frx_t frx_r (frc_53_4 n _ hK1 x3 x4 I L r hf).1, frx_t frx_r (frc_53_4 n _ hK1 x3 x4 I L r hf).2⟩
      · rcases ite_some hf with ⟨hc, hf⟩ | ⟨hc, hf⟩
        · rcases ite_some hf with ⟨hc, hf⟩ | ⟨hc, hf⟩
          · rcases ite_some hf with ⟨hc, hf⟩ | ⟨hc, hf⟩
            · rcases ite_some hf with ⟨hc, hf⟩ | ⟨hc, hf⟩
              · exact ⟨frx_t (frx_u frx_r (by decide) (by decide)) (frc_53_4 n _ hK1 x3 x4 (u2 I 28 ((I 9 x4.toNatClampNeg).toNatClampNeg) ((I 28 ((I 9 x4.toNatClampNeg).toNatClampNeg)) ||| ((1 : Int32) <<< ((I 8 x4.toNatClampNeg) &&& 31)))) L r hf).1, frx_t frx_r (frc_53_4 n _ hK1 x3 x4 (u2 I 28 ((I 9 x4.toNatClampNeg).toNatClampNeg) ((I 28 ((I 9 x4.toNatClampNeg).toNatClampNeg)) ||| ((1 : Int32) <<< ((I 8 x4.toNatClampNeg) &&& 31)))) L r hf).2⟩
              · cases hf
            · cases hf
          · cases hf
        · cases hf
theorem frc_53_0 (n : Nat) : ∀ (m : Nat) (x3 : Int32) (x4 : Int32) (I : FI) (L : FL) (r : FI × FL), c_53_0 n m x3 x4 I L = some r → Fr SI_53 I r.1 ∧ Fr SL_53 L r.2
  | 0, x3, x4, I, L, r, hf => by cases hf
  | m + 1, x3, x4, I, L, r, hf => by
    unfold c_53_0 b_53_0 at hf
    have hK0 := frc_53_0 n m
    rcases ite_some hf with ⟨hc, hf⟩ | ⟨hc, hf⟩
    · exact ⟨frx_t frx_r (frc_53_1 n n x3 (0 : Int32) I L r hf).1, frx_t frx_r (frc_53_1 n n x3 (0 : Int32) I L r hf).2⟩
    · rcases ite_some hf with ⟨hc, hf⟩ | ⟨hc, hf⟩
      · exact ⟨frx_t (frx_u frx_r (by decide) (by decide)) (hK0 x3 (x4 + (1 : Int32)) (u2 I 28 x4.toNatClampNeg (0 : Int32)) L r hf).1, frx_t frx_r (hK0 x3 (x4 + (1 : Int32)) (u2 I 28 x4.toNatClampNeg (0 : Int32)) L r hf).2⟩
      · cases hf
theorem fr_53 (n : Nat) (x3 : Int32) (I : FI) (L : FL) (r : FI × FL) (hf : f_53 n x3 I L = some r) : Fr SI_53 I r.1 ∧ Fr SL_53 L r.2 := by
  unfold f_53 at hf
  exact ⟨frx_t (frx_c (frx_u (frx_u (frx_u (frx_u (frx_u (frx_u frx_r (by decide) (by decide)) (by decide) (by decide)) (by decide) (by decide)) (by decide) (by decide)) (by decide) (by decide)) (by decide) (by decide)) (by decide) (by decide)) (frc_53_0 n n x3 (0 : Int32) (c2 (u2 (u2 (u2 (u2 (u2 (u2 I 26 10 (I 3 4)) 26 11 (I 3 3)) 26 6 (I 3 1)) 26 7 (0 : Int32)) 26 8 (0 : Int32)) 26 9 (0 : Int32)) 4 27 0 0 4) L r hf).1, frx_t frx_r (frc_53_0 n n x3 (0 : Int32) (c2 (u2 (u2 (u2 (u2 (u2 (u2 I 26 10 (I 3 4)) 26 11 (I 3 3)) 26 6 (I 3 1)) 26 7 (0 : Int32)) 26 8 (0 : Int32)) 26 9 (0 : Int32)) 4 27 0 0 4) L r hf).2⟩
def SI_58 : List Nat := [30, 31, 32]
def SL_58 : List Nat := []
theorem frc_58_4 (n : Nat) (K1 : Int32 → Int32 → FI → FL → Option (FI × FL)) (hK1 : ∀ (x1 : Int32) (x3 : Int32) (I : FI) (L : FL) (r : FI × FL), K1 x1 x3 I L = some r → Fr SI_58 I r.1 ∧ Fr SL_58 L r.2) (x1 : Int32) (x3 : Int32) (x5 : Int32) (I : FI) (L : FL) (r : FI × FL) (hf : c_58_4 n K1 x1 x3 x5 I L = some r) : Fr SI_58 I r.1 ∧ Fr SL_58 L r.2 := by
  unfold c_58_4 at hf
  rcases ite_some hf with ⟨hc, hf⟩ | ⟨hc, hf⟩
  · exact ⟨frx_t (frx_u frx_r (by decide) (by decide)) (hK1 x1 (x3 + (1 : Int32)) (u2 I 31 (((x1 * (4 : Int32)) + x3).toNatClampNeg) x5) L r hf).1, frx_t frx_r (hK1 x1 (x3 + (1 : Int32)) (u2 I 31 (((x1 * (4 : Int32)) + x3).toNatClampNeg) x5) L r hf).2⟩
  · cases hf
theorem frc_58_3 (n : Nat) (K1 : Int32 → Int32 → FI → FL → Option (FI × FL)) (hK1 : ∀ (x1 : Int32) (x3 : Int32) (I : FI) (L : FL) (r : FI × FL), K1 x1 x3 I L = some r → Fr SI_58 I r.1 ∧ Fr SL_58 L r.2) (x1 : Int32) (x3 : Int32) (s0 : Int32) (I : FI) (L : FL) (r : FI × FL) (hf : c_58_3 n K1 x1 x3 s0 I L = some r) : Fr SI_58 I r.1 ∧ Fr SL_58 L r.2 := by
  unfold c_58_3 at hf
  rcases ite_some hf with ⟨hc, hf⟩ | ⟨hc, hf⟩
  · exact ⟨frx_t frx_r (frc_58_4 n _ hK1 x1 x3 s0 I L r hf).1, frx_t frx_r (frc_58_4 n _ hK1 x1 x3 s0 I L r hf).2⟩
  · rcases ite_some hf with ⟨hc, hf⟩ | ⟨hc, hf⟩
    · rcases ite_some hf with ⟨hc, hf⟩ | ⟨hc, hf⟩
      · exact ⟨frx_t frx_r (frc_58_4 n _ hK1 x1 x3 s0 I L r hf).1, frx_t frx_r (frc_58_4 n _ hK1 x1 x3 s0 I L r hf).2⟩
      · rcases ite_some hf with ⟨hc, hf⟩ | ⟨hc, hf⟩
        · exact ⟨frx_t (frx_u frx_r (by decide) (by decide)) (frc_58_4 n _ hK1 x1 x3 (99 : Int32) (u2 I 32 x3.toNatClampNeg x1) L r hf).1, frx_t frx_r (frc_58_4 n _ hK1 x1 x3 (99 : Int32) (u2 I 32 x3.toNatClampNeg x1) L r hf).2⟩
        · cases hf
    · cases hf
theorem frc_58_2 (n : Nat) (K1 : Int32 → Int32 → FI → FL → Option (FI × FL)) (hK1 : ∀ (x1 : Int32) (x3 : Int32) (I : FI) (L : FL) (r : FI × FL), K1 x1 x3 I L = some r → Fr SI_58 I r.1 ∧ Fr SL_58 L r.2) (x1 : Int32) (x3 : Int32) (s0 : Int32) (I : FI) (L : FL) (r : FI × FL) (hf : c_58_2 n K1 x1 x3 s0 I L = some r) : Fr SI_58 I r.1 ∧ Fr SL_58 L r.2 := by
  unfold c_58_2 at hf
  rcases ite_some hf with ⟨hc, hf⟩ | ⟨hc, hf⟩
  · obtain ⟨q2, hq2, hf⟩ := Option.bind_eq_some_iff.mp hf
    exact ⟨frx_t frx_r (frc_58_3 n _ hK1 x1 x3 q2 I L r hf).1, frx_t frx_r (frc_58_3 n _ hK1 x1 x3 q2 I L r hf).2⟩
  · exact ⟨frx_t frx_r (frc_58_3 n _ hK1 x1 x3 (99 : Int32) I L r hf).1, frx_t frx_r (frc_58_3 n _ hK1 x1 x3 (99 : Int32) I L r hf).2⟩
theorem frc_58_1 (n : Nat) : ∀ (m : Nat) (x1 : Int32) (x3 : Int32) (I : FI) (L : FL) (r : FI × FL), c_58_1 n m x1 x3 I L = some r → Fr SI_58 I r.1 ∧ Fr SL_58 L r.2
  | 0, x1, x3, I, L, r, hf => by cases hf
  | m + 1, x1, x3, I, L, r, hf => by
    unfold c_58_1 b_58_1 at hf
    have hK1 := frc_58_1 n m
    rcases ite_some hf with ⟨hc, hf⟩ | ⟨hc, hf⟩
    · cases hf; exact ⟨frx_r, frx_r⟩
    · rcases ite_some hf with ⟨hc, hf⟩ | ⟨hc, hf⟩
      · obtain ⟨q1, hq1, hf⟩ := Option.bind_eq_some_iff.mp hf
        exact ⟨frx_t frx_r (frc_58_2 n _ hK1 x1 x3 q1 I L r hf).1, frx_t frx_r (frc_58_2 n _ hK1 x1 x3 q1 I L r hf).2⟩
      · exact ⟨frx_t frx_r (frc_58_2 n _ hK1 x1 x3 (0 : Int32) I L r hf).1, frx_t frx_r (frc_58_2 n _ hK1 x1 x3 (0 : Int32) I L r hf).2⟩
theorem frc_58_0 (n : Nat) (x1 : Int32) (s0 : Int32) (s1 : Int32) (s2 : Int32) (I : FI) (L : FL) (r : FI × FL) (hf : c_58_0 n x1 s0 s1 s2 I L = some r) : Fr SI_58 I r.1 ∧ Fr SL_58 L r.2 := by
  unfold c_58_0 at hf
  rcases ite_some hf with ⟨hc, hf⟩ | ⟨hc, hf⟩
  · exact ⟨frx_t (frx_u frx_r (by decide) (by decide)) (frc_58_1 n n x1 (0 : Int32) (u2 I 30 s2.toNatClampNeg (s1 ||| s0)) L r hf).1, frx_t frx_r (frc_58_1 n n x1 (0 : Int32) (u2 I 30 s2.toNatClampNeg (s1 ||| s0)) L r hf).2⟩
  · cases hf
theorem fr_58 (n : Nat) (x1 : Int32) (I : FI) (L : FL) (r : FI × FL) (hf : f_58 n x1 I L = some r) : Fr SI_58 I r.1 ∧ Fr SL_58 L r.2 := by
  unfold f_58 at hf
  obtain ⟨q0, hq0, hf⟩ := Option.bind_eq_some_iff.mp hf
  rcases ite_some hf with ⟨hc, hf⟩ | ⟨hc, hf⟩
  · rcases ite_some hf with ⟨hc, hf⟩ | ⟨hc, hf⟩
    · exact ⟨frx_t frx_r (frc_58_0 n x1 ((1 : Int32) <<< (q0 &&& 31)) (I 28 x1.toNatClampNeg) x1 I L r hf).1, frx_t frx_r (frc_58_0 n x1 ((1 : Int32) <<< (q0 &&& 31)) (I 28 x1.toNatClampNeg) x1 I L r hf).2⟩
    · exact ⟨frx_t frx_r (frc_58_0 n x1 (0 : Int32) (I 28 x1.toNatClampNeg) x1 I L r hf).1, frx_t frx_r (frc_58_0 n x1 (0 : Int32) (I 28 x1.toNatClampNeg) x1 I L r hf).2⟩
  · cases hf
def SI_55 : List Nat := [29, 30, 31, 32]
def SL_55 : List Nat := []
theorem frc_55_1 (n : Nat) : ∀ (m : Nat) (x1 : Int32) (I : FI) (L : FL) (r : FI × FL), c_55_1 n m x1 I L = some r → Fr SI_55 I r.1 ∧ Fr SL_55 L r.2
  | 0, x1, I, L, r, hf => by cases hf
  | m + 1, x1, I, L, r, hf => by
    unfold c_55_1 b_55_1 at hf
    have hK1 := frc_55_1 n m
    rcases ite_some hf with ⟨hc, hf⟩ | ⟨hc, hf⟩
    · cases hf; exact ⟨frx_r, frx_r⟩
    · obtain ⟨q0, hq0, hf⟩ := Option.bind_eq_some_iff.mp hf
      rcases ite_some hf with ⟨hc, hf⟩ | ⟨hc, hf⟩
      · obtain ⟨q1, hq1, hf⟩ := Option.bind_eq_some_iff.mp hf
        have hIq1 : Fr SI_55 I q1.1 := frx_t (frx_u frx_r (by decide) (by decide)) (frx_m (fr_58 _ _ _ _ q1 hq1).1 (by decide))
        have hLq1 : Fr SL_55 L q1.2 := frx_t frx_r (frx_m (fr_58 _ _ _ _ q1 hq1).2 (by decide))
        exact ⟨frx_t hIq1 (hK1 (x1 + (1 : Int32)) q1.1 q1.2 r hf).1, frx_t hLq1 (hK1 (x1 + (1 : Int32)) q1.1 q1.2 r hf).2⟩
      · cases hf
theorem frc_55_0 (n : Nat) : ∀ (m : Nat) (x1 : Int32) (I : FI) (L : FL) (r : FI × FL), c_55_0 n m x1 I L = some r → Fr SI_55 I r.1 ∧ Fr SL_55 L r.2
  | 0, x1, I, L, r, hf => by cases hf
  | m + 1, x1, I, L, r, hf => by
    unfold c_55_0 b_55_0 at hf
    have hK0 := frc_55_0 n m
    rcases ite_some hf with ⟨hc, hf⟩ | ⟨hc, hf⟩
    · exact ⟨frx_t frx_r (frc_55_1 n n (0 : Int32) I L r hf).1, frx_t frx_r (frc_55_1 n n (0 : Int32) I L r hf).2⟩
    · rcases ite_some hf with ⟨hc, hf⟩ | ⟨hc, hf⟩
      · exact ⟨frx_t (frx_u frx_r (by decide) (by decide)) (hK0 (x1 + (1 : Int32)) (u2 I 32 x1.toNatClampNeg (-1 : Int32)) L r hf).1, frx_t frx_r (hK0 (x1 + (1 : Int32)) (u2 I 32 x1.toNatClampNeg (-1 : Int32)) L r hf).2⟩
      · cases hf
theorem fr_55 (n : Nat) (I : FI) (L : FL) (r : FI × FL) (hf : f_55 n I L = some r) : Fr SI_55 I r.1 ∧ Fr SL_55 L r.2 := by
  unfold f_55 at hf
  exact ⟨frx_t frx_r (frc_55_0 n n (0 : Int32) I L r hf).1, frx_t frx_r (frc_55_0 n n (0 : Int32) I L r hf).2⟩
def SI_191 : List Nat := [26, 27, 28, 29, 30, 31, 32]
def SL_191 : List Nat := []
theorem fr_191 (n : Nat) (x1 : Int32) (I : FI) (L : FL) (r : FI × FL) (hf : f_191 n x1 I L = some r) : Fr SI_191 I r.1 ∧ Fr SL_191 L r.2 := by
  unfold f_191 at hf
  obtain ⟨q0, hq0, hf⟩ := Option.bind_eq_some_iff.mp hf
  have hIq0 : Fr SI_191 I q0.1 := frx_t frx_r (frx_m (fr_53 _ _ _ _ q0 hq0).1 (by decide))
  have hLq0 : Fr SL_191 L q0.2 := frx_t frx_r (frx_m (fr_53 _ _ _ _ q0 hq0).2 (by decide))
  obtain ⟨q1, hq1, hf⟩ := Option.bind_eq_some_iff.mp hf
  have hIq1 : Fr SI_191 I q1.1 := frx_t (frx_u hIq0 (by decide) (by decide)) (frx_m (fr_55 _ _ _ q1 hq1).1 (by decide))
  have hLq1 : Fr SL_191 L q1.2 := frx_t hLq0 (frx_m (fr_55 _ _ _ q1 hq1).2 (by decide))
  cases hf; exact ⟨hIq1, hLq1⟩
def SI_121 : List Nat := [26, 27, 28, 29, 30, 31, 32]
def SL_121 : List Nat := []
theorem fr_121 (n : Nat) (nh : Option Nat) (x1 : Int32) (x2 : Int32) (I : FI) (L : FL) (r : Int32 × Option Nat × FI × FL) (hf : f_121 n nh x1 x2 I L = some r) : Fr SI_121 I r.2.2.1 ∧ Fr SL_121 L r.2.2.2 := by
  unfold f_121 at hf
  obtain ⟨q0, hq0, hf⟩ := Option.bind_eq_some_iff.mp hf
  rcases ite_some hf with ⟨hc, hf⟩ | ⟨hc, hf⟩
  · cases hf; exact ⟨frx_r, frx_r⟩
  · obtain ⟨q1, hq1, hf⟩ := Option.bind_eq_some_iff.mp hf
    rcases ite_some hf with ⟨hc, hf⟩ | ⟨hc, hf⟩
    · obtain ⟨q2, hq2, hf⟩ := Option.bind_eq_some_iff.mp hf
      have hIq2 : Fr SI_121 I q2.1 := frx_t frx_r (frx_m (fr_191 _ _ _ _ q2 hq2).1 (by decide))
      have hLq2 : Fr SL_121 L q2.2 := frx_t frx_r (frx_m (fr_191 _ _ _ _ q2 hq2).2 (by decide))
      rcases ite_some hf with ⟨hc, hf⟩ | ⟨hc, hf⟩
      · cases hf; exact ⟨hIq2, hLq2⟩
      · cases hf
    · cases hf; exact ⟨frx_r, frx_r⟩
def SI_122 : List Nat := [26, 27, 28, 29, 30, 31, 32]
def SL_122 : List Nat := []
theorem fr_122 (n : Nat) (nh : Option Nat) (x1 : Int32) (x2 : Int32) (x3 : Int32) (I : FI) (L : FL) (r : Int32 × Option Nat × FI × FL) (hf : f_122 n nh x1 x2 x3 I L = some r) : Fr SI_122 I r.2.2.1 ∧ Fr SL_122 L r.2.2.2 := by
  unfold f_122 at hf
  obtain ⟨q0, hq0, hf⟩ := Option.bind_eq_some_iff.mp hf
  rcases ite_some hf with ⟨hc, hf⟩ | ⟨hc, hf⟩
  · cases hf; exact ⟨frx_r, frx_r⟩
  · obtain ⟨q1, hq1, hf⟩ := Option.bind_eq_some_iff.mp hf
    rcases ite_some hf with ⟨hc, hf⟩ | ⟨hc, hf⟩
    · cases hf; exact ⟨frx_r, frx_r⟩
    · obtain ⟨q2, hq2, hf⟩ := Option.bind_eq_some_iff.mp hf
      rcases ite_some hf with ⟨hc, hf⟩ | ⟨hc, hf⟩
      · obtain ⟨q3, hq3, hf⟩ := Option.bind_eq_some_iff.mp hf
        have hIq3 : Fr SI_122 I q3.1 := frx_t frx_r (frx_m (fr_191 _ _ _ _ q3 hq3).1 (by decide))
        have hLq3 : Fr SL_122 L q3.2 := frx_t frx_r (frx_m (fr_191 _ _ _ _ q3 hq3).2 (by decide))
        obtain ⟨q4, hq4, hf⟩ := Option.bind_eq_some_iff.mp hf
        cases hf; exact ⟨hIq3, hLq3⟩
      · cases hf; exact ⟨frx_r, frx_r⟩
def SI_123 : List Nat := [26, 27, 28, 29, 30, 31, 32]
def SL_123 : List Nat := []
theorem fr_123 (n : Nat) (nh : Option Nat) (x1 : Int32) (x2 : Int32) (x3 : Int32) (I : FI) (L : FL) (r : Int32 × Option Nat × FI × FL) (hf : f_123 n nh x1 x2 x3 I L = some r) : Fr SI_123 I r.2.2.1 ∧ Fr SL_123 L r.2.2.2 := by
  unfold f_123 at hf
  obtain ⟨q0, hq0, hf⟩ := Option.bind_eq_some_iff.mp hf
  rcases ite_some hf with ⟨hc, hf⟩ | ⟨hc, hf⟩
  · cases hf; exact ⟨frx_r, frx_r⟩
  · obtain ⟨q1, hq1, hf⟩ := Option.bind_eq_some_iff.mp hf
    rcases ite_some hf with ⟨hc, hf⟩ | ⟨hc, hf⟩
    · cases hf; exact ⟨frx_r, frx_r⟩
    · obtain ⟨q2, hq2, hf⟩ := Option.bind_eq_some_iff.mp hf
      rcases ite_some hf with ⟨hc, hf⟩ | ⟨hc, hf⟩
      · obtain ⟨q3, hq3, hf⟩ := Option.bind_eq_some_iff.mp hf
        have hIq3 : Fr SI_123 I q3.1 := frx_t frx_r (frx_m (fr_191 _ _ _ _ q3 hq3).1 (by decide))
        have hLq3 : Fr SL_123 L q3.2 := frx_t frx_r (frx_m (fr_191 _ _ _ _ q3 hq3).2 (by decide))
        obtain ⟨q4, hq4, hf⟩ := Option.bind_eq_some_iff.mp hf
        cases hf; exact ⟨hIq3, hLq3⟩
      · cases hf; exact ⟨frx_r, frx_r⟩
def SI_124 : List Nat := [26, 27, 28, 29, 30, 31, 32]
def SL_124 : List Nat := []
theorem fr_124 (n : Nat) (nh : Option Nat) (x1 : Int32) (x2 : Int32) (I : FI) (L : FL) (r : Int32 × Option Nat × FI × FL) (hf : f_124 n nh x1 x2 I L = some r) : Fr SI_124 I r.2.2.1 ∧ Fr SL_124 L r.2.2.2 := by
  unfold f_124 at hf
  obtain ⟨q0, hq0, hf⟩ := Option.bind_eq_some_iff.mp hf
  rcases ite_some hf with ⟨hc, hf⟩ | ⟨hc, hf⟩
  · cases hf; exact ⟨frx_r, frx_r⟩
  · obtain ⟨q1, hq1, hf⟩ := Option.bind_eq_some_iff.mp hf
    rcases ite_some hf with ⟨hc, hf⟩ | ⟨hc, hf⟩
    · obtain ⟨q2, hq2, hf⟩ := Option.bind_eq_some_iff.mp hf
      have hIq2 : Fr SI_124 I q2.1 := frx_t frx_r (frx_m (fr_191 _ _ _ _ q2 hq2).1 (by decide))
      have hLq2 : Fr SL_124 L q2.2 := frx_t frx_r (frx_m (fr_191 _ _ _ _ q2 hq2).2 (by decide))
      obtain ⟨q3, hq3, hf⟩ := Option.bind_eq_some_iff.mp hf
      cases hf; exact ⟨hIq2, hLq2⟩
    · cases hf; exact ⟨frx_r, frx_r⟩
def SI_125 : List Nat := [26, 27, 28, 29, 30, 31, 32]
def SL_125 : List Nat := []
theorem fr_125 (n : Nat) (nh : Option Nat) (x1 : Int32) (x2 : Int32) (I : FI) (L : FL) (r : Int32 × Option Nat × FI × FL) (hf : f_125 n nh x1 x2 I L = some r) : Fr SI_125 I r.2.2.1 ∧ Fr SL_125 L r.2.2.2 := by
  unfold f_125 at hf
  obtain ⟨q0, hq0, hf⟩ := Option.bind_eq_some_iff.mp hf
  rcases ite_some hf with ⟨hc, hf⟩ | ⟨hc, hf⟩
  · cases hf; exact ⟨frx_r, frx_r⟩
  · obtain ⟨q1, hq1, hf⟩ := Option.bind_eq_some_iff.mp hf
    rcases ite_some hf with ⟨hc, hf⟩ | ⟨hc, hf⟩
    · obtain ⟨q2, hq2, hf⟩ := Option.bind_eq_some_iff.mp hf
      have hIq2 : Fr SI_125 I q2.1 := frx_t frx_r (frx_m (fr_191 _ _ _ _ q2 hq2).1 (by decide))
      have hLq2 : Fr SL_125 L q2.2 := frx_t frx_r (frx_m (fr_191 _ _ _ _ q2 hq2).2 (by decide))
      rcases ite_some hf with ⟨hc, hf⟩ | ⟨hc, hf⟩
      · cases hf; exact ⟨hIq2, hLq2⟩
      · cases hf
    · cases hf; exact ⟨frx_r, frx_r⟩
def SI_126 : List Nat := [26, 27, 28, 29, 30, 31, 32]
def SL_126 : List Nat := []
theorem fr_126 (n : Nat) (nh : Option Nat) (x1 : Int32) (I : FI) (L : FL) (r : Int32 × Option Nat × FI × FL) (hf : f_126 n nh x1 I L = some r) : Fr SI_126 I r.2.2.1 ∧ Fr SL_126 L r.2.2.2 := by
  unfold f_126 at hf
  obtain ⟨q0, hq0, hf⟩ := Option.bind_eq_some_iff.mp hf
  rcases ite_some hf with ⟨hc, hf⟩ | ⟨hc, hf⟩
  · cases hf; exact ⟨frx_r, frx_r⟩
  · obtain ⟨q1, hq1, hf⟩ := Option.bind_eq_some_iff.mp hf
    have hIq1 : Fr SI_126 I q1.1 := frx_t frx_r (frx_m (fr_191 _ _ _ _ q1 hq1).1 (by decide))
    have hLq1 : Fr SL_126 L q1.2 := frx_t frx_r (frx_m (fr_191 _ _ _ _ q1 hq1).2 (by decide))
    obtain ⟨q2, hq2, hf⟩ := Option.bind_eq_some_iff.mp hf
    cases hf; exact ⟨hIq1, hLq1⟩
def SI_127 : List Nat := [26, 27, 28, 29, 30, 31, 32]
def SL_127 : List Nat := []
theorem fr_127 (n : Nat) (nh : Option Nat) (x1 : Int32) (I : FI) (L : FL) (r : Int32 × Option Nat × FI × FL) (hf : f_127 n nh x1 I L = some r) : Fr SI_127 I r.2.2.1 ∧ Fr SL_127 L r.2.2.2 := by
  unfold f_127 at hf
  obtain ⟨q0, hq0, hf⟩ := Option.bind_eq_some_iff.mp hf
  rcases ite_some hf with ⟨hc, hf⟩ | ⟨hc, hf⟩
  · cases hf; exact ⟨frx_r, frx_r⟩
  · obtain ⟨q1, hq1, hf⟩ := Option.bind_eq_some_iff.mp hf
    have hIq1 : Fr SI_127 I q1.1 := frx_t frx_r (frx_m (fr_191 _ _ _ _ q1 hq1).1 (by decide))
    have hLq1 : Fr SL_127 L q1.2 := frx_t frx_r (frx_m (fr_191 _ _ _ _ q1 hq1).2 (by decide))
    obtain ⟨q2, hq2, hf⟩ := Option.bind_eq_some_iff.mp hf
    cases hf; exact ⟨hIq1, hLq1⟩
def SI_128 : List Nat := [26, 27, 28, 29, 30, 31, 32]
def SL_128 : List Nat := []
theorem fr_128 (n : Nat) (nh : Option Nat) (x1 : Int32) (x2 : Int32) (I : FI) (L : FL) (r : Int32 × Option Nat × FI × FL) (hf : f_128 n nh x1 x2 I L = some r) : Fr SI_128 I r.2.2.1 ∧ Fr SL_128 L r.2.2.2 := by
  unfold f_128 at hf
  obtain ⟨q0, hq0, hf⟩ := Option.bind_eq_some_iff.mp hf
  rcases ite_some hf with ⟨hc, hf⟩ | ⟨hc, hf⟩
  · cases hf; exact ⟨frx_r, frx_r⟩
  · obtain ⟨q1, hq1, hf⟩ := Option.bind_eq_some_iff.mp hf
    rcases ite_some hf with ⟨hc, hf⟩ | ⟨hc, hf⟩
    · obtain ⟨q2, hq2, hf⟩ := Option.bind_eq_some_iff.mp hf
      have hIq2 : Fr SI_128 I q2.1 := frx_t frx_r (frx_m (fr_191 _ _ _ _ q2 hq2).1 (by decide))
      have hLq2 : Fr SL_128 L q2.2 := frx_t frx_r (frx_m (fr_191 _ _ _ _ q2 hq2).2 (by decide))
      obtain ⟨q3, hq3, hf⟩ := Option.bind_eq_some_iff.mp hf
      cases hf; exact ⟨hIq2, hLq2⟩
    · cases hf; exact ⟨frx_r, frx_r⟩
def SI_129 : List Nat := [26, 27, 28, 29, 30, 31, 32]
def SL_129 : List Nat := []
theorem fr_129 (n : Nat) (nh : Option Nat) (x1 : Int32) (x2 : Int32) (I : FI) (L : FL) (r : Int32 × Option Nat × FI × FL) (hf : f_129 n nh x1 x2 I L = some r) : Fr SI_129 I r.2.2.1 ∧ Fr SL_129 L r.2.2.2 := by
  unfold f_129 at hf
  obtain ⟨q0, hq0, hf⟩ := Option.bind_eq_some_iff.mp hf
  rcases ite_some hf with ⟨hc, hf⟩ | ⟨hc, hf⟩
  · cases hf; exact ⟨frx_r, frx_r⟩
  · obtain ⟨q1, hq1, hf⟩ := Option.bind_eq_some_iff.mp hf
    rcases ite_some hf with ⟨hc, hf⟩ | ⟨hc, hf⟩
    · obtain ⟨q2, hq2, hf⟩ := Option.bind_eq_some_iff.mp hf
      have hIq2 : Fr SI_129 I q2.1 := frx_t frx_r (frx_m (fr_191 _ _ _ _ q2 hq2).1 (by decide))
      have hLq2 : Fr SL_129 L q2.2 := frx_t frx_r (frx_m (fr_191 _ _ _ _ q2 hq2).2 (by decide))
      obtain ⟨q3, hq3, hf⟩ := Option.bind_eq_some_iff.mp hf
      cases hf; exact ⟨hIq2, hLq2⟩
    · cases hf; exact ⟨frx_r, frx_r⟩
def SI_130 : List Nat := [26, 27, 28, 29, 30, 31, 32]
def SL_130 : List Nat := []
theorem fr_130 (n : Nat) (nh : Option Nat) (x1 : Int32) (x2 : Int32) (I : FI) (L : FL) (r : Int32 × Option Nat × FI × FL) (hf : f_130 n nh x1 x2 I L = some r) : Fr SI_130 I r.2.2.1 ∧ Fr SL_130 L r.2.2.2 := by
  unfold f_130 at hf
  obtain ⟨q0, hq0, hf⟩ := Option.bind_eq_some_iff.mp hf
  rcases ite_some hf with ⟨hc, hf⟩ | ⟨hc, hf⟩
  · cases hf; exact ⟨frx_r, frx_r⟩
  · obtain ⟨q1, hq1, hf⟩ := Option.bind_eq_some_iff.mp hf
    rcases ite_some hf with ⟨hc, hf⟩ | ⟨hc, hf⟩
    · obtain ⟨q2, hq2, hf⟩ := Option.bind_eq_some_iff.mp hf
      have hIq2 : Fr SI_130 I q2.1 := frx_t frx_r (frx_m (fr_191 _ _ _ _ q2 hq2).1 (by decide))
      have hLq2 : Fr SL_130 L q2.2 := frx_t frx_r (frx_m (fr_191 _ _ _ _ q2 hq2).2 (by decide))
      obtain ⟨q3, hq3, hf⟩ := Option.bind_eq_some_iff.mp hf
      obtain ⟨q4, hq4, hf⟩ := Option.bind_eq_some_iff.mp hf
      cases hf; exact ⟨hIq2, hLq2⟩
    · cases hf; exact ⟨frx_r, frx_r⟩
def SI_131 : List Nat := [26, 27, 28, 29, 30, 31, 32]
def SL_131 : List Nat := []
theorem fr_131 (n : Nat) (nh : Option Nat) (x1 : Int32) (I : FI) (L : FL) (r : Int32 × Option Nat × FI × FL) (hf : f_131 n nh x1 I L = some r) : Fr SI_131 I r.2.2.1 ∧ Fr SL_131 L r.2.2.2 := by
  unfold f_131 at hf
  obtain ⟨q0, hq0, hf⟩ := Option.bind_eq_some_iff.mp hf
  rcases ite_some hf with ⟨hc, hf⟩ | ⟨hc, hf⟩
  · cases hf; exact ⟨frx_r, frx_r⟩
  · obtain ⟨q1, hq1, hf⟩ := Option.bind_eq_some_iff.mp hf
    have hIq1 : Fr SI_131 I q1.1 := frx_t frx_r (frx_m (fr_191 _ _ _ _ q1 hq1).1 (by decide))
    have hLq1 : Fr SL_131 L q1.2 := frx_t frx_r (frx_m (fr_191 _ _ _ _ q1 hq1).2 (by decide))
    obtain ⟨q2, hq2, hf⟩ := Option.bind_eq_some_iff.mp hf
    cases hf; exact ⟨hIq1, hLq1⟩
def SI_132 : List Nat := [26, 27, 28, 29, 30, 31, 32]
def SL_132 : List Nat := []
theorem fr_132 (n : Nat) (nh : Option Nat) (x1 : Int32) (x2 : Int32) (I : FI) (L : FL) (r : Int32 × Option Nat × FI × FL) (hf : f_132 n nh x1 x2 I L = some r) : Fr SI_132 I r.2.2.1 ∧ Fr SL_132 L r.2.2.2 := by
  unfold f_132 at hf
  obtain ⟨q0, hq0, hf⟩ := Option.bind_eq_some_iff.mp hf
  rcases ite_some hf with ⟨hc, hf⟩ | ⟨hc, hf⟩
  · cases hf; exact ⟨frx_r, frx_r⟩
  · obtain ⟨q1, hq1, hf⟩ := Option.bind_eq_some_iff.mp hf
    rcases ite_some hf with ⟨hc, hf⟩ | ⟨hc, hf⟩
    · obtain ⟨q2, hq2, hf⟩ := Option.bind_eq_some_iff.mp hf
      have hIq2 : Fr SI_132 I q2.1 := frx_t frx_r (frx_m (fr_191 _ _ _ _ q2 hq2).1 (by decide))
      have hLq2 : Fr SL_132 L q2.2 := frx_t frx_r (frx_m (fr_191 _ _ _ _ q2 hq2).2 (by decide))
      obtain ⟨q3, hq3, hf⟩ := Option.bind_eq_some_iff.mp hf
      cases hf; exact ⟨hIq2, hLq2⟩
    · cases hf; exact ⟨frx_r, frx_r⟩
def SI_133 : List Nat := [26, 27, 28, 29, 30, 31, 32]
def SL_133 : List Nat := []
theorem fr_133 (n : Nat) (nh : Option Nat) (x1 : Int32) (I : FI) (L : FL) (r : Int32 × Option Nat × FI × FL) (hf : f_133 n nh x1 I L = some r) : Fr SI_133 I r.2.2.1 ∧ Fr SL_133 L r.2.2.2 := by
  unfold f_133 at hf
  obtain ⟨q0, hq0, hf⟩ := Option.bind_eq_some_iff.mp hf
  rcases ite_some hf with ⟨hc, hf⟩ | ⟨hc, hf⟩
  · cases hf; exact ⟨frx_r, frx_r⟩
  · obtain ⟨q1, hq1, hf⟩ := Option.bind_eq_some_iff.mp hf
    have hIq1 : Fr SI_133 I q1.1 := frx_t frx_r (frx_m (fr_191 _ _ _ _ q1 hq1).1 (by decide))
    have hLq1 : Fr SL_133 L q1.2 := frx_t frx_r (frx_m (fr_191 _ _ _ _ q1 hq1).2 (by decide))
    obtain ⟨q2, hq2, hf⟩ := Option.bind_eq_some_iff.mp hf
    cases hf; exact ⟨hIq1, hLq1⟩
def SI_134 : List Nat := [26, 27, 28, 29, 30, 31, 32]
def SL_134 : List Nat := []
theorem fr_134 (n : Nat) (nh : Option Nat) (x1 : Int32) (I : FI) (L : FL) (r : Int32 × Option Nat × FI × FL) (hf : f_134 n nh x1 I L = some r) : Fr SI_134 I r.2.2.1 ∧ Fr SL_134 L r.2.2.2 := by
  unfold f_134 at hf
  obtain ⟨q0, hq0, hf⟩ := Option.bind_eq_some_iff.mp hf
  rcases ite_some hf with ⟨hc, hf⟩ | ⟨hc, hf⟩
  · cases hf; exact ⟨frx_r, frx_r⟩
  · obtain ⟨q1, hq1, hf⟩ := Option.bind_eq_some_iff.mp hf
    have hIq1 : Fr SI_134 I q1.1 := frx_t frx_r (frx_m (fr_191 _ _ _ _ q1 hq1).1 (by decide))
    have hLq1 : Fr SL_134 L q1.2 := frx_t frx_r (frx_m (fr_191 _ _ _ _ q1 hq1).2 (by decide))
    obtain ⟨q2, hq2, hf⟩ := Option.bind_eq_some_iff.mp hf
    cases hf; exact ⟨hIq1, hLq1⟩
def SI_135 : List Nat := [26, 27, 28, 29, 30, 31, 32]
def SL_135 : List Nat := []
theorem fr_135 (n : Nat) (nh : Option Nat) (x1 : Int32) (x2 : Int32) (I : FI) (L : FL) (r : Int32 × Option Nat × FI × FL) (hf : f_135 n nh x1 x2 I L = some r) : Fr SI_135 I r.2.2.1 ∧ Fr SL_135 L r.2.2.2 := by
  unfold f_135 at hf
  obtain ⟨q0, hq0, hf⟩ := Option.bind_eq_some_iff.mp hf
  rcases ite_some hf with ⟨hc, hf⟩ | ⟨hc, hf⟩
  · cases hf; exact ⟨frx_r, frx_r⟩
  · obtain ⟨q1, hq1, hf⟩ := Option.bind_eq_some_iff.mp hf
    rcases ite_some hf with ⟨hc, hf⟩ | ⟨hc, hf⟩
    · obtain ⟨q2, hq2, hf⟩ := Option.bind_eq_some_iff.mp hf
      have hIq2 : Fr SI_135 I q2.1 := frx_t frx_r (frx_m (fr_191 _ _ _ _ q2 hq2).1 (by decide))
      have hLq2 : Fr SL_135 L q2.2 := frx_t frx_r (frx_m (fr_191 _ _ _ _ q2 hq2).2 (by decide))
      obtain ⟨q3, hq3, hf⟩ := Option.bind_eq_some_iff.mp hf
      cases hf; exact ⟨hIq2, hLq2⟩
    · cases hf; exact ⟨frx_r, frx_r⟩
def SI_4 : List Nat := [115, 116]
def SL_4 : List Nat := []
theorem frc_4_5 (n : Nat) (K1 : Int32 → Int32 → FI → FL → Option (FI × FL)) (K2 : Int32 → Int32 → Int32 → FI → FL → Option (FI × FL)) (hK1 : ∀ (x2 : Int32) (x3 : Int32) (I : FI) (L : FL) (r : FI × FL), K1 x2 x3 I L = some r → Fr SI_4 I r.1 ∧ Fr SL_4 L r.2) (hK2 : ∀ (x2 : Int32) (x3 : Int32) (x4 : Int32) (I : FI) (L : FL) (r : FI × FL), K2 x2 x3 x4 I L = some r → Fr SI_4 I r.1 ∧ Fr SL_4 L r.2) (x2 : Int32) (x3 : Int32) (x4 : Int32) (I : FI) (L : FL) (r : FI × FL) (hf : c_4_5 n K1 K2 x2 x3 x4 I L = some r) : Fr SI_4 I r.1 ∧ Fr SL_4 L r.2 := by
  unfold c_4_5 at hf
  exact ⟨frx_t frx_r (hK2 x2 x3 (x4 + (1 : Int32)) I L r hf).1, frx_t frx_r (hK2 x2 x3 (x4 + (1 : Int32)) I L r hf).2⟩
theorem frc_4_4 (n : Nat) (K1 : Int32 → Int32 → FI → FL → Option (FI × FL)) (K2 : Int32 → Int32 → Int32 → FI → FL → Option (FI × FL)) (hK1 : ∀ (x2 : Int32) (x3 : Int32) (I : FI) (L : FL) (r : FI × FL), K1 x2 x3 I L = some r → Fr SI_4 I r.1 ∧ Fr SL_4 L r.2) (hK2 : ∀ (x2 : Int32) (x3 : Int32) (x4 : Int32) (I : FI) (L : FL) (r : FI × FL), K2 x2 x3 x4 I L = some r → Fr SI_4 I r.1 ∧ Fr SL_4 L r.2) (x2 : Int32) (x3 : Int32) (x4 : Int32) (s0 : Int32) (I : FI) (L : FL) (r : FI × FL) (hf : c_4_4 n K1 K2 x2 x3 x4 s0 I L = some r) : Fr SI_4 I r.1 ∧ Fr SL_4 L r.2 := by
  unfold c_4_4 at hf
  rcases ite_some hf with ⟨hc, hf⟩ | ⟨hc, hf⟩
  · exact ⟨frx_t frx_r (frc_4_5 n _ _ hK1 hK2 x2 x3 x4 I L r hf).1, frx_t frx_r (frc_4_5 n _ _ hK1 hK2 x2 x3 x4 I L r hf).2⟩
  · rcases ite_some hf with ⟨hc, hf⟩ | ⟨hc, hf⟩
    · exact ⟨frx_t frx_r (frc_4_5 n _ _ hK1 hK2 x2 x3 x4 I L r hf).1, frx_t frx_r (frc_4_5 n _ _ hK1 hK2 x2 x3 x4 I L r hf).2⟩
    · rcases ite_some hf with ⟨hc, hf⟩ | ⟨hc, hf⟩
      · rcases ite_some hf with ⟨hc, hf⟩ | ⟨hc, hf⟩
        · exact ⟨frx_t (frx_u frx_r (by decide) (by decide)) (frc_4_5 n _ _ hK1 hK2 x2 x3 x4 (u2 I 116 x3.toNatClampNeg ((I 116 x3.toNatClampNeg) ||| ((1 : Int32) <<< (((4 : Int32) * x4) &&& 31)))) L r hf).1, frx_t frx_r (frc_4_5 n _ _ hK1 hK2 x2 x3 x4 (u2 I 116 x3.toNatClampNeg ((I 116 x3.toNatClampNeg) ||| ((1 : Int32) <<< (((4 : Int32) * x4) &&& 31)))) L r hf).2⟩
        · cases hf
      · cases hf
theorem frc_4_3 (n : Nat) (K1 : Int32 → Int32 → FI → FL → Option (FI × FL)) (K2 : Int32 → Int32 → Int32 → FI → FL → Option (FI × FL)) (hK1 : ∀ (x2 : Int32) (x3 : Int32) (I : FI) (L : FL) (r : FI × FL), K1 x2 x3 I L = some r → Fr SI_4 I r.1 ∧ Fr SL_4 L r.2) (hK2 : ∀ (x2 : Int32) (x3 : Int32) (x4 : Int32) (I : FI) (L : FL) (r : FI × FL), K2 x2 x3 x4 I L = some r → Fr SI_4 I r.1 ∧ Fr SL_4 L r.2) (x2 : Int32) (x3 : Int32) (x4 : Int32) (I : FI) (L : FL) (r : FI × FL) (hf : c_4_3 n K1 K2 x2 x3 x4 I L = some r) : Fr SI_4 I r.1 ∧ Fr SL_4 L r.2 := by
  unfold c_4_3 at hf
  exact ⟨frx_t frx_r (frc_4_4 n _ _ hK1 hK2 x2 x3 x4 (1 : Int32) I L r hf).1, frx_t frx_r (frc_4_4 n _ _ hK1 hK2 x2 x3 x4 (1 : Int32) I L r hf).2⟩
theorem frc_4_6 (n : Nat) (K1 : Int32 → Int32 → FI → FL → Option (FI × FL)) (K2 : Int32 → Int32 → Int32 → FI → FL → Option (FI × FL)) (hK1 : ∀ (x2 : Int32) (x3 : Int32) (I : FI) (L : FL) (r : FI × FL), K1 x2 x3 I L = some r → Fr SI_4 I r.1 ∧ Fr SL_4 L r.2) (hK2 : ∀ (x2 : Int32) (x3 : Int32) (x4 : Int32) (I : FI) (L : FL) (r : FI × FL), K2 x2 x3 x4 I L = some r → Fr SI_4 I r.1 ∧ Fr SL_4 L r.2) (x2 : Int32) (x3 : Int32) (x4 : Int32) (I : FI) (L : FL) (r : FI × FL) (hf : c_4_6 n K1 K2 x2 x3 x4 I L = some r) : Fr SI_4 I r.1 ∧ Fr SL_4 L r.2 := by
  unfold c_4_6 at hf
  exact ⟨frx_t frx_r (frc_4_4 n _ _ hK1 hK2 x2 x3 x4 (0 : Int32) I L r hf).1, frx_t frx_r (frc_4_4 n _ _ hK1 hK2 x2 x3 x4 (0 : Int32) I L r hf).2⟩
theorem frc_4_2 (n : Nat) (K1 : Int32 → Int32 → FI → FL → Option (FI × FL)) (hK1 : ∀ (x2 : Int32) (x3 : Int32) (I : FI) (L : FL) (r : FI × FL), K1 x2 x3 I L = some r → Fr SI_4 I r.1 ∧ Fr SL_4 L r.2) : ∀ (m : Nat) (x2 : Int32) (x3 : Int32) (x4 : Int32) (I : FI) (L : FL) (r : FI × FL), c_4_2 n K1 m x2 x3 x4 I L = some r → Fr SI_4 I r.1 ∧ Fr SL_4 L r.2
  | 0, x2, x3, x4, I, L, r, hf => by cases hf
  | m + 1, x2, x3, x4, I, L, r, hf => by
    unfold c_4_2 b_4_2 at hf
    have hK2 := frc_4_2 n K1 hK1 m
    rcases ite_some hf with ⟨hc, hf⟩ | ⟨hc, hf⟩
    · exact ⟨frx_t frx_r (hK1 x2 (x3 + (1 : Int32)) I L r hf).1, frx_t frx_r (hK1 x2 (x3 + (1 : Int32)) I L r hf).2⟩
    · rcases ite_some hf with ⟨hc, hf⟩ | ⟨hc, hf⟩
      · exact ⟨frx_t frx_r (frc_4_3 n _ _ hK1 hK2 x2 x3 x4 I L r hf).1, frx_t frx_r (frc_4_3 n _ _ hK1 hK2 x2 x3 x4 I L r hf).2⟩
      · rcases ite_some hf with ⟨hc, hf⟩ | ⟨hc, hf⟩
        · exact ⟨frx_t frx_r (frc_4_6 n _ _ hK1 hK2 x2 x3 x4 I L r hf).1, frx_t frx_r (frc_4_6 n _ _ hK1 hK2 x2 x3 x4 I L r hf).2⟩
        · obtain ⟨q0, hq0, hf⟩ := Option.bind_eq_some_iff.mp hf
          rcases ite_some hf with ⟨hc, hf⟩ | ⟨hc, hf⟩
          · exact ⟨frx_t frx_r (frc_4_6 n _ _ hK1 hK2 x2 x3 x4 I L r hf).1, frx_t frx_r (frc_4_6 n _ _ hK1 hK2 x2 x3 x4 I L r hf).2⟩
          · exact ⟨frx_t frx_r (frc_4_3 n _ _ hK1 hK2 x2 x3 x4 I L r hf).1, frx_t frx_r (frc_4_3 n _ _ hK1 hK2 x2 x3 x4 I L r hf).2⟩
theorem frc_4_1 (n : Nat) : ∀ (m : Nat) (x2 : Int32) (x3 : Int32) (I : FI) (L : FL) (r : FI × FL), c_4_1 n m x2 x3 I L = some r → Fr SI_4 I r.1 ∧ Fr SL_4 L r.2
  | 0, x2, x3, I, L, r, hf => by cases hf
  | m + 1, x2, x3, I, L, r, hf => by
    unfold c_4_1 b_4_1 at hf
    have hK1 := frc_4_1 n m
    rcases ite_some hf with ⟨hc, hf⟩ | ⟨hc, hf⟩
    · cases hf; exact ⟨frx_r, frx_r⟩
    · exact ⟨frx_t frx_r (frc_4_2 n _ hK1 n x2 x3 (0 : Int32) I L r hf).1, frx_t frx_r (frc_4_2 n _ hK1 n x2 x3 (0 : Int32) I L r hf).2⟩
theorem frc_4_7 (n : Nat) (K0 : Int32 → Int32 → FI → FL → Option (FI × FL)) (hK0 : ∀ (x2 : Int32) (x3 : Int32) (I : FI) (L : FL) (r : FI × FL), K0 x2 x3 I L = some r → Fr SI_4 I r.1 ∧ Fr SL_4 L r.2) (x2 : Int32) (x3 : Int32) (s0 : Int32) (I : FI) (L : FL) (r : FI × FL) (hf : c_4_7 n K0 x2 x3 s0 I L = some r) : Fr SI_4 I r.1 ∧ Fr SL_4 L r.2 := by
  unfold c_4_7 at hf
  exact ⟨frx_t (frx_u frx_r (by decide) (by decide)) (hK0 x2 (x3 + (1 : Int32)) (u2 I 115 1 ((I 115 1) ||| (((7 : Int32) - s0) <<< (((4 : Int32) * x3) &&& 31)))) L r hf).1, frx_t frx_r (hK0 x2 (x3 + (1 : Int32)) (u2 I 115 1 ((I 115 1) ||| (((7 : Int32) - s0) <<< (((4 : Int32) * x3) &&& 31)))) L r hf).2⟩
theorem frc_4_0 (n : Nat) : ∀ (m : Nat) (x2 : Int32) (x3 : Int32) (I : FI) (L : FL) (r : FI × FL), c_4_0 n m x2 x3 I L = some r → Fr SI_4 I r.1 ∧ Fr SL_4 L r.2
  | 0, x2, x3, I, L, r, hf => by cases hf
  | m + 1, x2, x3, I, L, r, hf => by
    unfold c_4_0 b_4_0 at hf
    have hK0 := frc_4_0 n m
    rcases ite_some hf with ⟨hc, hf⟩ | ⟨hc, hf⟩
    · exact ⟨frx_t frx_r (frc_4_1 n n x2 (0 : Int32) I L r hf).1, frx_t frx_r (frc_4_1 n n x2 (0 : Int32) I L r hf).2⟩
    · rcases ite_some hf with ⟨hc, hf⟩ | ⟨hc, hf⟩
      · rcases ite_some hf with ⟨hc, hf⟩ | ⟨hc, hf⟩
        · exact ⟨frx_t (frx_u frx_r (by decide) (by decide)) (frc_4_7 n _ hK0 x2 x3 (0 : Int32) (u2 I 116 x3.toNatClampNeg (0 : Int32)) L r hf).1, frx_t frx_r (frc_4_7 n _ hK0 x2 x3 (0 : Int32) (u2 I 116 x3.toNatClampNeg (0 : Int32)) L r hf).2⟩
        · rcases ite_some hf with ⟨hc, hf⟩ | ⟨hc, hf⟩
          · exact ⟨frx_t (frx_u frx_r (by decide) (by decide)) (frc_4_7 n _ hK0 x2 x3 (I 4 x3.toNatClampNeg) (u2 I 116 x3.toNatClampNeg (0 : Int32)) L r hf).1, frx_t frx_r (frc_4_7 n _ hK0 x2 x3 (I 4 x3.toNatClampNeg) (u2 I 116 x3.toNatClampNeg (0 : Int32)) L r hf).2⟩
          · cases hf
      · cases hf
theorem fr_4 (n : Nat) (x2 : Int32) (I : FI) (L : FL) (r : FI × FL) (hf : f_4 n x2 I L = some r) : Fr SI_4 I r.1 ∧ Fr SL_4 L r.2 := by
  unfold f_4 at hf
  exact ⟨frx_t (frx_u (frx_u frx_r (by decide) (by decide)) (by decide) (by decide)) (frc_4_0 n n x2 (0 : Int32) (u2 (u2 I 115 2 (I 3 1)) 115 1 (0 : Int32)) L r hf).1, frx_t frx_r (frc_4_0 n n x2 (0 : Int32) (u2 (u2 I 115 2 (I 3 1)) 115 1 (0 : Int32)) L r hf).2⟩
def SI_39 : List Nat := []
def SL_39 : List Nat := [117]
theorem frc_39_0 (n : Nat) : ∀ (m : Nat) (x1 : Int32) (I : FI) (L : FL) (r : FI × FL), c_39_0 n m x1 I L = some r → Fr SI_39 I r.1 ∧ Fr SL_39 L r.2
  | 0, x1, I, L, r, hf => by cases hf
  | m + 1, x1, I, L, r, hf => by
    unfold c_39_0 b_39_0 at hf
    have hK0 := frc_39_0 n m
    rcases ite_some hf with ⟨hc, hf⟩ | ⟨hc, hf⟩
    · cases hf; exact ⟨frx_r, frx_r⟩
    · rcases ite_some hf with ⟨hc, hf⟩ | ⟨hc, hf⟩
      · exact ⟨frx_t frx_r (hK0 (x1 + (1 : Int32)) I (u2 L 117 x1.toNatClampNeg (0 : Int64)) r hf).1, frx_t (frx_u frx_r (by decide) (by decide)) (hK0 (x1 + (1 : Int32)) I (u2 L 117 x1.toNatClampNeg (0 : Int64)) r hf).2⟩
      · cases hf
theorem fr_39 (n : Nat) (I : FI) (L : FL) (r : FI × FL) (hf : f_39 n I L = some r) : Fr SI_39 I r.1 ∧ Fr SL_39 L r.2 := by
  unfold f_39 at hf
  exact ⟨frx_t frx_r (frc_39_0 n n (0 : Int32) I L r hf).1, frx_t frx_r (frc_39_0 n n (0 : Int32) I L r hf).2⟩
def SI_38 : List Nat := [114, 115, 116]
def SL_38 : List Nat := [117]
theorem fr_38 (n : Nat) (x1 : Int32) (I : FI) (L : FL) (r : FI × FL) (hf : f_38 n x1 I L = some r) : Fr SI_38 I r.1 ∧ Fr SL_38 L r.2 := by
  unfold f_38 at hf
  rcases ite_some hf with ⟨hc, hf⟩ | ⟨hc, hf⟩
  · cases hf; exact ⟨frx_r, frx_r⟩
  · obtain ⟨q0, hq0, hf⟩ := Option.bind_eq_some_iff.mp hf
    have hIq0 : Fr SI_38 I q0.1 := frx_t frx_r (frx_m (fr_4 _ _ _ _ q0 hq0).1 (by decide))
    have hLq0 : Fr SL_38 L q0.2 := frx_t frx_r (frx_m (fr_4 _ _ _ _ q0 hq0).2 (by decide))
    obtain ⟨q1, hq1, hf⟩ := Option.bind_eq_some_iff.mp hf
    have hIq1 : Fr SI_38 I q1.1 := frx_t hIq0 (frx_m (fr_39 _ _ _ q1 hq1).1 (by decide))
    have hLq1 : Fr SL_38 L q1.2 := frx_t hLq0 (frx_m (fr_39 _ _ _ q1 hq1).2 (by decide))
    cases hf; exact ⟨(frx_u hIq1 (by decide) (by decide)), hLq1⟩
def SI_51 : List Nat := []
def SL_51 : List Nat := [117]
theorem fr_51 (x1 : Int32) (x2 : Int32) (I : FI) (L : FL) (r : FI × FL) (hf : f_51 x1 x2 I L = some r) : Fr SI_51 I r.1 ∧ Fr SL_51 L r.2 := by
  unfold f_51 at hf
  rcases ite_some hf with ⟨hc, hf⟩ | ⟨hc, hf⟩
  · rcases ite_some hf with ⟨hc, hf⟩ | ⟨hc, hf⟩
    · cases hf; exact ⟨frx_r, (frx_u frx_r (by decide) (by decide))⟩
    · cases hf
  · cases hf
def SI_44 : List Nat := [118, 119]
def SL_44 : List Nat := [117]
theorem fr_44 (x1 : Int32) (x2 : Int32) (I : FI) (L : FL) (r : FI × FL) (hf : f_44 x1 x2 I L = some r) : Fr SI_44 I r.1 ∧ Fr SL_44 L r.2 := by
  unfold f_44 at hf
  obtain ⟨q0, hq0, hf⟩ := Option.bind_eq_some_iff.mp hf
  rcases ite_some hf with ⟨hc, hf⟩ | ⟨hc, hf⟩
  · rcases ite_some hf with ⟨hc, hf⟩ | ⟨hc, hf⟩
    · obtain ⟨q1, hq1, hf⟩ := Option.bind_eq_some_iff.mp hf
      have hIq1 : Fr SI_44 I q1.1 := frx_t (frx_u (frx_u frx_r (by decide) (by decide)) (by decide) (by decide)) (frx_m (fr_51 _ _ _ _ q1 hq1).1 (by decide))
      have hLq1 : Fr SL_44 L q1.2 := frx_t frx_r (frx_m (fr_51 _ _ _ _ q1 hq1).2 (by decide))
      cases hf; exact ⟨hIq1, hLq1⟩
    · cases hf
  · cases hf
def SI_46 : List Nat := [119]
def SL_46 : List Nat := []
theorem fr_46 (x1 : Int32) (x2 : Int32) (I : FI) (L : FL) (r : FI × FL) (hf : f_46 x1 x2 I L = some r) : Fr SI_46 I r.1 ∧ Fr SL_46 L r.2 := by
  unfold f_46 at hf
  rcases ite_some hf with ⟨hc, hf⟩ | ⟨hc, hf⟩
  · cases hf; exact ⟨frx_r, frx_r⟩
  · rcases ite_some hf with ⟨hc, hf⟩ | ⟨hc, hf⟩
    · obtain ⟨q0, hq0, hf⟩ := Option.bind_eq_some_iff.mp hf
      rcases ite_some hf with ⟨hc, hf⟩ | ⟨hc, hf⟩
      · obtain ⟨q1, hq1, hf⟩ := Option.bind_eq_some_iff.mp hf
        rcases ite_some hf with ⟨hc, hf⟩ | ⟨hc, hf⟩
        · cases hf; exact ⟨(frx_u frx_r (by decide) (by decide)), frx_r⟩
        · cases hf
      · cases hf
    · cases hf
def SI_47 : List Nat := []
def SL_47 : List Nat := [117]
theorem frc_47_0 (n : Nat) : ∀ (m : Nat) (x1 : Int32) (x2 : Int32) (I : FI) (L : FL) (r : FI × FL), c_47_0 n m x1 x2 I L = some r → Fr SI_47 I r.1 ∧ Fr SL_47 L r.2
  | 0, x1, x2, I, L, r, hf => by cases hf
  | m + 1, x1, x2, I, L, r, hf => by
    unfold c_47_0 b_47_0 at hf
    have hK0 := frc_47_0 n m
    rcases ite_some hf with ⟨hc, hf⟩ | ⟨hc, hf⟩
    · cases hf; exact ⟨frx_r, frx_r⟩
    · rcases ite_some hf with ⟨hc, hf⟩ | ⟨hc, hf⟩
      · obtain ⟨q0, hq0, hf⟩ := Option.bind_eq_some_iff.mp hf
        obtain ⟨q1, hq1, hf⟩ := Option.bind_eq_some_iff.mp hf
        have hIq1 : Fr SI_47 I q1.1 := frx_t frx_r (frx_m (fr_51 _ _ _ _ q1 hq1).1 (by decide))
        have hLq1 : Fr SL_47 L q1.2 := frx_t frx_r (frx_m (fr_51 _ _ _ _ q1 hq1).2 (by decide))
        exact ⟨frx_t hIq1 (hK0 x1 (x2 + (1 : Int32)) q1.1 q1.2 r hf).1, frx_t hLq1 (hK0 x1 (x2 + (1 : Int32)) q1.1 q1.2 r hf).2⟩
      · cases hf
theorem fr_47 (n : Nat) (x1 : Int32) (I : FI) (L : FL) (r : FI × FL) (hf : f_47 n x1 I L = some r) : Fr SI_47 I r.1 ∧ Fr SL_47 L r.2 := by
  unfold f_47 at hf
  exact ⟨frx_t frx_r (frc_47_0 n n x1 (0 : Int32) I L r hf).1, frx_t frx_r (frc_47_0 n n x1 (0 : Int32) I L r hf).2⟩
def SI_45 : List Nat := [119]
def SL_45 : List Nat := [117]
theorem fr_45 (x1 : Int32) (I : FI) (L : FL) (r : Int32 × FI × FL) (hf : f_45 x1 I L = some r) : Fr SI_45 I r.2.1 ∧ Fr SL_45 L r.2.2 := by
  unfold f_45 at hf
  obtain ⟨q0, hq0, hf⟩ := Option.bind_eq_some_iff.mp hf
  obtain ⟨q1, hq1, hf⟩ := Option.bind_eq_some_iff.mp hf
  have hIq1 : Fr SI_45 I q1.1 := frx_t frx_r (frx_m (fr_51 _ _ _ _ q1 hq1).1 (by decide))
  have hLq1 : Fr SL_45 L q1.2 := frx_t frx_r (frx_m (fr_51 _ _ _ _ q1 hq1).2 (by decide))
  rcases ite_some hf with ⟨hc, hf⟩ | ⟨hc, hf⟩
  · obtain ⟨q2, hq2, hf⟩ := Option.bind_eq_some_iff.mp hf
    rcases ite_some hf with ⟨hc, hf⟩ | ⟨hc, hf⟩
    · rcases ite_some hf with ⟨hc, hf⟩ | ⟨hc, hf⟩
      · cases hf; exact ⟨(frx_u hIq1 (by decide) (by decide)), hLq1⟩
      · cases hf
    · cases hf
  · cases hf
def SI_43 : List Nat := [118, 119]
def SL_43 : List Nat := [117]
theorem frc_43_3 (n : Nat) (K0 : Int32 → Int32 → FI → FL → Option (FI × FL)) (hK0 : ∀ (x2 : Int32) (x3 : Int32) (I : FI) (L : FL) (r : FI × FL), K0 x2 x3 I L = some r → Fr SI_43 I r.1 ∧ Fr SL_43 L r.2) (x2 : Int32) (x3 : Int32) (I : FI) (L : FL) (r : FI × FL) (hf : c_43_3 n K0 x2 x3 I L = some r) : Fr SI_43 I r.1 ∧ Fr SL_43 L r.2 := by
  unfold c_43_3 at hf
  exact ⟨frx_t frx_r (hK0 x2 (x3 + (1 : Int32)) I L r hf).1, frx_t frx_r (hK0 x2 (x3 + (1 : Int32)) I L r hf).2⟩
theorem frc_43_2 (n : Nat) (K0 : Int32 → Int32 → FI → FL → Option (FI × FL)) (hK0 : ∀ (x2 : Int32) (x3 : Int32) (I : FI) (L : FL) (r : FI × FL), K0 x2 x3 I L = some r → Fr SI_43 I r.1 ∧ Fr SL_43 L r.2) (x2 : Int32) (x3 : Int32) (x5 : Int32) (x6 : Int32) (I : FI) (L : FL) (r : FI × FL) (hf : c_43_2 n K0 x2 x3 x5 x6 I L = some r) : Fr SI_43 I r.1 ∧ Fr SL_43 L r.2 := by
  unfold c_43_2 at hf
  rcases ite_some hf with ⟨hc, hf⟩ | ⟨hc, hf⟩
  · rcases ite_some hf with ⟨hc, hf⟩ | ⟨hc, hf⟩
    · exact ⟨frx_t frx_r (frc_43_3 n _ hK0 x2 x3 I L r hf).1, frx_t frx_r (frc_43_3 n _ hK0 x2 x3 I L r hf).2⟩
    · obtain ⟨q4, hq4, hf⟩ := Option.bind_eq_some_iff.mp hf
      rcases ite_some hf with ⟨hc, hf⟩ | ⟨hc, hf⟩
      · obtain ⟨q5, hq5, hf⟩ := Option.bind_eq_some_iff.mp hf
        have hIq5 : Fr SI_43 I q5.1 := frx_t frx_r (frx_m (fr_46 _ _ _ _ q5 hq5).1 (by decide))
        have hLq5 : Fr SL_43 L q5.2 := frx_t frx_r (frx_m (fr_46 _ _ _ _ q5 hq5).2 (by decide))
        exact ⟨frx_t hIq5 (frc_43_3 n _ hK0 x2 x3 q5.1 q5.2 r hf).1, frx_t hLq5 (frc_43_3 n _ hK0 x2 x3 q5.1 q5.2 r hf).2⟩
      · cases hf
  · obtain ⟨q6, hq6, hf⟩ := Option.bind_eq_some_iff.mp hf
    have hIq6 : Fr SI_43 I q6.1 := frx_t frx_r (frx_m (fr_47 _ _ _ _ q6 hq6).1 (by decide))
    have hLq6 : Fr SL_43 L q6.2 := frx_t frx_r (frx_m (fr_47 _ _ _ _ q6 hq6).2 (by decide))
    exact ⟨frx_t hIq6 (frc_43_3 n _ hK0 (0 : Int32) x3 q6.1 q6.2 r hf).1, frx_t hLq6 (frc_43_3 n _ hK0 (0 : Int32) x3 q6.1 q6.2 r hf).2⟩
theorem frc_43_1 (n : Nat) (K0 : Int32 → Int32 → FI → FL → Option (FI × FL)) (hK0 : ∀ (x2 : Int32) (x3 : Int32) (I : FI) (L : FL) (r : FI × FL), K0 x2 x3 I L = some r → Fr SI_43 I r.1 ∧ Fr SL_43 L r.2) (x2 : Int32) (x3 : Int32) (x5 : Int32) (s0 : Int32) (I : FI) (L : FL) (r : FI × FL) (hf : c_43_1 n K0 x2 x3 x5 s0 I L = some r) : Fr SI_43 I r.1 ∧ Fr SL_43 L r.2 := by
  unfold c_43_1 at hf
  rcases ite_some hf with ⟨hc, hf⟩ | ⟨hc, hf⟩
  · exact ⟨frx_t frx_r (frc_43_2 n _ hK0 x2 x3 x5 s0 I L r hf).1, frx_t frx_r (frc_43_2 n _ hK0 x2 x3 x5 s0 I L r hf).2⟩
  · rcases ite_some hf with ⟨hc, hf⟩ | ⟨hc, hf⟩
    · exact ⟨frx_t frx_r (frc_43_2 n _ hK0 x2 x3 x5 s0 I L r hf).1, frx_t frx_r (frc_43_2 n _ hK0 x2 x3 x5 s0 I L r hf).2⟩
    · obtain ⟨q7, hq7, hf⟩ := Option.bind_eq_some_iff.mp hf
      have hIq7 : Fr SI_43 I q7.1 := frx_t frx_r (frx_m (fr_44 _ _ _ _ q7 hq7).1 (by decide))
      have hLq7 : Fr SL_43 L q7.2 := frx_t frx_r (frx_m (fr_44 _ _ _ _ q7 hq7).2 (by decide))
      exact ⟨frx_t hIq7 (frc_43_3 n _ hK0 (x2 + (1 : Int32)) x3 q7.1 q7.2 r hf).1, frx_t hLq7 (frc_43_3 n _ hK0 (x2 + (1 : Int32)) x3 q7.1 q7.2 r hf).2⟩
theorem frc_43_0 (n : Nat) : ∀ (m : Nat) (x2 : Int32) (x3 : Int32) (I : FI) (L : FL) (r : FI × FL), c_43_0 n m x2 x3 I L = some r → Fr SI_43 I r.1 ∧ Fr SL_43 L r.2
  | 0, x2, x3, I, L, r, hf => by cases hf
  | m + 1, x2, x3, I, L, r, hf => by
    unfold c_43_0 b_43_0 at hf
    have hK0 := frc_43_0 n m
    rcases ite_some hf with ⟨hc, hf⟩ | ⟨hc, hf⟩
    · cases hf; exact ⟨frx_r, frx_r⟩
    · rcases ite_some hf with ⟨hc, hf⟩ | ⟨hc, hf⟩
      · cases hf; exact ⟨frx_r, frx_r⟩
      · rcases ite_some hf with ⟨hc, hf⟩ | ⟨hc, hf⟩
        · rcases ite_some hf with ⟨hc, hf⟩ | ⟨hc, hf⟩
          · rcases ite_some hf with ⟨hc, hf⟩ | ⟨hc, hf⟩
            · obtain ⟨q1, hq1, hf⟩ := Option.bind_eq_some_iff.mp hf
              rcases ite_some hf with ⟨hc, hf⟩ | ⟨hc, hf⟩
              · obtain ⟨q2, hq2, hf⟩ := Option.bind_eq_some_iff.mp hf
                obtain ⟨q3, hq3, hf⟩ := Option.bind_eq_some_iff.mp hf
                exact ⟨frx_t (frx_u frx_r (by decide) (by decide)) (frc_43_1 n _ hK0 x2 x3 q1 q3 (u2 I 118 ((x2 - (1 : Int32)).toNatClampNeg) ((I 118 ((x2 - (1 : Int32)).toNatClampNeg)) + (1 : Int32))) L r hf).1, frx_t frx_r (frc_43_1 n _ hK0 x2 x3 q1 q3 (u2 I 118 ((x2 - (1 : Int32)).toNatClampNeg) ((I 118 ((x2 - (1 : Int32)).toNatClampNeg)) + (1 : Int32))) L r hf).2⟩
              · exact ⟨frx_t (frx_u frx_r (by decide) (by decide)) (frc_43_1 n _ hK0 x2 x3 q1 (3 : Int32) (u2 I 118 ((x2 - (1 : Int32)).toNatClampNeg) ((I 118 ((x2 - (1 : Int32)).toNatClampNeg)) + (1 : Int32))) L r hf).1, frx_t frx_r (frc_43_1 n _ hK0 x2 x3 q1 (3 : Int32) (u2 I 118 ((x2 - (1 : Int32)).toNatClampNeg) ((I 118 ((x2 - (1 : Int32)).toNatClampNeg)) + (1 : Int32))) L r hf).2⟩
            · cases hf
          · obtain ⟨q8, hq8, hf⟩ := Option.bind_eq_some_iff.mp hf
            have hIq8 : Fr SI_43 I q8.2.1 := frx_t frx_r (frx_m (fr_45 _ _ _ q8 hq8).1 (by decide))
            have hLq8 : Fr SL_43 L q8.2.2 := frx_t frx_r (frx_m (fr_45 _ _ _ q8 hq8).2 (by decide))
            obtain ⟨q9, hq9, hf⟩ := Option.bind_eq_some_iff.mp hf
            have hIq9 : Fr SI_43 I q9.1 := frx_t hIq8 (frx_m (fr_46 _ _ _ _ q9 hq9).1 (by decide))
            have hLq9 : Fr SL_43 L q9.2 := frx_t hLq8 (frx_m (fr_46 _ _ _ _ q9 hq9).2 (by decide))
            exact ⟨frx_t hIq9 (frc_43_3 n _ hK0 (x2 + (-1 : Int32)) x3 q9.1 q9.2 r hf).1, frx_t hLq9 (frc_43_3 n _ hK0 (x2 + (-1 : Int32)) x3 q9.1 q9.2 r hf).2⟩
        · cases hf
theorem fr_43 (n : Nat) (x1 : Int32) (I : FI) (L : FL) (r : FI × FL) (hf : f_43 n x1 I L = some r) : Fr SI_43 I r.1 ∧ Fr SL_43 L r.2 := by
  unfold f_43 at hf
  obtain ⟨q0, hq0, hf⟩ := Option.bind_eq_some_iff.mp hf
  have hIq0 : Fr SI_43 I q0.1 := frx_t frx_r (frx_m (fr_44 _ _ _ _ q0 hq0).1 (by decide))
  have hLq0 : Fr SL_43 L q0.2 := frx_t frx_r (frx_m (fr_44 _ _ _ _ q0 hq0).2 (by decide))
  exact ⟨frx_t hIq0 (frc_43_0 n n (1 : Int32) (0 : Int32) q0.1 q0.2 r hf).1, frx_t hLq0 (frc_43_0 n n (1 : Int32) (0 : Int32) q0.1 q0.2 r hf).2⟩
def SI_42 : List Nat := [118, 119]
def SL_42 : List Nat := [117]
theorem frc_42_0 (n : Nat) (x2 : Int32) (I : FI) (L : FL) (r : Int32 × FI × FL) (hf : c_42_0 n x2 I L = some r) : Fr SI_42 I r.2.1 ∧ Fr SL_42 L r.2.2 := by
  unfold c_42_0 at hf
  obtain ⟨q2, hq2, hf⟩ := Option.bind_eq_some_iff.mp hf
  rcases ite_some hf with ⟨hc, hf⟩ | ⟨hc, hf⟩
  · cases hf; exact ⟨frx_r, frx_r⟩
  · cases hf; exact ⟨frx_r, frx_r⟩
theorem fr_42 (n : Nat) (x1 : Int32) (I : FI) (L : FL) (r : Int32 × FI × FL) (hf : f_42 n x1 I L = some r) : Fr SI_42 I r.2.1 ∧ Fr SL_42 L r.2.2 := by
  unfold f_42 at hf
  obtain ⟨q0, hq0, hf⟩ := Option.bind_eq_some_iff.mp hf
  obtain ⟨q1, hq1, hf⟩ := Option.bind_eq_some_iff.mp hf
  rcases ite_some hf with ⟨hc, hf⟩ | ⟨hc, hf⟩
  · exact ⟨frx_t frx_r (frc_42_0 n q0 I L r hf).1, frx_t frx_r (frc_42_0 n q0 I L r hf).2⟩
  · obtain ⟨q3, hq3, hf⟩ := Option.bind_eq_some_iff.mp hf
    have hIq3 : Fr SI_42 I q3.1 := frx_t frx_r (frx_m (fr_43 _ _ _ _ q3 hq3).1 (by decide))
    have hLq3 : Fr SL_42 L q3.2 := frx_t frx_r (frx_m (fr_43 _ _ _ _ q3 hq3).2 (by decide))
    exact ⟨frx_t hIq3 (frc_42_0 n q0 q3.1 q3.2 r hf).1, frx_t hLq3 (frc_42_0 n q0 q3.1 q3.2 r hf).2⟩
def SI_32 : List Nat := [114, 115, 116, 118, 119, 120]
def SL_32 : List Nat := [117]
theorem frc_32_0 (n : Nat) (x1 : Int32) (I : FI) (L : FL) (r : Int32 × FI × FL) (hf : c_32_0 n x1 I L = some r) : Fr SI_32 I r.2.1 ∧ Fr SL_32 L r.2.2 := by
  unfold c_32_0 at hf
  rcases ite_some hf with ⟨hc, hf⟩ | ⟨hc, hf⟩
  · cases hf; exact ⟨frx_r, frx_r⟩
  · cases hf
theorem frc_32_2 (n : Nat) (K1 : Int32 → Int32 → FI → FL → Option (Int32 × FI × FL)) (hK1 : ∀ (x1 : Int32) (x2 : Int32) (I : FI) (L : FL) (r : Int32 × FI × FL), K1 x1 x2 I L = some r → Fr SI_32 I r.2.1 ∧ Fr SL_32 L r.2.2) (x1 : Int32) (x2 : Int32) (I : FI) (L : FL) (r : Int32 × FI × FL) (hf : c_32_2 n K1 x1 x2 I L = some r) : Fr SI_32 I r.2.1 ∧ Fr SL_32 L r.2.2 := by
  unfold c_32_2 at hf
  exact ⟨frx_t frx_r (hK1 x1 (x2 + (1 : Int32)) I L r hf).1, frx_t frx_r (hK1 x1 (x2 + (1 : Int32)) I L r hf).2⟩
theorem frc_32_1 (n : Nat) : ∀ (m : Nat) (x1 : Int32) (x2 : Int32) (I : FI) (L : FL) (r : Int32 × FI × FL), c_32_1 n m x1 x2 I L = some r → Fr SI_32 I r.2.1 ∧ Fr SL_32 L r.2.2
  | 0, x1, x2, I, L, r, hf => by cases hf
  | m + 1, x1, x2, I, L, r, hf => by
    unfold c_32_1 b_32_1 at hf
    have hK1 := frc_32_1 n m
    rcases ite_some hf with ⟨hc, hf⟩ | ⟨hc, hf⟩
    · exact ⟨frx_t frx_r (frc_32_0 n x1 I L r hf).1, frx_t frx_r (frc_32_0 n x1 I L r hf).2⟩
    · obtain ⟨q1, hq1, hf⟩ := Option.bind_eq_some_iff.mp hf
      obtain ⟨q2, hq2, hf⟩ := Option.bind_eq_some_iff.mp hf
      have hIq2 : Fr SI_32 I q2.2.1 := frx_t frx_r (frx_m (fr_42 _ _ _ _ q2 hq2).1 (by decide))
      have hLq2 : Fr SL_32 L q2.2.2 := frx_t frx_r (frx_m (fr_42 _ _ _ _ q2 hq2).2 (by decide))
      rcases ite_some hf with ⟨hc, hf⟩ | ⟨hc, hf⟩
      · exact ⟨frx_t hIq2 (frc_32_2 n _ hK1 x1 x2 q2.2.1 q2.2.2 r hf).1, frx_t hLq2 (frc_32_2 n _ hK1 x1 x2 q2.2.1 q2.2.2 r hf).2⟩
      · rcases ite_some hf with ⟨hc, hf⟩ | ⟨hc, hf⟩
        · rcases ite_some hf with ⟨hc, hf⟩ | ⟨hc, hf⟩
          · exact ⟨frx_t (frx_u hIq2 (by decide) (by decide)) (frc_32_2 n _ hK1 x1 x2 (u2 q2.2.1 120 x1.toNatClampNeg ((q2.2.1 120 x1.toNatClampNeg) ||| ((1 : Int32) <<< (x2 &&& 31)))) q2.2.2 r hf).1, frx_t hLq2 (frc_32_2 n _ hK1 x1 x2 (u2 q2.2.1 120 x1.toNatClampNeg ((q2.2.1 120 x1.toNatClampNeg) ||| ((1 : Int32) <<< (x2 &&& 31)))) q2.2.2 r hf).2⟩
          · cases hf
        · cases hf
theorem fr_32 (n : Nat) (x1 : Int32) (I : FI) (L : FL) (r : Int32 × FI × FL) (hf : f_32 n x1 I L = some r) : Fr SI_32 I r.2.1 ∧ Fr SL_32 L r.2.2 := by
  unfold f_32 at hf
  rcases ite_some hf with ⟨hc, hf⟩ | ⟨hc, hf⟩
  · cases hf; exact ⟨frx_r, frx_r⟩
  · rcases ite_some hf with ⟨hc, hf⟩ | ⟨hc, hf⟩
    · rcases ite_some hf with ⟨hc, hf⟩ | ⟨hc, hf⟩
      · rcases ite_some hf with ⟨hc, hf⟩ | ⟨hc, hf⟩
        · exact ⟨frx_t frx_r (frc_32_0 n x1 I L r hf).1, frx_t frx_r (frc_32_0 n x1 I L r hf).2⟩
        · obtain ⟨q0, hq0, hf⟩ := Option.bind_eq_some_iff.mp hf
          have hIq0 : Fr SI_32 I q0.1 := frx_t frx_r (frx_m (fr_38 _ _ _ _ q0 hq0).1 (by decide))
          have hLq0 : Fr SL_32 L q0.2 := frx_t frx_r (frx_m (fr_38 _ _ _ _ q0 hq0).2 (by decide))
          rcases ite_some hf with ⟨hc, hf⟩ | ⟨hc, hf⟩
          · exact ⟨frx_t (frx_u hIq0 (by decide) (by decide)) (frc_32_1 n n x1 (0 : Int32) (u2 q0.1 120 x1.toNatClampNeg (0 : Int32)) q0.2 r hf).1, frx_t hLq0 (frc_32_1 n n x1 (0 : Int32) (u2 q0.1 120 x1.toNatClampNeg (0 : Int32)) q0.2 r hf).2⟩
          · cases hf
      · cases hf
    · cases hf; exact ⟨frx_r, frx_r⟩
def SI_187 : List Nat := []
def SL_187 : List Nat := []
theorem fr_187 (I : FI) (L : FL) (r : FI × FL) (hf : f_187 I L = some r) : Fr SI_187 I r.1 ∧ Fr SL_187 L r.2 := by
  unfold f_187 at hf
  cases hf; exact ⟨frx_r, frx_r⟩
def SI_136_1 : List Nat := [114, 115, 116, 118, 119, 120]
def SL_136_1 : List Nat := [117]
theorem fr_136_1 (n : Nat) (x1 : Int32) (I : FI) (L : FL) (r : Int32 × FI × FL) (hf : f_136_1 n x1 I L = some r) : Fr SI_136_1 I r.2.1 ∧ Fr SL_136_1 L r.2.2 := by
  unfold f_136_1 at hf
  obtain ⟨q0, hq0, hf⟩ := Option.bind_eq_some_iff.mp hf
  rcases ite_some hf with ⟨hc, hf⟩ | ⟨hc, hf⟩
  · cases hf; exact ⟨frx_r, frx_r⟩
  · rcases ite_some hf with ⟨hc, hf⟩ | ⟨hc, hf⟩
    · cases hf; exact ⟨frx_r, frx_r⟩
    · obtain ⟨q1, hq1, hf⟩ := Option.bind_eq_some_iff.mp hf
      rcases ite_some hf with ⟨hc, hf⟩ | ⟨hc, hf⟩
      · obtain ⟨q2, hq2, hf⟩ := Option.bind_eq_some_iff.mp hf
        obtain ⟨q3, hq3, hf⟩ := Option.bind_eq_some_iff.mp hf
        have hIq3 : Fr SI_136_1 I q3.1 := frx_t frx_r (frx_m (fr_187 _ _ q3 hq3).1 (by decide))
        have hLq3 : Fr SL_136_1 L q3.2 := frx_t frx_r (frx_m (fr_187 _ _ q3 hq3).2 (by decide))
        obtain ⟨q4, hq4, hf⟩ := Option.bind_eq_some_iff.mp hf
        have hIq4 : Fr SI_136_1 I q4.2.1 := frx_t hIq3 (frx_m (fr_32 _ _ _ _ q4 hq4).1 (by decide))
        have hLq4 : Fr SL_136_1 L q4.2.2 := frx_t hLq3 (frx_m (fr_32 _ _ _ _ q4 hq4).2 (by decide))
        obtain ⟨q5, hq5, hf⟩ := Option.bind_eq_some_iff.mp hf
        rcases ite_some hf with ⟨hc, hf⟩ | ⟨hc, hf⟩
        · cases hf; exact ⟨hIq4, hLq4⟩
        · cases hf; exact ⟨hIq4, hLq4⟩
      · cases hf; exact ⟨frx_r, frx_r⟩
def SI_33 : List Nat := [114, 115, 116, 118, 119]
def SL_33 : List Nat := [117]
theorem frc_33_1 (n : Nat) (K0 : Int32 → FI → FL → Option (Int32 × FI × FL)) (hK0 : ∀ (x1 : Int32) (I : FI) (L : FL) (r : Int32 × FI × FL), K0 x1 I L = some r → Fr SI_33 I r.2.1 ∧ Fr SL_33 L r.2.2) (x1 : Int32) (I : FI) (L : FL) (r : Int32 × FI × FL) (hf : c_33_1 n K0 x1 I L = some r) : Fr SI_33 I r.2.1 ∧ Fr SL_33 L r.2.2 := by
  unfold c_33_1 at hf
  exact ⟨frx_t frx_r (hK0 (x1 + (1 : Int32)) I L r hf).1, frx_t frx_r (hK0 (x1 + (1 : Int32)) I L r hf).2⟩
theorem frc_33_0 (n : Nat) : ∀ (m : Nat) (x1 : Int32) (I : FI) (L : FL) (r : Int32 × FI × FL), c_33_0 n m x1 I L = some r → Fr SI_33 I r.2.1 ∧ Fr SL_33 L r.2.2
  | 0, x1, I, L, r, hf => by cases hf
  | m + 1, x1, I, L, r, hf => by
    unfold c_33_0 b_33_0 at hf
    have hK0 := frc_33_0 n m
    rcases ite_some hf with ⟨hc, hf⟩ | ⟨hc, hf⟩
    · cases hf; exact ⟨frx_r, frx_r⟩
    · obtain ⟨q2, hq2, hf⟩ := Option.bind_eq_some_iff.mp hf
      obtain ⟨q3, hq3, hf⟩ := Option.bind_eq_some_iff.mp hf
      rcases ite_some hf with ⟨hc, hf⟩ | ⟨hc, hf⟩
      · exact ⟨frx_t frx_r (frc_33_1 n _ hK0 x1 I L r hf).1, frx_t frx_r (frc_33_1 n _ hK0 x1 I L r hf).2⟩
      · obtain ⟨q4, hq4, hf⟩ := Option.bind_eq_some_iff.mp hf
        have hIq4 : Fr SI_33 I q4.2.1 := frx_t frx_r (frx_m (fr_42 _ _ _ _ q4 hq4).1 (by decide))
        have hLq4 : Fr SL_33 L q4.2.2 := frx_t frx_r (frx_m (fr_42 _ _ _ _ q4 hq4).2 (by decide))
        rcases ite_some hf with ⟨hc, hf⟩ | ⟨hc, hf⟩
        · exact ⟨frx_t hIq4 (frc_33_1 n _ hK0 x1 q4.2.1 q4.2.2 r hf).1, frx_t hLq4 (frc_33_1 n _ hK0 x1 q4.2.1 q4.2.2 r hf).2⟩
        · exact ⟨frx_t (frx_u hIq4 (by decide) (by decide)) (frc_33_1 n _ hK0 x1 (u2 q4.2.1 114 8 ((q4.2.1 114 8) + (1 : Int32))) q4.2.2 r hf).1, frx_t hLq4 (frc_33_1 n _ hK0 x1 (u2 q4.2.1 114 8 ((q4.2.1 114 8) + (1 : Int32))) q4.2.2 r hf).2⟩
theorem fr_33 (n : Nat) (I : FI) (L : FL) (r : Int32 × FI × FL) (hf : f_33 n I L = some r) : Fr SI_33 I r.2.1 ∧ Fr SL_33 L r.2.2 := by
  unfold f_33 at hf
  rcases ite_some hf with ⟨hc, hf⟩ | ⟨hc, hf⟩
  · cases hf; exact ⟨frx_r, frx_r⟩
  · obtain ⟨q0, hq0, hf⟩ := Option.bind_eq_some_iff.mp hf
    obtain ⟨q1, hq1, hf⟩ := Option.bind_eq_some_iff.mp hf
    have hIq1 : Fr SI_33 I q1.1 := frx_t frx_r (frx_m (fr_38 _ _ _ _ q1 hq1).1 (by decide))
    have hLq1 : Fr SL_33 L q1.2 := frx_t frx_r (frx_m (fr_38 _ _ _ _ q1 hq1).2 (by decide))
    exact ⟨frx_t (frx_u hIq1 (by decide) (by decide)) (frc_33_0 n n (0 : Int32) (u2 q1.1 114 8 (0 : Int32)) q1.2 r hf).1, frx_t hLq1 (frc_33_0 n n (0 : Int32) (u2 q1.1 114 8 (0 : Int32)) q1.2 r hf).2⟩
def SI_137_1 : List Nat := [114, 115, 116, 118, 119]
def SL_137_1 : List Nat := [117]
theorem fr_137_1 (n : Nat) (I : FI) (L : FL) (r : Int32 × FI × FL) (hf : f_137_1 n I L = some r) : Fr SI_137_1 I r.2.1 ∧ Fr SL_137_1 L r.2.2 := by
  unfold f_137_1 at hf
  obtain ⟨q0, hq0, hf⟩ := Option.bind_eq_some_iff.mp hf
  rcases ite_some hf with ⟨hc, hf⟩ | ⟨hc, hf⟩
  · cases hf; exact ⟨frx_r, frx_r⟩
  · obtain ⟨q1, hq1, hf⟩ := Option.bind_eq_some_iff.mp hf
    have hIq1 : Fr SI_137_1 I q1.1 := frx_t frx_r (frx_m (fr_187 _ _ q1 hq1).1 (by decide))
    have hLq1 : Fr SL_137_1 L q1.2 := frx_t frx_r (frx_m (fr_187 _ _ q1 hq1).2 (by decide))
    obtain ⟨q2, hq2, hf⟩ := Option.bind_eq_some_iff.mp hf
    have hIq2 : Fr SI_137_1 I q2.2.1 := frx_t hIq1 (frx_m (fr_33 _ _ _ q2 hq2).1 (by decide))
    have hLq2 : Fr SL_137_1 L q2.2.2 := frx_t hLq1 (frx_m (fr_33 _ _ _ q2 hq2).2 (by decide))
    cases hf; exact ⟨hIq2, hLq2⟩
def SI_34 : List Nat := [114, 115, 116, 118, 119]
def SL_34 : List Nat := [117]
theorem frc_34_1 (n : Nat) (K0 : Int32 → Int32 → FI → FL → Option (Int32 × FI × FL)) (hK0 : ∀ (x1 : Int32) (x2 : Int32) (I : FI) (L : FL) (r : Int32 × FI × FL), K0 x1 x2 I L = some r → Fr SI_34 I r.2.1 ∧ Fr SL_34 L r.2.2) (x1 : Int32) (x2 : Int32) (I : FI) (L : FL) (r : Int32 × FI × FL) (hf : c_34_1 n K0 x1 x2 I L = some r) : Fr SI_34 I r.2.1 ∧ Fr SL_34 L r.2.2 := by
  unfold c_34_1 at hf
  exact ⟨frx_t frx_r (hK0 x1 (x2 + (1 : Int32)) I L r hf).1, frx_t frx_r (hK0 x1 (x2 + (1 : Int32)) I L r hf).2⟩
theorem frc_34_0 (n : Nat) : ∀ (m : Nat) (x1 : Int32) (x2 : Int32) (I : FI) (L : FL) (r : Int32 × FI × FL), c_34_0 n m x1 x2 I L = some r → Fr SI_34 I r.2.1 ∧ Fr SL_34 L r.2.2
  | 0, x1, x2, I, L, r, hf => by cases hf
  | m + 1, x1, x2, I, L, r, hf => by
    unfold c_34_0 b_34_0 at hf
    have hK0 := frc_34_0 n m
    rcases ite_some hf with ⟨hc, hf⟩ | ⟨hc, hf⟩
    · cases hf; exact ⟨frx_r, frx_r⟩
    · obtain ⟨q3, hq3, hf⟩ := Option.bind_eq_some_iff.mp hf
      obtain ⟨q4, hq4, hf⟩ := Option.bind_eq_some_iff.mp hf
      rcases ite_some hf with ⟨hc, hf⟩ | ⟨hc, hf⟩
      · exact ⟨frx_t frx_r (frc_34_1 n _ hK0 x1 x2 I L r hf).1, frx_t frx_r (frc_34_1 n _ hK0 x1 x2 I L r hf).2⟩
      · obtain ⟨q5, hq5, hf⟩ := Option.bind_eq_some_iff.mp hf
        have hIq5 : Fr SI_34 I q5.2.1 := frx_t frx_r (frx_m (fr_42 _ _ _ _ q5 hq5).1 (by decide))
        have hLq5 : Fr SL_34 L q5.2.2 := frx_t frx_r (frx_m (fr_42 _ _ _ _ q5 hq5).2 (by decide))
        rcases ite_some hf with ⟨hc, hf⟩ | ⟨hc, hf⟩
        · exact ⟨frx_t hIq5 (frc_34_1 n _ hK0 x1 x2 q5.2.1 q5.2.2 r hf).1, frx_t hLq5 (frc_34_1 n _ hK0 x1 x2 q5.2.1 q5.2.2 r hf).2⟩
        · cases hf; exact ⟨hIq5, hLq5⟩
theorem fr_34 (n : Nat) (I : FI) (L : FL) (r : Int32 × FI × FL) (hf : f_34 n I L = some r) : Fr SI_34 I r.2.1 ∧ Fr SL_34 L r.2.2 := by
  unfold f_34 at hf
  obtain ⟨q0, hq0, hf⟩ := Option.bind_eq_some_iff.mp hf
  rcases ite_some hf with ⟨hc, hf⟩ | ⟨hc, hf⟩
  · obtain ⟨q1, hq1, hf⟩ := Option.bind_eq_some_iff.mp hf
    obtain ⟨q2, hq2, hf⟩ := Option.bind_eq_some_iff.mp hf
    have hIq2 : Fr SI_34 I q2.1 := frx_t frx_r (frx_m (fr_38 _ _ _ _ q2 hq2).1 (by decide))
    have hLq2 : Fr SL_34 L q2.2 := frx_t frx_r (frx_m (fr_38 _ _ _ _ q2 hq2).2 (by decide))
    exact ⟨frx_t hIq2 (frc_34_0 n n q0 (0 : Int32) q2.1 q2.2 r hf).1, frx_t hLq2 (frc_34_0 n n q0 (0 : Int32) q2.1 q2.2 r hf).2⟩
  · cases hf; exact ⟨frx_r, frx_r⟩
def SI_138_1 : List Nat := [114, 115, 116, 118, 119]
def SL_138_1 : List Nat := [117]
theorem fr_138_1 (n : Nat) (I : FI) (L : FL) (r : Int32 × FI × FL) (hf : f_138_1 n I L = some r) : Fr SI_138_1 I r.2.1 ∧ Fr SL_138_1 L r.2.2 := by
  unfold f_138_1 at hf
  obtain ⟨q0, hq0, hf⟩ := Option.bind_eq_some_iff.mp hf
  rcases ite_some hf with ⟨hc, hf⟩ | ⟨hc, hf⟩
  · cases hf; exact ⟨frx_r, frx_r⟩
  · obtain ⟨q1, hq1, hf⟩ := Option.bind_eq_some_iff.mp hf
    have hIq1 : Fr SI_138_1 I q1.1 := frx_t frx_r (frx_m (fr_187 _ _ q1 hq1).1 (by decide))
    have hLq1 : Fr SL_138_1 L q1.2 := frx_t frx_r (frx_m (fr_187 _ _ q1 hq1).2 (by decide))
    obtain ⟨q2, hq2, hf⟩ := Option.bind_eq_some_iff.mp hf
    have hIq2 : Fr SI_138_1 I q2.2.1 := frx_t hIq1 (frx_m (fr_34 _ _ _ q2 hq2).1 (by decide))
    have hLq2 : Fr SL_138_1 L q2.2.2 := frx_t hLq1 (frx_m (fr_34 _ _ _ q2 hq2).2 (by decide))
    cases hf; exact ⟨hIq2, hLq2⟩
def SI_35 : List Nat := [114, 115, 116, 118, 119]
def SL_35 : List Nat := [117]
theorem fr_35 (n : Nat) (I : FI) (L : FL) (r : Int32 × FI × FL) (hf : f_35 n I L = some r) : Fr SI_35 I r.2.1 ∧ Fr SL_35 L r.2.2 := by
  unfold f_35 at hf
  obtain ⟨q0, hq0, hf⟩ := Option.bind_eq_some_iff.mp hf
  rcases ite_some hf with ⟨hc, hf⟩ | ⟨hc, hf⟩
  · obtain ⟨q1, hq1, hf⟩ := Option.bind_eq_some_iff.mp hf
    obtain ⟨q2, hq2, hf⟩ := Option.bind_eq_some_iff.mp hf
    have hIq2 : Fr SI_35 I q2.1 := frx_t frx_r (frx_m (fr_38 _ _ _ _ q2 hq2).1 (by decide))
    have hLq2 : Fr SL_35 L q2.2 := frx_t frx_r (frx_m (fr_38 _ _ _ _ q2 hq2).2 (by decide))
    obtain ⟨q3, hq3, hf⟩ := Option.bind_eq_some_iff.mp hf
    obtain ⟨q4, hq4, hf⟩ := Option.bind_eq_some_iff.mp hf
    have hIq4 : Fr SI_35 I q4.2.1 := frx_t hIq2 (frx_m (fr_42 _ _ _ _ q4 hq4).1 (by decide))
    have hLq4 : Fr SL_35 L q4.2.2 := frx_t hLq2 (frx_m (fr_42 _ _ _ _ q4 hq4).2 (by decide))
    rcases ite_some hf with ⟨hc, hf⟩ | ⟨hc, hf⟩
    · obtain ⟨q5, hq5, hf⟩ := Option.bind_eq_some_iff.mp hf
      rcases ite_some hf with ⟨hc, hf⟩ | ⟨hc, hf⟩
      · cases hf; exact ⟨hIq4, hLq4⟩
      · cases hf
    · cases hf; exact ⟨hIq4, hLq4⟩
  · cases hf; exact ⟨frx_r, frx_r⟩
def SI_139_1 : List Nat := [114, 115, 116, 118, 119]
def SL_139_1 : List Nat := [117]
theorem fr_139_1 (n : Nat) (I : FI) (L : FL) (r : Int32 × FI × FL) (hf : f_139_1 n I L = some r) : Fr SI_139_1 I r.2.1 ∧ Fr SL_139_1 L r.2.2 := by
  unfold f_139_1 at hf
  obtain ⟨q0, hq0, hf⟩ := Option.bind_eq_some_iff.mp hf
  rcases ite_some hf with ⟨hc, hf⟩ | ⟨hc, hf⟩
  · cases hf; exact ⟨frx_r, frx_r⟩
  · obtain ⟨q1, hq1, hf⟩ := Option.bind_eq_some_iff.mp hf
    have hIq1 : Fr SI_139_1 I q1.1 := frx_t frx_r (frx_m (fr_187 _ _ q1 hq1).1 (by decide))
    have hLq1 : Fr SL_139_1 L q1.2 := frx_t frx_r (frx_m (fr_187 _ _ q1 hq1).2 (by decide))
    obtain ⟨q2, hq2, hf⟩ := Option.bind_eq_some_iff.mp hf
    have hIq2 : Fr SI_139_1 I q2.2.1 := frx_t hIq1 (frx_m (fr_35 _ _ _ q2 hq2).1 (by decide))
    have hLq2 : Fr SL_139_1 L q2.2.2 := frx_t hLq1 (frx_m (fr_35 _ _ _ q2 hq2).2 (by decide))
    cases hf; exact ⟨hIq2, hLq2⟩
def SI_4_1 : List Nat := [37, 38]
def SL_4_1 : List Nat := []
theorem frc_4_1_5 (n : Nat) (K1 : Int32 → Int32 → FI → FL → Option (FI × FL)) (K2 : Int32 → Int32 → Int32 → FI → FL → Option (FI × FL)) (hK1 : ∀ (x2 : Int32) (x3 : Int32) (I : FI) (L : FL) (r : FI × FL), K1 x2 x3 I L = some r → Fr SI_4_1 I r.1 ∧ Fr SL_4_1 L r.2) (hK2 : ∀ (x2 : Int32) (x3 : Int32) (x4 : Int32) (I : FI) (L : FL) (r : FI × FL), K2 x2 x3 x4 I L = some r → Fr SI_4_1 I r.1 ∧ Fr SL_4_1 L r.2) (x2 : Int32) (x3 : Int32) (x4 : Int32) (I : FI) (L : FL) (r : FI × FL) (hf : c_4_1_5 n K1 K2 x2 x3 x4 I L = some r) : Fr SI_4_1 I r.1 ∧ Fr SL_4_1 L r.2 := by
  unfold c_4_1_5 at hf
  exact ⟨frx_t frx_r (hK2 x2 x3 (x4 + (1 : Int32)) I L r hf).1, frx_t frx_r (hK2 x2 x3 (x4 + (1 : Int32)) I L r hf).2⟩
theorem frc_4_1_4 (n : Nat) (K1 : Int32 → Int32 → FI → FL → Option (FI × FL)) (K2 : Int32 → Int32 → Int32 → FI → FL → Option (FI × FL)) (hK1 : ∀ (x2 : Int32) (x3 : Int32) (I : FI) (L : FL) (r : FI × FL), K1 x2 x3 I L = some r → Fr SI_4_1 I r.1 ∧ Fr SL_4_1 L r.2) (hK2 : ∀ (x2 : Int32) (x3 : Int32) (x4 : Int32) (I : FI) (L : FL) (r : FI × FL), K2 x2 x3 x4 I L = some r → Fr SI_4_1 I r.1 ∧ Fr SL_4_1 L r.2) (x2 : Int32) (x3 : Int32) (x4 : Int32) (s0 : Int32) (I : FI) (L : FL) (r : FI × FL) (hf : c_4_1_4 n K1 K2 x2 x3 x4 s0 I L = some r) : Fr SI_4_1 I r.1 ∧ Fr SL_4_1 L r.2 := by
  unfold c_4_1_4 at hf
  rcases ite_some hf with ⟨hc, hf⟩ | ⟨hc, hf⟩
  · exact ⟨frx_t frx_r (frc_4_1_5 n _ _ hK1 hK2 x2 x3 x4 I L r hf).1, frx_t frx_r (frc_4_1_5 n _ _ hK1 hK2 x2 x3 x4 I L r hf).2⟩
  · rcases ite_some hf with ⟨hc, hf⟩ | ⟨hc, hf⟩
    · exact ⟨frx_t frx_r (frc_4_1_5 n _ _ hK1 hK2 x2 x3 x4 I L r hf).1, frx_t frx_r (frc_4_1_5 n _ _ hK1 hK2 x2 x3 x4 I L r hf).2⟩
    · rcases ite_some hf with ⟨hc, hf⟩ | ⟨hc, hf⟩
      · rcases ite_some hf with ⟨hc, hf⟩ | ⟨hc, hf⟩
        · exact ⟨frx_t (frx_u frx_r (by decide) (by decide)) (frc_4_1_5 n _ _ hK1 hK2 x2 x3 x4 (u2 I 38 x3.toNatClampNeg ((I 38 x3.toNatClampNeg) ||| ((1 : Int32) <<< (((4 : Int32) * x4) &&& 31)))) L r hf).1, frx_t frx_r (frc_4_1_5 n _ _ hK1 hK2 x2 x3 x4 (u2 I 38 x3.toNatClampNeg ((I 38 x3.toNatClampNeg) ||| ((1 : Int32) <<< (((4 : Int32) * x4) &&& 31)))) L r hf).2⟩
        · cases hf
      · cases hf
theorem frc_4_1_3 (n : Nat) (K1 : Int32 → Int32 → FI → FL → Option (FI × FL)) (K2 : Int32 → Int32 → Int32 → FI → FL → Option (FI × FL)) (hK1 : ∀ (x2 : Int32) (x3 : Int32) (I : FI) (L : FL) (r : FI × FL), K1 x2 x3 I L = some r → Fr SI_4_1 I r.1 ∧ Fr SL_4_1 L r.2) (hK2 : ∀ (x2 : Int32) (x3 : Int32) (x4 : Int32) (I : FI) (L : FL) (r : FI × FL), K2 x2 x3 x4 I L = some r → Fr SI_4_1 I r.1 ∧ Fr SL_4_1 L r.2) (x2 : Int32) (x3 : Int32) (x4 : Int32) (I : FI) (L : FL) (r : FI × FL) (hf : c_4_1_3 n K1 K2 x2 x3 x4 I L = some r) : Fr SI_4_1 I r.1 ∧ Fr SL_4_1 L r.2 := by
  unfold c_4_1_3 at hf
  exact ⟨frx_t frx_r (frc_4_1_4 n _ _ hK1 hK2 x2 x3 x4 (1 : Int32) I L r hf).1, frx_t frx_r (frc_4_1_4 n _ _ hK1 hK2 x2 x3 x4 (1 : Int32) I L r hf).2⟩
theorem frc_4_1_6 (n : Nat) (K1 : Int32 → Int32 → FI → FL → Option (FI × FL)) (K2 : Int32 → Int32 → Int32 → FI → FL → Option (FI × FL)) (hK1 : ∀ (x2 : Int32) (x3 : Int32) (I : FI) (L : FL) (r : FI × FL), K1 x2 x3 I L = some r → Fr SI_4_1 I r.1 ∧ Fr SL_4_1 L r.2) (hK2 : ∀ (x2 : Int32) (x3 : Int32) (x4 : Int32) (I : FI) (L : FL) (r : FI × FL), K2 x2 x3 x4 I L = some r → Fr SI_4_1 I r.1 ∧ Fr SL_4_1 L r.2) (x2 : Int32) (x3 : Int32) (x4 : Int32) (I : FI) (L : FL) (r : FI × FL) (hf : c_4_1_6 n K1 K2 x2 x3 x4 I L = some r) : Fr SI_4_1 I r.1 ∧ Fr SL_4_1 L r.2 := by
  unfold c_4_1_6 at hf
  exact ⟨frx_t frx_r (frc_4_1_4 n _ _ hK1 hK2 x2 x3 x4 (0 : Int32) I L r hf).1, frx_t frx_r (frc_4_1_4 n _ _ hK1 hK2 x2 x3 x4 (0 : Int32) I L r hf).2⟩
theorem frc_4_1_2 (n : Nat) (K1 : Int32 → Int32 → FI → FL → Option (FI × FL)) (hK1 : ∀ (x2 : Int32) (x3 : Int32) (I : FI) (L : FL) (r : FI × FL), K1 x2 x3 I L = some r → Fr SI_4_1 I r.1 ∧ Fr SL_4_1 L r.2) : ∀ (m : Nat) (x2 : Int32) (x3 : Int32) (x4 : Int32) (I : FI) (L : FL) (r : FI × FL), c_4_1_2 n K1 m x2 x3 x4 I L = some r → Fr SI_4_1 I r.1 ∧ Fr SL_4_1 L r.2
  | 0, x2, x3, x4, I, L, r, hf => by cases hf
  | m + 1, x2, x3, x4, I, L, r, hf => by
    unfold c_4_1_2 b_4_1_2 at hf
    have hK2 := frc_4_1_2 n K1 hK1 m
    rcases ite_some hf with ⟨hc, hf⟩ | ⟨hc, hf⟩
    · exact ⟨frx_t frx_r (hK1 x2 (x3 + (1 : Int32)) I L r hf).1, frx_t frx_r (hK1 x2 (x3 + (1 : Int32)) I L r hf).2⟩
    · rcases ite_some hf with ⟨hc, hf⟩ | ⟨hc, hf⟩
      · exact ⟨frx_t frx_r (frc_4_1_3 n _ _ hK1 hK2 x2 x3 x4 I L r hf).1, frx_t frx_r (frc_4_1_3 n _ _ hK1 hK2 x2 x3 x4 I L r hf).2⟩
      · rcases ite_some hf with ⟨hc, hf⟩ | ⟨hc, hf⟩
        · exact ⟨frx_t frx_r (frc_4_1_6 n _ _ hK1 hK2 x2 x3 x4 I L r hf).1, frx_t frx_r (frc_4_1_6 n _ _ hK1 hK2 x2 x3 x4 I L r hf).2⟩
        · obtain ⟨q0, hq0, hf⟩ := Option.bind_eq_some_iff.mp hf
          rcases ite_some hf with ⟨hc, hf⟩ | ⟨hc, hf⟩
          · exact ⟨frx_t frx_r (frc_4_1_6 n _ _ hK1 hK2 x2 x3 x4 I L r hf).1, frx_t frx_r (frc_4_1_6 n _ _ hK1 hK2 x2 x3 x4 I L r hf).2⟩
          · exact ⟨frx_t frx_r (frc_4_1_3 n _ _ hK1 hK2 x2 x3 x4 I L r hf).1, frx_t frx_r (frc_4_1_3 n _ _ hK1 hK2 x2 x3 x4 I L r hf).2⟩
theorem frc_4_1_1 (n : Nat) : ∀ (m : Nat) (x2 : Int32) (x3 : Int32) (I : FI) (L : FL) (r : FI × FL), c_4_1_1 n m x2 x3 I L = some r → Fr SI_4_1 I r.1 ∧ Fr SL_4_1 L r.2
  | 0, x2, x3, I, L, r, hf => by cases hf
  | m + 1, x2, x3, I, L, r, hf => by
    unfold c_4_1_1 b_4_1_1 at hf
    have hK1 := frc_4_1_1 n m
    rcases ite_some hf with ⟨hc, hf⟩ | ⟨hc, hf⟩
    · cases hf; exact ⟨frx_r, frx_r⟩
    · exact ⟨frx_t frx_r (frc_4_1_2 n _ hK1 n x2 x3 (0 : Int32) I L r hf).1, frx_t frx_r (frc_4_1_2 n _ hK1 n x2 x3 (0 : Int32) I L r hf).2⟩
theorem frc_4_1_7 (n : Nat) (K0 : Int32 → Int32 → FI → FL → Option (FI × FL)) (hK0 : ∀ (x2 : Int32) (x3 : Int32) (I : FI) (L : FL) (r : FI × FL), K0 x2 x3 I L = some r → Fr SI_4_1 I r.1 ∧ Fr SL_4_1 L r.2) (x2 : Int32) (x3 : Int32) (s0 : Int32) (I : FI) (L : FL) (r : FI × FL) (hf : c_4_1_7 n K0 x2 x3 s0 I L = some r) : Fr SI_4_1 I r.1 ∧ Fr SL_4_1 L r.2 := by
  unfold c_4_1_7 at hf
  exact ⟨frx_t (frx_u frx_r (by decide) (by decide)) (hK0 x2 (x3 + (1 : Int32)) (u2 I 37 1 ((I 37 1) ||| (((7 : Int32) - s0) <<< (((4 : Int32) * x3) &&& 31)))) L r hf).1, frx_t frx_r (hK0 x2 (x3 + (1 : Int32)) (u2 I 37 1 ((I 37 1) ||| (((7 : Int32) - s0) <<< (((4 : Int32) * x3) &&& 31)))) L r hf).2⟩
theorem frc_4_1_0 (n : Nat) : ∀ (m : Nat) (x2 : Int32) (x3 : Int32) (I : FI) (L : FL) (r : FI × FL), c_4_1_0 n m x2 x3 I L = some r → Fr SI_4_1 I r.1 ∧ Fr SL_4_1 L r.2
  | 0, x2, x3, I, L, r, hf => by cases hf
  | m + 1, x2, x3, I, L, r, hf => by
    unfold c_4_1_0 b_4_1_0 at hf
    have hK0 := frc_4_1_0 n m
    rcases ite_some hf with ⟨hc, hf⟩ | ⟨hc, hf⟩
    · exact ⟨frx_t frx_r (frc_4_1_1 n n x2 (0 : Int32) I L r hf).1, frx_t frx_r (frc_4_1_1 n n x2 (0 : Int32) I L r hf).2⟩
    · rcases ite_some hf with ⟨hc, hf⟩ | ⟨hc, hf⟩
      · rcases ite_some hf with ⟨hc, hf⟩ | ⟨hc, hf⟩
        · exact ⟨frx_t (frx_u frx_r (by decide) (by decide)) (frc_4_1_7 n _ hK0 x2 x3 (0 : Int32) (u2 I 38 x3.toNatClampNeg (0 : Int32)) L r hf).1, frx_t frx_r (frc_4_1_7 n _ hK0 x2 x3 (0 : Int32) (u2 I 38 x3.toNatClampNeg (0 : Int32)) L r hf).2⟩
        · rcases ite_some hf with ⟨hc, hf⟩ | ⟨hc, hf⟩
          · exact ⟨frx_t (frx_u frx_r (by decide) (by decide)) (frc_4_1_7 n _ hK0 x2 x3 (I 4 x3.toNatClampNeg) (u2 I 38 x3.toNatClampNeg (0 : Int32)) L r hf).1, frx_t frx_r (frc_4_1_7 n _ hK0 x2 x3 (I 4 x3.toNatClampNeg) (u2 I 38 x3.toNatClampNeg (0 : Int32)) L r hf).2⟩
          · cases hf
      · cases hf
theorem fr_4_1 (n : Nat) (x2 : Int32) (I : FI) (L : FL) (r : FI × FL) (hf : f_4_1 n x2 I L = some r) : Fr SI_4_1 I r.1 ∧ Fr SL_4_1 L r.2 := by
  unfold f_4_1 at hf
  exact ⟨frx_t (frx_u (frx_u frx_r (by decide) (by decide)) (by decide) (by decide)) (frc_4_1_0 n n x2 (0 : Int32) (u2 (u2 I 37 2 (I 3 1)) 37 1 (0 : Int32)) L r hf).1, frx_t frx_r (frc_4_1_0 n n x2 (0 : Int32) (u2 (u2 I 37 2 (I 3 1)) 37 1 (0 : Int32)) L r hf).2⟩
def SI_100 : List Nat := [35, 37, 38, 40, 41]
def SL_100 : List Nat := []
theorem fr_100 (n : Nat) (x1 : Int32) (I : FI) (L : FL) (r : FI × FL) (hf : f_100 n x1 I L = some r) : Fr SI_100 I r.1 ∧ Fr SL_100 L r.2 := by
  unfold f_100 at hf
  obtain ⟨q0, hq0, hf⟩ := Option.bind_eq_some_iff.mp hf
  obtain ⟨q1, hq1, hf⟩ := Option.bind_eq_some_iff.mp hf
  have hIq1 : Fr SI_100 I q1.1 := frx_t frx_r (frx_m (fr_4_1 _ _ _ _ q1 hq1).1 (by decide))
  have hLq1 : Fr SL_100 L q1.2 := frx_t frx_r (frx_m (fr_4_1 _ _ _ _ q1 hq1).2 (by decide))
  cases hf; exact ⟨(frx_u (frx_u (frx_u (frx_u hIq1 (by decide) (by decide)) (by decide) (by decide)) (by decide) (by decide)) (by decide) (by decide)), hLq1⟩
def SI_104 : List Nat := [42]
def SL_104 : List Nat := []
theorem frc_104_2 (n : Nat) (x2 : Int32) (I : FI) (L : FL) (r : Int32 × FI × FL) (hf : c_104_2 n x2 I L = some r) : Fr SI_104 I r.2.1 ∧ Fr SL_104 L r.2.2 := by
  unfold c_104_2 at hf
  rcases ite_some hf with ⟨hc, hf⟩ | ⟨hc, hf⟩
  · cases hf; exact ⟨frx_r, frx_r⟩
  · cases hf; exact ⟨frx_r, frx_r⟩
theorem frc_104_1 (n : Nat) (K0 : Int32 → Int32 → Int32 → FI → FL → Option (Int32 × FI × FL)) (hK0 : ∀ (x1 : Int32) (x2 : Int32) (x3 : Int32) (I : FI) (L : FL) (r : Int32 × FI × FL), K0 x1 x2 x3 I L = some r → Fr SI_104 I r.2.1 ∧ Fr SL_104 L r.2.2) : ∀ (m : Nat) (x1 : Int32) (x2 : Int32) (x3 : Int32) (x4 : Int32) (I : FI) (L : FL) (r : Int32 × FI × FL), c_104_1 n K0 m x1 x2 x3 x4 I L = some r → Fr SI_104 I r.2.1 ∧ Fr SL_104 L r.2.2
  | 0, x1, x2, x3, x4, I, L, r, hf => by cases hf
  | m + 1, x1, x2, x3, x4, I, L, r, hf => by
    unfold c_104_1 b_104_1 at hf
    have hK1 := frc_104_1 n K0 hK0 m
    rcases ite_some hf with ⟨hc, hf⟩ | ⟨hc, hf⟩
    · exact ⟨frx_t frx_r (hK0 x1 x2 (x3 + (1 : Int32)) I L r hf).1, frx_t frx_r (hK0 x1 x2 (x3 + (1 : Int32)) I L r hf).2⟩
    · rcases ite_some hf with ⟨hc, hf⟩ | ⟨hc, hf⟩
      · obtain ⟨q1, hq1, hf⟩ := Option.bind_eq_some_iff.mp hf
        rcases ite_some hf with ⟨hc, hf⟩ | ⟨hc, hf⟩
        · exact ⟨frx_t frx_r (frc_104_2 n q1 I L r hf).1, frx_t frx_r (frc_104_2 n q1 I L r hf).2⟩
        · rcases ite_some hf with ⟨hc, hf⟩ | ⟨hc, hf⟩
          · rcases ite_some hf with ⟨hc, hf⟩ | ⟨hc, hf⟩
            · rcases ite_some hf with ⟨hc, hf⟩ | ⟨hc, hf⟩
              · rcases ite_some hf with ⟨hc, hf⟩ | ⟨hc, hf⟩
                · exact ⟨frx_t (frx_u frx_r (by decide) (by decide)) (hK1 (I 40 x4.toNatClampNeg) q1 x3 (x4 + (1 : Int32)) (u2 I 42 x4.toNatClampNeg q1) L r hf).1, frx_t frx_r (hK1 (I 40 x4.toNatClampNeg) q1 x3 (x4 + (1 : Int32)) (u2 I 42 x4.toNatClampNeg q1) L r hf).2⟩
                · cases hf
              · cases hf
            · exact ⟨frx_t frx_r (frc_104_2 n q1 I L r hf).1, frx_t frx_r (frc_104_2 n q1 I L r hf).2⟩
          · cases hf
      · cases hf
theorem frc_104_0 (n : Nat) : ∀ (m : Nat) (x1 : Int32) (x2 : Int32) (x3 : Int32) (I : FI) (L : FL) (r : Int32 × FI × FL), c_104_0 n m x1 x2 x3 I L = some r → Fr SI_104 I r.2.1 ∧ Fr SL_104 L r.2.2
  | 0, x1, x2, x3, I, L, r, hf => by cases hf
  | m + 1, x1, x2, x3, I, L, r, hf => by
    unfold c_104_0 b_104_0 at hf
    have hK0 := frc_104_0 n m
    rcases ite_some hf with ⟨hc, hf⟩ | ⟨hc, hf⟩
    · cases hf; exact ⟨frx_r, frx_r⟩
    · exact ⟨frx_t frx_r (frc_104_1 n _ hK0 n x1 x2 x3 (1 : Int32) I L r hf).1, frx_t frx_r (frc_104_1 n _ hK0 n x1 x2 x3 (1 : Int32) I L r hf).2⟩
theorem fr_104 (n : Nat) (I : FI) (L : FL) (r : Int32 × FI × FL) (hf : f_104 n I L = some r) : Fr SI_104 I r.2.1 ∧ Fr SL_104 L r.2.2 := by
  unfold f_104 at hf
  rcases ite_some hf with ⟨hc, hf⟩ | ⟨hc, hf⟩
  · rcases ite_some hf with ⟨hc, hf⟩ | ⟨hc, hf⟩
    · obtain ⟨q0, hq0, hf⟩ := Option.bind_eq_some_iff.mp hf
      rcases ite_some hf with ⟨hc, hf⟩ | ⟨hc, hf⟩
      · rcases ite_some hf with ⟨hc, hf⟩ | ⟨hc, hf⟩
        · cases hf
        rcases ite_some hf with ⟨hc, hf⟩ | ⟨hc, hf⟩
        · exact ⟨frx_t (frx_c frx_r (by decide) (by decide)) (frc_104_0 n n (I 40 ((I 35 8).toNatClampNeg)) (I 41 ((I 35 8).toNatClampNeg)) (0 : Int32) (c2 I 41 42 0 0 (((I 35 8) + (1 : Int32)).toNatClampNeg)) L r hf).1, frx_t frx_r (frc_104_0 n n (I 40 ((I 35 8).toNatClampNeg)) (I 41 ((I 35 8).toNatClampNeg)) (0 : Int32) (c2 I 41 42 0 0 (((I 35 8) + (1 : Int32)).toNatClampNeg)) L r hf).2⟩
        · cases hf
      · cases hf; exact ⟨frx_r, frx_r⟩
    · cases hf
  · cases hf
def SI_102 : List Nat := [35, 36]
def SL_102 : List Nat := []
theorem fr_102 (x1 : Int32) (I : FI) (L : FL) (r : FI × FL) (hf : f_102 x1 I L = some r) : Fr SI_102 I r.1 ∧ Fr SL_102 L r.2 := by
  unfold f_102 at hf
  rcases ite_some hf with ⟨hc, hf⟩ | ⟨hc, hf⟩
  · cases hf; exact ⟨(frx_u frx_r (by decide) (by decide)), frx_r⟩
  · rcases ite_some hf with ⟨hc, hf⟩ | ⟨hc, hf⟩
    · cases hf
    rcases ite_some hf with ⟨hc, hf⟩ | ⟨hc, hf⟩
    · cases hf; exact ⟨(frx_u (frx_c frx_r (by decide) (by decide)) (by decide) (by decide)), frx_r⟩
    · cases hf
def SI_103 : List Nat := [40, 41]
def SL_103 : List Nat := []
theorem frc_103_1 (x1 : Int32) (x2 : Int32) (x3 : Int32) (I : FI) (L : FL) (r : Int32 × FI × FL) (hf : c_103_1 x1 x2 x3 I L = some r) : Fr SI_103 I r.2.1 ∧ Fr SL_103 L r.2.2 := by
  unfold c_103_1 at hf
  rcases ite_some hf with ⟨hc, hf⟩ | ⟨hc, hf⟩
  · obtain ⟨q0, hq0, hf⟩ := Option.bind_eq_some_iff.mp hf
    rcases ite_some hf with ⟨hc, hf⟩ | ⟨hc, hf⟩
    · rcases ite_some hf with ⟨hc, hf⟩ | ⟨hc, hf⟩
      · rcases ite_some hf with ⟨hc, hf⟩ | ⟨hc, hf⟩
        · cases hf; exact ⟨(frx_u (frx_u frx_r (by decide) (by decide)) (by decide) (by decide)), frx_r⟩
        · cases hf; exact ⟨(frx_u (frx_u frx_r (by decide) (by decide)) (by decide) (by decide)), frx_r⟩
      · cases hf
    · cases hf
  · cases hf
theorem frc_103_0 (x1 : Int32) (x2 : Int32) (s0 : Int32) (I : FI) (L : FL) (r : Int32 × FI × FL) (hf : c_103_0 x1 x2 s0 I L = some r) : Fr SI_103 I r.2.1 ∧ Fr SL_103 L r.2.2 := by
  unfold c_103_0 at hf
  rcases ite_some hf with ⟨hc, hf⟩ | ⟨hc, hf⟩
  · exact ⟨frx_t frx_r (frc_103_1 x1 x2 s0 I L r hf).1, frx_t frx_r (frc_103_1 x1 x2 s0 I L r hf).2⟩
  · obtain ⟨q1, hq1, hf⟩ := Option.bind_eq_some_iff.mp hf
    rcases ite_some hf with ⟨hc, hf⟩ | ⟨hc, hf⟩
    · exact ⟨frx_t frx_r (frc_103_1 x1 x2 s0 I L r hf).1, frx_t frx_r (frc_103_1 x1 x2 s0 I L r hf).2⟩
    · cases hf; exact ⟨frx_r, frx_r⟩
theorem fr_103 (x1 : Int32) (x2 : Int32) (I : FI) (L : FL) (r : Int32 × FI × FL) (hf : f_103 x1 x2 I L = some r) : Fr SI_103 I r.2.1 ∧ Fr SL_103 L r.2.2 := by
  unfold f_103 at hf
  rcases ite_some hf with ⟨hc, hf⟩ | ⟨hc, hf⟩
  · exact ⟨frx_t frx_r (frc_103_0 x1 x2 (-1 : Int32) I L r hf).1, frx_t frx_r (frc_103_0 x1 x2 (-1 : Int32) I L r hf).2⟩
  · rcases ite_some hf with ⟨hc, hf⟩ | ⟨hc, hf⟩
    · exact ⟨frx_t frx_r (frc_103_0 x1 x2 (I 40 ((x1 - (1 : Int32)).toNatClampNeg)) I L r hf).1, frx_t frx_r (frc_103_0 x1 x2 (I 40 ((x1 - (1 : Int32)).toNatClampNeg)) I L r hf).2⟩
    · cases hf
def SI_101 : List Nat := [35, 36, 40, 41, 42]
def SL_101 : List Nat := []
theorem frc_101_0 (n : Nat) (F : Int32 → Int32 → FI → FL → Option (FI × FL)) (hF : ∀ (x1 : Int32) (x2 : Int32) (I : FI) (L : FL) (r : FI × FL), F x1 x2 I L = some r → Fr SI_101 I r.1 ∧ Fr SL_101 L r.2) (x2 : Int32) (I : FI) (L : FL) (r : FI × FL) (hf : c_101_0 n F x2 I L = some r) : Fr SI_101 I r.1 ∧ Fr SL_101 L r.2 := by
  unfold c_101_0 at hf
  rcases ite_some hf with ⟨hc, hf⟩ | ⟨hc, hf⟩
  · cases hf; exact ⟨frx_r, frx_r⟩
  · rcases ite_some hf with ⟨hc, hf⟩ | ⟨hc, hf⟩
    · cases hf
    · rcases ite_some hf with ⟨hc, hf⟩ | ⟨hc, hf⟩
      · cases hf; exact ⟨frx_r, frx_r⟩
      · obtain ⟨q0, hq0, hf⟩ := Option.bind_eq_some_iff.mp hf
        have hIq0 : Fr SI_101 I q0.2.1 := frx_t frx_r (frx_m (fr_104 _ _ _ q0 hq0).1 (by decide))
        have hLq0 : Fr SL_101 L q0.2.2 := frx_t frx_r (frx_m (fr_104 _ _ _ q0 hq0).2 (by decide))
        rcases ite_some hf with ⟨hc, hf⟩ | ⟨hc, hf⟩
        · cases hf; exact ⟨hIq0, hLq0⟩
        · obtain ⟨q1, hq1, hf⟩ := Option.bind_eq_some_iff.mp hf
          have hIq1 : Fr SI_101 I q1.1 := frx_t hIq0 (frx_m (fr_102 _ _ _ q1 hq1).1 (by decide))
          have hLq1 : Fr SL_101 L q1.2 := frx_t hLq0 (frx_m (fr_102 _ _ _ q1 hq1).2 (by decide))
          cases hf; exact ⟨hIq1, hLq1⟩
theorem frc_101_3 (n : Nat) (F : Int32 → Int32 → FI → FL → Option (FI × FL)) (K1 : Int32 → Int32 → Int32 → Int32 → FI → FL → Option (FI × FL)) (hF : ∀ (x1 : Int32) (x2 : Int32) (I : FI) (L : FL) (r : FI × FL), F x1 x2 I L = some r → Fr SI_101 I r.1 ∧ Fr SL_101 L r.2) (hK1 : ∀ (x1 : Int32) (x2 : Int32) (x3 : Int32) (x4 : Int32) (I : FI) (L : FL) (r : FI × FL), K1 x1 x2 x3 x4 I L = some r → Fr SI_101 I r.1 ∧ Fr SL_101 L r.2) (x1 : Int32) (x2 : Int32) (x3 : Int32) (x4 : Int32) (I : FI) (L : FL) (r : FI × FL) (hf : c_101_3 n F K1 x1 x2 x3 x4 I L = some r) : Fr SI_101 I r.1 ∧ Fr SL_101 L r.2 := by
  unfold c_101_3 at hf
  exact ⟨frx_t frx_r (hK1 x1 x2 x3 (x4 + (1 : Int32)) I L r hf).1, frx_t frx_r (hK1 x1 x2 x3 (x4 + (1 : Int32)) I L r hf).2⟩
theorem frc_101_4 (n : Nat) (F : Int32 → Int32 → FI → FL → Option (FI × FL)) (K1 : Int32 → Int32 → Int32 → Int32 → FI → FL → Option (FI × FL)) (hF : ∀ (x1 : Int32) (x2 : Int32) (I : FI) (L : FL) (r : FI × FL), F x1 x2 I L = some r → Fr SI_101 I r.1 ∧ Fr SL_101 L r.2) (hK1 : ∀ (x1 : Int32) (x2 : Int32) (x3 : Int32) (x4 : Int32) (I : FI) (L : FL) (r : FI × FL), K1 x1 x2 x3 x4 I L = some r → Fr SI_101 I r.1 ∧ Fr SL_101 L r.2) (x1 : Int32) (x2 : Int32) (x3 : Int32) (x4 : Int32) (s0 : Int32) (s1 : Int32) (I : FI) (L : FL) (r : FI × FL) (hf : c_101_4 n F K1 x1 x2 x3 x4 s0 s1 I L = some r) : Fr SI_101 I r.1 ∧ Fr SL_101 L r.2 := by
  unfold c_101_4 at hf
  obtain ⟨q3, hq3, hf⟩ := Option.bind_eq_some_iff.mp hf
  have hIq3 : Fr SI_101 I q3.1 := frx_t frx_r (frx_m (hF s1 s0 I L q3 hq3).1 (by decide))
  have hLq3 : Fr SL_101 L q3.2 := frx_t frx_r (frx_m (hF s1 s0 I L q3 hq3).2 (by decide))
  exact ⟨frx_t hIq3 (frc_101_3 n _ _ hF hK1 x1 x2 x3 x4 q3.1 q3.2 r hf).1, frx_t hLq3 (frc_101_3 n _ _ hF hK1 x1 x2 x3 x4 q3.1 q3.2 r hf).2⟩
theorem frc_101_2 (n : Nat) (F : Int32 → Int32 → FI → FL → Option (FI × FL)) (K1 : Int32 → Int32 → Int32 → Int32 → FI → FL → Option (FI × FL)) (hF : ∀ (x1 : Int32) (x2 : Int32) (I : FI) (L : FL) (r : FI × FL), F x1 x2 I L = some r → Fr SI_101 I r.1 ∧ Fr SL_101 L r.2) (hK1 : ∀ (x1 : Int32) (x2 : Int32) (x3 : Int32) (x4 : Int32) (I : FI) (L : FL) (r : FI × FL), K1 x1 x2 x3 x4 I L = some r → Fr SI_101 I r.1 ∧ Fr SL_101 L r.2) (x1 : Int32) (x2 : Int32) (x3 : Int32) (x4 : Int32) (I : FI) (L : FL) (r : FI × FL) (hf : c_101_2 n F K1 x1 x2 x3 x4 I L = some r) : Fr SI_101 I r.1 ∧ Fr SL_101 L r.2 := by
  unfold c_101_2 at hf
  obtain ⟨q2, hq2, hf⟩ := Option.bind_eq_some_iff.mp hf
  have hIq2 : Fr SI_101 I q2.2.1 := frx_t frx_r (frx_m (fr_103 _ _ _ _ q2 hq2).1 (by decide))
  have hLq2 : Fr SL_101 L q2.2.2 := frx_t frx_r (frx_m (fr_103 _ _ _ _ q2 hq2).2 (by decide))
  rcases ite_some hf with ⟨hc, hf⟩ | ⟨hc, hf⟩
  · exact ⟨frx_t hIq2 (frc_101_3 n _ _ hF hK1 x1 x2 x3 x4 q2.2.1 q2.2.2 r hf).1, frx_t hLq2 (frc_101_3 n _ _ hF hK1 x1 x2 x3 x4 q2.2.1 q2.2.2 r hf).2⟩
  · rcases ite_some hf with ⟨hc, hf⟩ | ⟨hc, hf⟩
    · exact ⟨frx_t hIq2 (frc_101_4 n _ _ hF hK1 x1 x2 x3 x4 x1 (x1 + (1 : Int32)) q2.2.1 q2.2.2 r hf).1, frx_t hLq2 (frc_101_4 n _ _ hF hK1 x1 x2 x3 x4 x1 (x1 + (1 : Int32)) q2.2.1 q2.2.2 r hf).2⟩
    · exact ⟨frx_t hIq2 (frc_101_4 n _ _ hF hK1 x1 x2 x3 x4 x2 (x1 + (1 : Int32)) q2.2.1 q2.2.2 r hf).1, frx_t hLq2 (frc_101_4 n _ _ hF hK1 x1 x2 x3 x4 x2 (x1 + (1 : Int32)) q2.2.1 q2.2.2 r hf).2⟩
theorem frc_101_1 (n : Nat) (F : Int32 → Int32 → FI → FL → Option (FI × FL)) (hF : ∀ (x1 : Int32) (x2 : Int32) (I : FI) (L : FL) (r : FI × FL), F x1 x2 I L = some r → Fr SI_101 I r.1 ∧ Fr SL_101 L r.2) : ∀ (m : Nat) (x1 : Int32) (x2 : Int32) (x3 : Int32) (x4 : Int32) (I : FI) (L : FL) (r : FI × FL), c_101_1 n F m x1 x2 x3 x4 I L = some r → Fr SI_101 I r.1 ∧ Fr SL_101 L r.2
  | 0, x1, x2, x3, x4, I, L, r, hf => by cases hf
  | m + 1, x1, x2, x3, x4, I, L, r, hf => by
    unfold c_101_1 b_101_1 at hf
    have hK1 := frc_101_1 n F hF m
    rcases ite_some hf with ⟨hc, hf⟩ | ⟨hc, hf⟩
    · cases hf; exact ⟨frx_r, frx_r⟩
    · rcases ite_some hf with ⟨hc, hf⟩ | ⟨hc, hf⟩
      · exact ⟨frx_t frx_r (frc_101_2 n _ _ hF hK1 x1 x2 x3 x4 I L r hf).1, frx_t frx_r (frc_101_2 n _ _ hF hK1 x1 x2 x3 x4 I L r hf).2⟩
      · rcases ite_some hf with ⟨hc, hf⟩ | ⟨hc, hf⟩
        · exact ⟨frx_t frx_r (frc_101_2 n _ _ hF hK1 x1 x2 x3 x4 I L r hf).1, frx_t frx_r (frc_101_2 n _ _ hF hK1 x1 x2 x3 x4 I L r hf).2⟩
        · cases hf; exact ⟨frx_r, frx_r⟩
theorem fr_101 (n : Nat) : ∀ (m : Nat) (x1 : Int32) (x2 : Int32) (I : FI) (L : FL) (r : FI × FL), f_101 n m x1 x2 I L = some r → Fr SI_101 I r.1 ∧ Fr SL_101 L r.2
  | 0, x1, x2, I, L, r, hf => by cases hf
  | m + 1, x1, x2, I, L, r, hf => by
    have hF := fr_101 n m
    unfold f_101 g_101 at hf
    rcases ite_some hf with ⟨hc, hf⟩ | ⟨hc, hf⟩
    · exact ⟨frx_t frx_r (frc_101_0 n _ hF x2 I L r hf).1, frx_t frx_r (frc_101_0 n _ hF x2 I L r hf).2⟩
    · rcases ite_some hf with ⟨hc, hf⟩ | ⟨hc, hf⟩
      · rcases ite_some hf with ⟨hc, hf⟩ | ⟨hc, hf⟩
        · exact ⟨frx_t frx_r (frc_101_1 n _ hF n x1 x2 (I 40 ((x1 - x2).toNatClampNeg)) (I 40 ((x1 - x2).toNatClampNeg)) I L r hf).1, frx_t frx_r (frc_101_1 n _ hF n x1 x2 (I 40 ((x1 - x2).toNatClampNeg)) (I 40 ((x1 - x2).toNatClampNeg)) I L r hf).2⟩
        · cases hf
      · exact ⟨frx_t frx_r (frc_101_0 n _ hF x2 I L r hf).1, frx_t frx_r (frc_101_0 n _ hF x2 I L r hf).2⟩
def SI_99 : List Nat := [35, 36, 37, 38, 40, 41, 42]
def SL_99 : List Nat := []
theorem fr_99 (n : Nat) (x1 : Int32) (x2 : Int32) (I : FI) (L : FL) (r : Int32 × FI × FL) (hf : f_99 n x1 x2 I L = some r) : Fr SI_99 I r.2.1 ∧ Fr SL_99 L r.2.2 := by
  unfold f_99 at hf
  obtain ⟨q0, hq0, hf⟩ := Option.bind_eq_some_iff.mp hf
  have hIq0 : Fr SI_99 I q0.1 := frx_t frx_r (frx_m (fr_100 _ _ _ _ q0 hq0).1 (by decide))
  have hLq0 : Fr SL_99 L q0.2 := frx_t frx_r (frx_m (fr_100 _ _ _ _ q0 hq0).2 (by decide))
  rcases ite_some hf with ⟨hc, hf⟩ | ⟨hc, hf⟩
  · obtain ⟨q1, hq1, hf⟩ := Option.bind_eq_some_iff.mp hf
    have hIq1 : Fr SI_99 I q1.1 := frx_t (frx_u hIq0 (by decide) (by decide)) (frx_m (fr_101 _ _ _ _ _ _ q1 hq1).1 (by decide))
    have hLq1 : Fr SL_99 L q1.2 := frx_t hLq0 (frx_m (fr_101 _ _ _ _ _ _ q1 hq1).2 (by decide))
    cases hf; exact ⟨hIq1, hLq1⟩
  · cases hf
def SI_97 : List Nat := [35, 36, 37, 38, 40, 41, 42]
def SL_97 : List Nat := []
theorem frc_97_1 (n : Nat) (K0 : Int32 → FI → FL → Option (Int32 × FI × FL)) (hK0 : ∀ (x1 : Int32) (I : FI) (L : FL) (r : Int32 × FI × FL), K0 x1 I L = some r → Fr SI_97 I r.2.1 ∧ Fr SL_97 L r.2.2) (x1 : Int32) (I : FI) (L : FL) (r : Int32 × FI × FL) (hf : c_97_1 n K0 x1 I L = some r) : Fr SI_97 I r.2.1 ∧ Fr SL_97 L r.2.2 := by
  unfold c_97_1 at hf
  exact ⟨frx_t frx_r (hK0 (x1 + (1 : Int32)) I L r hf).1, frx_t frx_r (hK0 (x1 + (1 : Int32)) I L r hf).2⟩
theorem frc_97_0 (n : Nat) : ∀ (m : Nat) (x1 : Int32) (I : FI) (L : FL) (r : Int32 × FI × FL), c_97_0 n m x1 I L = some r → Fr SI_97 I r.2.1 ∧ Fr SL_97 L r.2.2
  | 0, x1, I, L, r, hf => by cases hf
  | m + 1, x1, I, L, r, hf => by
    unfold c_97_0 b_97_0 at hf
    have hK0 := frc_97_0 n m
    rcases ite_some hf with ⟨hc, hf⟩ | ⟨hc, hf⟩
    · cases hf; exact ⟨frx_r, frx_r⟩
    · rcases ite_some hf with ⟨hc, hf⟩ | ⟨hc, hf⟩
      · cases hf; exact ⟨frx_r, frx_r⟩
      · obtain ⟨q0, hq0, hf⟩ := Option.bind_eq_some_iff.mp hf
        have hIq0 : Fr SI_97 I q0.2.1 := frx_t frx_r (frx_m (fr_99 _ _ _ _ _ q0 hq0).1 (by decide))
        have hLq0 : Fr SL_97 L q0.2.2 := frx_t frx_r (frx_m (fr_99 _ _ _ _ _ q0 hq0).2 (by decide))
        rcases ite_some hf with ⟨hc, hf⟩ | ⟨hc, hf⟩
        · exact ⟨frx_t hIq0 (frc_97_1 n _ hK0 x1 q0.2.1 q0.2.2 r hf).1, frx_t hLq0 (frc_97_1 n _ hK0 x1 q0.2.1 q0.2.2 r hf).2⟩
        · exact ⟨frx_t (frx_u hIq0 (by decide) (by decide)) (frc_97_1 n _ hK0 x1 (u2 q0.2.1 35 7 x1) q0.2.2 r hf).1, frx_t hLq0 (frc_97_1 n _ hK0 x1 (u2 q0.2.1 35 7 x1) q0.2.2 r hf).2⟩
theorem fr_97 (n : Nat) (I : FI) (L : FL) (r : Int32 × FI × FL) (hf : f_97 n I L = some r) : Fr SI_97 I r.2.1 ∧ Fr SL_97 L r.2.2 := by
  unfold f_97 at hf
  rcases ite_some hf with ⟨hc, hf⟩ | ⟨hc, hf⟩
  · cases hf; exact ⟨frx_r, frx_r⟩
  · exact ⟨frx_t (frx_u frx_r (by decide) (by decide)) (frc_97_0 n n (1 : Int32) (u2 I 35 7 (-1 : Int32)) L r hf).1, frx_t frx_r (frc_97_0 n n (1 : Int32) (u2 I 35 7 (-1 : Int32)) L r hf).2⟩
def SI_140 : List Nat := [35, 36, 37, 38, 40, 41, 42]
def SL_140 : List Nat := []
theorem fr_140 (n : Nat) (rh : Option Nat) (I : FI) (L : FL) (r : Int32 × FI × FL) (hf : f_140 n rh I L = some r) : Fr SI_140 I r.2.1 ∧ Fr SL_140 L r.2.2 := by
  unfold f_140 at hf
  obtain ⟨q0, hq0, hf⟩ := Option.bind_eq_some_iff.mp hf
  rcases ite_some hf with ⟨hc, hf⟩ | ⟨hc, hf⟩
  · cases hf; exact ⟨frx_r, frx_r⟩
  · rcases ite_some hf with ⟨hc, hf⟩ | ⟨hc, hf⟩
    · obtain ⟨q1, hq1, hf⟩ := Option.bind_eq_some_iff.mp hf
      have hIq1 : Fr SI_140 I q1.2.1 := frx_t frx_r (frx_m (fr_97 _ _ _ q1 hq1).1 (by decide))
      have hLq1 : Fr SL_140 L q1.2.2 := frx_t frx_r (frx_m (fr_97 _ _ _ q1 hq1).2 (by decide))
      cases hf; exact ⟨hIq1, hLq1⟩
    · cases hf
def SI_141 : List Nat := [35, 36, 37, 38, 40, 41, 42]
def SL_141 : List Nat := []
theorem fr_141 (n : Nat) (rh : Option Nat) (x1 : Int32) (I : FI) (L : FL) (r : Int32 × FI × FL) (hf : f_141 n rh x1 I L = some r) : Fr SI_141 I r.2.1 ∧ Fr SL_141 L r.2.2 := by
  unfold f_141 at hf
  rcases ite_some hf with ⟨hc, hf⟩ | ⟨hc, hf⟩
  · cases hf; exact ⟨frx_r, frx_r⟩
  · obtain ⟨q0, hq0, hf⟩ := Option.bind_eq_some_iff.mp hf
    rcases ite_some hf with ⟨hc, hf⟩ | ⟨hc, hf⟩
    · rcases ite_some hf with ⟨hc, hf⟩ | ⟨hc, hf⟩
      · obtain ⟨q1, hq1, hf⟩ := Option.bind_eq_some_iff.mp hf
        have hIq1 : Fr SI_141 I q1.2.1 := frx_t frx_r (frx_m (fr_97 _ _ _ q1 hq1).1 (by decide))
        have hLq1 : Fr SL_141 L q1.2.2 := frx_t frx_r (frx_m (fr_97 _ _ _ q1 hq1).2 (by decide))
        rcases ite_some hf with ⟨hc, hf⟩ | ⟨hc, hf⟩
        · cases hf; exact ⟨hIq1, hLq1⟩
        · rcases ite_some hf with ⟨hc, hf⟩ | ⟨hc, hf⟩
          · cases hf; exact ⟨hIq1, hLq1⟩
          · cases hf
      · cases hf
    · cases hf; exact ⟨frx_r, frx_r⟩
def SI_96 : List Nat := [35, 36, 37, 38, 39, 40, 41, 42]
def SL_96 : List Nat := []
theorem frc_96_0 (n : Nat) (x1 : Int32) (I : FI) (L : FL) (r : Int32 × FI × FL) (hf : c_96_0 n x1 I L = some r) : Fr SI_96 I r.2.1 ∧ Fr SL_96 L r.2.2 := by
  unfold c_96_0 at hf
  rcases ite_some hf with ⟨hc, hf⟩ | ⟨hc, hf⟩
  · cases hf; exact ⟨frx_r, frx_r⟩
  · cases hf
theorem fr_96 (n : Nat) (x1 : Int32) (I : FI) (L : FL) (r : Int32 × FI × FL) (hf : f_96 n x1 I L = some r) : Fr SI_96 I r.2.1 ∧ Fr SL_96 L r.2.2 := by
  unfold f_96 at hf
  rcases ite_some hf with ⟨hc, hf⟩ | ⟨hc, hf⟩
  · rcases ite_some hf with ⟨hc, hf⟩ | ⟨hc, hf⟩
    · exact ⟨frx_t frx_r (frc_96_0 n x1 I L r hf).1, frx_t frx_r (frc_96_0 n x1 I L r hf).2⟩
    · obtain ⟨q0, hq0, hf⟩ := Option.bind_eq_some_iff.mp hf
      have hIq0 : Fr SI_96 I q0.2.1 := frx_t frx_r (frx_m (fr_99 _ _ _ _ _ q0 hq0).1 (by decide))
      have hLq0 : Fr SL_96 L q0.2.2 := frx_t frx_r (frx_m (fr_99 _ _ _ _ _ q0 hq0).2 (by decide))
      rcases ite_some hf with ⟨hc, hf⟩ | ⟨hc, hf⟩
      · exact ⟨frx_t (frx_u hIq0 (by decide) (by decide)) (frc_96_0 n x1 (u2 q0.2.1 39 x1.toNatClampNeg q0.1) q0.2.2 r hf).1, frx_t hLq0 (frc_96_0 n x1 (u2 q0.2.1 39 x1.toNatClampNeg q0.1) q0.2.2 r hf).2⟩
      · cases hf
  · cases hf
def SI_142 : List Nat := [35, 36, 37, 38, 39, 40, 41, 42]
def SL_142 : List Nat := []
theorem fr_142 (n : Nat) (rh : Option Nat) (x1 : Int32) (I : FI) (L : FL) (r : Int32 × FI × FL) (hf : f_142 n rh x1 I L = some r) : Fr SI_142 I r.2.1 ∧ Fr SL_142 L r.2.2 := by
  unfold f_142 at hf
  rcases ite_some hf with ⟨hc, hf⟩ | ⟨hc, hf⟩
  · cases hf; exact ⟨frx_r, frx_r⟩
  · rcases ite_some hf with ⟨hc, hf⟩ | ⟨hc, hf⟩
    · cases hf; exact ⟨frx_r, frx_r⟩
    · obtain ⟨q0, hq0, hf⟩ := Option.bind_eq_some_iff.mp hf
      rcases ite_some hf with ⟨hc, hf⟩ | ⟨hc, hf⟩
      · rcases ite_some hf with ⟨hc, hf⟩ | ⟨hc, hf⟩
        · obtain ⟨q1, hq1, hf⟩ := Option.bind_eq_some_iff.mp hf
          have hIq1 : Fr SI_142 I q1.2.1 := frx_t frx_r (frx_m (fr_96 _ _ _ _ q1 hq1).1 (by decide))
          have hLq1 : Fr SL_142 L q1.2.2 := frx_t frx_r (frx_m (fr_96 _ _ _ _ q1 hq1).2 (by decide))
          cases hf; exact ⟨hIq1, hLq1⟩
        · cases hf
      · cases hf; exact ⟨frx_r, frx_r⟩
def SI_98 : List Nat := [35, 37, 38, 40, 41, 42]
def SL_98 : List Nat := []
theorem frc_98_0 (n : Nat) : ∀ (m : Nat) (x1 : Int32) (I : FI) (L : FL) (r : Int32 × FI × FL), c_98_0 n m x1 I L = some r → Fr SI_98 I r.2.1 ∧ Fr SL_98 L r.2.2
  | 0, x1, I, L, r, hf => by cases hf
  | m + 1, x1, I, L, r, hf => by
    unfold c_98_0 b_98_0 at hf
    have hK0 := frc_98_0 n m
    rcases ite_some hf with ⟨hc, hf⟩ | ⟨hc, hf⟩
    · rcases ite_some hf with ⟨hc, hf⟩ | ⟨hc, hf⟩
      · cases hf; exact ⟨frx_r, frx_r⟩
      · obtain ⟨q1, hq1, hf⟩ := Option.bind_eq_some_iff.mp hf
        have hIq1 : Fr SI_98 I q1.2.1 := frx_t frx_r (frx_m (fr_104 _ _ _ q1 hq1).1 (by decide))
        have hLq1 : Fr SL_98 L q1.2.2 := frx_t frx_r (frx_m (fr_104 _ _ _ q1 hq1).2 (by decide))
        rcases ite_some hf with ⟨hc, hf⟩ | ⟨hc, hf⟩
        · cases hf; exact ⟨hIq1, hLq1⟩
        · cases hf; exact ⟨hIq1, hLq1⟩
    · rcases ite_some hf with ⟨hc, hf⟩ | ⟨hc, hf⟩
      · obtain ⟨q2, hq2, hf⟩ := Option.bind_eq_some_iff.mp hf
        have hIq2 : Fr SI_98 I q2.2.1 := frx_t frx_r (frx_m (fr_103 _ _ _ _ q2 hq2).1 (by decide))
        have hLq2 : Fr SL_98 L q2.2.2 := frx_t frx_r (frx_m (fr_103 _ _ _ _ q2 hq2).2 (by decide))
        rcases ite_some hf with ⟨hc, hf⟩ | ⟨hc, hf⟩
        · exact ⟨frx_t hIq2 (hK0 (x1 + (1 : Int32)) q2.2.1 q2.2.2 r hf).1, frx_t hLq2 (hK0 (x1 + (1 : Int32)) q2.2.1 q2.2.2 r hf).2⟩
        · cases hf; exact ⟨hIq2, hLq2⟩
      · cases hf
theorem fr_98 (n : Nat) (I : FI) (L : FL) (r : Int32 × FI × FL) (hf : f_98 n I L = some r) : Fr SI_98 I r.2.1 ∧ Fr SL_98 L r.2.2 := by
  unfold f_98 at hf
  obtain ⟨q0, hq0, hf⟩ := Option.bind_eq_some_iff.mp hf
  have hIq0 : Fr SI_98 I q0.1 := frx_t frx_r (frx_m (fr_100 _ _ _ _ q0 hq0).1 (by decide))
  have hLq0 : Fr SL_98 L q0.2 := frx_t frx_r (frx_m (fr_100 _ _ _ _ q0 hq0).2 (by decide))
  exact ⟨frx_t hIq0 (frc_98_0 n n (1 : Int32) q0.1 q0.2 r hf).1, frx_t hLq0 (frc_98_0 n n (1 : Int32) q0.1 q0.2 r hf).2⟩
def SI_143 : List Nat := [35, 37, 38, 40, 41, 42]
def SL_143 : List Nat := []
theorem fr_143 (n : Nat) (rh : Option Nat) (I : FI) (L : FL) (r : Int32 × FI × FL) (hf : f_143 n rh I L = some r) : Fr SI_143 I r.2.1 ∧ Fr SL_143 L r.2.2 := by
  unfold f_143 at hf
  obtain ⟨q0, hq0, hf⟩ := Option.bind_eq_some_iff.mp hf
  rcases ite_some hf with ⟨hc, hf⟩ | ⟨hc, hf⟩
  · rcases ite_some hf with ⟨hc, hf⟩ | ⟨hc, hf⟩
    · obtain ⟨q1, hq1, hf⟩ := Option.bind_eq_some_iff.mp hf
      have hIq1 : Fr SI_143 I q1.2.1 := frx_t frx_r (frx_m (fr_98 _ _ _ q1 hq1).1 (by decide))
      have hLq1 : Fr SL_143 L q1.2.2 := frx_t frx_r (frx_m (fr_98 _ _ _ q1 hq1).2 (by decide))
      rcases ite_some hf with ⟨hc, hf⟩ | ⟨hc, hf⟩
      · cases hf; exact ⟨hIq1, hLq1⟩
      · cases hf; exact ⟨hIq1, hLq1⟩
    · cases hf
  · cases hf; exact ⟨frx_r, frx_r⟩
def SI_189_1 : List Nat := [114, 115, 116, 118, 119, 120]
def SL_189_1 : List Nat := [117]
theorem frc_189_1_1 (n : Nat) (K0 : Int32 → Int32 → FI → FL → Option (Int32 × FI × FL)) (hK0 : ∀ (x1 : Int32) (x2 : Int32) (I : FI) (L : FL) (r : Int32 × FI × FL), K0 x1 x2 I L = some r → Fr SI_189_1 I r.2.1 ∧ Fr SL_189_1 L r.2.2) (x1 : Int32) (x2 : Int32) (I : FI) (L : FL) (r : Int32 × FI × FL) (hf : c_189_1_1 n K0 x1 x2 I L = some r) : Fr SI_189_1 I r.2.1 ∧ Fr SL_189_1 L r.2.2 := by
  unfold c_189_1_1 at hf
  exact ⟨frx_t frx_r (hK0 x1 (x2 + (1 : Int32)) I L r hf).1, frx_t frx_r (hK0 x1 (x2 + (1 : Int32)) I L r hf).2⟩
theorem frc_189_1_0 (n : Nat) : ∀ (m : Nat) (x1 : Int32) (x2 : Int32) (I : FI) (L : FL) (r : Int32 × FI × FL), c_189_1_0 n m x1 x2 I L = some r → Fr SI_189_1 I r.2.1 ∧ Fr SL_189_1 L r.2.2
  | 0, x1, x2, I, L, r, hf => by cases hf
  | m + 1, x1, x2, I, L, r, hf => by
    unfold c_189_1_0 b_189_1_0 at hf
    have hK0 := frc_189_1_0 n m
    obtain ⟨q0, hq0, hf⟩ := Option.bind_eq_some_iff.mp hf
    rcases ite_some hf with ⟨hc, hf⟩ | ⟨hc, hf⟩
    · cases hf; exact ⟨frx_r, frx_r⟩
    · obtain ⟨q1, hq1, hf⟩ := Option.bind_eq_some_iff.mp hf
      obtain ⟨q2, hq2, hf⟩ := Option.bind_eq_some_iff.mp hf
      rcases ite_some hf with ⟨hc, hf⟩ | ⟨hc, hf⟩
      · exact ⟨frx_t frx_r (frc_189_1_1 n _ hK0 x1 x2 I L r hf).1, frx_t frx_r (frc_189_1_1 n _ hK0 x1 x2 I L r hf).2⟩
      · obtain ⟨q3, hq3, hf⟩ := Option.bind_eq_some_iff.mp hf
        obtain ⟨q4, hq4, hf⟩ := Option.bind_eq_some_iff.mp hf
        have hIq4 : Fr SI_189_1 I q4.1 := frx_t frx_r (frx_m (fr_187 _ _ q4 hq4).1 (by decide))
        have hLq4 : Fr SL_189_1 L q4.2 := frx_t frx_r (frx_m (fr_187 _ _ q4 hq4).2 (by decide))
        obtain ⟨q5, hq5, hf⟩ := Option.bind_eq_some_iff.mp hf
        have hIq5 : Fr SI_189_1 I q5.2.1 := frx_t hIq4 (frx_m (fr_32 _ _ _ _ q5 hq5).1 (by decide))
        have hLq5 : Fr SL_189_1 L q5.2.2 := frx_t hLq4 (frx_m (fr_32 _ _ _ _ q5 hq5).2 (by decide))
        obtain ⟨q6, hq6, hf⟩ := Option.bind_eq_some_iff.mp hf
        rcases ite_some hf with ⟨hc, hf⟩ | ⟨hc, hf⟩
        · exact ⟨frx_t hIq5 (frc_189_1_1 n _ hK0 x1 x2 q5.2.1 q5.2.2 r hf).1, frx_t hLq5 (frc_189_1_1 n _ hK0 x1 x2 q5.2.1 q5.2.2 r hf).2⟩
        · exact ⟨frx_t hIq5 (frc_189_1_1 n _ hK0 x2 x2 q5.2.1 q5.2.2 r hf).1, frx_t hLq5 (frc_189_1_1 n _ hK0 x2 x2 q5.2.1 q5.2.2 r hf).2⟩
theorem fr_189_1 (n : Nat) (I : FI) (L : FL) (r : Int32 × FI × FL) (hf : f_189_1 n I L = some r) : Fr SI_189_1 I r.2.1 ∧ Fr SL_189_1 L r.2.2 := by
  unfold f_189_1 at hf
  exact ⟨frx_t frx_r (frc_189_1_0 n n (0 : Int32) (1 : Int32) I L r hf).1, frx_t frx_r (frc_189_1_0 n n (0 : Int32) (1 : Int32) I L r hf).2⟩
def SI_144_1 : List Nat := [114, 115, 116, 118, 119, 120]
def SL_144_1 : List Nat := [117]
theorem fr_144_1 (n : Nat) (I : FI) (L : FL) (r : Int32 × FI × FL) (hf : f_144_1 n I L = some r) : Fr SI_144_1 I r.2.1 ∧ Fr SL_144_1 L r.2.2 := by
  unfold f_144_1 at hf
  obtain ⟨q0, hq0, hf⟩ := Option.bind_eq_some_iff.mp hf
  rcases ite_some hf with ⟨hc, hf⟩ | ⟨hc, hf⟩
  · cases hf; exact ⟨frx_r, frx_r⟩
  · obtain ⟨q1, hq1, hf⟩ := Option.bind_eq_some_iff.mp hf
    have hIq1 : Fr SI_144_1 I q1.2.1 := frx_t frx_r (frx_m (fr_189_1 _ _ _ q1 hq1).1 (by decide))
    have hLq1 : Fr SL_144_1 L q1.2.2 := frx_t frx_r (frx_m (fr_189_1 _ _ _ q1 hq1).2 (by decide))
    obtain ⟨q2, hq2, hf⟩ := Option.bind_eq_some_iff.mp hf
    cases hf; exact ⟨hIq1, hLq1⟩
def SI_145_1 : List Nat := [114, 115, 116, 118, 119, 120]
def SL_145_1 : List Nat := [117]
theorem fr_145_1 (n : Nat) (I : FI) (L : FL) (r : Int32 × FI × FL) (hf : f_145_1 n I L = some r) : Fr SI_145_1 I r.2.1 ∧ Fr SL_145_1 L r.2.2 := by
  unfold f_145_1 at hf
  obtain ⟨q0, hq0, hf⟩ := Option.bind_eq_some_iff.mp hf
  rcases ite_some hf with ⟨hc, hf⟩ | ⟨hc, hf⟩
  · cases hf; exact ⟨frx_r, frx_r⟩
  · obtain ⟨q1, hq1, hf⟩ := Option.bind_eq_some_iff.mp hf
    have hIq1 : Fr SI_145_1 I q1.2.1 := frx_t frx_r (frx_m (fr_189_1 _ _ _ q1 hq1).1 (by decide))
    have hLq1 : Fr SL_145_1 L q1.2.2 := frx_t frx_r (frx_m (fr_189_1 _ _ _ q1 hq1).2 (by decide))
    cases hf; exact ⟨hIq1, hLq1⟩
def SI_146_1 : List Nat := [114, 115, 116, 118, 119, 120]
def SL_146_1 : List Nat := [117]
theorem frc_146_1_2 (n : Nat) (K0 : Int32 → Int32 → Int32 → FI → FL → Option (Int32 × FI × FL)) (hK0 : ∀ (x1 : Int32) (x2 : Int32) (x3 : Int32) (I : FI) (L : FL) (r : Int32 × FI × FL), K0 x1 x2 x3 I L = some r → Fr SI_146_1 I r.2.1 ∧ Fr SL_146_1 L r.2.2) (x1 : Int32) (x2 : Int32) (x3 : Int32) (I : FI) (L : FL) (r : Int32 × FI × FL) (hf : c_146_1_2 n K0 x1 x2 x3 I L = some r) : Fr SI_146_1 I r.2.1 ∧ Fr SL_146_1 L r.2.2 := by
  unfold c_146_1_2 at hf
  exact ⟨frx_t frx_r (hK0 x1 x2 (x3 + (1 : Int32)) I L r hf).1, frx_t frx_r (hK0 x1 x2 (x3 + (1 : Int32)) I L r hf).2⟩
theorem frc_146_1_1 (n : Nat) (K0 : Int32 → Int32 → Int32 → FI → FL → Option (Int32 × FI × FL)) (hK0 : ∀ (x1 : Int32) (x2 : Int32) (x3 : Int32) (I : FI) (L : FL) (r : Int32 × FI × FL), K0 x1 x2 x3 I L = some r → Fr SI_146_1 I r.2.1 ∧ Fr SL_146_1 L r.2.2) (x1 : Int32) (x2 : Int32) (x3 : Int32) (s0 : Int32) (I : FI) (L : FL) (r : Int32 × FI × FL) (hf : c_146_1_1 n K0 x1 x2 x3 s0 I L = some r) : Fr SI_146_1 I r.2.1 ∧ Fr SL_146_1 L r.2.2 := by
  unfold c_146_1_1 at hf
  rcases ite_some hf with ⟨hc, hf⟩ | ⟨hc, hf⟩
  · exact ⟨frx_t frx_r (frc_146_1_2 n _ hK0 x1 x2 x3 I L r hf).1, frx_t frx_r (frc_146_1_2 n _ hK0 x1 x2 x3 I L r hf).2⟩
  · obtain ⟨q4, hq4, hf⟩ := Option.bind_eq_some_iff.mp hf
    obtain ⟨q5, hq5, hf⟩ := Option.bind_eq_some_iff.mp hf
    have hIq5 : Fr SI_146_1 I q5.1 := frx_t frx_r (frx_m (fr_187 _ _ q5 hq5).1 (by decide))
    have hLq5 : Fr SL_146_1 L q5.2 := frx_t frx_r (frx_m (fr_187 _ _ q5 hq5).2 (by decide))
    obtain ⟨q6, hq6, hf⟩ := Option.bind_eq_some_iff.mp hf
    have hIq6 : Fr SI_146_1 I q6.2.1 := frx_t hIq5 (frx_m (fr_32 _ _ _ _ q6 hq6).1 (by decide))
    have hLq6 : Fr SL_146_1 L q6.2.2 := frx_t hLq5 (frx_m (fr_32 _ _ _ _ q6 hq6).2 (by decide))
    obtain ⟨q7, hq7, hf⟩ := Option.bind_eq_some_iff.mp hf
    rcases ite_some hf with ⟨hc, hf⟩ | ⟨hc, hf⟩
    · exact ⟨frx_t hIq6 (frc_146_1_2 n _ hK0 x1 x2 x3 q6.2.1 q6.2.2 r hf).1, frx_t hLq6 (frc_146_1_2 n _ hK0 x1 x2 x3 q6.2.1 q6.2.2 r hf).2⟩
    · exact ⟨frx_t hIq6 (frc_146_1_2 n _ hK0 x1 x3 x3 q6.2.1 q6.2.2 r hf).1, frx_t hLq6 (frc_146_1_2 n _ hK0 x1 x3 x3 q6.2.1 q6.2.2 r hf).2⟩
theorem frc_146_1_0 (n : Nat) : ∀ (m : Nat) (x1 : Int32) (x2 : Int32) (x3 : Int32) (I : FI) (L : FL) (r : Int32 × FI × FL), c_146_1_0 n m x1 x2 x3 I L = some r → Fr SI_146_1 I r.2.1 ∧ Fr SL_146_1 L r.2.2
  | 0, x1, x2, x3, I, L, r, hf => by cases hf
  | m + 1, x1, x2, x3, I, L, r, hf => by
    unfold c_146_1_0 b_146_1_0 at hf
    have hK0 := frc_146_1_0 n m
    rcases ite_some hf with ⟨hc, hf⟩ | ⟨hc, hf⟩
    · cases hf; exact ⟨frx_r, frx_r⟩
    · obtain ⟨q2, hq2, hf⟩ := Option.bind_eq_some_iff.mp hf
      obtain ⟨q3, hq3, hf⟩ := Option.bind_eq_some_iff.mp hf
      rcases ite_some hf with ⟨hc, hf⟩ | ⟨hc, hf⟩
      · exact ⟨frx_t frx_r (frc_146_1_1 n _ hK0 x1 x2 x3 (0 : Int32) I L r hf).1, frx_t frx_r (frc_146_1_1 n _ hK0 x1 x2 x3 (0 : Int32) I L r hf).2⟩
      · exact ⟨frx_t frx_r (frc_146_1_1 n _ hK0 x1 x2 x3 (1 : Int32) I L r hf).1, frx_t frx_r (frc_146_1_1 n _ hK0 x1 x2 x3 (1 : Int32) I L r hf).2⟩
theorem fr_146_1 (n : Nat) (I : FI) (L : FL) (r : Int32 × FI × FL) (hf : f_146_1 n I L = some r) : Fr SI_146_1 I r.2.1 ∧ Fr SL_146_1 L r.2.2 := by
  unfold f_146_1 at hf
  obtain ⟨q0, hq0, hf⟩ := Option.bind_eq_some_iff.mp hf
  rcases ite_some hf with ⟨hc, hf⟩ | ⟨hc, hf⟩
  · obtain ⟨q1, hq1, hf⟩ := Option.bind_eq_some_iff.mp hf
    exact ⟨frx_t frx_r (frc_146_1_0 n n q1 q1 (0 : Int32) I L r hf).1, frx_t frx_r (frc_146_1_0 n n q1 q1 (0 : Int32) I L r hf).2⟩
  · cases hf; exact ⟨frx_r, frx_r⟩
def SI_5 : List Nat := [115]
def SL_5 : List Nat := []
theorem fr_5 (x1 : Int32) (x2 : Int32) (I : FI) (L : FL) (r : FI × FL) (hf : f_5 x1 x2 I L = some r) : Fr SI_5 I r.1 ∧ Fr SL_5 L r.2 := by
  unfold f_5 at hf
  obtain ⟨q0, hq0, hf⟩ := Option.bind_eq_some_iff.mp hf
  cases hf; exact ⟨(frx_u frx_r (by decide) (by decide)), frx_r⟩
def SI_37 : List Nat := [114, 115, 116, 118, 119]
def SL_37 : List Nat := [117]
theorem fr_37 (n : Nat) (x1 : Int32) (x2 : Int32) (I : FI) (L : FL) (r : Int32 × FI × FL) (hf : f_37 n x1 x2 I L = some r) : Fr SI_37 I r.2.1 ∧ Fr SL_37 L r.2.2 := by
  unfold f_37 at hf
  obtain ⟨q0, hq0, hf⟩ := Option.bind_eq_some_iff.mp hf
  obtain ⟨q1, hq1, hf⟩ := Option.bind_eq_some_iff.mp hf
  have hIq1 : Fr SI_37 I q1.1 := frx_t frx_r (frx_m (fr_4 _ _ _ _ q1 hq1).1 (by decide))
  have hLq1 : Fr SL_37 L q1.2 := frx_t frx_r (frx_m (fr_4 _ _ _ _ q1 hq1).2 (by decide))
  obtain ⟨q2, hq2, hf⟩ := Option.bind_eq_some_iff.mp hf
  have hIq2 : Fr SI_37 I q2.1 := frx_t hIq1 (frx_m (fr_5 _ _ _ _ q2 hq2).1 (by decide))
  have hLq2 : Fr SL_37 L q2.2 := frx_t hLq1 (frx_m (fr_5 _ _ _ _ q2 hq2).2 (by decide))
  obtain ⟨q3, hq3, hf⟩ := Option.bind_eq_some_iff.mp hf
  have hIq3 : Fr SI_37 I q3.1 := frx_t hIq2 (frx_m (fr_39 _ _ _ q3 hq3).1 (by decide))
  have hLq3 : Fr SL_37 L q3.2 := frx_t hLq2 (frx_m (fr_39 _ _ _ q3 hq3).2 (by decide))
  obtain ⟨q4, hq4, hf⟩ := Option.bind_eq_some_iff.mp hf
  obtain ⟨q5, hq5, hf⟩ := Option.bind_eq_some_iff.mp hf
  obtain ⟨q6, hq6, hf⟩ := Option.bind_eq_some_iff.mp hf
  have hIq6 : Fr SI_37 I q6.2.1 := frx_t (frx_u hIq3 (by decide) (by decide)) (frx_m (fr_42 _ _ _ _ q6 hq6).1 (by decide))
  have hLq6 : Fr SL_37 L q6.2.2 := frx_t hLq3 (frx_m (fr_42 _ _ _ _ q6 hq6).2 (by decide))
  rcases ite_some hf with ⟨hc, hf⟩ | ⟨hc, hf⟩
  · cases hf; exact ⟨hIq6, hLq6⟩
  · cases hf
def SI_36 : List Nat := [114, 115, 116, 118, 119, 121]
def SL_36 : List Nat := [117]
theorem frc_36_0 (n : Nat) (x1 : Int32) (I : FI) (L : FL) (r : Int32 × FI × FL) (hf : c_36_0 n x1 I L = some r) : Fr SI_36 I r.2.1 ∧ Fr SL_36 L r.2.2 := by
  unfold c_36_0 at hf
  rcases ite_some hf with ⟨hc, hf⟩ | ⟨hc, hf⟩
  · cases hf; exact ⟨frx_r, frx_r⟩
  · cases hf
theorem frc_36_2 (n : Nat) (K1 : Int32 → Int32 → Int32 → FI → FL → Option (Int32 × FI × FL)) (hK1 : ∀ (x1 : Int32) (x2 : Int32) (x3 : Int32) (I : FI) (L : FL) (r : Int32 × FI × FL), K1 x1 x2 x3 I L = some r → Fr SI_36 I r.2.1 ∧ Fr SL_36 L r.2.2) (x1 : Int32) (x2 : Int32) (x3 : Int32) (I : FI) (L : FL) (r : Int32 × FI × FL) (hf : c_36_2 n K1 x1 x2 x3 I L = some r) : Fr SI_36 I r.2.1 ∧ Fr SL_36 L r.2.2 := by
  unfold c_36_2 at hf
  exact ⟨frx_t frx_r (hK1 x1 x2 (x3 + (1 : Int32)) I L r hf).1, frx_t frx_r (hK1 x1 x2 (x3 + (1 : Int32)) I L r hf).2⟩
theorem frc_36_1 (n : Nat) : ∀ (m : Nat) (x1 : Int32) (x2 : Int32) (x3 : Int32) (I : FI) (L : FL) (r : Int32 × FI × FL), c_36_1 n m x1 x2 x3 I L = some r → Fr SI_36 I r.2.1 ∧ Fr SL_36 L r.2.2
  | 0, x1, x2, x3, I, L, r, hf => by cases hf
  | m + 1, x1, x2, x3, I, L, r, hf => by
    unfold c_36_1 b_36_1 at hf
    have hK1 := frc_36_1 n m
    rcases ite_some hf with ⟨hc, hf⟩ | ⟨hc, hf⟩
    · exact ⟨frx_t frx_r (frc_36_0 n x1 I L r hf).1, frx_t frx_r (frc_36_0 n x1 I L r hf).2⟩
    · rcases ite_some hf with ⟨hc, hf⟩ | ⟨hc, hf⟩
      · rcases ite_some hf with ⟨hc, hf⟩ | ⟨hc, hf⟩
        · exact ⟨frx_t frx_r (frc_36_0 n x1 I L r hf).1, frx_t frx_r (frc_36_0 n x1 I L r hf).2⟩
        · obtain ⟨q0, hq0, hf⟩ := Option.bind_eq_some_iff.mp hf
          have hIq0 : Fr SI_36 I q0.2.1 := frx_t frx_r (frx_m (fr_37 _ _ _ _ _ q0 hq0).1 (by decide))
          have hLq0 : Fr SL_36 L q0.2.2 := frx_t frx_r (frx_m (fr_37 _ _ _ _ _ q0 hq0).2 (by decide))
          rcases ite_some hf with ⟨hc, hf⟩ | ⟨hc, hf⟩
          · exact ⟨frx_t hIq0 (frc_36_2 n _ hK1 x1 x2 x3 q0.2.1 q0.2.2 r hf).1, frx_t hLq0 (frc_36_2 n _ hK1 x1 x2 x3 q0.2.1 q0.2.2 r hf).2⟩
          · rcases ite_some hf with ⟨hc, hf⟩ | ⟨hc, hf⟩
            · exact ⟨frx_t (frx_u hIq0 (by decide) (by decide)) (frc_36_2 n _ hK1 x1 x2 x3 (u2 q0.2.1 121 x1.toNatClampNeg x3) q0.2.2 r hf).1, frx_t hLq0 (frc_36_2 n _ hK1 x1 x2 x3 (u2 q0.2.1 121 x1.toNatClampNeg x3) q0.2.2 r hf).2⟩
            · cases hf
      · cases hf
theorem fr_36 (n : Nat) (x1 : Int32) (I : FI) (L : FL) (r : Int32 × FI × FL) (hf : f_36 n x1 I L = some r) : Fr SI_36 I r.2.1 ∧ Fr SL_36 L r.2.2 := by
  unfold f_36 at hf
  rcases ite_some hf with ⟨hc, hf⟩ | ⟨hc, hf⟩
  · rcases ite_some hf with ⟨hc, hf⟩ | ⟨hc, hf⟩
    · exact ⟨frx_t frx_r (frc_36_0 n x1 I L r hf).1, frx_t frx_r (frc_36_0 n x1 I L r hf).2⟩
    · rcases ite_some hf with ⟨hc, hf⟩ | ⟨hc, hf⟩
      · rcases ite_some hf with ⟨hc, hf⟩ | ⟨hc, hf⟩
        · exact ⟨frx_t (frx_u frx_r (by decide) (by decide)) (frc_36_1 n n x1 ((7 : Int32) - (I 4 x1.toNatClampNeg)) (0 : Int32) (u2 I 121 x1.toNatClampNeg (-1 : Int32)) L r hf).1, frx_t frx_r (frc_36_1 n n x1 ((7 : Int32) - (I 4 x1.toNatClampNeg)) (0 : Int32) (u2 I 121 x1.toNatClampNeg (-1 : Int32)) L r hf).2⟩
        · cases hf
      · cases hf
  · cases hf
def SI_147_1 : List Nat := [114, 115, 116, 118, 119, 121]
def SL_147_1 : List Nat := [117]
theorem fr_147_1 (n : Nat) (x1 : Int32) (I : FI) (L : FL) (r : Int32 × FI × FL) (hf : f_147_1 n x1 I L = some r) : Fr SI_147_1 I r.2.1 ∧ Fr SL_147_1 L r.2.2 := by
  unfold f_147_1 at hf
  obtain ⟨q0, hq0, hf⟩ := Option.bind_eq_some_iff.mp hf
  rcases ite_some hf with ⟨hc, hf⟩ | ⟨hc, hf⟩
  · cases hf; exact ⟨frx_r, frx_r⟩
  · obtain ⟨q1, hq1, hf⟩ := Option.bind_eq_some_iff.mp hf
    have hIq1 : Fr SI_147_1 I q1.1 := frx_t frx_r (frx_m (fr_187 _ _ q1 hq1).1 (by decide))
    have hLq1 : Fr SL_147_1 L q1.2 := frx_t frx_r (frx_m (fr_187 _ _ q1 hq1).2 (by decide))
    obtain ⟨q2, hq2, hf⟩ := Option.bind_eq_some_iff.mp hf
    have hIq2 : Fr SI_147_1 I q2.2.1 := frx_t hIq1 (frx_m (fr_36 _ _ _ _ q2 hq2).1 (by decide))
    have hLq2 : Fr SL_147_1 L q2.2.2 := frx_t hLq1 (frx_m (fr_36 _ _ _ _ q2 hq2).2 (by decide))
    cases hf; exact ⟨hIq2, hLq2⟩
def SI_190_1 : List Nat := [114, 115, 116, 118, 119, 120]
def SL_190_1 : List Nat := [117]
theorem frc_190_1_1 (n : Nat) (K0 : Int32 → Int32 → Int32 → FI → FL → Option (Int32 × FI × FL)) (hK0 : ∀ (x1 : Int32) (x2 : Int32) (x3 : Int32) (I : FI) (L : FL) (r : Int32 × FI × FL), K0 x1 x2 x3 I L = some r → Fr SI_190_1 I r.2.1 ∧ Fr SL_190_1 L r.2.2) (x1 : Int32) (x2 : Int32) (x3 : Int32) (I : FI) (L : FL) (r : Int32 × FI × FL) (hf : c_190_1_1 n K0 x1 x2 x3 I L = some r) : Fr SI_190_1 I r.2.1 ∧ Fr SL_190_1 L r.2.2 := by
  unfold c_190_1_1 at hf
  exact ⟨frx_t frx_r (hK0 x1 x2 (x3 + (1 : Int32)) I L r hf).1, frx_t frx_r (hK0 x1 x2 (x3 + (1 : Int32)) I L r hf).2⟩
theorem frc_190_1_0 (n : Nat) : ∀ (m : Nat) (x1 : Int32) (x2 : Int32) (x3 : Int32) (I : FI) (L : FL) (r : Int32 × FI × FL), c_190_1_0 n m x1 x2 x3 I L = some r → Fr SI_190_1 I r.2.1 ∧ Fr SL_190_1 L r.2.2
  | 0, x1, x2, x3, I, L, r, hf => by cases hf
  | m + 1, x1, x2, x3, I, L, r, hf => by
    unfold c_190_1_0 b_190_1_0 at hf
    have hK0 := frc_190_1_0 n m
    rcases ite_some hf with ⟨hc, hf⟩ | ⟨hc, hf⟩
    · cases hf; exact ⟨frx_r, frx_r⟩
    · obtain ⟨q1, hq1, hf⟩ := Option.bind_eq_some_iff.mp hf
      obtain ⟨q2, hq2, hf⟩ := Option.bind_eq_some_iff.mp hf
      have hIq2 : Fr SI_190_1 I q2.1 := frx_t frx_r (frx_m (fr_187 _ _ q2 hq2).1 (by decide))
      have hLq2 : Fr SL_190_1 L q2.2 := frx_t frx_r (frx_m (fr_187 _ _ q2 hq2).2 (by decide))
      obtain ⟨q3, hq3, hf⟩ := Option.bind_eq_some_iff.mp hf
      have hIq3 : Fr SI_190_1 I q3.2.1 := frx_t hIq2 (frx_m (fr_32 _ _ _ _ q3 hq3).1 (by decide))
      have hLq3 : Fr SL_190_1 L q3.2.2 := frx_t hLq2 (frx_m (fr_32 _ _ _ _ q3 hq3).2 (by decide))
      obtain ⟨q4, hq4, hf⟩ := Option.bind_eq_some_iff.mp hf
      rcases ite_some hf with ⟨hc, hf⟩ | ⟨hc, hf⟩
      · exact ⟨frx_t hIq3 (frc_190_1_1 n _ hK0 x1 x2 x3 q3.2.1 q3.2.2 r hf).1, frx_t hLq3 (frc_190_1_1 n _ hK0 x1 x2 x3 q3.2.1 q3.2.2 r hf).2⟩
      · obtain ⟨q5, hq5, hf⟩ := Option.bind_eq_some_iff.mp hf
        have hIq5 : Fr SI_190_1 I q5.1 := frx_t hIq3 (frx_m (fr_187 _ _ q5 hq5).1 (by decide))
        have hLq5 : Fr SL_190_1 L q5.2 := frx_t hLq3 (frx_m (fr_187 _ _ q5 hq5).2 (by decide))
        obtain ⟨q6, hq6, hf⟩ := Option.bind_eq_some_iff.mp hf
        have hIq6 : Fr SI_190_1 I q6.2.1 := frx_t hIq5 (frx_m (fr_32 _ _ _ _ q6 hq6).1 (by decide))
        have hLq6 : Fr SL_190_1 L q6.2.2 := frx_t hLq5 (frx_m (fr_32 _ _ _ _ q6 hq6).2 (by decide))
        obtain ⟨q7, hq7, hf⟩ := Option.bind_eq_some_iff.mp hf
        rcases ite_some hf with ⟨hc, hf⟩ | ⟨hc, hf⟩
        · exact ⟨frx_t hIq6 (frc_190_1_1 n _ hK0 x1 x2 x3 q6.2.1 q6.2.2 r hf).1, frx_t hLq6 (frc_190_1_1 n _ hK0 x1 x2 x3 q6.2.1 q6.2.2 r hf).2⟩
        · cases hf; exact ⟨hIq6, hLq6⟩
theorem fr_190_1 (n : Nat) (x1 : Int32) (I : FI) (L : FL) (r : Int32 × FI × FL) (hf : f_190_1 n x1 I L = some r) : Fr SI_190_1 I r.2.1 ∧ Fr SL_190_1 L r.2.2 := by
  unfold f_190_1 at hf
  obtain ⟨q0, hq0, hf⟩ := Option.bind_eq_some_iff.mp hf
  exact ⟨frx_t frx_r (frc_190_1_0 n n x1 q0 (0 : Int32) I L r hf).1, frx_t frx_r (frc_190_1_0 n n x1 q0 (0 : Int32) I L r hf).2⟩
def SI_150_1 : List Nat := [114, 115, 116, 118, 119, 120]
def SL_150_1 : List Nat := [117]
theorem fr_150_1 (n : Nat) (x1 : Int32) (I : FI) (L : FL) (r : Int32 × FI × FL) (hf : f_150_1 n x1 I L = some r) : Fr SI_150_1 I r.2.1 ∧ Fr SL_150_1 L r.2.2 := by
  unfold f_150_1 at hf
  obtain ⟨q0, hq0, hf⟩ := Option.bind_eq_some_iff.mp hf
  rcases ite_some hf with ⟨hc, hf⟩ | ⟨hc, hf⟩
  · cases hf; exact ⟨frx_r, frx_r⟩
  · obtain ⟨q1, hq1, hf⟩ := Option.bind_eq_some_iff.mp hf
    have hIq1 : Fr SI_150_1 I q1.2.1 := frx_t frx_r (frx_m (fr_190_1 _ _ _ _ q1 hq1).1 (by decide))
    have hLq1 : Fr SL_150_1 L q1.2.2 := frx_t frx_r (frx_m (fr_190_1 _ _ _ _ q1 hq1).2 (by decide))
    cases hf; exact ⟨hIq1, hLq1⟩
def SI_151_1 : List Nat := [114, 115, 116, 118, 119, 120]
def SL_151_1 : List Nat := [117]
theorem frc_151_1_0 (n : Nat) : ∀ (m : Nat) (x1 : Int32) (I : FI) (L : FL) (r : Int32 × FI × FL), c_151_1_0 n m x1 I L = some r → Fr SI_151_1 I r.2.1 ∧ Fr SL_151_1 L r.2.2
  | 0, x1, I, L, r, hf => by cases hf
  | m + 1, x1, I, L, r, hf => by
    unfold c_151_1_0 b_151_1_0 at hf
    have hK0 := frc_151_1_0 n m
    rcases ite_some hf with ⟨hc, hf⟩ | ⟨hc, hf⟩
    · cases hf; exact ⟨frx_r, frx_r⟩
    · obtain ⟨q1, hq1, hf⟩ := Option.bind_eq_some_iff.mp hf
      have hIq1 : Fr SI_151_1 I q1.2.1 := frx_t frx_r (frx_m (fr_190_1 _ _ _ _ q1 hq1).1 (by decide))
      have hLq1 : Fr SL_151_1 L q1.2.2 := frx_t frx_r (frx_m (fr_190_1 _ _ _ _ q1 hq1).2 (by decide))
      rcases ite_some hf with ⟨hc, hf⟩ | ⟨hc, hf⟩
      · exact ⟨frx_t hIq1 (hK0 (x1 + (1 : Int32)) q1.2.1 q1.2.2 r hf).1, frx_t hLq1 (hK0 (x1 + (1 : Int32)) q1.2.1 q1.2.2 r hf).2⟩
      · cases hf; exact ⟨hIq1, hLq1⟩
theorem fr_151_1 (n : Nat) (I : FI) (L : FL) (r : Int32 × FI × FL) (hf : f_151_1 n I L = some r) : Fr SI_151_1 I r.2.1 ∧ Fr SL_151_1 L r.2.2 := by
  unfold f_151_1 at hf
  obtain ⟨q0, hq0, hf⟩ := Option.bind_eq_some_iff.mp hf
  rcases ite_some hf with ⟨hc, hf⟩ | ⟨hc, hf⟩
  · exact ⟨frx_t frx_r (frc_151_1_0 n n (0 : Int32) I L r hf).1, frx_t frx_r (frc_151_1_0 n n (0 : Int32) I L r hf).2⟩
  · cases hf; exact ⟨frx_r, frx_r⟩
def SI_9 : List Nat := [33]
def SL_9 : List Nat := []
theorem fr_9 (I : FI) (L : FL) (r : FI × FL) (hf : f_9 I L = some r) : Fr SI_9 I r.1 ∧ Fr SL_9 L r.2 := by
  unfold f_9 at hf
  cases hf; exact ⟨(frx_u (frx_u (frx_u frx_r (by decide) (by decide)) (by decide) (by decide)) (by decide) (by decide)), frx_r⟩
def SI_12 : List Nat := [33]
def SL_12 : List Nat := []
theorem frc_12_2 (n : Nat) (K0 : Int32 → FI → FL → Option (FI × FL)) (K1 : Int32 → Int32 → FI → FL → Option (FI × FL)) (hK0 : ∀ (x1 : Int32) (I : FI) (L : FL) (r : FI × FL), K0 x1 I L = some r → Fr SI_12 I r.1 ∧ Fr SL_12 L r.2) (hK1 : ∀ (x1 : Int32) (x2 : Int32) (I : FI) (L : FL) (r : FI × FL), K1 x1 x2 I L = some r → Fr SI_12 I r.1 ∧ Fr SL_12 L r.2) (x1 : Int32) (x2 : Int32) (I : FI) (L : FL) (r : FI × FL) (hf : c_12_2 n K0 K1 x1 x2 I L = some r) : Fr SI_12 I r.1 ∧ Fr SL_12 L r.2 := by
  unfold c_12_2 at hf
  exact ⟨frx_t frx_r (hK1 x1 (x2 + (1 : Int32)) I L r hf).1, frx_t frx_r (hK1 x1 (x2 + (1 : Int32)) I L r hf).2⟩
theorem frc_12_1 (n : Nat) (K0 : Int32 → FI → FL → Option (FI × FL)) (hK0 : ∀ (x1 : Int32) (I : FI) (L : FL) (r : FI × FL), K0 x1 I L = some r → Fr SI_12 I r.1 ∧ Fr SL_12 L r.2) : ∀ (m : Nat) (x1 : Int32) (x2 : Int32) (I : FI) (L : FL) (r : FI × FL), c_12_1 n K0 m x1 x2 I L = some r → Fr SI_12 I r.1 ∧ Fr SL_12 L r.2
  | 0, x1, x2, I, L, r, hf => by cases hf
  | m + 1, x1, x2, I, L, r, hf => by
    unfold c_12_1 b_12_1 at hf
    have hK1 := frc_12_1 n K0 hK0 m
    rcases ite_some hf with ⟨hc, hf⟩ | ⟨hc, hf⟩
    · exact ⟨frx_t frx_r (hK0 (x1 + (1 : Int32)) I L r hf).1, frx_t frx_r (hK0 (x1 + (1 : Int32)) I L r hf).2⟩
    · obtain ⟨q1, hq1, hf⟩ := Option.bind_eq_some_iff.mp hf
      rcases ite_some hf with ⟨hc, hf⟩ | ⟨hc, hf⟩
      · exact ⟨frx_t frx_r (frc_12_2 n _ _ hK0 hK1 x1 x2 I L r hf).1, frx_t frx_r (frc_12_2 n _ _ hK0 hK1 x1 x2 I L r hf).2⟩
      · exact ⟨frx_t (frx_u (frx_u frx_r (by decide) (by decide)) (by decide) (by decide)) (frc_12_2 n _ _ hK0 hK1 x1 x2 (u2 (u2 I 33 3 q1) 33 2 (((100 : Int32) * x1) + x2)) L r hf).1, frx_t frx_r (frc_12_2 n _ _ hK0 hK1 x1 x2 (u2 (u2 I 33 3 q1) 33 2 (((100 : Int32) * x1) + x2)) L r hf).2⟩
theorem frc_12_0 (n : Nat) : ∀ (m : Nat) (x1 : Int32) (I : FI) (L : FL) (r : FI × FL), c_12_0 n m x1 I L = some r → Fr SI_12 I r.1 ∧ Fr SL_12 L r.2
  | 0, x1, I, L, r, hf => by cases hf
  | m + 1, x1, I, L, r, hf => by
    unfold c_12_0 b_12_0 at hf
    have hK0 := frc_12_0 n m
    rcases ite_some hf with ⟨hc, hf⟩ | ⟨hc, hf⟩
    · cases hf; exact ⟨frx_r, frx_r⟩
    · exact ⟨frx_t frx_r (frc_12_1 n _ hK0 n x1 (0 : Int32) I L r hf).1, frx_t frx_r (frc_12_1 n _ hK0 n x1 (0 : Int32) I L r hf).2⟩
theorem fr_12 (n : Nat) (I : FI) (L : FL) (r : FI × FL) (hf : f_12 n I L = some r) : Fr SI_12 I r.1 ∧ Fr SL_12 L r.2 := by
  unfold f_12 at hf
  obtain ⟨q0, hq0, hf⟩ := Option.bind_eq_some_iff.mp hf
  exact ⟨frx_t (frx_u (frx_u frx_r (by decide) (by decide)) (by decide) (by decide)) (frc_12_0 n n (0 : Int32) (u2 (u2 I 33 3 q0) 33 2 (-1 : Int32)) L r hf).1, frx_t frx_r (frc_12_0 n n (0 : Int32) (u2 (u2 I 33 3 q0) 33 2 (-1 : Int32)) L r hf).2⟩
def SI_12_1 : List Nat := [33]
def SL_12_1 : List Nat := []
theorem frc_12_1_2 (n : Nat) (K0 : Int32 → FI → FL → Option (FI × FL)) (K1 : Int32 → Int32 → FI → FL → Option (FI × FL)) (hK0 : ∀ (x1 : Int32) (I : FI) (L : FL) (r : FI × FL), K0 x1 I L = some r → Fr SI_12_1 I r.1 ∧ Fr SL_12_1 L r.2) (hK1 : ∀ (x1 : Int32) (x2 : Int32) (I : FI) (L : FL) (r : FI × FL), K1 x1 x2 I L = some r → Fr SI_12_1 I r.1 ∧ Fr SL_12_1 L r.2) (x1 : Int32) (x2 : Int32) (I : FI) (L : FL) (r : FI × FL) (hf : c_12_1_2 n K0 K1 x1 x2 I L = some r) : Fr SI_12_1 I r.1 ∧ Fr SL_12_1 L r.2 := by
  unfold c_12_1_2 at hf
  exact ⟨frx_t frx_r (hK1 x1 (x2 + (1 : Int32)) I L r hf).1, frx_t frx_r (hK1 x1 (x2 + (1 : Int32)) I L r hf).2⟩
theorem frc_12_1_1 (n : Nat) (K0 : Int32 → FI → FL → Option (FI × FL)) (hK0 : ∀ (x1 : Int32) (I : FI) (L : FL) (r : FI × FL), K0 x1 I L = some r → Fr SI_12_1 I r.1 ∧ Fr SL_12_1 L r.2) : ∀ (m : Nat) (x1 : Int32) (x2 : Int32) (I : FI) (L : FL) (r : FI × FL), c_12_1_1 n K0 m x1 x2 I L = some r → Fr SI_12_1 I r.1 ∧ Fr SL_12_1 L r.2
  | 0, x1, x2, I, L, r, hf => by cases hf
  | m + 1, x1, x2, I, L, r, hf => by
    unfold c_12_1_1 b_12_1_1 at hf
    have hK1 := frc_12_1_1 n K0 hK0 m
    rcases ite_some hf with ⟨hc, hf⟩ | ⟨hc, hf⟩
    · exact ⟨frx_t frx_r (hK0 (x1 + (1 : Int32)) I L r hf).1, frx_t frx_r (hK0 (x1 + (1 : Int32)) I L r hf).2⟩
    · obtain ⟨q1, hq1, hf⟩ := Option.bind_eq_some_iff.mp hf
      rcases ite_some hf with ⟨hc, hf⟩ | ⟨hc, hf⟩
      · exact ⟨frx_t frx_r (frc_12_1_2 n _ _ hK0 hK1 x1 x2 I L r hf).1, frx_t frx_r (frc_12_1_2 n _ _ hK0 hK1 x1 x2 I L r hf).2⟩
      · exact ⟨frx_t (frx_u (frx_u frx_r (by decide) (by decide)) (by decide) (by decide)) (frc_12_1_2 n _ _ hK0 hK1 x1 x2 (u2 (u2 I 33 3 q1) 33 2 (((100 : Int32) * x1) + x2)) L r hf).1, frx_t frx_r (frc_12_1_2 n _ _ hK0 hK1 x1 x2 (u2 (u2 I 33 3 q1) 33 2 (((100 : Int32) * x1) + x2)) L r hf).2⟩
theorem frc_12_1_0 (n : Nat) : ∀ (m : Nat) (x1 : Int32) (I : FI) (L : FL) (r : FI × FL), c_12_1_0 n m x1 I L = some r → Fr SI_12_1 I r.1 ∧ Fr SL_12_1 L r.2
  | 0, x1, I, L, r, hf => by cases hf
  | m + 1, x1, I, L, r, hf => by
    unfold c_12_1_0 b_12_1_0 at hf
    have hK0 := frc_12_1_0 n m
    rcases ite_some hf with ⟨hc, hf⟩ | ⟨hc, hf⟩
    · cases hf; exact ⟨frx_r, frx_r⟩
    · exact ⟨frx_t frx_r (frc_12_1_1 n _ hK0 n x1 (0 : Int32) I L r hf).1, frx_t frx_r (frc_12_1_1 n _ hK0 n x1 (0 : Int32) I L r hf).2⟩
theorem fr_12_1 (n : Nat) (I : FI) (L : FL) (r : FI × FL) (hf : f_12_1 n I L = some r) : Fr SI_12_1 I r.1 ∧ Fr SL_12_1 L r.2 := by
  unfold f_12_1 at hf
  obtain ⟨q0, hq0, hf⟩ := Option.bind_eq_some_iff.mp hf
  exact ⟨frx_t (frx_u (frx_u frx_r (by decide) (by decide)) (by decide) (by decide)) (frc_12_1_0 n n (0 : Int32) (u2 (u2 I 33 3 q0) 33 2 (-1 : Int32)) L r hf).1, frx_t frx_r (frc_12_1_0 n n (0 : Int32) (u2 (u2 I 33 3 q0) 33 2 (-1 : Int32)) L r hf).2⟩
def SI_53_1 : List Nat := [26, 27, 28]
def SL_53_1 : List Nat := []
theorem frc_53_1_3 (n : Nat) (K2 : Int32 → FI → FL → Option (FI × FL)) (hK2 : ∀ (x4 : Int32) (I : FI) (L : FL) (r : FI × FL), K2 x4 I L = some r → Fr SI_53_1 I r.1 ∧ Fr SL_53_1 L r.2) (x4 : Int32) (I : FI) (L : FL) (r : FI × FL) (hf : c_53_1_3 n K2 x4 I L = some r) : Fr SI_53_1 I r.1 ∧ Fr SL_53_1 L r.2 := by
  unfold c_53_1_3 at hf
  exact ⟨frx_t frx_r (hK2 (x4 + (1 : Int32)) I L r hf).1, frx_t frx_r (hK2 (x4 + (1 : Int32)) I L r hf).2⟩
theorem frc_53_1_2 (n : Nat) : ∀ (m : Nat) (x4 : Int32) (I : FI) (L : FL) (r : FI × FL), c_53_1_2 n m x4 I L = some r → Fr SI_53_1 I r.1 ∧ Fr SL_53_1 L r.2
  | 0, x4, I, L, r, hf => by cases hf
  | m + 1, x4, I, L, r, hf => by
    unfold c_53_1_2 b_53_1_2 at hf
    have hK2 := frc_53_1_2 n m
    rcases ite_some hf with ⟨hc, hf⟩ | ⟨hc, hf⟩
    · cases hf; exact ⟨frx_r, frx_r⟩
    · rcases ite_some hf with ⟨hc, hf⟩ | ⟨hc, hf⟩
      · rcases ite_some hf with ⟨hc, hf⟩ | ⟨hc, hf⟩
        · rcases ite_some hf with ⟨hc, hf⟩ | ⟨hc, hf⟩
          · rcases ite_some hf with ⟨hc, hf⟩ | ⟨hc, hf⟩
            · rcases ite_some hf with ⟨hc, hf⟩ | ⟨hc, hf⟩
              · rcases ite_some hf with ⟨hc, hf⟩ | ⟨hc, hf⟩
                · exact ⟨frx_t (frx_u frx_r (by decide) (by decide)) (frc_53_1_3 n _ hK2 x4 (u2 I 28 ((I 13 x4.toNatClampNeg).toNatClampNeg) ((I 28 ((I 13 x4.toNatClampNeg).toNatClampNeg)) ||| ((1 : Int32) <<< ((I 12 x4.toNatClampNeg) &&& 31)))) L r hf).1, frx_t frx_r (frc_53_1_3 n _ hK2 x4 (u2 I 28 ((I 13 x4.toNatClampNeg).toNatClampNeg) ((I 28 ((I 13 x4.toNatClampNeg).toNatClampNeg)) ||| ((1 : Int32) <<< ((I 12 x4.toNatClampNeg) &&& 31)))) L r hf).2⟩
                · cases hf
              · cases hf
            · cases hf
          · cases hf
        · rcases ite_some hf with ⟨hc, hf⟩ | ⟨hc, hf⟩
          · exact ⟨frx_t (frx_u frx_r (by decide) (by decide)) (frc_53_1_3 n _ hK2 x4 (u2 I 26 9 ((I 26 9) ||| ((1 : Int32) <<< ((I 13 x4.toNatClampNeg) &&& 31)))) L r hf).1, frx_t frx_r (frc_53_1_3 n _ hK2 x4 (u2 I 26 9 ((I 26 9) ||| ((1 : Int32) <<< ((I 13 x4.toNatClampNeg) &&& 31)))) L r hf).2⟩
          · cases hf
      · cases hf
theorem frc_53_1_4 (n : Nat) (K1 : Int32 → Int32 → FI → FL → Option (FI × FL)) (hK1 : ∀ (x3 : Int32) (x4 : Int32) (I : FI) (L : FL) (r : FI × FL), K1 x3 x4 I L = some r → Fr SI_53_1 I r.1 ∧ Fr SL_53_1 L r.2) (x3 : Int32) (x4 : Int32) (I : FI) (L : FL) (r : FI × FL) (hf : c_53_1_4 n K1 x3 x4 I L = some r) : Fr SI_53_1 I r.1 ∧ Fr SL_53_1 L r.2 := by
  unfold c_53_1_4 at hf
  exact ⟨frx_t frx_r (hK1 x3 (x4 + (1 : Int32)) I L r hf).1, frx_t frx_r (hK1 x3 (x4 + (1 : Int32)) I L r hf).2⟩
theorem frc_53_1_1 (n : Nat) : ∀ (m : Nat) (x3 : Int32) (x4 : Int32) (I : FI) (L : FL) (r : FI × FL), c_53_1_1 n m x3 x4 I L = some r → Fr SI_53_1 I r.1 ∧ Fr SL_53_1 L r.2
  | 0, x3, x4, I, L, r, hf => by cases hf
  | m + 1, x3, x4, I, L, r, hf => by
    unfold c_53_1_1 b_53_1_1 at hf
    have hK1 := frc_53_1_1 n m
    rcases ite_some hf with ⟨hc, hf⟩ | ⟨hc, hf⟩
    · exact ⟨frx_t frx_r (frc_53_1_2 n n (0 : Int32) I L r hf).1, frx_t frx_r (frc_53_1_2 n n (0 : Int32) I L r hf).2⟩
    · rcases ite_some hf with ⟨hc, hf⟩ | ⟨hc, hf⟩
      · exact ⟨frx_t frx_r (frc_53_1_4 n _ hK1 x3 x4 I L r hf).1, frx_t frx_r (frc_53_1_4 n _ hK1 x3 x4 I L r hf).2⟩
      · rcases ite_some hf with ⟨hc, hf⟩ | ⟨hc, hf⟩
        · rcases ite_some hf with ⟨hc, hf⟩ | ⟨hc, hf⟩
          · rcases ite_some hf with ⟨hc, hf⟩ | ⟨hc, hf⟩
            · rcases ite_some hf with ⟨hc, hf⟩ | ⟨hc, hf⟩
              · exact ⟨frx_t (frx_u frx_r (by decide) (by decide)) (frc_53_1_4 n _ hK1 x3 x4 (u2 I 28 ((I 9 x4.toNatClampNeg).toNatClampNeg) ((I 28 ((I 9 x4.toNatClampNeg).toNatClampNeg)) ||| ((1 : Int32) <<< ((I 8 x4.toNatClampNeg) &&& 31)))) L r hf).1, frx_t frx_r (frc_53_1_4 n _ hK1 x3 x4 (u2 I 28 ((I 9 x4.toNatClampNeg).toNatClampNeg) ((I 28 ((I 9 x4.toNatClampNeg).toNatClampNeg)) ||| ((1 : Int32) <<< ((I 8 x4.toNatClampNeg) &&& 31)))) L r hf).2⟩
              · cases hf
            · cases hf
          · cases hf
        · cases hf
theorem frc_53_1_0 (n : Nat) : ∀ (m : Nat) (x3 : Int32) (x4 : Int32) (I : FI) (L : FL) (r : FI × FL), c_53_1_0 n m x3 x4 I L = some r → Fr SI_53_1 I r.1 ∧ Fr SL_53_1 L r.2
  | 0, x3, x4, I, L, r, hf => by cases hf
  | m + 1, x3, x4, I, L, r, hf => by
    unfold c_53_1_0 b_53_1_0 at hf
    have hK0 := frc_53_1_0 n m
    rcases ite_some hf with ⟨hc, hf⟩ | ⟨hc, hf⟩
    · exact ⟨frx_t frx_r (frc_53_1_1 n n x3 (0 : Int32) I L r hf).1, frx_t frx_r (frc_53_1_1 n n x3 (0 : Int32) I L r hf).2⟩
    · rcases ite_some hf with ⟨hc, hf⟩ | ⟨hc, hf⟩
      · exact ⟨frx_t (frx_u frx_r (by decide) (by decide)) (hK0 x3 (x4 + (1 : Int32)) (u2 I 28 x4.toNatClampNeg (0 : Int32)) L r hf).1, frx_t frx_r (hK0 x3 (x4 + (1 : Int32)) (u2 I 28 x4.toNatClampNeg (0 : Int32)) L r hf).2⟩
      · cases hf
theorem fr_53_1 (n : Nat) (x3 : Int32) (I : FI) (L : FL) (r : FI × FL) (hf : f_53_1 n x3 I L = some r) : Fr SI_53_1 I r.1 ∧ Fr SL_53_1 L r.2 := by
  unfold f_53_1 at hf
  exact ⟨frx_t (frx_c (frx_u (frx_u (frx_u (frx_u (frx_u (frx_u frx_r (by decide) (by decide)) (by decide) (by decide)) (by decide) (by decide)) (by decide) (by decide)) (by decide) (by decide)) (by decide) (by decide)) (by decide) (by decide)) (frc_53_1_0 n n x3 (0 : Int32) (c2 (u2 (u2 (u2 (u2 (u2 (u2 I 26 10 (I 3 4)) 26 11 (I 3 3)) 26 6 (I 3 1)) 26 7 (0 : Int32)) 26 8 (0 : Int32)) 26 9 (0 : Int32)) 4 27 0 0 4) L r hf).1, frx_t frx_r (frc_53_1_0 n n x3 (0 : Int32) (c2 (u2 (u2 (u2 (u2 (u2 (u2 I 26 10 (I 3 4)) 26 11 (I 3 3)) 26 6 (I 3 1)) 26 7 (0 : Int32)) 26 8 (0 : Int32)) 26 9 (0 : Int32)) 4 27 0 0 4) L r hf).2⟩
def SI_10 : List Nat := [33, 34]
def SL_10 : List Nat := []
theorem frc_10_0 (n : Nat) : ∀ (m : Nat) (x1 : Int32) (x3 : Int32) (I : FI) (L : FL) (r : FI × FL), c_10_0 n m x1 x3 I L = some r → Fr SI_10 I r.1 ∧ Fr SL_10 L r.2
  | 0, x1, x3, I, L, r, hf => by cases hf
  | m + 1, x1, x3, I, L, r, hf => by
    unfold c_10_0 b_10_0 at hf
    have hK0 := frc_10_0 n m
    rcases ite_some hf with ⟨hc, hf⟩ | ⟨hc, hf⟩
    · cases hf; exact ⟨frx_r, frx_r⟩
    · rcases ite_some hf with ⟨hc, hf⟩ | ⟨hc, hf⟩
      · rcases ite_some hf with ⟨hc, hf⟩ | ⟨hc, hf⟩
        · exact ⟨frx_t (frx_u frx_r (by decide) (by decide)) (hK0 x1 (x3 + (1 : Int32)) (u2 I 34 (((x1 * (120 : Int32)) + x3).toNatClampNeg) (vp_nar .byte ((I 31 x3.toNatClampNeg).toInt8.toInt32))) L r hf).1, frx_t frx_r (hK0 x1 (x3 + (1 : Int32)) (u2 I 34 (((x1 * (120 : Int32)) + x3).toNatClampNeg) (vp_nar .byte ((I 31 x3.toNatClampNeg).toInt8.toInt32))) L r hf).2⟩
        · cases hf
      · cases hf
theorem fr_10 (n : Nat) (x1 : Int32) (I : FI) (L : FL) (r : FI × FL) (hf : f_10 n x1 I L = some r) : Fr SI_10 I r.1 ∧ Fr SL_10 L r.2 := by
  unfold f_10 at hf
  exact ⟨frx_t (frx_u frx_r (by decide) (by decide)) (frc_10_0 n n x1 (0 : Int32) (u2 I 33 1 ((I 33 1) ||| ((1 : Int32) <<< (x1 &&& 31)))) L r hf).1, frx_t frx_r (frc_10_0 n n x1 (0 : Int32) (u2 I 33 1 ((I 33 1) ||| ((1 : Int32) <<< (x1 &&& 31)))) L r hf).2⟩
def SI_199 : List Nat := [26, 27, 28, 29, 30, 31, 32, 33, 34]
def SL_199 : List Nat := []
theorem frc_199_2 (n : Nat) (nh : Option Nat) (K1 : Int32 → Int32 → FI → FL → Option (Option Nat × FI × FL)) (hK1 : ∀ (x1 : Int32) (x2 : Int32) (I : FI) (L : FL) (r : Option Nat × FI × FL), K1 x1 x2 I L = some r → Fr SI_199 I r.2.1 ∧ Fr SL_199 L r.2.2) (x1 : Int32) (x2 : Int32) (I : FI) (L : FL) (r : Option Nat × FI × FL) (hf : c_199_2 n nh K1 x1 x2 I L = some r) : Fr SI_199 I r.2.1 ∧ Fr SL_199 L r.2.2 := by
  unfold c_199_2 at hf
  rcases ite_some hf with ⟨hc, hf⟩ | ⟨hc, hf⟩
  · obtain ⟨q5, hq5, hf⟩ := Option.bind_eq_some_iff.mp hf
    have hIq5 : Fr SI_199 I q5.1 := frx_t frx_r (frx_m (fr_12_1 _ _ _ q5 hq5).1 (by decide))
    have hLq5 : Fr SL_199 L q5.2 := frx_t frx_r (frx_m (fr_12_1 _ _ _ q5 hq5).2 (by decide))
    cases hf; exact ⟨hIq5, hLq5⟩
  · obtain ⟨q6, hq6, hf⟩ := Option.bind_eq_some_iff.mp hf
    have hIq6 : Fr SI_199 I q6.1 := frx_t frx_r (frx_m (fr_53_1 _ _ _ _ q6 hq6).1 (by decide))
    have hLq6 : Fr SL_199 L q6.2 := frx_t frx_r (frx_m (fr_53_1 _ _ _ _ q6 hq6).2 (by decide))
    obtain ⟨q7, hq7, hf⟩ := Option.bind_eq_some_iff.mp hf
    have hIq7 : Fr SI_199 I q7.1 := frx_t (frx_u hIq6 (by decide) (by decide)) (frx_m (fr_55 _ _ _ q7 hq7).1 (by decide))
    have hLq7 : Fr SL_199 L q7.2 := frx_t hLq6 (frx_m (fr_55 _ _ _ q7 hq7).2 (by decide))
    rcases ite_some hf with ⟨hc, hf⟩ | ⟨hc, hf⟩
    · obtain ⟨q8, hq8, hf⟩ := Option.bind_eq_some_iff.mp hf
      rcases ite_some hf with ⟨hc, hf⟩ | ⟨hc, hf⟩
      · exact ⟨frx_t hIq7 (hK1 (0 : Int32) x2 q7.1 q7.2 r hf).1, frx_t hLq7 (hK1 (0 : Int32) x2 q7.1 q7.2 r hf).2⟩
      · obtain ⟨q9, hq9, hf⟩ := Option.bind_eq_some_iff.mp hf
        have hIq9 : Fr SI_199 I q9.1 := frx_t hIq7 (frx_m (fr_10 _ _ _ _ q9 hq9).1 (by decide))
        have hLq9 : Fr SL_199 L q9.2 := frx_t hLq7 (frx_m (fr_10 _ _ _ _ q9 hq9).2 (by decide))
        exact ⟨frx_t hIq9 (hK1 (0 : Int32) x2 q9.1 q9.2 r hf).1, frx_t hLq9 (hK1 (0 : Int32) x2 q9.1 q9.2 r hf).2⟩
    rcases ite_some hf with ⟨hc, hf⟩ | ⟨hc, hf⟩
    · obtain ⟨q10, hq10, hf⟩ := Option.bind_eq_some_iff.mp hf
      rcases ite_some hf with ⟨hc, hf⟩ | ⟨hc, hf⟩
      · exact ⟨frx_t hIq7 (hK1 (1 : Int32) x2 q7.1 q7.2 r hf).1, frx_t hLq7 (hK1 (1 : Int32) x2 q7.1 q7.2 r hf).2⟩
      · obtain ⟨q11, hq11, hf⟩ := Option.bind_eq_some_iff.mp hf
        have hIq11 : Fr SI_199 I q11.1 := frx_t hIq7 (frx_m (fr_10 _ _ _ _ q11 hq11).1 (by decide))
        have hLq11 : Fr SL_199 L q11.2 := frx_t hLq7 (frx_m (fr_10 _ _ _ _ q11 hq11).2 (by decide))
        exact ⟨frx_t hIq11 (hK1 (1 : Int32) x2 q11.1 q11.2 r hf).1, frx_t hLq11 (hK1 (1 : Int32) x2 q11.1 q11.2 r hf).2⟩
    rcases ite_some hf with ⟨hc, hf⟩ | ⟨hc, hf⟩
    · obtain ⟨q12, hq12, hf⟩ := Option.bind_eq_some_iff.mp hf
      rcases ite_some hf with ⟨hc, hf⟩ | ⟨hc, hf⟩
      · exact ⟨frx_t hIq7 (hK1 (2 : Int32) x2 q7.1 q7.2 r hf).1, frx_t hLq7 (hK1 (2 : Int32) x2 q7.1 q7.2 r hf).2⟩
      · obtain ⟨q13, hq13, hf⟩ := Option.bind_eq_some_iff.mp hf
        have hIq13 : Fr SI_199 I q13.1 := frx_t hIq7 (frx_m (fr_10 _ _ _ _ q13 hq13).1 (by decide))
        have hLq13 : Fr SL_199 L q13.2 := frx_t hLq7 (frx_m (fr_10 _ _ _ _ q13 hq13).2 (by decide))
        exact ⟨frx_t hIq13 (hK1 (2 : Int32) x2 q13.1 q13.2 r hf).1, frx_t hLq13 (hK1 (2 : Int32) x2 q13.1 q13.2 r hf).2⟩
    rcases ite_some hf with ⟨hc, hf⟩ | ⟨hc, hf⟩
    · obtain ⟨q14, hq14, hf⟩ := Option.bind_eq_some_iff.mp hf
      rcases ite_some hf with ⟨hc, hf⟩ | ⟨hc, hf⟩
      · exact ⟨frx_t hIq7 (hK1 (3 : Int32) x2 q7.1 q7.2 r hf).1, frx_t hLq7 (hK1 (3 : Int32) x2 q7.1 q7.2 r hf).2⟩
      · obtain ⟨q15, hq15, hf⟩ := Option.bind_eq_some_iff.mp hf
        have hIq15 : Fr SI_199 I q15.1 := frx_t hIq7 (frx_m (fr_10 _ _ _ _ q15 hq15).1 (by decide))
        have hLq15 : Fr SL_199 L q15.2 := frx_t hLq7 (frx_m (fr_10 _ _ _ _ q15 hq15).2 (by decide))
        exact ⟨frx_t hIq15 (hK1 (3 : Int32) x2 q15.1 q15.2 r hf).1, frx_t hLq15 (hK1 (3 : Int32) x2 q15.1 q15.2 r hf).2⟩
    cases hf
theorem frc_199_1 (n : Nat) (nh : Option Nat) : ∀ (m : Nat) (x1 : Int32) (x2 : Int32) (I : FI) (L : FL) (r : Option Nat × FI × FL), c_199_1 n nh m x1 x2 I L = some r → Fr SI_199 I r.2.1 ∧ Fr SL_199 L r.2.2
  | 0, x1, x2, I, L, r, hf => by cases hf
  | m + 1, x1, x2, I, L, r, hf => by
    unfold c_199_1 b_199_1 at hf
    have hK1 := frc_199_1 n nh m
    exact ⟨frx_t frx_r (frc_199_2 n nh _ hK1 x1 (x2 + (1 : Int32)) I L r hf).1, frx_t frx_r (frc_199_2 n nh _ hK1 x1 (x2 + (1 : Int32)) I L r hf).2⟩
theorem frc_199_0 (n : Nat) (nh : Option Nat) (x1 : Int32) (x2 : Int32) (I : FI) (L : FL) (r : Option Nat × FI × FL) (hf : c_199_0 n nh x1 x2 I L = some r) : Fr SI_199 I r.2.1 ∧ Fr SL_199 L r.2.2 := by
  unfold c_199_0 at hf
  rcases ite_some hf with ⟨hc, hf⟩ | ⟨hc, hf⟩
  · obtain ⟨q1, hq1, hf⟩ := Option.bind_eq_some_iff.mp hf
    have hIq1 : Fr SI_199 I q1.1 := frx_t frx_r (frx_m (fr_12 _ _ _ q1 hq1).1 (by decide))
    have hLq1 : Fr SL_199 L q1.2 := frx_t frx_r (frx_m (fr_12 _ _ _ q1 hq1).2 (by decide))
    cases hf; exact ⟨hIq1, hLq1⟩
  · obtain ⟨q2, hq2, hf⟩ := Option.bind_eq_some_iff.mp hf
    have hIq2 : Fr SI_199 I q2.1 := frx_t frx_r (frx_m (fr_53 _ _ _ _ q2 hq2).1 (by decide))
    have hLq2 : Fr SL_199 L q2.2 := frx_t frx_r (frx_m (fr_53 _ _ _ _ q2 hq2).2 (by decide))
    obtain ⟨q3, hq3, hf⟩ := Option.bind_eq_some_iff.mp hf
    have hIq3 : Fr SI_199 I q3.1 := frx_t (frx_u hIq2 (by decide) (by decide)) (frx_m (fr_55 _ _ _ q3 hq3).1 (by decide))
    have hLq3 : Fr SL_199 L q3.2 := frx_t hLq2 (frx_m (fr_55 _ _ _ q3 hq3).2 (by decide))
    rcases ite_some hf with ⟨hc, hf⟩ | ⟨hc, hf⟩
    · obtain ⟨q4, hq4, hf⟩ := Option.bind_eq_some_iff.mp hf
      rcases ite_some hf with ⟨hc, hf⟩ | ⟨hc, hf⟩
      · exact ⟨frx_t hIq3 (frc_199_1 n nh n (0 : Int32) x2 q3.1 q3.2 r hf).1, frx_t hLq3 (frc_199_1 n nh n (0 : Int32) x2 q3.1 q3.2 r hf).2⟩
      · obtain ⟨q16, hq16, hf⟩ := Option.bind_eq_some_iff.mp hf
        have hIq16 : Fr SI_199 I q16.1 := frx_t hIq3 (frx_m (fr_10 _ _ _ _ q16 hq16).1 (by decide))
        have hLq16 : Fr SL_199 L q16.2 := frx_t hLq3 (frx_m (fr_10 _ _ _ _ q16 hq16).2 (by decide))
        exact ⟨frx_t hIq16 (frc_199_1 n nh n (0 : Int32) x2 q16.1 q16.2 r hf).1, frx_t hLq16 (frc_199_1 n nh n (0 : Int32) x2 q16.1 q16.2 r hf).2⟩
    rcases ite_some hf with ⟨hc, hf⟩ | ⟨hc, hf⟩
    · obtain ⟨q17, hq17, hf⟩ := Option.bind_eq_some_iff.mp hf
      rcases ite_some hf with ⟨hc, hf⟩ | ⟨hc, hf⟩
      · exact ⟨frx_t hIq3 (frc_199_1 n nh n (1 : Int32) x2 q3.1 q3.2 r hf).1, frx_t hLq3 (frc_199_1 n nh n (1 : Int32) x2 q3.1 q3.2 r hf).2⟩
      · obtain ⟨q18, hq18, hf⟩ := Option.bind_eq_some_iff.mp hf
        have hIq18 : Fr SI_199 I q18.1 := frx_t hIq3 (frx_m (fr_10 _ _ _ _ q18 hq18).1 (by decide))
        have hLq18 : Fr SL_199 L q18.2 := frx_t hLq3 (frx_m (fr_10 _ _ _ _ q18 hq18).2 (by decide))
        exact ⟨frx_t hIq18 (frc_199_1 n nh n (1 : Int32) x2 q18.1 q18.2 r hf).1, frx_t hLq18 (frc_199_1 n nh n (1 : Int32) x2 q18.1 q18.2 r hf).2⟩
    rcases ite_some hf with ⟨hc, hf⟩ | ⟨hc, hf⟩
    · obtain ⟨q19, hq19, hf⟩ := Option.bind_eq_some_iff.mp hf
      rcases ite_some hf with ⟨hc, hf⟩ | ⟨hc, hf⟩
      · exact ⟨frx_t hIq3 (frc_199_1 n nh n (2 : Int32) x2 q3.1 q3.2 r hf).1, frx_t hLq3 (frc_199_1 n nh n (2 : Int32) x2 q3.1 q3.2 r hf).2⟩
      · obtain ⟨q20, hq20, hf⟩ := Option.bind_eq_some_iff.mp hf
        have hIq20 : Fr SI_199 I q20.1 := frx_t hIq3 (frx_m (fr_10 _ _ _ _ q20 hq20).1 (by decide))
        have hLq20 : Fr SL_199 L q20.2 := frx_t hLq3 (frx_m (fr_10 _ _ _ _ q20 hq20).2 (by decide))
        exact ⟨frx_t hIq20 (frc_199_1 n nh n (2 : Int32) x2 q20.1 q20.2 r hf).1, frx_t hLq20 (frc_199_1 n nh n (2 : Int32) x2 q20.1 q20.2 r hf).2⟩
    rcases ite_some hf with ⟨hc, hf⟩ | ⟨hc, hf⟩
    · obtain ⟨q21, hq21, hf⟩ := Option.bind_eq_some_iff.mp hf
      rcases ite_some hf with ⟨hc, hf⟩ | ⟨hc, hf⟩
      · exact ⟨frx_t hIq3 (frc_199_1 n nh n (3 : Int32) x2 q3.1 q3.2 r hf).1, frx_t hLq3 (frc_199_1 n nh n (3 : Int32) x2 q3.1 q3.2 r hf).2⟩
      · obtain ⟨q22, hq22, hf⟩ := Option.bind_eq_some_iff.mp hf
        have hIq22 : Fr SI_199 I q22.1 := frx_t hIq3 (frx_m (fr_10 _ _ _ _ q22 hq22).1 (by decide))
        have hLq22 : Fr SL_199 L q22.2 := frx_t hLq3 (frx_m (fr_10 _ _ _ _ q22 hq22).2 (by decide))
        exact ⟨frx_t hIq22 (frc_199_1 n nh n (3 : Int32) x2 q22.1 q22.2 r hf).1, frx_t hLq22 (frc_199_1 n nh n (3 : Int32) x2 q22.1 q22.2 r hf).2⟩
    cases hf
theorem fr_199 (n : Nat) (nh : Option Nat) (x1 : Int32) (I : FI) (L : FL) (r : Option Nat × FI × FL) (hf : f_199 n nh x1 I L = some r) : Fr SI_199 I r.2.1 ∧ Fr SL_199 L r.2.2 := by
  unfold f_199 at hf
  obtain ⟨q0, hq0, hf⟩ := Option.bind_eq_some_iff.mp hf
  have hIq0 : Fr SI_199 I q0.1 := frx_t frx_r (frx_m (fr_9 _ _ q0 hq0).1 (by decide))
  have hLq0 : Fr SL_199 L q0.2 := frx_t frx_r (frx_m (fr_9 _ _ q0 hq0).2 (by decide))
  exact ⟨frx_t hIq0 (frc_199_0 n nh x1 (0 : Int32) q0.1 q0.2 r hf).1, frx_t hLq0 (frc_199_0 n nh x1 (0 : Int32) q0.1 q0.2 r hf).2⟩
def SI_152 : List Nat := [26, 27, 28, 29, 30, 31, 32, 33, 34]
def SL_152 : List Nat := []
theorem fr_152 (n : Nat) (nh : Option Nat) (x1 : Int32) (I : FI) (L : FL) (r : Int32 × Option Nat × FI × FL) (hf : f_152 n nh x1 I L = some r) : Fr SI_152 I r.2.2.1 ∧ Fr SL_152 L r.2.2.2 := by
  unfold f_152 at hf
  obtain ⟨q0, hq0, hf⟩ := Option.bind_eq_some_iff.mp hf
  rcases ite_some hf with ⟨hc, hf⟩ | ⟨hc, hf⟩
  · obtain ⟨q1, hq1, hf⟩ := Option.bind_eq_some_iff.mp hf
    have hIq1 : Fr SI_152 I q1.2.1 := frx_t frx_r (frx_m (fr_199 _ _ _ _ _ q1 hq1).1 (by decide))
    have hLq1 : Fr SL_152 L q1.2.2 := frx_t frx_r (frx_m (fr_199 _ _ _ _ _ q1 hq1).2 (by decide))
    obtain ⟨q2, hq2, hf⟩ := Option.bind_eq_some_iff.mp hf
    cases hf; exact ⟨hIq1, hLq1⟩
  · cases hf; exact ⟨frx_r, frx_r⟩
def SI_153 : List Nat := [26, 27, 28, 29, 30, 31, 32, 33, 34]
def SL_153 : List Nat := []
theorem fr_153 (n : Nat) (nh : Option Nat) (x1 : Int32) (I : FI) (L : FL) (r : Int32 × Option Nat × FI × FL) (hf : f_153 n nh x1 I L = some r) : Fr SI_153 I r.2.2.1 ∧ Fr SL_153 L r.2.2.2 := by
  unfold f_153 at hf
  obtain ⟨q0, hq0, hf⟩ := Option.bind_eq_some_iff.mp hf
  rcases ite_some hf with ⟨hc, hf⟩ | ⟨hc, hf⟩
  · obtain ⟨q1, hq1, hf⟩ := Option.bind_eq_some_iff.mp hf
    have hIq1 : Fr SI_153 I q1.2.1 := frx_t frx_r (frx_m (fr_199 _ _ _ _ _ q1 hq1).1 (by decide))
    have hLq1 : Fr SL_153 L q1.2.2 := frx_t frx_r (frx_m (fr_199 _ _ _ _ _ q1 hq1).2 (by decide))
    obtain ⟨q2, hq2, hf⟩ := Option.bind_eq_some_iff.mp hf
    cases hf; exact ⟨hIq1, hLq1⟩
  · cases hf; exact ⟨frx_r, frx_r⟩
def SI_154 : List Nat := [26, 27, 28, 29, 30, 31, 32, 33, 34]
def SL_154 : List Nat := []
theorem fr_154 (n : Nat) (nh : Option Nat) (x1 : Int32) (I : FI) (L : FL) (r : Int32 × Option Nat × FI × FL) (hf : f_154 n nh x1 I L = some r) : Fr SI_154 I r.2.2.1 ∧ Fr SL_154 L r.2.2.2 := by
  unfold f_154 at hf
  obtain ⟨q0, hq0, hf⟩ := Option.bind_eq_some_iff.mp hf
  rcases ite_some hf with ⟨hc, hf⟩ | ⟨hc, hf⟩
  · obtain ⟨q1, hq1, hf⟩ := Option.bind_eq_some_iff.mp hf
    have hIq1 : Fr SI_154 I q1.2.1 := frx_t frx_r (frx_m (fr_199 _ _ _ _ _ q1 hq1).1 (by decide))
    have hLq1 : Fr SL_154 L q1.2.2 := frx_t frx_r (frx_m (fr_199 _ _ _ _ _ q1 hq1).2 (by decide))
    cases hf; exact ⟨hIq1, hLq1⟩
  · cases hf; exact ⟨frx_r, frx_r⟩
def SI_155 : List Nat := [26, 27, 28, 29, 30, 31, 32, 33, 34]
def SL_155 : List Nat := []
theorem fr_155 (n : Nat) (nh : Option Nat) (x1 : Int32) (I : FI) (L : FL) (r : Int32 × Option Nat × FI × FL) (hf : f_155 n nh x1 I L = some r) : Fr SI_155 I r.2.2.1 ∧ Fr SL_155 L r.2.2.2 := by
  unfold f_155 at hf
  obtain ⟨q0, hq0, hf⟩ := Option.bind_eq_some_iff.mp hf
  rcases ite_some hf with ⟨hc, hf⟩ | ⟨hc, hf⟩
  · obtain ⟨q1, hq1, hf⟩ := Option.bind_eq_some_iff.mp hf
    have hIq1 : Fr SI_155 I q1.2.1 := frx_t frx_r (frx_m (fr_199 _ _ _ _ _ q1 hq1).1 (by decide))
    have hLq1 : Fr SL_155 L q1.2.2 := frx_t frx_r (frx_m (fr_199 _ _ _ _ _ q1 hq1).2 (by decide))
    cases hf; exact ⟨hIq1, hLq1⟩
  · cases hf; exact ⟨frx_r, frx_r⟩
def SI_192 : List Nat := [26, 27, 28, 29, 30, 31, 32]
def SL_192 : List Nat := []
theorem fr_192 (n : Nat) (x1 : Int32) (I : FI) (L : FL) (r : FI × FL) (hf : f_192 n x1 I L = some r) : Fr SI_192 I r.1 ∧ Fr SL_192 L r.2 := by
  unfold f_192 at hf
  obtain ⟨q0, hq0, hf⟩ := Option.bind_eq_some_iff.mp hf
  have hIq0 : Fr SI_192 I q0.1 := frx_t frx_r (frx_m (fr_53 _ _ _ _ q0 hq0).1 (by decide))
  have hLq0 : Fr SL_192 L q0.2 := frx_t frx_r (frx_m (fr_53 _ _ _ _ q0 hq0).2 (by decide))
  obtain ⟨q1, hq1, hf⟩ := Option.bind_eq_some_iff.mp hf
  have hIq1 : Fr SI_192 I q1.1 := frx_t (frx_u hIq0 (by decide) (by decide)) (frx_m (fr_55 _ _ _ q1 hq1).1 (by decide))
  have hLq1 : Fr SL_192 L q1.2 := frx_t hLq0 (frx_m (fr_55 _ _ _ q1 hq1).2 (by decide))
  cases hf; exact ⟨hIq1, hLq1⟩
def SI_192_1 : List Nat := [26, 27, 28, 29, 30, 31, 32]
def SL_192_1 : List Nat := []
theorem fr_192_1 (n : Nat) (x1 : Int32) (I : FI) (L : FL) (r : FI × FL) (hf : f_192_1 n x1 I L = some r) : Fr SI_192_1 I r.1 ∧ Fr SL_192_1 L r.2 := by
  unfold f_192_1 at hf
  obtain ⟨q0, hq0, hf⟩ := Option.bind_eq_some_iff.mp hf
  have hIq0 : Fr SI_192_1 I q0.1 := frx_t frx_r (frx_m (fr_53_1 _ _ _ _ q0 hq0).1 (by decide))
  have hLq0 : Fr SL_192_1 L q0.2 := frx_t frx_r (frx_m (fr_53_1 _ _ _ _ q0 hq0).2 (by decide))
  obtain ⟨q1, hq1, hf⟩ := Option.bind_eq_some_iff.mp hf
  have hIq1 : Fr SI_192_1 I q1.1 := frx_t (frx_u hIq0 (by decide) (by decide)) (frx_m (fr_55 _ _ _ q1 hq1).1 (by decide))
  have hLq1 : Fr SL_192_1 L q1.2 := frx_t hLq0 (frx_m (fr_55 _ _ _ q1 hq1).2 (by decide))
  cases hf; exact ⟨hIq1, hLq1⟩
def SI_156 : List Nat := [26, 27, 28, 29, 30, 31, 32]
def SL_156 : List Nat := []
theorem frc_156_2 (n : Nat) (nh : Option Nat) (K1 : Int32 → Int32 → Int32 → FI → FL → Option (Int32 × Option Nat × FI × FL)) (hK1 : ∀ (x1 : Int32) (x3 : Int32) (x4 : Int32) (I : FI) (L : FL) (r : Int32 × Option Nat × FI × FL), K1 x1 x3 x4 I L = some r → Fr SI_156 I r.2.2.1 ∧ Fr SL_156 L r.2.2.2) (x1 : Int32) (x3 : Int32) (x4 : Int32) (I : FI) (L : FL) (r : Int32 × Option Nat × FI × FL) (hf : c_156_2 n nh K1 x1 x3 x4 I L = some r) : Fr SI_156 I r.2.2.1 ∧ Fr SL_156 L r.2.2.2 := by
  unfold c_156_2 at hf
  rcases ite_some hf with ⟨hc, hf⟩ | ⟨hc, hf⟩
  · cases hf; exact ⟨frx_r, frx_r⟩
  · obtain ⟨q3, hq3, hf⟩ := Option.bind_eq_some_iff.mp hf
    have hIq3 : Fr SI_156 I q3.1 := frx_t frx_r (frx_m (fr_192_1 _ _ _ _ q3 hq3).1 (by decide))
    have hLq3 : Fr SL_156 L q3.2 := frx_t frx_r (frx_m (fr_192_1 _ _ _ _ q3 hq3).2 (by decide))
    rcases ite_some hf with ⟨hc, hf⟩ | ⟨hc, hf⟩
    · obtain ⟨q4, hq4, hf⟩ := Option.bind_eq_some_iff.mp hf
      rcases ite_some hf with ⟨hc, hf⟩ | ⟨hc, hf⟩
      · exact ⟨frx_t hIq3 (hK1 (0 : Int32) x3 x4 q3.1 q3.2 r hf).1, frx_t hLq3 (hK1 (0 : Int32) x3 x4 q3.1 q3.2 r hf).2⟩
      · exact ⟨frx_t hIq3 (hK1 (0 : Int32) (x3 ||| ((1 : Int32) <<< (x4 &&& 31))) x4 q3.1 q3.2 r hf).1, frx_t hLq3 (hK1 (0 : Int32) (x3 ||| ((1 : Int32) <<< (x4 &&& 31))) x4 q3.1 q3.2 r hf).2⟩
    rcases ite_some hf with ⟨hc, hf⟩ | ⟨hc, hf⟩
    · obtain ⟨q5, hq5, hf⟩ := Option.bind_eq_some_iff.mp hf
      rcases ite_some hf with ⟨hc, hf⟩ | ⟨hc, hf⟩
      · exact ⟨frx_t hIq3 (hK1 (1 : Int32) x3 x4 q3.1 q3.2 r hf).1, frx_t hLq3 (hK1 (1 : Int32) x3 x4 q3.1 q3.2 r hf).2⟩
      · exact ⟨frx_t hIq3 (hK1 (1 : Int32) (x3 ||| ((1 : Int32) <<< (x4 &&& 31))) x4 q3.1 q3.2 r hf).1, frx_t hLq3 (hK1 (1 : Int32) (x3 ||| ((1 : Int32) <<< (x4 &&& 31))) x4 q3.1 q3.2 r hf).2⟩
    rcases ite_some hf with ⟨hc, hf⟩ | ⟨hc, hf⟩
    · obtain ⟨q6, hq6, hf⟩ := Option.bind_eq_some_iff.mp hf
      rcases ite_some hf with ⟨hc, hf⟩ | ⟨hc, hf⟩
      · exact ⟨frx_t hIq3 (hK1 (2 : Int32) x3 x4 q3.1 q3.2 r hf).1, frx_t hLq3 (hK1 (2 : Int32) x3 x4 q3.1 q3.2 r hf).2⟩
      · exact ⟨frx_t hIq3 (hK1 (2 : Int32) (x3 ||| ((1 : Int32) <<< (x4 &&& 31))) x4 q3.1 q3.2 r hf).1, frx_t hLq3 (hK1 (2 : Int32) (x3 ||| ((1 : Int32) <<< (x4 &&& 31))) x4 q3.1 q3.2 r hf).2⟩
    rcases ite_some hf with ⟨hc, hf⟩ | ⟨hc, hf⟩
    · obtain ⟨q7, hq7, hf⟩ := Option.bind_eq_some_iff.mp hf
      rcases ite_some hf with ⟨hc, hf⟩ | ⟨hc, hf⟩
      · exact ⟨frx_t hIq3 (hK1 (3 : Int32) x3 x4 q3.1 q3.2 r hf).1, frx_t hLq3 (hK1 (3 : Int32) x3 x4 q3.1 q3.2 r hf).2⟩
      · exact ⟨frx_t hIq3 (hK1 (3 : Int32) (x3 ||| ((1 : Int32) <<< (x4 &&& 31))) x4 q3.1 q3.2 r hf).1, frx_t hLq3 (hK1 (3 : Int32) (x3 ||| ((1 : Int32) <<< (x4 &&& 31))) x4 q3.1 q3.2 r hf).2⟩
    cases hf
theorem frc_156_1 (n : Nat) (nh : Option Nat) : ∀ (m : Nat) (x1 : Int32) (x3 : Int32) (x4 : Int32) (I : FI) (L : FL) (r : Int32 × Option Nat × FI × FL), c_156_1 n nh m x1 x3 x4 I L = some r → Fr SI_156 I r.2.2.1 ∧ Fr SL_156 L r.2.2.2
  | 0, x1, x3, x4, I, L, r, hf => by cases hf
  | m + 1, x1, x3, x4, I, L, r, hf => by
    unfold c_156_1 b_156_1 at hf
    have hK1 := frc_156_1 n nh m
    exact ⟨frx_t frx_r (frc_156_2 n nh _ hK1 x1 x3 (x4 + (1 : Int32)) I L r hf).1, frx_t frx_r (frc_156_2 n nh _ hK1 x1 x3 (x4 + (1 : Int32)) I L r hf).2⟩
theorem frc_156_0 (n : Nat) (nh : Option Nat) (x1 : Int32) (x3 : Int32) (x4 : Int32) (I : FI) (L : FL) (r : Int32 × Option Nat × FI × FL) (hf : c_156_0 n nh x1 x3 x4 I L = some r) : Fr SI_156 I r.2.2.1 ∧ Fr SL_156 L r.2.2.2 := by
  unfold c_156_0 at hf
  rcases ite_some hf with ⟨hc, hf⟩ | ⟨hc, hf⟩
  · cases hf; exact ⟨frx_r, frx_r⟩
  · obtain ⟨q1, hq1, hf⟩ := Option.bind_eq_some_iff.mp hf
    have hIq1 : Fr SI_156 I q1.1 := frx_t frx_r (frx_m (fr_192 _ _ _ _ q1 hq1).1 (by decide))
    have hLq1 : Fr SL_156 L q1.2 := frx_t frx_r (frx_m (fr_192 _ _ _ _ q1 hq1).2 (by decide))
    rcases ite_some hf with ⟨hc, hf⟩ | ⟨hc, hf⟩
    · obtain ⟨q2, hq2, hf⟩ := Option.bind_eq_some_iff.mp hf
      rcases ite_some hf with ⟨hc, hf⟩ | ⟨hc, hf⟩
      · exact ⟨frx_t hIq1 (frc_156_1 n nh n (0 : Int32) x3 x4 q1.1 q1.2 r hf).1, frx_t hLq1 (frc_156_1 n nh n (0 : Int32) x3 x4 q1.1 q1.2 r hf).2⟩
      · exact ⟨frx_t hIq1 (frc_156_1 n nh n (0 : Int32) (x3 ||| ((1 : Int32) <<< (x4 &&& 31))) x4 q1.1 q1.2 r hf).1, frx_t hLq1 (frc_156_1 n nh n (0 : Int32) (x3 ||| ((1 : Int32) <<< (x4 &&& 31))) x4 q1.1 q1.2 r hf).2⟩
    rcases ite_some hf with ⟨hc, hf⟩ | ⟨hc, hf⟩
    · obtain ⟨q8, hq8, hf⟩ := Option.bind_eq_some_iff.mp hf
      rcases ite_some hf with ⟨hc, hf⟩ | ⟨hc, hf⟩
      · exact ⟨frx_t hIq1 (frc_156_1 n nh n (1 : Int32) x3 x4 q1.1 q1.2 r hf).1, frx_t hLq1 (frc_156_1 n nh n (1 : Int32) x3 x4 q1.1 q1.2 r hf).2⟩
      · exact ⟨frx_t hIq1 (frc_156_1 n nh n (1 : Int32) (x3 ||| ((1 : Int32) <<< (x4 &&& 31))) x4 q1.1 q1.2 r hf).1, frx_t hLq1 (frc_156_1 n nh n (1 : Int32) (x3 ||| ((1 : Int32) <<< (x4 &&& 31))) x4 q1.1 q1.2 r hf).2⟩
    rcases ite_some hf with ⟨hc, hf⟩ | ⟨hc, hf⟩
    · obtain ⟨q9, hq9, hf⟩ := Option.bind_eq_some_iff.mp hf
      rcases ite_some hf with ⟨hc, hf⟩ | ⟨hc, hf⟩
      · exact ⟨frx_t hIq1 (frc_156_1 n nh n (2 : Int32) x3 x4 q1.1 q1.2 r hf).1, frx_t hLq1 (frc_156_1 n nh n (2 : Int32) x3 x4 q1.1 q1.2 r hf).2⟩
      · exact ⟨frx_t hIq1 (frc_156_1 n nh n (2 : Int32) (x3 ||| ((1 : Int32) <<< (x4 &&& 31))) x4 q1.1 q1.2 r hf).1, frx_t hLq1 (frc_156_1 n nh n (2 : Int32) (x3 ||| ((1 : Int32) <<< (x4 &&& 31))) x4 q1.1 q1.2 r hf).2⟩
    rcases ite_some hf with ⟨hc, hf⟩ | ⟨hc, hf⟩
    · obtain ⟨q10, hq10, hf⟩ := Option.bind_eq_some_iff.mp hf
      rcases ite_some hf with ⟨hc, hf⟩ | ⟨hc, hf⟩
      · exact ⟨frx_t hIq1 (frc_156_1 n nh n (3 : Int32) x3 x4 q1.1 q1.2 r hf).1, frx_t hLq1 (frc_156_1 n nh n (3 : Int32) x3 x4 q1.1 q1.2 r hf).2⟩
      · exact ⟨frx_t hIq1 (frc_156_1 n nh n (3 : Int32) (x3 ||| ((1 : Int32) <<< (x4 &&& 31))) x4 q1.1 q1.2 r hf).1, frx_t hLq1 (frc_156_1 n nh n (3 : Int32) (x3 ||| ((1 : Int32) <<< (x4 &&& 31))) x4 q1.1 q1.2 r hf).2⟩
    cases hf
theorem fr_156 (n : Nat) (nh : Option Nat) (x1 : Int32) (I : FI) (L : FL) (r : Int32 × Option Nat × FI × FL) (hf : f_156 n nh x1 I L = some r) : Fr SI_156 I r.2.2.1 ∧ Fr SL_156 L r.2.2.2 := by
  unfold f_156 at hf
  obtain ⟨q0, hq0, hf⟩ := Option.bind_eq_some_iff.mp hf
  rcases ite_some hf with ⟨hc, hf⟩ | ⟨hc, hf⟩
  · exact ⟨frx_t frx_r (frc_156_0 n nh x1 (0 : Int32) (0 : Int32) I L r hf).1, frx_t frx_r (frc_156_0 n nh x1 (0 : Int32) (0 : Int32) I L r hf).2⟩
  · cases hf; exact ⟨frx_r, frx_r⟩
def SI_157 : List Nat := [26, 27, 28, 29, 30, 31, 32]
def SL_157 : List Nat := []
theorem fr_157 (n : Nat) (nh : Option Nat) (x1 : Int32) (I : FI) (L : FL) (r : Int32 × Option Nat × FI × FL) (hf : f_157 n nh x1 I L = some r) : Fr SI_157 I r.2.2.1 ∧ Fr SL_157 L r.2.2.2 := by
  unfold f_157 at hf
  obtain ⟨q0, hq0, hf⟩ := Option.bind_eq_some_iff.mp hf
  rcases ite_some hf with ⟨hc, hf⟩ | ⟨hc, hf⟩
  · cases hf; exact ⟨frx_r, frx_r⟩
  · rcases ite_some hf with ⟨hc, hf⟩ | ⟨hc, hf⟩
    · cases hf; exact ⟨frx_r, frx_r⟩
    · rcases ite_some hf with ⟨hc, hf⟩ | ⟨hc, hf⟩
      · obtain ⟨q1, hq1, hf⟩ := Option.bind_eq_some_iff.mp hf
        have hIq1 : Fr SI_157 I q1.1 := frx_t frx_r (frx_m (fr_192 _ _ _ _ q1 hq1).1 (by decide))
        have hLq1 : Fr SL_157 L q1.2 := frx_t frx_r (frx_m (fr_192 _ _ _ _ q1 hq1).2 (by decide))
        obtain ⟨q2, hq2, hf⟩ := Option.bind_eq_some_iff.mp hf
        cases hf; exact ⟨hIq1, hLq1⟩
      · cases hf; exact ⟨frx_r, frx_r⟩
def SI_158 : List Nat := [26, 27, 28, 29, 30, 31, 32]
def SL_158 : List Nat := []
theorem frc_158_2 (n : Nat) (nh : Option Nat) (K1 : Int32 → Int32 → Int32 → FI → FL → Option (Int32 × Option Nat × FI × FL)) (hK1 : ∀ (x1 : Int32) (x2 : Int32) (x3 : Int32) (I : FI) (L : FL) (r : Int32 × Option Nat × FI × FL), K1 x1 x2 x3 I L = some r → Fr SI_158 I r.2.2.1 ∧ Fr SL_158 L r.2.2.2) (x1 : Int32) (x2 : Int32) (x3 : Int32) (I : FI) (L : FL) (r : Int32 × Option Nat × FI × FL) (hf : c_158_2 n nh K1 x1 x2 x3 I L = some r) : Fr SI_158 I r.2.2.1 ∧ Fr SL_158 L r.2.2.2 := by
  unfold c_158_2 at hf
  rcases ite_some hf with ⟨hc, hf⟩ | ⟨hc, hf⟩
  · cases hf; exact ⟨frx_r, frx_r⟩
  · obtain ⟨q4, hq4, hf⟩ := Option.bind_eq_some_iff.mp hf
    have hIq4 : Fr SI_158 I q4.1 := frx_t frx_r (frx_m (fr_192_1 _ _ _ _ q4 hq4).1 (by decide))
    have hLq4 : Fr SL_158 L q4.2 := frx_t frx_r (frx_m (fr_192_1 _ _ _ _ q4 hq4).2 (by decide))
    obtain ⟨q5, hq5, hf⟩ := Option.bind_eq_some_iff.mp hf
    obtain ⟨q6, hq6, hf⟩ := Option.bind_eq_some_iff.mp hf
    rcases ite_some hf with ⟨hc, hf⟩ | ⟨hc, hf⟩
    · exact ⟨frx_t hIq4 (hK1 x1 x2 x3 q4.1 q4.2 r hf).1, frx_t hLq4 (hK1 x1 x2 x3 q4.1 q4.2 r hf).2⟩
    · exact ⟨frx_t hIq4 (hK1 x3 q6 x3 q4.1 q4.2 r hf).1, frx_t hLq4 (hK1 x3 q6 x3 q4.1 q4.2 r hf).2⟩
theorem frc_158_1 (n : Nat) (nh : Option Nat) : ∀ (m : Nat) (x1 : Int32) (x2 : Int32) (x3 : Int32) (I : FI) (L : FL) (r : Int32 × Option Nat × FI × FL), c_158_1 n nh m x1 x2 x3 I L = some r → Fr SI_158 I r.2.2.1 ∧ Fr SL_158 L r.2.2.2
  | 0, x1, x2, x3, I, L, r, hf => by cases hf
  | m + 1, x1, x2, x3, I, L, r, hf => by
    unfold c_158_1 b_158_1 at hf
    have hK1 := frc_158_1 n nh m
    exact ⟨frx_t frx_r (frc_158_2 n nh _ hK1 x1 x2 (x3 + (1 : Int32)) I L r hf).1, frx_t frx_r (frc_158_2 n nh _ hK1 x1 x2 (x3 + (1 : Int32)) I L r hf).2⟩
theorem frc_158_0 (n : Nat) (nh : Option Nat) (x1 : Int32) (x2 : Int32) (x3 : Int32) (I : FI) (L : FL) (r : Int32 × Option Nat × FI × FL) (hf : c_158_0 n nh x1 x2 x3 I L = some r) : Fr SI_158 I r.2.2.1 ∧ Fr SL_158 L r.2.2.2 := by
  unfold c_158_0 at hf
  rcases ite_some hf with ⟨hc, hf⟩ | ⟨hc, hf⟩
  · cases hf; exact ⟨frx_r, frx_r⟩
  · obtain ⟨q1, hq1, hf⟩ := Option.bind_eq_some_iff.mp hf
    have hIq1 : Fr SI_158 I q1.1 := frx_t frx_r (frx_m (fr_192 _ _ _ _ q1 hq1).1 (by decide))
    have hLq1 : Fr SL_158 L q1.2 := frx_t frx_r (frx_m (fr_192 _ _ _ _ q1 hq1).2 (by decide))
    obtain ⟨q2, hq2, hf⟩ := Option.bind_eq_some_iff.mp hf
    obtain ⟨q3, hq3, hf⟩ := Option.bind_eq_some_iff.mp hf
    rcases ite_some hf with ⟨hc, hf⟩ | ⟨hc, hf⟩
    · exact ⟨frx_t hIq1 (frc_158_1 n nh n x1 x2 x3 q1.1 q1.2 r hf).1, frx_t hLq1 (frc_158_1 n nh n x1 x2 x3 q1.1 q1.2 r hf).2⟩
    · exact ⟨frx_t hIq1 (frc_158_1 n nh n x3 q3 x3 q1.1 q1.2 r hf).1, frx_t hLq1 (frc_158_1 n nh n x3 q3 x3 q1.1 q1.2 r hf).2⟩
theorem fr_158 (n : Nat) (nh : Option Nat) (I : FI) (L : FL) (r : Int32 × Option Nat × FI × FL) (hf : f_158 n nh I L = some r) : Fr SI_158 I r.2.2.1 ∧ Fr SL_158 L r.2.2.2 := by
  unfold f_158 at hf
  obtain ⟨q0, hq0, hf⟩ := Option.bind_eq_some_iff.mp hf
  rcases ite_some hf with ⟨hc, hf⟩ | ⟨hc, hf⟩
  · exact ⟨frx_t frx_r (frc_158_0 n nh (0 : Int32) (-1 : Int32) (0 : Int32) I L r hf).1, frx_t frx_r (frc_158_0 n nh (0 : Int32) (-1 : Int32) (0 : Int32) I L r hf).2⟩
  · cases hf; exact ⟨frx_r, frx_r⟩
def SI_54 : List Nat := [27]
def SL_54 : List Nat := []
theorem fr_54 (x1 : Int32) (x2 : Int32) (I : FI) (L : FL) (r : FI × FL) (hf : f_54 x1 x2 I L = some r) : Fr SI_54 I r.1 ∧ Fr SL_54 L r.2 := by
  unfold f_54 at hf
  rcases ite_some hf with ⟨hc, hf⟩ | ⟨hc, hf⟩
  · obtain ⟨q0, hq0, hf⟩ := Option.bind_eq_some_iff.mp hf
    rcases ite_some hf with ⟨hc, hf⟩ | ⟨hc, hf⟩
    · cases hf; exact ⟨(frx_u frx_r (by decide) (by decide)), frx_r⟩
    · cases hf
  · cases hf
def SI_195 : List Nat := [26, 27, 28, 29, 30, 31, 32]
def SL_195 : List Nat := []
theorem fr_195 (n : Nat) (x1 : Int32) (x2 : Int32) (x3 : Int32) (x4 : Int32) (I : FI) (L : FL) (r : Int32 × FI × FL) (hf : f_195 n x1 x2 x3 x4 I L = some r) : Fr SI_195 I r.2.1 ∧ Fr SL_195 L r.2.2 := by
  unfold f_195 at hf
  obtain ⟨q0, hq0, hf⟩ := Option.bind_eq_some_iff.mp hf
  have hIq0 : Fr SI_195 I q0.1 := frx_t frx_r (frx_m (fr_53 _ _ _ _ q0 hq0).1 (by decide))
  have hLq0 : Fr SL_195 L q0.2 := frx_t frx_r (frx_m (fr_53 _ _ _ _ q0 hq0).2 (by decide))
  obtain ⟨q1, hq1, hf⟩ := Option.bind_eq_some_iff.mp hf
  have hIq1 : Fr SI_195 I q1.1 := frx_t (frx_u hIq0 (by decide) (by decide)) (frx_m (fr_54 _ _ _ _ q1 hq1).1 (by decide))
  have hLq1 : Fr SL_195 L q1.2 := frx_t hLq0 (frx_m (fr_54 _ _ _ _ q1 hq1).2 (by decide))
  obtain ⟨q2, hq2, hf⟩ := Option.bind_eq_some_iff.mp hf
  have hIq2 : Fr SI_195 I q2.1 := frx_t hIq1 (frx_m (fr_54 _ _ _ _ q2 hq2).1 (by decide))
  have hLq2 : Fr SL_195 L q2.2 := frx_t hLq1 (frx_m (fr_54 _ _ _ _ q2 hq2).2 (by decide))
  obtain ⟨q3, hq3, hf⟩ := Option.bind_eq_some_iff.mp hf
  have hIq3 : Fr SI_195 I q3.1 := frx_t hIq2 (frx_m (fr_55 _ _ _ q3 hq3).1 (by decide))
  have hLq3 : Fr SL_195 L q3.2 := frx_t hLq2 (frx_m (fr_55 _ _ _ q3 hq3).2 (by decide))
  obtain ⟨q4, hq4, hf⟩ := Option.bind_eq_some_iff.mp hf
  cases hf; exact ⟨hIq3, hLq3⟩
def SI_195_1 : List Nat := [26, 27, 28, 29, 30, 31, 32]
def SL_195_1 : List Nat := []
theorem fr_195_1 (n : Nat) (x1 : Int32) (x2 : Int32) (x3 : Int32) (x4 : Int32) (I : FI) (L : FL) (r : Int32 × FI × FL) (hf : f_195_1 n x1 x2 x3 x4 I L = some r) : Fr SI_195_1 I r.2.1 ∧ Fr SL_195_1 L r.2.2 := by
  unfold f_195_1 at hf
  obtain ⟨q0, hq0, hf⟩ := Option.bind_eq_some_iff.mp hf
  have hIq0 : Fr SI_195_1 I q0.1 := frx_t frx_r (frx_m (fr_53_1 _ _ _ _ q0 hq0).1 (by decide))
  have hLq0 : Fr SL_195_1 L q0.2 := frx_t frx_r (frx_m (fr_53_1 _ _ _ _ q0 hq0).2 (by decide))
  obtain ⟨q1, hq1, hf⟩ := Option.bind_eq_some_iff.mp hf
  have hIq1 : Fr SI_195_1 I q1.1 := frx_t (frx_u hIq0 (by decide) (by decide)) (frx_m (fr_54 _ _ _ _ q1 hq1).1 (by decide))
  have hLq1 : Fr SL_195_1 L q1.2 := frx_t hLq0 (frx_m (fr_54 _ _ _ _ q1 hq1).2 (by decide))
  obtain ⟨q2, hq2, hf⟩ := Option.bind_eq_some_iff.mp hf
  have hIq2 : Fr SI_195_1 I q2.1 := frx_t hIq1 (frx_m (fr_54 _ _ _ _ q2 hq2).1 (by decide))
  have hLq2 : Fr SL_195_1 L q2.2 := frx_t hLq1 (frx_m (fr_54 _ _ _ _ q2 hq2).2 (by decide))
  obtain ⟨q3, hq3, hf⟩ := Option.bind_eq_some_iff.mp hf
  have hIq3 : Fr SI_195_1 I q3.1 := frx_t hIq2 (frx_m (fr_55 _ _ _ q3 hq3).1 (by decide))
  have hLq3 : Fr SL_195_1 L q3.2 := frx_t hLq2 (frx_m (fr_55 _ _ _ q3 hq3).2 (by decide))
  obtain ⟨q4, hq4, hf⟩ := Option.bind_eq_some_iff.mp hf
  cases hf; exact ⟨hIq3, hLq3⟩
def SI_159 : List Nat := [26, 27, 28, 29, 30, 31, 32]
def SL_159 : List Nat := []
theorem frc_159_4 (n : Nat) (nh : Option Nat) (K1 : Int32 → Int32 → Int32 → Int32 → Int32 → Int32 → Int32 → FI → FL → Option (Int32 × Option Nat × FI × FL)) (hK1 : ∀ (x1 : Int32) (x2 : Int32) (x3 : Int32) (x4 : Int32) (x5 : Int32) (x6 : Int32) (s0 : Int32) (I : FI) (L : FL) (r : Int32 × Option Nat × FI × FL), K1 x1 x2 x3 x4 x5 x6 s0 I L = some r → Fr SI_159 I r.2.2.1 ∧ Fr SL_159 L r.2.2.2) (x1 : Int32) (x2 : Int32) (x3 : Int32) (x4 : Int32) (I : FI) (L : FL) (r : Int32 × Option Nat × FI × FL) (hf : c_159_4 n nh K1 x1 x2 x3 x4 I L = some r) : Fr SI_159 I r.2.2.1 ∧ Fr SL_159 L r.2.2.2 := by
  unfold c_159_4 at hf
  rcases ite_some hf with ⟨hc, hf⟩ | ⟨hc, hf⟩
  · cases hf; exact ⟨frx_r, frx_r⟩
  · obtain ⟨q5, hq5, hf⟩ := Option.bind_eq_some_iff.mp hf
    have hIq5 : Fr SI_159 I q5.2.1 := frx_t frx_r (frx_m (fr_195_1 _ _ _ _ _ _ _ q5 hq5).1 (by decide))
    have hLq5 : Fr SL_159 L q5.2.2 := frx_t frx_r (frx_m (fr_195_1 _ _ _ _ _ _ _ q5 hq5).2 (by decide))
    obtain ⟨q6, hq6, hf⟩ := Option.bind_eq_some_iff.mp hf
    have hIq6 : Fr SI_159 I q6.2.1 := frx_t hIq5 (frx_m (fr_195_1 _ _ _ _ _ _ _ q6 hq6).1 (by decide))
    have hLq6 : Fr SL_159 L q6.2.2 := frx_t hLq5 (frx_m (fr_195_1 _ _ _ _ _ _ _ q6 hq6).2 (by decide))
    rcases ite_some hf with ⟨hc, hf⟩ | ⟨hc, hf⟩
    · exact ⟨frx_t hIq6 (hK1 x1 x2 x3 x4 (x4 &&& (1 : Int32)) (x4 >>> ((1 : Int32) &&& 31)) (0 : Int32) q6.2.1 q6.2.2 r hf).1, frx_t hLq6 (hK1 x1 x2 x3 x4 (x4 &&& (1 : Int32)) (x4 >>> ((1 : Int32) &&& 31)) (0 : Int32) q6.2.1 q6.2.2 r hf).2⟩
    · exact ⟨frx_t hIq6 (hK1 x1 x2 x3 x4 (x4 &&& (1 : Int32)) (x4 >>> ((1 : Int32) &&& 31)) (1 : Int32) q6.2.1 q6.2.2 r hf).1, frx_t hLq6 (hK1 x1 x2 x3 x4 (x4 &&& (1 : Int32)) (x4 >>> ((1 : Int32) &&& 31)) (1 : Int32) q6.2.1 q6.2.2 r hf).2⟩
theorem frc_159_3 (n : Nat) (nh : Option Nat) (K1 : Int32 → Int32 → Int32 → Int32 → Int32 → Int32 → Int32 → FI → FL → Option (Int32 × Option Nat × FI × FL)) (hK1 : ∀ (x1 : Int32) (x2 : Int32) (x3 : Int32) (x4 : Int32) (x5 : Int32) (x6 : Int32) (s0 : Int32) (I : FI) (L : FL) (r : Int32 × Option Nat × FI × FL), K1 x1 x2 x3 x4 x5 x6 s0 I L = some r → Fr SI_159 I r.2.2.1 ∧ Fr SL_159 L r.2.2.2) (x1 : Int32) (x2 : Int32) (x3 : Int32) (x4 : Int32) (I : FI) (L : FL) (r : Int32 × Option Nat × FI × FL) (hf : c_159_3 n nh K1 x1 x2 x3 x4 I L = some r) : Fr SI_159 I r.2.2.1 ∧ Fr SL_159 L r.2.2.2 := by
  unfold c_159_3 at hf
  exact ⟨frx_t frx_r (frc_159_4 n nh _ hK1 x1 x2 x3 (x4 + (1 : Int32)) I L r hf).1, frx_t frx_r (frc_159_4 n nh _ hK1 x1 x2 x3 (x4 + (1 : Int32)) I L r hf).2⟩
theorem frc_159_2 (n : Nat) (nh : Option Nat) (K1 : Int32 → Int32 → Int32 → Int32 → Int32 → Int32 → Int32 → FI → FL → Option (Int32 × Option Nat × FI × FL)) (hK1 : ∀ (x1 : Int32) (x2 : Int32) (x3 : Int32) (x4 : Int32) (x5 : Int32) (x6 : Int32) (s0 : Int32) (I : FI) (L : FL) (r : Int32 × Option Nat × FI × FL), K1 x1 x2 x3 x4 x5 x6 s0 I L = some r → Fr SI_159 I r.2.2.1 ∧ Fr SL_159 L r.2.2.2) (x1 : Int32) (x2 : Int32) (x3 : Int32) (x4 : Int32) (x7 : Int32) (s0 : Int32) (I : FI) (L : FL) (r : Int32 × Option Nat × FI × FL) (hf : c_159_2 n nh K1 x1 x2 x3 x4 x7 s0 I L = some r) : Fr SI_159 I r.2.2.1 ∧ Fr SL_159 L r.2.2.2 := by
  unfold c_159_2 at hf
  rcases ite_some hf with ⟨hc, hf⟩ | ⟨hc, hf⟩
  · exact ⟨frx_t frx_r (frc_159_3 n nh _ hK1 x1 x2 x3 x4 I L r hf).1, frx_t frx_r (frc_159_3 n nh _ hK1 x1 x2 x3 x4 I L r hf).2⟩
  · rcases ite_some hf with ⟨hc, hf⟩ | ⟨hc, hf⟩
    · exact ⟨frx_t frx_r (frc_159_3 n nh _ hK1 x1 x2 x3 x4 I L r hf).1, frx_t frx_r (frc_159_3 n nh _ hK1 x1 x2 x3 x4 I L r hf).2⟩
    · exact ⟨frx_t frx_r (frc_159_3 n nh _ hK1 x1 x2 (x3 ||| ((1 : Int32) <<< (x4 &&& 31))) x4 I L r hf).1, frx_t frx_r (frc_159_3 n nh _ hK1 x1 x2 (x3 ||| ((1 : Int32) <<< (x4 &&& 31))) x4 I L r hf).2⟩
theorem frc_159_1 (n : Nat) (nh : Option Nat) : ∀ (m : Nat) (x1 : Int32) (x2 : Int32) (x3 : Int32) (x4 : Int32) (x5 : Int32) (x6 : Int32) (s0 : Int32) (I : FI) (L : FL) (r : Int32 × Option Nat × FI × FL), c_159_1 n nh m x1 x2 x3 x4 x5 x6 s0 I L = some r → Fr SI_159 I r.2.2.1 ∧ Fr SL_159 L r.2.2.2
  | 0, x1, x2, x3, x4, x5, x6, s0, I, L, r, hf => by cases hf
  | m + 1, x1, x2, x3, x4, x5, x6, s0, I, L, r, hf => by
    unfold c_159_1 b_159_1 at hf
    have hK1 := frc_159_1 n nh m
    obtain ⟨q3, hq3, hf⟩ := Option.bind_eq_some_iff.mp hf
    have hIq3 : Fr SI_159 I q3.2.1 := frx_t frx_r (frx_m (fr_195_1 _ _ _ _ _ _ _ q3 hq3).1 (by decide))
    have hLq3 : Fr SL_159 L q3.2.2 := frx_t frx_r (frx_m (fr_195_1 _ _ _ _ _ _ _ q3 hq3).2 (by decide))
    obtain ⟨q4, hq4, hf⟩ := Option.bind_eq_some_iff.mp hf
    have hIq4 : Fr SI_159 I q4.2.1 := frx_t hIq3 (frx_m (fr_195_1 _ _ _ _ _ _ _ q4 hq4).1 (by decide))
    have hLq4 : Fr SL_159 L q4.2.2 := frx_t hLq3 (frx_m (fr_195_1 _ _ _ _ _ _ _ q4 hq4).2 (by decide))
    rcases ite_some hf with ⟨hc, hf⟩ | ⟨hc, hf⟩
    · exact ⟨frx_t hIq4 (frc_159_2 n nh _ hK1 x1 x2 x3 x4 s0 (0 : Int32) q4.2.1 q4.2.2 r hf).1, frx_t hLq4 (frc_159_2 n nh _ hK1 x1 x2 x3 x4 s0 (0 : Int32) q4.2.1 q4.2.2 r hf).2⟩
    · exact ⟨frx_t hIq4 (frc_159_2 n nh _ hK1 x1 x2 x3 x4 s0 (1 : Int32) q4.2.1 q4.2.2 r hf).1, frx_t hLq4 (frc_159_2 n nh _ hK1 x1 x2 x3 x4 s0 (1 : Int32) q4.2.1 q4.2.2 r hf).2⟩
theorem frc_159_0 (n : Nat) (nh : Option Nat) (x1 : Int32) (x2 : Int32) (x3 : Int32) (x4 : Int32) (I : FI) (L : FL) (r : Int32 × Option Nat × FI × FL) (hf : c_159_0 n nh x1 x2 x3 x4 I L = some r) : Fr SI_159 I r.2.2.1 ∧ Fr SL_159 L r.2.2.2 := by
  unfold c_159_0 at hf
  rcases ite_some hf with ⟨hc, hf⟩ | ⟨hc, hf⟩
  · cases hf; exact ⟨frx_r, frx_r⟩
  · obtain ⟨q1, hq1, hf⟩ := Option.bind_eq_some_iff.mp hf
    have hIq1 : Fr SI_159 I q1.2.1 := frx_t frx_r (frx_m (fr_195 _ _ _ _ _ _ _ q1 hq1).1 (by decide))
    have hLq1 : Fr SL_159 L q1.2.2 := frx_t frx_r (frx_m (fr_195 _ _ _ _ _ _ _ q1 hq1).2 (by decide))
    obtain ⟨q2, hq2, hf⟩ := Option.bind_eq_some_iff.mp hf
    have hIq2 : Fr SI_159 I q2.2.1 := frx_t hIq1 (frx_m (fr_195_1 _ _ _ _ _ _ _ q2 hq2).1 (by decide))
    have hLq2 : Fr SL_159 L q2.2.2 := frx_t hLq1 (frx_m (fr_195_1 _ _ _ _ _ _ _ q2 hq2).2 (by decide))
    rcases ite_some hf with ⟨hc, hf⟩ | ⟨hc, hf⟩
    · exact ⟨frx_t hIq2 (frc_159_1 n nh n x1 x2 x3 x4 (x4 &&& (1 : Int32)) (x4 >>> ((1 : Int32) &&& 31)) (0 : Int32) q2.2.1 q2.2.2 r hf).1, frx_t hLq2 (frc_159_1 n nh n x1 x2 x3 x4 (x4 &&& (1 : Int32)) (x4 >>> ((1 : Int32) &&& 31)) (0 : Int32) q2.2.1 q2.2.2 r hf).2⟩
    · exact ⟨frx_t hIq2 (frc_159_1 n nh n x1 x2 x3 x4 (x4 &&& (1 : Int32)) (x4 >>> ((1 : Int32) &&& 31)) (1 : Int32) q2.2.1 q2.2.2 r hf).1, frx_t hLq2 (frc_159_1 n nh n x1 x2 x3 x4 (x4 &&& (1 : Int32)) (x4 >>> ((1 : Int32) &&& 31)) (1 : Int32) q2.2.1 q2.2.2 r hf).2⟩
theorem fr_159 (n : Nat) (nh : Option Nat) (x1 : Int32) (x2 : Int32) (I : FI) (L : FL) (r : Int32 × Option Nat × FI × FL) (hf : f_159 n nh x1 x2 I L = some r) : Fr SI_159 I r.2.2.1 ∧ Fr SL_159 L r.2.2.2 := by
  unfold f_159 at hf
  obtain ⟨q0, hq0, hf⟩ := Option.bind_eq_some_iff.mp hf
  rcases ite_some hf with ⟨hc, hf⟩ | ⟨hc, hf⟩
  · exact ⟨frx_t frx_r (frc_159_0 n nh x1 x2 (0 : Int32) (0 : Int32) I L r hf).1, frx_t frx_r (frc_159_0 n nh x1 x2 (0 : Int32) (0 : Int32) I L r hf).2⟩
  · cases hf; exact ⟨frx_r, frx_r⟩
def SI_160 : List Nat := [26, 27, 28, 29, 30, 31, 32]
def SL_160 : List Nat := []
theorem fr_160 (n : Nat) (nh : Option Nat) (x1 : Int32) (x2 : Int32) (x3 : Int32) (x4 : Int32) (I : FI) (L : FL) (r : Int32 × Option Nat × FI × FL) (hf : f_160 n nh x1 x2 x3 x4 I L = some r) : Fr SI_160 I r.2.2.1 ∧ Fr SL_160 L r.2.2.2 := by
  unfold f_160 at hf
  obtain ⟨q0, hq0, hf⟩ := Option.bind_eq_some_iff.mp hf
  rcases ite_some hf with ⟨hc, hf⟩ | ⟨hc, hf⟩
  · cases hf; exact ⟨frx_r, frx_r⟩
  · obtain ⟨q1, hq1, hf⟩ := Option.bind_eq_some_iff.mp hf
    rcases ite_some hf with ⟨hc, hf⟩ | ⟨hc, hf⟩
    · cases hf; exact ⟨frx_r, frx_r⟩
    · obtain ⟨q2, hq2, hf⟩ := Option.bind_eq_some_iff.mp hf
      rcases ite_some hf with ⟨hc, hf⟩ | ⟨hc, hf⟩
      · obtain ⟨q3, hq3, hf⟩ := Option.bind_eq_some_iff.mp hf
        have hIq3 : Fr SI_160 I q3.2.1 := frx_t frx_r (frx_m (fr_195 _ _ _ _ _ _ _ q3 hq3).1 (by decide))
        have hLq3 : Fr SL_160 L q3.2.2 := frx_t frx_r (frx_m (fr_195 _ _ _ _ _ _ _ q3 hq3).2 (by decide))
        cases hf; exact ⟨hIq3, hLq3⟩
      · cases hf; exact ⟨frx_r, frx_r⟩
def SI_193 : List Nat := [26, 27, 28, 29, 30, 31, 32]
def SL_193 : List Nat := []
theorem fr_193 (n : Nat) (x1 : Int32) (I : FI) (L : FL) (r : FI × FL) (hf : f_193 n x1 I L = some r) : Fr SI_193 I r.1 ∧ Fr SL_193 L r.2 := by
  unfold f_193 at hf
  obtain ⟨q0, hq0, hf⟩ := Option.bind_eq_some_iff.mp hf
  have hIq0 : Fr SI_193 I q0.1 := frx_t frx_r (frx_m (fr_53 _ _ _ _ q0 hq0).1 (by decide))
  have hLq0 : Fr SL_193 L q0.2 := frx_t frx_r (frx_m (fr_53 _ _ _ _ q0 hq0).2 (by decide))
  obtain ⟨q1, hq1, hf⟩ := Option.bind_eq_some_iff.mp hf
  have hIq1 : Fr SI_193 I q1.1 := frx_t hIq0 (frx_m (fr_55 _ _ _ q1 hq1).1 (by decide))
  have hLq1 : Fr SL_193 L q1.2 := frx_t hLq0 (frx_m (fr_55 _ _ _ q1 hq1).2 (by decide))
  cases hf; exact ⟨hIq1, hLq1⟩
def SI_193_1 : List Nat := [26, 27, 28, 29, 30, 31, 32]
def SL_193_1 : List Nat := []
theorem fr_193_1 (n : Nat) (x1 : Int32) (I : FI) (L : FL) (r : FI × FL) (hf : f_193_1 n x1 I L = some r) : Fr SI_193_1 I r.1 ∧ Fr SL_193_1 L r.2 := by
  unfold f_193_1 at hf
  obtain ⟨q0, hq0, hf⟩ := Option.bind_eq_some_iff.mp hf
  have hIq0 : Fr SI_193_1 I q0.1 := frx_t frx_r (frx_m (fr_53_1 _ _ _ _ q0 hq0).1 (by decide))
  have hLq0 : Fr SL_193_1 L q0.2 := frx_t frx_r (frx_m (fr_53_1 _ _ _ _ q0 hq0).2 (by decide))
  obtain ⟨q1, hq1, hf⟩ := Option.bind_eq_some_iff.mp hf
  have hIq1 : Fr SI_193_1 I q1.1 := frx_t hIq0 (frx_m (fr_55 _ _ _ q1 hq1).1 (by decide))
  have hLq1 : Fr SL_193_1 L q1.2 := frx_t hLq0 (frx_m (fr_55 _ _ _ q1 hq1).2 (by decide))
  cases hf; exact ⟨hIq1, hLq1⟩
def SI_161 : List Nat := [26, 27, 28, 29, 30, 31, 32]
def SL_161 : List Nat := []
theorem frc_161_2 (n : Nat) (nh : Option Nat) (K1 : Int32 → Int32 → Int32 → Int32 → FI → FL → Option (Int32 × Option Nat × FI × FL)) (hK1 : ∀ (x1 : Int32) (x2 : Int32) (x3 : Int32) (x4 : Int32) (I : FI) (L : FL) (r : Int32 × Option Nat × FI × FL), K1 x1 x2 x3 x4 I L = some r → Fr SI_161 I r.2.2.1 ∧ Fr SL_161 L r.2.2.2) (x1 : Int32) (x2 : Int32) (x3 : Int32) (x4 : Int32) (I : FI) (L : FL) (r : Int32 × Option Nat × FI × FL) (hf : c_161_2 n nh K1 x1 x2 x3 x4 I L = some r) : Fr SI_161 I r.2.2.1 ∧ Fr SL_161 L r.2.2.2 := by
  unfold c_161_2 at hf
  rcases ite_some hf with ⟨hc, hf⟩ | ⟨hc, hf⟩
  · obtain ⟨q7, hq7, hf⟩ := Option.bind_eq_some_iff.mp hf
    obtain ⟨q8, hq8, hf⟩ := Option.bind_eq_some_iff.mp hf
    cases hf; exact ⟨frx_r, frx_r⟩
  · obtain ⟨q9, hq9, hf⟩ := Option.bind_eq_some_iff.mp hf
    have hIq9 : Fr SI_161 I q9.1 := frx_t frx_r (frx_m (fr_193_1 _ _ _ _ q9 hq9).1 (by decide))
    have hLq9 : Fr SL_161 L q9.2 := frx_t frx_r (frx_m (fr_193_1 _ _ _ _ q9 hq9).2 (by decide))
    obtain ⟨q10, hq10, hf⟩ := Option.bind_eq_some_iff.mp hf
    obtain ⟨q11, hq11, hf⟩ := Option.bind_eq_some_iff.mp hf
    rcases ite_some hf with ⟨hc, hf⟩ | ⟨hc, hf⟩
    · exact ⟨frx_t hIq9 (hK1 x1 x2 x3 x4 q9.1 q9.2 r hf).1, frx_t hLq9 (hK1 x1 x2 x3 x4 q9.1 q9.2 r hf).2⟩
    · obtain ⟨q12, hq12, hf⟩ := Option.bind_eq_some_iff.mp hf
      exact ⟨frx_t hIq9 (hK1 x1 x2 (x3 + q12) x4 q9.1 q9.2 r hf).1, frx_t hLq9 (hK1 x1 x2 (x3 + q12) x4 q9.1 q9.2 r hf).2⟩
theorem frc_161_1 (n : Nat) (nh : Option Nat) : ∀ (m : Nat) (x1 : Int32) (x2 : Int32) (x3 : Int32) (x4 : Int32) (I : FI) (L : FL) (r : Int32 × Option Nat × FI × FL), c_161_1 n nh m x1 x2 x3 x4 I L = some r → Fr SI_161 I r.2.2.1 ∧ Fr SL_161 L r.2.2.2
  | 0, x1, x2, x3, x4, I, L, r, hf => by cases hf
  | m + 1, x1, x2, x3, x4, I, L, r, hf => by
    unfold c_161_1 b_161_1 at hf
    have hK1 := frc_161_1 n nh m
    exact ⟨frx_t frx_r (frc_161_2 n nh _ hK1 x1 x2 x3 (x4 + (1 : Int32)) I L r hf).1, frx_t frx_r (frc_161_2 n nh _ hK1 x1 x2 x3 (x4 + (1 : Int32)) I L r hf).2⟩
theorem frc_161_0 (n : Nat) (nh : Option Nat) (x1 : Int32) (x2 : Int32) (x3 : Int32) (x4 : Int32) (I : FI) (L : FL) (r : Int32 × Option Nat × FI × FL) (hf : c_161_0 n nh x1 x2 x3 x4 I L = some r) : Fr SI_161 I r.2.2.1 ∧ Fr SL_161 L r.2.2.2 := by
  unfold c_161_0 at hf
  rcases ite_some hf with ⟨hc, hf⟩ | ⟨hc, hf⟩
  · obtain ⟨q2, hq2, hf⟩ := Option.bind_eq_some_iff.mp hf
    obtain ⟨q3, hq3, hf⟩ := Option.bind_eq_some_iff.mp hf
    cases hf; exact ⟨frx_r, frx_r⟩
  · obtain ⟨q4, hq4, hf⟩ := Option.bind_eq_some_iff.mp hf
    have hIq4 : Fr SI_161 I q4.1 := frx_t frx_r (frx_m (fr_193 _ _ _ _ q4 hq4).1 (by decide))
    have hLq4 : Fr SL_161 L q4.2 := frx_t frx_r (frx_m (fr_193 _ _ _ _ q4 hq4).2 (by decide))
    obtain ⟨q5, hq5, hf⟩ := Option.bind_eq_some_iff.mp hf
    obtain ⟨q6, hq6, hf⟩ := Option.bind_eq_some_iff.mp hf
    rcases ite_some hf with ⟨hc, hf⟩ | ⟨hc, hf⟩
    · exact ⟨frx_t hIq4 (frc_161_1 n nh n x1 x2 x3 x4 q4.1 q4.2 r hf).1, frx_t hLq4 (frc_161_1 n nh n x1 x2 x3 x4 q4.1 q4.2 r hf).2⟩
    · obtain ⟨q13, hq13, hf⟩ := Option.bind_eq_some_iff.mp hf
      exact ⟨frx_t hIq4 (frc_161_1 n nh n x1 x2 (x3 + q13) x4 q4.1 q4.2 r hf).1, frx_t hLq4 (frc_161_1 n nh n x1 x2 (x3 + q13) x4 q4.1 q4.2 r hf).2⟩
theorem fr_161 (n : Nat) (nh : Option Nat) (x1 : Int32) (x2 : Int32) (I : FI) (L : FL) (r : Int32 × Option Nat × FI × FL) (hf : f_161 n nh x1 x2 I L = some r) : Fr SI_161 I r.2.2.1 ∧ Fr SL_161 L r.2.2.2 := by
  unfold f_161 at hf
  obtain ⟨q0, hq0, hf⟩ := Option.bind_eq_some_iff.mp hf
  rcases ite_some hf with ⟨hc, hf⟩ | ⟨hc, hf⟩
  · cases hf; exact ⟨frx_r, frx_r⟩
  · obtain ⟨q1, hq1, hf⟩ := Option.bind_eq_some_iff.mp hf
    rcases ite_some hf with ⟨hc, hf⟩ | ⟨hc, hf⟩
    · exact ⟨frx_t frx_r (frc_161_0 n nh x1 x2 (0 : Int32) (0 : Int32) I L r hf).1, frx_t frx_r (frc_161_0 n nh x1 x2 (0 : Int32) (0 : Int32) I L r hf).2⟩
    · cases hf; exact ⟨frx_r, frx_r⟩
def SI_162 : List Nat := [26, 27, 28, 29, 30, 31, 32]
def SL_162 : List Nat := []
theorem frc_162_1 (n : Nat) (nh : Option Nat) : ∀ (m : Nat) (x1 : Int32) (x2 : Int32) (x3 : Int32) (x4 : Int32) (I : FI) (L : FL) (r : Int32 × Option Nat × FI × FL), c_162_1 n nh m x1 x2 x3 x4 I L = some r → Fr SI_162 I r.2.2.1 ∧ Fr SL_162 L r.2.2.2
  | 0, x1, x2, x3, x4, I, L, r, hf => by cases hf
  | m + 1, x1, x2, x3, x4, I, L, r, hf => by
    unfold c_162_1 b_162_1 at hf
    have hK1 := frc_162_1 n nh m
    rcases ite_some hf with ⟨hc, hf⟩ | ⟨hc, hf⟩
    · obtain ⟨q8, hq8, hf⟩ := Option.bind_eq_some_iff.mp hf
      obtain ⟨q9, hq9, hf⟩ := Option.bind_eq_some_iff.mp hf
      cases hf; exact ⟨frx_r, frx_r⟩
    · obtain ⟨q10, hq10, hf⟩ := Option.bind_eq_some_iff.mp hf
      have hIq10 : Fr SI_162 I q10.1 := frx_t frx_r (frx_m (fr_193_1 _ _ _ _ q10 hq10).1 (by decide))
      have hLq10 : Fr SL_162 L q10.2 := frx_t frx_r (frx_m (fr_193_1 _ _ _ _ q10 hq10).2 (by decide))
      obtain ⟨q11, hq11, hf⟩ := Option.bind_eq_some_iff.mp hf
      obtain ⟨q12, hq12, hf⟩ := Option.bind_eq_some_iff.mp hf
      obtain ⟨q13, hq13, hf⟩ := Option.bind_eq_some_iff.mp hf
      exact ⟨frx_t hIq10 (hK1 x1 x2 (x3 + (q12 * q13)) (x4 + (1 : Int32)) q10.1 q10.2 r hf).1, frx_t hLq10 (hK1 x1 x2 (x3 + (q12 * q13)) (x4 + (1 : Int32)) q10.1 q10.2 r hf).2⟩
theorem frc_162_0 (n : Nat) (nh : Option Nat) (x1 : Int32) (x2 : Int32) (x3 : Int32) (x4 : Int32) (I : FI) (L : FL) (r : Int32 × Option Nat × FI × FL) (hf : c_162_0 n nh x1 x2 x3 x4 I L = some r) : Fr SI_162 I r.2.2.1 ∧ Fr SL_162 L r.2.2.2 := by
  unfold c_162_0 at hf
  rcases ite_some hf with ⟨hc, hf⟩ | ⟨hc, hf⟩
  · obtain ⟨q2, hq2, hf⟩ := Option.bind_eq_some_iff.mp hf
    obtain ⟨q3, hq3, hf⟩ := Option.bind_eq_some_iff.mp hf
    cases hf; exact ⟨frx_r, frx_r⟩
  · obtain ⟨q4, hq4, hf⟩ := Option.bind_eq_some_iff.mp hf
    have hIq4 : Fr SI_162 I q4.1 := frx_t frx_r (frx_m (fr_193 _ _ _ _ q4 hq4).1 (by decide))
    have hLq4 : Fr SL_162 L q4.2 := frx_t frx_r (frx_m (fr_193 _ _ _ _ q4 hq4).2 (by decide))
    obtain ⟨q5, hq5, hf⟩ := Option.bind_eq_some_iff.mp hf
    obtain ⟨q6, hq6, hf⟩ := Option.bind_eq_some_iff.mp hf
    obtain ⟨q7, hq7, hf⟩ := Option.bind_eq_some_iff.mp hf
    exact ⟨frx_t hIq4 (frc_162_1 n nh n x1 x2 (x3 + (q6 * q7)) (x4 + (1 : Int32)) q4.1 q4.2 r hf).1, frx_t hLq4 (frc_162_1 n nh n x1 x2 (x3 + (q6 * q7)) (x4 + (1 : Int32)) q4.1 q4.2 r hf).2⟩
theorem fr_162 (n : Nat) (nh : Option Nat) (x1 : Int32) (x2 : Int32) (I : FI) (L : FL) (r : Int32 × Option Nat × FI × FL) (hf : f_162 n nh x1 x2 I L = some r) : Fr SI_162 I r.2.2.1 ∧ Fr SL_162 L r.2.2.2 := by
  unfold f_162 at hf
  obtain ⟨q0, hq0, hf⟩ := Option.bind_eq_some_iff.mp hf
  rcases ite_some hf with ⟨hc, hf⟩ | ⟨hc, hf⟩
  · cases hf; exact ⟨frx_r, frx_r⟩
  · obtain ⟨q1, hq1, hf⟩ := Option.bind_eq_some_iff.mp hf
    rcases ite_some hf with ⟨hc, hf⟩ | ⟨hc, hf⟩
    · exact ⟨frx_t frx_r (frc_162_0 n nh x1 x2 (0 : Int32) (0 : Int32) I L r hf).1, frx_t frx_r (frc_162_0 n nh x1 x2 (0 : Int32) (0 : Int32) I L r hf).2⟩
    · cases hf; exact ⟨frx_r, frx_r⟩
def SI_194 : List Nat := [26, 27, 28, 29, 30, 31, 32]
def SL_194 : List Nat := []
theorem fr_194 (n : Nat) (x1 : Int32) (x2 : Int32) (I : FI) (L : FL) (r : FI × FL) (hf : f_194 n x1 x2 I L = some r) : Fr SI_194 I r.1 ∧ Fr SL_194 L r.2 := by
  unfold f_194 at hf
  obtain ⟨q0, hq0, hf⟩ := Option.bind_eq_some_iff.mp hf
  have hIq0 : Fr SI_194 I q0.1 := frx_t frx_r (frx_m (fr_53_1 _ _ _ _ q0 hq0).1 (by decide))
  have hLq0 : Fr SL_194 L q0.2 := frx_t frx_r (frx_m (fr_53_1 _ _ _ _ q0 hq0).2 (by decide))
  rcases ite_some hf with ⟨hc, hf⟩ | ⟨hc, hf⟩
  · rcases ite_some hf with ⟨hc, hf⟩ | ⟨hc, hf⟩
    · obtain ⟨q1, hq1, hf⟩ := Option.bind_eq_some_iff.mp hf
      have hIq1 : Fr SI_194 I q1.1 := frx_t (frx_u hIq0 (by decide) (by decide)) (frx_m (fr_55 _ _ _ q1 hq1).1 (by decide))
      have hLq1 : Fr SL_194 L q1.2 := frx_t hLq0 (frx_m (fr_55 _ _ _ q1 hq1).2 (by decide))
      cases hf; exact ⟨hIq1, hLq1⟩
    · cases hf
  · cases hf
def SI_163 : List Nat := [26, 27, 28, 29, 30, 31, 32]
def SL_163 : List Nat := []
theorem frc_163_2 (n : Nat) (nh : Option Nat) (K0 : Int32 → Int32 → Int32 → FI → FL → Option (Int32 × Option Nat × FI × FL)) (K1 : Int32 → Int32 → Int32 → Int32 → FI → FL → Option (Int32 × Option Nat × FI × FL)) (hK0 : ∀ (x1 : Int32) (x2 : Int32) (x3 : Int32) (I : FI) (L : FL) (r : Int32 × Option Nat × FI × FL), K0 x1 x2 x3 I L = some r → Fr SI_163 I r.2.2.1 ∧ Fr SL_163 L r.2.2.2) (hK1 : ∀ (x1 : Int32) (x2 : Int32) (x3 : Int32) (x4 : Int32) (I : FI) (L : FL) (r : Int32 × Option Nat × FI × FL), K1 x1 x2 x3 x4 I L = some r → Fr SI_163 I r.2.2.1 ∧ Fr SL_163 L r.2.2.2) (x1 : Int32) (x2 : Int32) (x3 : Int32) (x4 : Int32) (I : FI) (L : FL) (r : Int32 × Option Nat × FI × FL) (hf : c_163_2 n nh K0 K1 x1 x2 x3 x4 I L = some r) : Fr SI_163 I r.2.2.1 ∧ Fr SL_163 L r.2.2.2 := by
  unfold c_163_2 at hf
  exact ⟨frx_t frx_r (hK1 x1 x2 x3 (x4 + (1 : Int32)) I L r hf).1, frx_t frx_r (hK1 x1 x2 x3 (x4 + (1 : Int32)) I L r hf).2⟩
theorem frc_163_1 (n : Nat) (nh : Option Nat) (K0 : Int32 → Int32 → Int32 → FI → FL → Option (Int32 × Option Nat × FI × FL)) (hK0 : ∀ (x1 : Int32) (x2 : Int32) (x3 : Int32) (I : FI) (L : FL) (r : Int32 × Option Nat × FI × FL), K0 x1 x2 x3 I L = some r → Fr SI_163 I r.2.2.1 ∧ Fr SL_163 L r.2.2.2) : ∀ (m : Nat) (x1 : Int32) (x2 : Int32) (x3 : Int32) (x4 : Int32) (I : FI) (L : FL) (r : Int32 × Option Nat × FI × FL), c_163_1 n nh K0 m x1 x2 x3 x4 I L = some r → Fr SI_163 I r.2.2.1 ∧ Fr SL_163 L r.2.2.2
  | 0, x1, x2, x3, x4, I, L, r, hf => by cases hf
  | m + 1, x1, x2, x3, x4, I, L, r, hf => by
    unfold c_163_1 b_163_1 at hf
    have hK1 := frc_163_1 n nh K0 hK0 m
    rcases ite_some hf with ⟨hc, hf⟩ | ⟨hc, hf⟩
    · exact ⟨frx_t frx_r (hK0 x1 x2 (x3 + (1 : Int32)) I L r hf).1, frx_t frx_r (hK0 x1 x2 (x3 + (1 : Int32)) I L r hf).2⟩
    · obtain ⟨q4, hq4, hf⟩ := Option.bind_eq_some_iff.mp hf
      have hIq4 : Fr SI_163 I q4.1 := frx_t frx_r (frx_m (fr_194 _ _ _ _ _ q4 hq4).1 (by decide))
      have hLq4 : Fr SL_163 L q4.2 := frx_t frx_r (frx_m (fr_194 _ _ _ _ _ q4 hq4).2 (by decide))
      obtain ⟨q5, hq5, hf⟩ := Option.bind_eq_some_iff.mp hf
      obtain ⟨q6, hq6, hf⟩ := Option.bind_eq_some_iff.mp hf
      rcases ite_some hf with ⟨hc, hf⟩ | ⟨hc, hf⟩
      · exact ⟨frx_t hIq4 (frc_163_2 n nh _ _ hK0 hK1 x1 x2 x3 x4 q4.1 q4.2 r hf).1, frx_t hLq4 (frc_163_2 n nh _ _ hK0 hK1 x1 x2 x3 x4 q4.1 q4.2 r hf).2⟩
      · exact ⟨frx_t hIq4 (frc_163_2 n nh _ _ hK0 hK1 q6 (((100 : Int32) * x3) + x4) x3 x4 q4.1 q4.2 r hf).1, frx_t hLq4 (frc_163_2 n nh _ _ hK0 hK1 q6 (((100 : Int32) * x3) + x4) x3 x4 q4.1 q4.2 r hf).2⟩
theorem frc_163_0 (n : Nat) (nh : Option Nat) : ∀ (m : Nat) (x1 : Int32) (x2 : Int32) (x3 : Int32) (I : FI) (L : FL) (r : Int32 × Option Nat × FI × FL), c_163_0 n nh m x1 x2 x3 I L = some r → Fr SI_163 I r.2.2.1 ∧ Fr SL_163 L r.2.2.2
  | 0, x1, x2, x3, I, L, r, hf => by cases hf
  | m + 1, x1, x2, x3, I, L, r, hf => by
    unfold c_163_0 b_163_0 at hf
    have hK0 := frc_163_0 n nh m
    rcases ite_some hf with ⟨hc, hf⟩ | ⟨hc, hf⟩
    · cases hf; exact ⟨frx_r, frx_r⟩
    · exact ⟨frx_t frx_r (frc_163_1 n nh _ hK0 n x1 x2 x3 (0 : Int32) I L r hf).1, frx_t frx_r (frc_163_1 n nh _ hK0 n x1 x2 x3 (0 : Int32) I L r hf).2⟩
theorem fr_163 (n : Nat) (nh : Option Nat) (I : FI) (L : FL) (r : Int32 × Option Nat × FI × FL) (hf : f_163 n nh I L = some r) : Fr SI_163 I r.2.2.1 ∧ Fr SL_163 L r.2.2.2 := by
  unfold f_163 at hf
  obtain ⟨q0, hq0, hf⟩ := Option.bind_eq_some_iff.mp hf
  rcases ite_some hf with ⟨hc, hf⟩ | ⟨hc, hf⟩
  · obtain ⟨q1, hq1, hf⟩ := Option.bind_eq_some_iff.mp hf
    have hIq1 : Fr SI_163 I q1.1 := frx_t frx_r (frx_m (fr_191 _ _ _ _ q1 hq1).1 (by decide))
    have hLq1 : Fr SL_163 L q1.2 := frx_t frx_r (frx_m (fr_191 _ _ _ _ q1 hq1).2 (by decide))
    obtain ⟨q2, hq2, hf⟩ := Option.bind_eq_some_iff.mp hf
    obtain ⟨q3, hq3, hf⟩ := Option.bind_eq_some_iff.mp hf
    exact ⟨frx_t hIq1 (frc_163_0 n nh n q3 (-1 : Int32) (0 : Int32) q1.1 q1.2 r hf).1, frx_t hLq1 (frc_163_0 n nh n q3 (-1 : Int32) (0 : Int32) q1.1 q1.2 r hf).2⟩
  · cases hf; exact ⟨frx_r, frx_r⟩
def SI_1 : List Nat := [11, 12, 13]
def SL_1 : List Nat := []
theorem fr_1 (x1 : Int32) (x2 : Int32) (I : FI) (L : FL) (r : Int32 × FI × FL) (hf : f_1 x1 x2 I L = some r) : Fr SI_1 I r.2.1 ∧ Fr SL_1 L r.2.2 := by
  unfold f_1 at hf
  rcases ite_some hf with ⟨hc, hf⟩ | ⟨hc, hf⟩
  · rcases ite_some hf with ⟨hc, hf⟩ | ⟨hc, hf⟩
    · rcases ite_some hf with ⟨hc, hf⟩ | ⟨hc, hf⟩
      · cases hf; exact ⟨(frx_u (frx_u (frx_u frx_r (by decide) (by decide)) (by decide) (by decide)) (by decide) (by decide)), frx_r⟩
      · cases hf
    · cases hf
  · cases hf; exact ⟨frx_r, frx_r⟩
def SI_164 : List Nat := [11, 12, 13, 26, 27, 28, 29, 30, 31, 32]
def SL_164 : List Nat := []
theorem fr_164 (n : Nat) (nh : Option Nat) (x1 : Int32) (x2 : Int32) (I : FI) (L : FL) (r : Int32 × Option Nat × FI × FL) (hf : f_164 n nh x1 x2 I L = some r) : Fr SI_164 I r.2.2.1 ∧ Fr SL_164 L r.2.2.2 := by
  unfold f_164 at hf
  obtain ⟨q0, hq0, hf⟩ := Option.bind_eq_some_iff.mp hf
  rcases ite_some hf with ⟨hc, hf⟩ | ⟨hc, hf⟩
  · cases hf; exact ⟨frx_r, frx_r⟩
  · obtain ⟨q1, hq1, hf⟩ := Option.bind_eq_some_iff.mp hf
    rcases ite_some hf with ⟨hc, hf⟩ | ⟨hc, hf⟩
    · obtain ⟨q2, hq2, hf⟩ := Option.bind_eq_some_iff.mp hf
      have hIq2 : Fr SI_164 I q2.2.1 := frx_t frx_r (frx_m (fr_1 _ _ _ _ q2 hq2).1 (by decide))
      have hLq2 : Fr SL_164 L q2.2.2 := frx_t frx_r (frx_m (fr_1 _ _ _ _ q2 hq2).2 (by decide))
      rcases ite_some hf with ⟨hc, hf⟩ | ⟨hc, hf⟩
      · cases hf; exact ⟨hIq2, hLq2⟩
      · obtain ⟨q3, hq3, hf⟩ := Option.bind_eq_some_iff.mp hf
        have hIq3 : Fr SI_164 I q3.1 := frx_t hIq2 (frx_m (fr_191 _ _ _ _ q3 hq3).1 (by decide))
        have hLq3 : Fr SL_164 L q3.2 := frx_t hLq2 (frx_m (fr_191 _ _ _ _ q3 hq3).2 (by decide))
        obtain ⟨q4, hq4, hf⟩ := Option.bind_eq_some_iff.mp hf
        cases hf; exact ⟨hIq3, hLq3⟩
    · cases hf; exact ⟨frx_r, frx_r⟩
def SI_165 : List Nat := [11, 12, 13, 26, 27, 28, 29, 30, 31, 32]
def SL_165 : List Nat := []
theorem fr_165 (n : Nat) (nh : Option Nat) (x1 : Int32) (I : FI) (L : FL) (r : Int32 × Option Nat × FI × FL) (hf : f_165 n nh x1 I L = some r) : Fr SI_165 I r.2.2.1 ∧ Fr SL_165 L r.2.2.2 := by
  unfold f_165 at hf
  obtain ⟨q0, hq0, hf⟩ := Option.bind_eq_some_iff.mp hf
  rcases ite_some hf with ⟨hc, hf⟩ | ⟨hc, hf⟩
  · obtain ⟨q1, hq1, hf⟩ := Option.bind_eq_some_iff.mp hf
    have hIq1 : Fr SI_165 I q1.2.1 := frx_t frx_r (frx_m (fr_1 _ _ _ _ q1 hq1).1 (by decide))
    have hLq1 : Fr SL_165 L q1.2.2 := frx_t frx_r (frx_m (fr_1 _ _ _ _ q1 hq1).2 (by decide))
    rcases ite_some hf with ⟨hc, hf⟩ | ⟨hc, hf⟩
    · cases hf; exact ⟨hIq1, hLq1⟩
    · obtain ⟨q2, hq2, hf⟩ := Option.bind_eq_some_iff.mp hf
      have hIq2 : Fr SI_165 I q2.1 := frx_t hIq1 (frx_m (fr_191 _ _ _ _ q2 hq2).1 (by decide))
      have hLq2 : Fr SL_165 L q2.2 := frx_t hLq1 (frx_m (fr_191 _ _ _ _ q2 hq2).2 (by decide))
      obtain ⟨q3, hq3, hf⟩ := Option.bind_eq_some_iff.mp hf
      cases hf; exact ⟨hIq2, hLq2⟩
  · cases hf; exact ⟨frx_r, frx_r⟩
def SI_166 : List Nat := [11]
def SL_166 : List Nat := []
theorem fr_166 (I : FI) (L : FL) (r : Int32 × FI × FL) (hf : f_166 I L = some r) : Fr SI_166 I r.2.1 ∧ Fr SL_166 L r.2.2 := by
  unfold f_166 at hf
  obtain ⟨q0, hq0, hf⟩ := Option.bind_eq_some_iff.mp hf
  rcases ite_some hf with ⟨hc, hf⟩ | ⟨hc, hf⟩
  · rcases ite_some hf with ⟨hc, hf⟩ | ⟨hc, hf⟩
    · cases hf; exact ⟨(frx_u frx_r (by decide) (by decide)), frx_r⟩
    · cases hf; exact ⟨frx_r, frx_r⟩
  · cases hf; exact ⟨frx_r, frx_r⟩
def SI_167 : List Nat := [11]
def SL_167 : List Nat := []
theorem fr_167 (I : FI) (L : FL) (r : Int32 × FI × FL) (hf : f_167 I L = some r) : Fr SI_167 I r.2.1 ∧ Fr SL_167 L r.2.2 := by
  unfold f_167 at hf
  obtain ⟨q0, hq0, hf⟩ := Option.bind_eq_some_iff.mp hf
  rcases ite_some hf with ⟨hc, hf⟩ | ⟨hc, hf⟩
  · cases hf; exact ⟨(frx_u frx_r (by decide) (by decide)), frx_r⟩
  · cases hf; exact ⟨frx_r, frx_r⟩
def SI_168 : List Nat := [26, 27, 28, 29, 30, 31, 32]
def SL_168 : List Nat := []
theorem fr_168 (n : Nat) (nh : Option Nat) (x1 : Int32) (x2 : Int32) (I : FI) (L : FL) (r : Int32 × Option Nat × FI × FL) (hf : f_168 n nh x1 x2 I L = some r) : Fr SI_168 I r.2.2.1 ∧ Fr SL_168 L r.2.2.2 := by
  unfold f_168 at hf
  obtain ⟨q0, hq0, hf⟩ := Option.bind_eq_some_iff.mp hf
  rcases ite_some hf with ⟨hc, hf⟩ | ⟨hc, hf⟩
  · cases hf; exact ⟨frx_r, frx_r⟩
  · obtain ⟨q1, hq1, hf⟩ := Option.bind_eq_some_iff.mp hf
    rcases ite_some hf with ⟨hc, hf⟩ | ⟨hc, hf⟩
    · cases hf; exact ⟨frx_r, frx_r⟩
    · obtain ⟨q2, hq2, hf⟩ := Option.bind_eq_some_iff.mp hf
      rcases ite_some hf with ⟨hc, hf⟩ | ⟨hc, hf⟩
      · obtain ⟨q3, hq3, hf⟩ := Option.bind_eq_some_iff.mp hf
        rcases ite_some hf with ⟨hc, hf⟩ | ⟨hc, hf⟩
        · obtain ⟨q4, hq4, hf⟩ := Option.bind_eq_some_iff.mp hf
          have hIq4 : Fr SI_168 I q4.1 := frx_t frx_r (frx_m (fr_193 _ _ _ _ q4 hq4).1 (by decide))
          have hLq4 : Fr SL_168 L q4.2 := frx_t frx_r (frx_m (fr_193 _ _ _ _ q4 hq4).2 (by decide))
          obtain ⟨q5, hq5, hf⟩ := Option.bind_eq_some_iff.mp hf
          cases hf; exact ⟨hIq4, hLq4⟩
        · cases hf; exact ⟨frx_r, frx_r⟩
      · cases hf; exact ⟨frx_r, frx_r⟩
def SI_169 : List Nat := [26, 27, 28, 29, 30, 31, 32]
def SL_169 : List Nat := []
theorem frc_169_2 (n : Nat) (nh : Option Nat) (K1 : Int32 → Int32 → Int32 → Int32 → Int32 → FI → FL → Option (Int32 × Option Nat × FI × FL)) (hK1 : ∀ (x1 : Int32) (x2 : Int32) (x3 : Int32) (x4 : Int32) (x5 : Int32) (I : FI) (L : FL) (r : Int32 × Option Nat × FI × FL), K1 x1 x2 x3 x4 x5 I L = some r → Fr SI_169 I r.2.2.1 ∧ Fr SL_169 L r.2.2.2) (x1 : Int32) (x2 : Int32) (x3 : Int32) (x4 : Int32) (x5 : Int32) (I : FI) (L : FL) (r : Int32 × Option Nat × FI × FL) (hf : c_169_2 n nh K1 x1 x2 x3 x4 x5 I L = some r) : Fr SI_169 I r.2.2.1 ∧ Fr SL_169 L r.2.2.2 := by
  unfold c_169_2 at hf
  rcases ite_some hf with ⟨hc, hf⟩ | ⟨hc, hf⟩
  · cases hf; exact ⟨frx_r, frx_r⟩
  · obtain ⟨q4, hq4, hf⟩ := Option.bind_eq_some_iff.mp hf
    obtain ⟨q5, hq5, hf⟩ := Option.bind_eq_some_iff.mp hf
    have hIq5 : Fr SI_169 I q5.1 := frx_t frx_r (frx_m (fr_193_1 _ _ _ _ q5 hq5).1 (by decide))
    have hLq5 : Fr SL_169 L q5.2 := frx_t frx_r (frx_m (fr_193_1 _ _ _ _ q5 hq5).2 (by decide))
    rcases ite_some hf with ⟨hc, hf⟩ | ⟨hc, hf⟩
    · rcases ite_some hf with ⟨hc, hf⟩ | ⟨hc, hf⟩
      · exact ⟨frx_t hIq5 (hK1 x1 x2 x3 x4 x5 q5.1 q5.2 r hf).1, frx_t hLq5 (hK1 x1 x2 x3 x4 x5 q5.1 q5.2 r hf).2⟩
      · exact ⟨frx_t hIq5 (hK1 x1 x2 x3 (x4 + (1 : Int32)) x5 q5.1 q5.2 r hf).1, frx_t hLq5 (hK1 x1 x2 x3 (x4 + (1 : Int32)) x5 q5.1 q5.2 r hf).2⟩
    · cases hf
theorem frc_169_1 (n : Nat) (nh : Option Nat) : ∀ (m : Nat) (x1 : Int32) (x2 : Int32) (x3 : Int32) (x4 : Int32) (x5 : Int32) (I : FI) (L : FL) (r : Int32 × Option Nat × FI × FL), c_169_1 n nh m x1 x2 x3 x4 x5 I L = some r → Fr SI_169 I r.2.2.1 ∧ Fr SL_169 L r.2.2.2
  | 0, x1, x2, x3, x4, x5, I, L, r, hf => by cases hf
  | m + 1, x1, x2, x3, x4, x5, I, L, r, hf => by
    unfold c_169_1 b_169_1 at hf
    have hK1 := frc_169_1 n nh m
    exact ⟨frx_t frx_r (frc_169_2 n nh _ hK1 x1 x2 x3 x4 (x5 + (1 : Int32)) I L r hf).1, frx_t frx_r (frc_169_2 n nh _ hK1 x1 x2 x3 x4 (x5 + (1 : Int32)) I L r hf).2⟩
theorem frc_169_0 (n : Nat) (nh : Option Nat) (x1 : Int32) (x2 : Int32) (x3 : Int32) (x4 : Int32) (x5 : Int32) (I : FI) (L : FL) (r : Int32 × Option Nat × FI × FL) (hf : c_169_0 n nh x1 x2 x3 x4 x5 I L = some r) : Fr SI_169 I r.2.2.1 ∧ Fr SL_169 L r.2.2.2 := by
  unfold c_169_0 at hf
  rcases ite_some hf with ⟨hc, hf⟩ | ⟨hc, hf⟩
  · cases hf; exact ⟨frx_r, frx_r⟩
  · obtain ⟨q2, hq2, hf⟩ := Option.bind_eq_some_iff.mp hf
    obtain ⟨q3, hq3, hf⟩ := Option.bind_eq_some_iff.mp hf
    have hIq3 : Fr SI_169 I q3.1 := frx_t frx_r (frx_m (fr_193 _ _ _ _ q3 hq3).1 (by decide))
    have hLq3 : Fr SL_169 L q3.2 := frx_t frx_r (frx_m (fr_193 _ _ _ _ q3 hq3).2 (by decide))
    rcases ite_some hf with ⟨hc, hf⟩ | ⟨hc, hf⟩
    · rcases ite_some hf with ⟨hc, hf⟩ | ⟨hc, hf⟩
      · exact ⟨frx_t hIq3 (frc_169_1 n nh n x1 x2 x3 x4 x5 q3.1 q3.2 r hf).1, frx_t hLq3 (frc_169_1 n nh n x1 x2 x3 x4 x5 q3.1 q3.2 r hf).2⟩
      · exact ⟨frx_t hIq3 (frc_169_1 n nh n x1 x2 x3 (x4 + (1 : Int32)) x5 q3.1 q3.2 r hf).1, frx_t hLq3 (frc_169_1 n nh n x1 x2 x3 (x4 + (1 : Int32)) x5 q3.1 q3.2 r hf).2⟩
    · cases hf
theorem fr_169 (n : Nat) (nh : Option Nat) (x1 : Int32) (x2 : Int32) (x3 : Int32) (I : FI) (L : FL) (r : Int32 × Option Nat × FI × FL) (hf : f_169 n nh x1 x2 x3 I L = some r) : Fr SI_169 I r.2.2.1 ∧ Fr SL_169 L r.2.2.2 := by
  unfold f_169 at hf
  obtain ⟨q0, hq0, hf⟩ := Option.bind_eq_some_iff.mp hf
  rcases ite_some hf with ⟨hc, hf⟩ | ⟨hc, hf⟩
  · cases hf; exact ⟨frx_r, frx_r⟩
  · obtain ⟨q1, hq1, hf⟩ := Option.bind_eq_some_iff.mp hf
    rcases ite_some hf with ⟨hc, hf⟩ | ⟨hc, hf⟩
    · cases hf; exact ⟨frx_r, frx_r⟩
    · rcases ite_some hf with ⟨hc, hf⟩ | ⟨hc, hf⟩
      · cases hf; exact ⟨frx_r, frx_r⟩
      · rcases ite_some hf with ⟨hc, hf⟩ | ⟨hc, hf⟩
        · exact ⟨frx_t frx_r (frc_169_0 n nh x1 x2 x3 (0 : Int32) (0 : Int32) I L r hf).1, frx_t frx_r (frc_169_0 n nh x1 x2 x3 (0 : Int32) (0 : Int32) I L r hf).2⟩
        · cases hf; exact ⟨frx_r, frx_r⟩
def SI_170 : List Nat := [5]
def SL_170 : List Nat := []
theorem fr_170 (x1 : Int32) (x2 : Int32) (I : FI) (L : FL) (r : Int32 × FI × FL) (hf : f_170 x1 x2 I L = some r) : Fr SI_170 I r.2.1 ∧ Fr SL_170 L r.2.2 := by
  unfold f_170 at hf
  obtain ⟨q0, hq0, hf⟩ := Option.bind_eq_some_iff.mp hf
  rcases ite_some hf with ⟨hc, hf⟩ | ⟨hc, hf⟩
  · cases hf; exact ⟨frx_r, frx_r⟩
  · rcases ite_some hf with ⟨hc, hf⟩ | ⟨hc, hf⟩
    · cases hf; exact ⟨frx_r, frx_r⟩
    · rcases ite_some hf with ⟨hc, hf⟩ | ⟨hc, hf⟩
      · rcases ite_some hf with ⟨hc, hf⟩ | ⟨hc, hf⟩
        · rcases ite_some hf with ⟨hc, hf⟩ | ⟨hc, hf⟩
          · rcases ite_some hf with ⟨hc, hf⟩ | ⟨hc, hf⟩
            · cases hf; exact ⟨(frx_u frx_r (by decide) (by decide)), frx_r⟩
            · cases hf
          · cases hf
        · cases hf; exact ⟨frx_r, frx_r⟩
      · cases hf; exact ⟨frx_r, frx_r⟩
def SI_17_1 : List Nat := [46, 47, 48, 49, 50, 51, 52, 53]
def SL_17_1 : List Nat := []
theorem fr_17_1 (I : FI) (L : FL) (r : FI × FL) (hf : f_17_1 I L = some r) : Fr SI_17_1 I r.1 ∧ Fr SL_17_1 L r.2 := by
  unfold f_17_1 at hf
  cases hf; exact ⟨(frx_c (frx_c (frx_c (frx_c (frx_c (frx_c (frx_c (frx_u (frx_u (frx_u (frx_u (frx_u (frx_u (frx_u (frx_u frx_r (by decide) (by decide)) (by decide) (by decide)) (by decide) (by decide)) (by decide) (by decide)) (by decide) (by decide)) (by decide) (by decide)) (by decide) (by decide)) (by decide) (by decide)) (by decide) (by decide)) (by decide) (by decide)) (by decide) (by decide)) (by decide) (by decide)) (by decide) (by decide)) (by decide) (by decide)) (by decide) (by decide)), frx_r⟩
def SI_2 : List Nat := [54, 55, 56]
def SL_2 : List Nat := []
theorem fr_2 (I : FI) (L : FL) (r : FI × FL) (hf : f_2 I L = some r) : Fr SI_2 I r.1 ∧ Fr SL_2 L r.2 := by
  unfold f_2 at hf
  cases hf; exact ⟨(frx_c (frx_c (frx_u frx_r (by decide) (by decide)) (by decide) (by decide)) (by decide) (by decide)), frx_r⟩
def SI_17_2 : List Nat := [58, 59, 60, 61, 62, 63, 64, 65]
def SL_17_2 : List Nat := []
theorem fr_17_2 (I : FI) (L : FL) (r : FI × FL) (hf : f_17_2 I L = some r) : Fr SI_17_2 I r.1 ∧ Fr SL_17_2 L r.2 := by
  unfold f_17_2 at hf
  cases hf; exact ⟨(frx_c (frx_c (frx_c (frx_c (frx_c (frx_c (frx_c (frx_u (frx_u (frx_u (frx_u (frx_u (frx_u (frx_u (frx_u frx_r (by decide) (by decide)) (by decide) (by decide)) (by decide) (by decide)) (by decide) (by decide)) (by decide) (by decide)) (by decide) (by decide)) (by decide) (by decide)) (by decide) (by decide)) (by decide) (by decide)) (by decide) (by decide)) (by decide) (by decide)) (by decide) (by decide)) (by decide) (by decide)) (by decide) (by decide)) (by decide) (by decide)), frx_r⟩
def SI_2_1 : List Nat := [66, 67, 68]
def SL_2_1 : List Nat := []
theorem fr_2_1 (I : FI) (L : FL) (r : FI × FL) (hf : f_2_1 I L = some r) : Fr SI_2_1 I r.1 ∧ Fr SL_2_1 L r.2 := by
  unfold f_2_1 at hf
  cases hf; exact ⟨(frx_c (frx_c (frx_u frx_r (by decide) (by decide)) (by decide) (by decide)) (by decide) (by decide)), frx_r⟩
def SI_17_3 : List Nat := [70, 71, 72, 73, 74, 75, 76, 77]
def SL_17_3 : List Nat := []
theorem fr_17_3 (I : FI) (L : FL) (r : FI × FL) (hf : f_17_3 I L = some r) : Fr SI_17_3 I r.1 ∧ Fr SL_17_3 L r.2 := by
  unfold f_17_3 at hf
  cases hf; exact ⟨(frx_c (frx_c (frx_c (frx_c (frx_c (frx_c (frx_c (frx_u (frx_u (frx_u (frx_u (frx_u (frx_u (frx_u (frx_u frx_r (by decide) (by decide)) (by decide) (by decide)) (by decide) (by decide)) (by decide) (by decide)) (by decide) (by decide)) (by decide) (by decide)) (by decide) (by decide)) (by decide) (by decide)) (by decide) (by decide)) (by decide) (by decide)) (by decide) (by decide)) (by decide) (by decide)) (by decide) (by decide)) (by decide) (by decide)) (by decide) (by decide)), frx_r⟩
def SI_2_2 : List Nat := [78, 79, 80]
def SL_2_2 : List Nat := []
theorem fr_2_2 (I : FI) (L : FL) (r : FI × FL) (hf : f_2_2 I L = some r) : Fr SI_2_2 I r.1 ∧ Fr SL_2_2 L r.2 := by
  unfold f_2_2 at hf
  cases hf; exact ⟨(frx_c (frx_c (frx_u frx_r (by decide) (by decide)) (by decide) (by decide)) (by decide) (by decide)), frx_r⟩
def SI_172 : List Nat := [45, 46, 47, 48, 49, 50, 51, 52, 53, 54, 55, 56, 57, 58, 59, 60, 61, 62, 63, 64, 65, 66, 67, 68, 69, 70, 71, 72, 73, 74, 75, 76, 77, 78, 79, 80]
def SL_172 : List Nat := []
theorem fr_172 (x1 : Int32) (I : FI) (L : FL) (r : Int32 × FI × FL) (hf : f_172 x1 I L = some r) : Fr SI_172 I r.2.1 ∧ Fr SL_172 L r.2.2 := by
  unfold f_172 at hf
  rcases ite_some hf with ⟨hc, hf⟩ | ⟨hc, hf⟩
  · cases hf; exact ⟨frx_r, frx_r⟩
  · rcases ite_some hf with ⟨hc, hf⟩ | ⟨hc, hf⟩
    · rcases ite_some hf with ⟨hc, hf⟩ | ⟨hc, hf⟩
      · obtain ⟨q0, hq0, hf⟩ := Option.bind_eq_some_iff.mp hf
        have hIq0 : Fr SI_172 I q0.1 := frx_t frx_r (frx_m (fr_17_1 _ _ q0 hq0).1 (by decide))
        have hLq0 : Fr SL_172 L q0.2 := frx_t frx_r (frx_m (fr_17_1 _ _ q0 hq0).2 (by decide))
        obtain ⟨q1, hq1, hf⟩ := Option.bind_eq_some_iff.mp hf
        have hIq1 : Fr SI_172 I q1.1 := frx_t hIq0 (frx_m (fr_2 _ _ q1 hq1).1 (by decide))
        have hLq1 : Fr SL_172 L q1.2 := frx_t hLq0 (frx_m (fr_2 _ _ q1 hq1).2 (by decide))
        cases hf; exact ⟨(frx_u hIq1 (by decide) (by decide)), hLq1⟩
      rcases ite_some hf with ⟨hc, hf⟩ | ⟨hc, hf⟩
      · obtain ⟨q2, hq2, hf⟩ := Option.bind_eq_some_iff.mp hf
        have hIq2 : Fr SI_172 I q2.1 := frx_t frx_r (frx_m (fr_17_2 _ _ q2 hq2).1 (by decide))
        have hLq2 : Fr SL_172 L q2.2 := frx_t frx_r (frx_m (fr_17_2 _ _ q2 hq2).2 (by decide))
        obtain ⟨q3, hq3, hf⟩ := Option.bind_eq_some_iff.mp hf
        have hIq3 : Fr SI_172 I q3.1 := frx_t hIq2 (frx_m (fr_2_1 _ _ q3 hq3).1 (by decide))
        have hLq3 : Fr SL_172 L q3.2 := frx_t hLq2 (frx_m (fr_2_1 _ _ q3 hq3).2 (by decide))
        cases hf; exact ⟨(frx_u hIq3 (by decide) (by decide)), hLq3⟩
      rcases ite_some hf with ⟨hc, hf⟩ | ⟨hc, hf⟩
      · obtain ⟨q4, hq4, hf⟩ := Option.bind_eq_some_iff.mp hf
        have hIq4 : Fr SI_172 I q4.1 := frx_t frx_r (frx_m (fr_17_3 _ _ q4 hq4).1 (by decide))
        have hLq4 : Fr SL_172 L q4.2 := frx_t frx_r (frx_m (fr_17_3 _ _ q4 hq4).2 (by decide))
        obtain ⟨q5, hq5, hf⟩ := Option.bind_eq_some_iff.mp hf
        have hIq5 : Fr SI_172 I q5.1 := frx_t hIq4 (frx_m (fr_2_2 _ _ q5 hq5).1 (by decide))
        have hLq5 : Fr SL_172 L q5.2 := frx_t hLq4 (frx_m (fr_2_2 _ _ q5 hq5).2 (by decide))
        cases hf; exact ⟨(frx_u hIq5 (by decide) (by decide)), hLq5⟩
      cases hf
    · cases hf; exact ⟨frx_r, frx_r⟩
def SI_17_4 : List Nat := [3, 4, 5, 6, 7, 8, 9, 10]
def SL_17_4 : List Nat := []
theorem fr_17_4 (I : FI) (L : FL) (r : FI × FL) (hf : f_17_4 I L = some r) : Fr SI_17_4 I r.1 ∧ Fr SL_17_4 L r.2 := by
  unfold f_17_4 at hf
  cases hf; exact ⟨(frx_c (frx_c (frx_c (frx_c (frx_c (frx_c (frx_c (frx_u (frx_u (frx_u (frx_u (frx_u (frx_u (frx_u (frx_u frx_r (by decide) (by decide)) (by decide) (by decide)) (by decide) (by decide)) (by decide) (by decide)) (by decide) (by decide)) (by decide) (by decide)) (by decide) (by decide)) (by decide) (by decide)) (by decide) (by decide)) (by decide) (by decide)) (by decide) (by decide)) (by decide) (by decide)) (by decide) (by decide)) (by decide) (by decide)) (by decide) (by decide)), frx_r⟩
def SI_2_3 : List Nat := [11, 12, 13]
def SL_2_3 : List Nat := []
theorem fr_2_3 (I : FI) (L : FL) (r : FI × FL) (hf : f_2_3 I L = some r) : Fr SI_2_3 I r.1 ∧ Fr SL_2_3 L r.2 := by
  unfold f_2_3 at hf
  cases hf; exact ⟨(frx_c (frx_c (frx_u frx_r (by decide) (by decide)) (by decide) (by decide)) (by decide) (by decide)), frx_r⟩
def SI_17_5 : List Nat := [3, 4, 5, 6, 7, 8, 9, 10]
def SL_17_5 : List Nat := []
theorem fr_17_5 (I : FI) (L : FL) (r : FI × FL) (hf : f_17_5 I L = some r) : Fr SI_17_5 I r.1 ∧ Fr SL_17_5 L r.2 := by
  unfold f_17_5 at hf
  cases hf; exact ⟨(frx_c (frx_c (frx_c (frx_c (frx_c (frx_c (frx_c (frx_u (frx_u (frx_u (frx_u (frx_u (frx_u (frx_u (frx_u frx_r (by decide) (by decide)) (by decide) (by decide)) (by decide) (by decide)) (by decide) (by decide)) (by decide) (by decide)) (by decide) (by decide)) (by decide) (by decide)) (by decide) (by decide)) (by decide) (by decide)) (by decide) (by decide)) (by decide) (by decide)) (by decide) (by decide)) (by decide) (by decide)) (by decide) (by decide)) (by decide) (by decide)), frx_r⟩
def SI_2_4 : List Nat := [11, 12, 13]
def SL_2_4 : List Nat := []
theorem fr_2_4 (I : FI) (L : FL) (r : FI × FL) (hf : f_2_4 I L = some r) : Fr SI_2_4 I r.1 ∧ Fr SL_2_4 L r.2 := by
  unfold f_2_4 at hf
  cases hf; exact ⟨(frx_c (frx_c (frx_u frx_r (by decide) (by decide)) (by decide) (by decide)) (by decide) (by decide)), frx_r⟩
def SI_17_6 : List Nat := [3, 4, 5, 6, 7, 8, 9, 10]
def SL_17_6 : List Nat := []
theorem fr_17_6 (I : FI) (L : FL) (r : FI × FL) (hf : f_17_6 I L = some r) : Fr SI_17_6 I r.1 ∧ Fr SL_17_6 L r.2 := by
  unfold f_17_6 at hf
  cases hf; exact ⟨(frx_c (frx_c (frx_c (frx_c (frx_c (frx_c (frx_c (frx_u (frx_u (frx_u (frx_u (frx_u (frx_u (frx_u (frx_u frx_r (by decide) (by decide)) (by decide) (by decide)) (by decide) (by decide)) (by decide) (by decide)) (by decide) (by decide)) (by decide) (by decide)) (by decide) (by decide)) (by decide) (by decide)) (by decide) (by decide)) (by decide) (by decide)) (by decide) (by decide)) (by decide) (by decide)) (by decide) (by decide)) (by decide) (by decide)) (by decide) (by decide)), frx_r⟩
def SI_2_5 : List Nat := [11, 12, 13]
def SL_2_5 : List Nat := []
theorem fr_2_5 (I : FI) (L : FL) (r : FI × FL) (hf : f_2_5 I L = some r) : Fr SI_2_5 I r.1 ∧ Fr SL_2_5 L r.2 := by
  unfold f_2_5 at hf
  cases hf; exact ⟨(frx_c (frx_c (frx_u frx_r (by decide) (by decide)) (by decide) (by decide)) (by decide) (by decide)), frx_r⟩
def SI_173_1 : List Nat := [3, 4, 5, 6, 7, 8, 9, 10, 11, 12, 13, 35, 39, 114, 120, 121]
def SL_173_1 : List Nat := []
theorem fr_173_1 (n : Nat) (rh : Option Nat) (x1 : Int32) (I : FI) (L : FL) (r : Int32 × Option Nat × FI × FL) (hf : f_173_1 n rh x1 I L = some r) : Fr SI_173_1 I r.2.2.1 ∧ Fr SL_173_1 L r.2.2.2 := by
  unfold f_173_1 at hf
  rcases ite_some hf with ⟨hc, hf⟩ | ⟨hc, hf⟩
  · cases hf; exact ⟨frx_r, frx_r⟩
  · rcases ite_some hf with ⟨hc, hf⟩ | ⟨hc, hf⟩
    · rcases ite_some hf with ⟨hc, hf⟩ | ⟨hc, hf⟩
      · rcases ite_some hf with ⟨hc, hf⟩ | ⟨hc, hf⟩
        · obtain ⟨q0, hq0, hf⟩ := Option.bind_eq_some_iff.mp hf
          have hIq0 : Fr SI_173_1 I q0.1 := frx_t frx_r (frx_m (fr_17_4 _ _ q0 hq0).1 (by decide))
          have hLq0 : Fr SL_173_1 L q0.2 := frx_t frx_r (frx_m (fr_17_4 _ _ q0 hq0).2 (by decide))
          obtain ⟨q1, hq1, hf⟩ := Option.bind_eq_some_iff.mp hf
          have hIq1 : Fr SI_173_1 I q1.1 := frx_t hIq0 (frx_m (fr_2_3 _ _ q1 hq1).1 (by decide))
          have hLq1 : Fr SL_173_1 L q1.2 := frx_t hLq0 (frx_m (fr_2_3 _ _ q1 hq1).2 (by decide))
          obtain ⟨q2, hq2, hf⟩ := Option.bind_eq_some_iff.mp hf
          have hIq2 : Fr SI_173_1 I q2.1 := frx_t hIq1 (frx_m (fr_186_1 _ _ _ q2 hq2).1 (by decide))
          have hLq2 : Fr SL_173_1 L q2.2 := frx_t hLq1 (frx_m (fr_186_1 _ _ _ q2 hq2).2 (by decide))
          cases hf; exact ⟨hIq2, hLq2⟩
        · cases hf; exact ⟨frx_r, frx_r⟩
      rcases ite_some hf with ⟨hc, hf⟩ | ⟨hc, hf⟩
      · rcases ite_some hf with ⟨hc, hf⟩ | ⟨hc, hf⟩
        · obtain ⟨q3, hq3, hf⟩ := Option.bind_eq_some_iff.mp hf
          have hIq3 : Fr SI_173_1 I q3.1 := frx_t frx_r (frx_m (fr_17_5 _ _ q3 hq3).1 (by decide))
          have hLq3 : Fr SL_173_1 L q3.2 := frx_t frx_r (frx_m (fr_17_5 _ _ q3 hq3).2 (by decide))
          obtain ⟨q4, hq4, hf⟩ := Option.bind_eq_some_iff.mp hf
          have hIq4 : Fr SI_173_1 I q4.1 := frx_t hIq3 (frx_m (fr_2_4 _ _ q4 hq4).1 (by decide))
          have hLq4 : Fr SL_173_1 L q4.2 := frx_t hLq3 (frx_m (fr_2_4 _ _ q4 hq4).2 (by decide))
          obtain ⟨q5, hq5, hf⟩ := Option.bind_eq_some_iff.mp hf
          have hIq5 : Fr SI_173_1 I q5.1 := frx_t hIq4 (frx_m (fr_186_1 _ _ _ q5 hq5).1 (by decide))
          have hLq5 : Fr SL_173_1 L q5.2 := frx_t hLq4 (frx_m (fr_186_1 _ _ _ q5 hq5).2 (by decide))
          cases hf; exact ⟨hIq5, hLq5⟩
        · cases hf; exact ⟨frx_r, frx_r⟩
      rcases ite_some hf with ⟨hc, hf⟩ | ⟨hc, hf⟩
      · rcases ite_some hf with ⟨hc, hf⟩ | ⟨hc, hf⟩
        · obtain ⟨q6, hq6, hf⟩ := Option.bind_eq_some_iff.mp hf
          have hIq6 : Fr SI_173_1 I q6.1 := frx_t frx_r (frx_m (fr_17_6 _ _ q6 hq6).1 (by decide))
          have hLq6 : Fr SL_173_1 L q6.2 := frx_t frx_r (frx_m (fr_17_6 _ _ q6 hq6).2 (by decide))
          obtain ⟨q7, hq7, hf⟩ := Option.bind_eq_some_iff.mp hf
          have hIq7 : Fr SI_173_1 I q7.1 := frx_t hIq6 (frx_m (fr_2_5 _ _ q7 hq7).1 (by decide))
          have hLq7 : Fr SL_173_1 L q7.2 := frx_t hLq6 (frx_m (fr_2_5 _ _ q7 hq7).2 (by decide))
          obtain ⟨q8, hq8, hf⟩ := Option.bind_eq_some_iff.mp hf
          have hIq8 : Fr SI_173_1 I q8.1 := frx_t hIq7 (frx_m (fr_186_1 _ _ _ q8 hq8).1 (by decide))
          have hLq8 : Fr SL_173_1 L q8.2 := frx_t hLq7 (frx_m (fr_186_1 _ _ _ q8 hq8).2 (by decide))
          cases hf; exact ⟨hIq8, hLq8⟩
        · cases hf; exact ⟨frx_r, frx_r⟩
      cases hf
    · cases hf; exact ⟨frx_r, frx_r⟩
def SI_106 : List Nat := [81]
def SL_106 : List Nat := [82]
theorem frc_106_0 (n : Nat) : ∀ (m : Nat) (x3 : Int32) (I : FI) (L : FL) (r : FI × FL), c_106_0 n m x3 I L = some r → Fr SI_106 I r.1 ∧ Fr SL_106 L r.2
  | 0, x3, I, L, r, hf => by cases hf
  | m + 1, x3, I, L, r, hf => by
    unfold c_106_0 b_106_0 at hf
    have hK0 := frc_106_0 n m
    rcases ite_some hf with ⟨hc, hf⟩ | ⟨hc, hf⟩
    · cases hf; exact ⟨frx_r, frx_r⟩
    · rcases ite_some hf with ⟨hc, hf⟩ | ⟨hc, hf⟩
      · exact ⟨frx_t frx_r (hK0 (x3 + (1 : Int32)) I (u2 L 82 x3.toNatClampNeg (0 : Int64)) r hf).1, frx_t (frx_u frx_r (by decide) (by decide)) (hK0 (x3 + (1 : Int32)) I (u2 L 82 x3.toNatClampNeg (0 : Int64)) r hf).2⟩
      · cases hf
theorem fr_106 (n : Nat) (x1 : Int32) (x2 : Int32) (I : FI) (L : FL) (r : FI × FL) (hf : f_106 n x1 x2 I L = some r) : Fr SI_106 I r.1 ∧ Fr SL_106 L r.2 := by
  unfold f_106 at hf
  exact ⟨frx_t (frx_u (frx_u (frx_u frx_r (by decide) (by decide)) (by decide) (by decide)) (by decide) (by decide)) (frc_106_0 n n (0 : Int32) (u2 (u2 (u2 I 81 1 x1) 81 2 x2) 81 3 (1 : Int32)) L r hf).1, frx_t frx_r (frc_106_0 n n (0 : Int32) (u2 (u2 (u2 I 81 1 x1) 81 2 x2) 81 3 (1 : Int32)) L r hf).2⟩
def SI_106_1 : List Nat := [83]
def SL_106_1 : List Nat := [84]
theorem frc_106_1_0 (n : Nat) : ∀ (m : Nat) (x3 : Int32) (I : FI) (L : FL) (r : FI × FL), c_106_1_0 n m x3 I L = some r → Fr SI_106_1 I r.1 ∧ Fr SL_106_1 L r.2
  | 0, x3, I, L, r, hf => by cases hf
  | m + 1, x3, I, L, r, hf => by
    unfold c_106_1_0 b_106_1_0 at hf
    have hK0 := frc_106_1_0 n m
    rcases ite_some hf with ⟨hc, hf⟩ | ⟨hc, hf⟩
    · cases hf; exact ⟨frx_r, frx_r⟩
    · rcases ite_some hf with ⟨hc, hf⟩ | ⟨hc, hf⟩
      · exact ⟨frx_t frx_r (hK0 (x3 + (1 : Int32)) I (u2 L 84 x3.toNatClampNeg (0 : Int64)) r hf).1, frx_t (frx_u frx_r (by decide) (by decide)) (hK0 (x3 + (1 : Int32)) I (u2 L 84 x3.toNatClampNeg (0 : Int64)) r hf).2⟩
      · cases hf
theorem fr_106_1 (n : Nat) (x1 : Int32) (x2 : Int32) (I : FI) (L : FL) (r : FI × FL) (hf : f_106_1 n x1 x2 I L = some r) : Fr SI_106_1 I r.1 ∧ Fr SL_106_1 L r.2 := by
  unfold f_106_1 at hf
  exact ⟨frx_t (frx_u (frx_u (frx_u frx_r (by decide) (by decide)) (by decide) (by decide)) (by decide) (by decide)) (frc_106_1_0 n n (0 : Int32) (u2 (u2 (u2 I 83 1 x1) 83 2 x2) 83 3 (1 : Int32)) L r hf).1, frx_t frx_r (frc_106_1_0 n n (0 : Int32) (u2 (u2 (u2 I 83 1 x1) 83 2 x2) 83 3 (1 : Int32)) L r hf).2⟩
def SI_106_2 : List Nat := [85]
def SL_106_2 : List Nat := [86]
theorem frc_106_2_0 (n : Nat) : ∀ (m : Nat) (x3 : Int32) (I : FI) (L : FL) (r : FI × FL), c_106_2_0 n m x3 I L = some r → Fr SI_106_2 I r.1 ∧ Fr SL_106_2 L r.2
  | 0, x3, I, L, r, hf => by cases hf
  | m + 1, x3, I, L, r, hf => by
    unfold c_106_2_0 b_106_2_0 at hf
    have hK0 := frc_106_2_0 n m
    rcases ite_some hf with ⟨hc, hf⟩ | ⟨hc, hf⟩
    · cases hf; exact ⟨frx_r, frx_r⟩
    · rcases ite_some hf with ⟨hc, hf⟩ | ⟨hc, hf⟩
      · exact ⟨frx_t frx_r (hK0 (x3 + (1 : Int32)) I (u2 L 86 x3.toNatClampNeg (0 : Int64)) r hf).1, frx_t (frx_u frx_r (by decide) (by decide)) (hK0 (x3 + (1 : Int32)) I (u2 L 86 x3.toNatClampNeg (0 : Int64)) r hf).2⟩
      · cases hf
theorem fr_106_2 (n : Nat) (x1 : Int32) (x2 : Int32) (I : FI) (L : FL) (r : FI × FL) (hf : f_106_2 n x1 x2 I L = some r) : Fr SI_106_2 I r.1 ∧ Fr SL_106_2 L r.2 := by
  unfold f_106_2 at hf
  exact ⟨frx_t (frx_u (frx_u (frx_u frx_r (by decide) (by decide)) (by decide) (by decide)) (by decide) (by decide)) (frc_106_2_0 n n (0 : Int32) (u2 (u2 (u2 I 85 1 x1) 85 2 x2) 85 3 (1 : Int32)) L r hf).1, frx_t frx_r (frc_106_2_0 n n (0 : Int32) (u2 (u2 (u2 I 85 1 x1) 85 2 x2) 85 3 (1 : Int32)) L r hf).2⟩
def SI_106_3 : List Nat := [87]
def SL_106_3 : List Nat := [88]
theorem frc_106_3_0 (n : Nat) : ∀ (m : Nat) (x3 : Int32) (I : FI) (L : FL) (r : FI × FL), c_106_3_0 n m x3 I L = some r → Fr SI_106_3 I r.1 ∧ Fr SL_106_3 L r.2
  | 0, x3, I, L, r, hf => by cases hf
  | m + 1, x3, I, L, r, hf => by
    unfold c_106_3_0 b_106_3_0 at hf
    have hK0 := frc_106_3_0 n m
    rcases ite_some hf with ⟨hc, hf⟩ | ⟨hc, hf⟩
    · cases hf; exact ⟨frx_r, frx_r⟩
    · rcases ite_some hf with ⟨hc, hf⟩ | ⟨hc, hf⟩
      · exact ⟨frx_t frx_r (hK0 (x3 + (1 : Int32)) I (u2 L 88 x3.toNatClampNeg (0 : Int64)) r hf).1, frx_t (frx_u frx_r (by decide) (by decide)) (hK0 (x3 + (1 : Int32)) I (u2 L 88 x3.toNatClampNeg (0 : Int64)) r hf).2⟩
      · cases hf
theorem fr_106_3 (n : Nat) (x1 : Int32) (x2 : Int32) (I : FI) (L : FL) (r : FI × FL) (hf : f_106_3 n x1 x2 I L = some r) : Fr SI_106_3 I r.1 ∧ Fr SL_106_3 L r.2 := by
  unfold f_106_3 at hf
  exact ⟨frx_t (frx_u (frx_u (frx_u frx_r (by decide) (by decide)) (by decide) (by decide)) (by decide) (by decide)) (frc_106_3_0 n n (0 : Int32) (u2 (u2 (u2 I 87 1 x1) 87 2 x2) 87 3 (1 : Int32)) L r hf).1, frx_t frx_r (frc_106_3_0 n n (0 : Int32) (u2 (u2 (u2 I 87 1 x1) 87 2 x2) 87 3 (1 : Int32)) L r hf).2⟩
def SI_174 : List Nat := [81, 83, 85, 87]
def SL_174 : List Nat := [82, 84, 86, 88]
theorem fr_174 (n : Nat) (x1 : Int32) (x2 : Int32) (x3 : Int32) (I : FI) (L : FL) (r : Int32 × FI × FL) (hf : f_174 n x1 x2 x3 I L = some r) : Fr SI_174 I r.2.1 ∧ Fr SL_174 L r.2.2 := by
  unfold f_174 at hf
  obtain ⟨q0, hq0, hf⟩ := Option.bind_eq_some_iff.mp hf
  rcases ite_some hf with ⟨hc, hf⟩ | ⟨hc, hf⟩
  · cases hf; exact ⟨frx_r, frx_r⟩
  · rcases ite_some hf with ⟨hc, hf⟩ | ⟨hc, hf⟩
    · cases hf; exact ⟨frx_r, frx_r⟩
    · rcases ite_some hf with ⟨hc, hf⟩ | ⟨hc, hf⟩
      · cases hf; exact ⟨frx_r, frx_r⟩
      · rcases ite_some hf with ⟨hc, hf⟩ | ⟨hc, hf⟩
        · rcases ite_some hf with ⟨hc, hf⟩ | ⟨hc, hf⟩
          · rcases ite_some hf with ⟨hc, hf⟩ | ⟨hc, hf⟩
            · obtain ⟨q1, hq1, hf⟩ := Option.bind_eq_some_iff.mp hf
              have hIq1 : Fr SI_174 I q1.1 := frx_t frx_r (frx_m (fr_106 _ _ _ _ _ q1 hq1).1 (by decide))
              have hLq1 : Fr SL_174 L q1.2 := frx_t frx_r (frx_m (fr_106 _ _ _ _ _ q1 hq1).2 (by decide))
              cases hf; exact ⟨hIq1, hLq1⟩
            rcases ite_some hf with ⟨hc, hf⟩ | ⟨hc, hf⟩
            · obtain ⟨q2, hq2, hf⟩ := Option.bind_eq_some_iff.mp hf
              have hIq2 : Fr SI_174 I q2.1 := frx_t frx_r (frx_m (fr_106_1 _ _ _ _ _ q2 hq2).1 (by decide))
              have hLq2 : Fr SL_174 L q2.2 := frx_t frx_r (frx_m (fr_106_1 _ _ _ _ _ q2 hq2).2 (by decide))
              cases hf; exact ⟨hIq2, hLq2⟩
            rcases ite_some hf with ⟨hc, hf⟩ | ⟨hc, hf⟩
            · obtain ⟨q3, hq3, hf⟩ := Option.bind_eq_some_iff.mp hf
              have hIq3 : Fr SI_174 I q3.1 := frx_t frx_r (frx_m (fr_106_2 _ _ _ _ _ q3 hq3).1 (by decide))
              have hLq3 : Fr SL_174 L q3.2 := frx_t frx_r (frx_m (fr_106_2 _ _ _ _ _ q3 hq3).2 (by decide))
              cases hf; exact ⟨hIq3, hLq3⟩
            rcases ite_some hf with ⟨hc, hf⟩ | ⟨hc, hf⟩
            · obtain ⟨q4, hq4, hf⟩ := Option.bind_eq_some_iff.mp hf
              have hIq4 : Fr SI_174 I q4.1 := frx_t frx_r (frx_m (fr_106_3 _ _ _ _ _ q4 hq4).1 (by decide))
              have hLq4 : Fr SL_174 L q4.2 := frx_t frx_r (frx_m (fr_106_3 _ _ _ _ _ q4 hq4).2 (by decide))
              cases hf; exact ⟨hIq4, hLq4⟩
            cases hf
          · cases hf; exact ⟨frx_r, frx_r⟩
        · cases hf; exact ⟨frx_r, frx_r⟩
def SI_175 : List Nat := []
def SL_175 : List Nat := [82, 84, 86, 88]
theorem fr_175 (x1 : Int32) (x2 : Int32) (y3 : Int64) (I : FI) (L : FL) (r : Int32 × FI × FL) (hf : f_175 x1 x2 y3 I L = some r) : Fr SI_175 I r.2.1 ∧ Fr SL_175 L r.2.2 := by
  unfold f_175 at hf
  obtain ⟨q0, hq0, hf⟩ := Option.bind_eq_some_iff.mp hf
  rcases ite_some hf with ⟨hc, hf⟩ | ⟨hc, hf⟩
  · rcases ite_some hf with ⟨hc, hf⟩ | ⟨hc, hf⟩
    · rcases ite_some hf with ⟨hc, hf⟩ | ⟨hc, hf⟩
      · rcases ite_some hf with ⟨hc, hf⟩ | ⟨hc, hf⟩
        · cases hf; exact ⟨frx_r, frx_r⟩
        · rcases ite_some hf with ⟨hc, hf⟩ | ⟨hc, hf⟩
          · obtain ⟨q1, hq1, hf⟩ := Option.bind_eq_some_iff.mp hf
            rcases ite_some hf with ⟨hc, hf⟩ | ⟨hc, hf⟩
            · cases hf; exact ⟨frx_r, (frx_u frx_r (by decide) (by decide))⟩
            · cases hf
          · cases hf; exact ⟨frx_r, frx_r⟩
      · cases hf; exact ⟨frx_r, frx_r⟩
    rcases ite_some hf with ⟨hc, hf⟩ | ⟨hc, hf⟩
    · rcases ite_some hf with ⟨hc, hf⟩ | ⟨hc, hf⟩
      · rcases ite_some hf with ⟨hc, hf⟩ | ⟨hc, hf⟩
        · cases hf; exact ⟨frx_r, frx_r⟩
        · rcases ite_some hf with ⟨hc, hf⟩ | ⟨hc, hf⟩
          · obtain ⟨q2, hq2, hf⟩ := Option.bind_eq_some_iff.mp hf
            rcases ite_some hf with ⟨hc, hf⟩ | ⟨hc, hf⟩
            · cases hf; exact ⟨frx_r, (frx_u frx_r (by decide) (by decide))⟩
            · cases hf
          · cases hf; exact ⟨frx_r, frx_r⟩
      · cases hf; exact ⟨frx_r, frx_r⟩
    rcases ite_some hf with ⟨hc, hf⟩ | ⟨hc, hf⟩
    · rcases ite_some hf with ⟨hc, hf⟩ | ⟨hc, hf⟩
      · rcases ite_some hf with ⟨hc, hf⟩ | ⟨hc, hf⟩
        · cases hf; exact ⟨frx_r, frx_r⟩
        · rcases ite_some hf with ⟨hc, hf⟩ | ⟨hc, hf⟩
          · obtain ⟨q3, hq3, hf⟩ := Option.bind_eq_some_iff.mp hf
            rcases ite_some hf with ⟨hc, hf⟩ | ⟨hc, hf⟩
            · cases hf; exact ⟨frx_r, (frx_u frx_r (by decide) (by decide))⟩
            · cases hf
          · cases hf; exact ⟨frx_r, frx_r⟩
      · cases hf; exact ⟨frx_r, frx_r⟩
    rcases ite_some hf with ⟨hc, hf⟩ | ⟨hc, hf⟩
    · rcases ite_some hf with ⟨hc, hf⟩ | ⟨hc, hf⟩
      · rcases ite_some hf with ⟨hc, hf⟩ | ⟨hc, hf⟩
        · cases hf; exact ⟨frx_r, frx_r⟩
        · rcases ite_some hf with ⟨hc, hf⟩ | ⟨hc, hf⟩
          · obtain ⟨q4, hq4, hf⟩ := Option.bind_eq_some_iff.mp hf
            rcases ite_some hf with ⟨hc, hf⟩ | ⟨hc, hf⟩
            · cases hf; exact ⟨frx_r, (frx_u frx_r (by decide) (by decide))⟩
            · cases hf
          · cases hf; exact ⟨frx_r, frx_r⟩
      · cases hf; exact ⟨frx_r, frx_r⟩
    cases hf
  · cases hf; exact ⟨frx_r, frx_r⟩
def SI_176 : List Nat := []
def SL_176 : List Nat := [82, 84, 86, 88]
theorem fr_176 (x1 : Int32) (x2 : Int32) (x3 : Int32) (x4 : Int32) (x5 : Int32) (I : FI) (L : FL) (r : Int32 × FI × FL) (hf : f_176 x1 x2 x3 x4 x5 I L = some r) : Fr SI_176 I r.2.1 ∧ Fr SL_176 L r.2.2 := by
  unfold f_176 at hf
  obtain ⟨q0, hq0, hf⟩ := Option.bind_eq_some_iff.mp hf
  rcases ite_some hf with ⟨hc, hf⟩ | ⟨hc, hf⟩
  · cases hf; exact ⟨frx_r, frx_r⟩
  · obtain ⟨q1, hq1, hf⟩ := Option.bind_eq_some_iff.mp hf
    rcases ite_some hf with ⟨hc, hf⟩ | ⟨hc, hf⟩
    · rcases ite_some hf with ⟨hc, hf⟩ | ⟨hc, hf⟩
      · rcases ite_some hf with ⟨hc, hf⟩ | ⟨hc, hf⟩
        · rcases ite_some hf with ⟨hc, hf⟩ | ⟨hc, hf⟩
          · cases hf; exact ⟨frx_r, frx_r⟩
          · rcases ite_some hf with ⟨hc, hf⟩ | ⟨hc, hf⟩
            · rcases ite_some hf with ⟨hc, hf⟩ | ⟨hc, hf⟩
              · obtain ⟨q2, hq2, hf⟩ := Option.bind_eq_some_iff.mp hf
                rcases ite_some hf with ⟨hc, hf⟩ | ⟨hc, hf⟩
                · cases hf; exact ⟨frx_r, frx_r⟩
                · obtain ⟨q3, hq3, hf⟩ := Option.bind_eq_some_iff.mp hf
                  rcases ite_some hf with ⟨hc, hf⟩ | ⟨hc, hf⟩
                  · rcases ite_some hf with ⟨hc, hf⟩ | ⟨hc, hf⟩
                    · cases hf
                    rcases ite_some hf with ⟨hc, hf⟩ | ⟨hc, hf⟩
                    · cases hf; exact ⟨frx_r, (frx_c frx_r (by decide) (by decide))⟩
                    · cases hf
                  · cases hf; exact ⟨frx_r, frx_r⟩
              · cases hf; exact ⟨frx_r, frx_r⟩
            · cases hf; exact ⟨frx_r, frx_r⟩
        rcases ite_some hf with ⟨hc, hf⟩ | ⟨hc, hf⟩
        · rcases ite_some hf with ⟨hc, hf⟩ | ⟨hc, hf⟩
          · cases hf; exact ⟨frx_r, frx_r⟩
          · rcases ite_some hf with ⟨hc, hf⟩ | ⟨hc, hf⟩
            · rcases ite_some hf with ⟨hc, hf⟩ | ⟨hc, hf⟩
              · obtain ⟨q4, hq4, hf⟩ := Option.bind_eq_some_iff.mp hf
                rcases ite_some hf with ⟨hc, hf⟩ | ⟨hc, hf⟩
                · cases hf; exact ⟨frx_r, frx_r⟩
                · obtain ⟨q5, hq5, hf⟩ := Option.bind_eq_some_iff.mp hf
                  rcases ite_some hf with ⟨hc, hf⟩ | ⟨hc, hf⟩
                  · rcases ite_some hf with ⟨hc, hf⟩ | ⟨hc, hf⟩
                    · cases hf
                    rcases ite_some hf with ⟨hc, hf⟩ | ⟨hc, hf⟩
                    · cases hf; exact ⟨frx_r, (frx_c frx_r (by decide) (by decide))⟩
                    · cases hf
                  · cases hf; exact ⟨frx_r, frx_r⟩
              · cases hf; exact ⟨frx_r, frx_r⟩
            · cases hf; exact ⟨frx_r, frx_r⟩
        rcases ite_some hf with ⟨hc, hf⟩ | ⟨hc, hf⟩
        · rcases ite_some hf with ⟨hc, hf⟩ | ⟨hc, hf⟩
          · cases hf; exact ⟨frx_r, frx_r⟩
          · rcases ite_some hf with ⟨hc, hf⟩ | ⟨hc, hf⟩
            · rcases ite_some hf with ⟨hc, hf⟩ | ⟨hc, hf⟩
              · obtain ⟨q6, hq6, hf⟩ := Option.bind_eq_some_iff.mp hf
                rcases ite_some hf with ⟨hc, hf⟩ | ⟨hc, hf⟩
                · cases hf; exact ⟨frx_r, frx_r⟩
                · obtain ⟨q7, hq7, hf⟩ := Option.bind_eq_some_iff.mp hf
                  rcases ite_some hf with ⟨hc, hf⟩ | ⟨hc, hf⟩
                  · rcases ite_some hf with ⟨hc, hf⟩ | ⟨hc, hf⟩
                    · cases hf
                    rcases ite_some hf with ⟨hc, hf⟩ | ⟨hc, hf⟩
                    · cases hf; exact ⟨frx_r, (frx_c frx_r (by decide) (by decide))⟩
                    · cases hf
                  · cases hf; exact ⟨frx_r, frx_r⟩
              · cases hf; exact ⟨frx_r, frx_r⟩
            · cases hf; exact ⟨frx_r, frx_r⟩
        rcases ite_some hf with ⟨hc, hf⟩ | ⟨hc, hf⟩
        · rcases ite_some hf with ⟨hc, hf⟩ | ⟨hc, hf⟩
          · cases hf; exact ⟨frx_r, frx_r⟩
          · rcases ite_some hf with ⟨hc, hf⟩ | ⟨hc, hf⟩
            · rcases ite_some hf with ⟨hc, hf⟩ | ⟨hc, hf⟩
              · obtain ⟨q8, hq8, hf⟩ := Option.bind_eq_some_iff.mp hf
                rcases ite_some hf with ⟨hc, hf⟩ | ⟨hc, hf⟩
                · cases hf; exact ⟨frx_r, frx_r⟩
                · obtain ⟨q9, hq9, hf⟩ := Option.bind_eq_some_iff.mp hf
                  rcases ite_some hf with ⟨hc, hf⟩ | ⟨hc, hf⟩
                  · rcases ite_some hf with ⟨hc, hf⟩ | ⟨hc, hf⟩
                    · cases hf
                    rcases ite_some hf with ⟨hc, hf⟩ | ⟨hc, hf⟩
                    · cases hf; exact ⟨frx_r, (frx_c frx_r (by decide) (by decide))⟩
                    · cases hf
                  · cases hf; exact ⟨frx_r, frx_r⟩
              · cases hf; exact ⟨frx_r, frx_r⟩
            · cases hf; exact ⟨frx_r, frx_r⟩
        cases hf
      rcases ite_some hf with ⟨hc, hf⟩ | ⟨hc, hf⟩
      · rcases ite_some hf with ⟨hc, hf⟩ | ⟨hc, hf⟩
        · rcases ite_some hf with ⟨hc, hf⟩ | ⟨hc, hf⟩
          · cases hf; exact ⟨frx_r, frx_r⟩
          · rcases ite_some hf with ⟨hc, hf⟩ | ⟨hc, hf⟩
            · rcases ite_some hf with ⟨hc, hf⟩ | ⟨hc, hf⟩
              · obtain ⟨q10, hq10, hf⟩ := Option.bind_eq_some_iff.mp hf
                rcases ite_some hf with ⟨hc, hf⟩ | ⟨hc, hf⟩
                · cases hf; exact ⟨frx_r, frx_r⟩
                · obtain ⟨q11, hq11, hf⟩ := Option.bind_eq_some_iff.mp hf
                  rcases ite_some hf with ⟨hc, hf⟩ | ⟨hc, hf⟩
                  · rcases ite_some hf with ⟨hc, hf⟩ | ⟨hc, hf⟩
                    · cases hf
                    rcases ite_some hf with ⟨hc, hf⟩ | ⟨hc, hf⟩
                    · cases hf; exact ⟨frx_r, (frx_c frx_r (by decide) (by decide))⟩
                    · cases hf
                  · cases hf; exact ⟨frx_r, frx_r⟩
              · cases hf; exact ⟨frx_r, frx_r⟩
            · cases hf; exact ⟨frx_r, frx_r⟩
        rcases ite_some hf with ⟨hc, hf⟩ | ⟨hc, hf⟩
        · rcases ite_some hf with ⟨hc, hf⟩ | ⟨hc, hf⟩
          · cases hf; exact ⟨frx_r, frx_r⟩
          · rcases ite_some hf with ⟨hc, hf⟩ | ⟨hc, hf⟩
            · rcases ite_some hf with ⟨hc, hf⟩ | ⟨hc, hf⟩
              · obtain ⟨q12, hq12, hf⟩ := Option.bind_eq_some_iff.mp hf
                rcases ite_some hf with ⟨hc, hf⟩ | ⟨hc, hf⟩
                · cases hf; exact ⟨frx_r, frx_r⟩
                · obtain ⟨q13, hq13, hf⟩ := Option.bind_eq_some_iff.mp hf
                  rcases ite_some hf with ⟨hc, hf⟩ | ⟨hc, hf⟩
                  · rcases ite_some hf with ⟨hc, hf⟩ | ⟨hc, hf⟩
                    · cases hf
                    rcases ite_some hf with ⟨hc, hf⟩ | ⟨hc, hf⟩
                    · cases hf; exact ⟨frx_r, (frx_c frx_r (by decide) (by decide))⟩
                    · cases hf
                  · cases hf; exact ⟨frx_r, frx_r⟩
              · cases hf; exact ⟨frx_r, frx_r⟩
            · cases hf; exact ⟨frx_r, frx_r⟩
        rcases ite_some hf with ⟨hc, hf⟩ | ⟨hc, hf⟩
        · rcases ite_some hf with ⟨hc, hf⟩ | ⟨hc, hf⟩
          · cases hf; exact ⟨frx_r, frx_r⟩
          · rcases ite_some hf with ⟨hc, hf⟩ | ⟨hc, hf⟩
            · rcases ite_some hf with ⟨hc, hf⟩ | ⟨hc, hf⟩
              · obtain ⟨q14, hq14, hf⟩ := Option.bind_eq_some_iff.mp hf
                rcases ite_some hf with ⟨hc, hf⟩ | ⟨hc, hf⟩
                · cases hf; exact ⟨frx_r, frx_r⟩
                · obtain ⟨q15, hq15, hf⟩ := Option.bind_eq_some_iff.mp hf
                  rcases ite_some hf with ⟨hc, hf⟩ | ⟨hc, hf⟩
                  · rcases ite_some hf with ⟨hc, hf⟩ | ⟨hc, hf⟩
                    · cases hf
                    rcases ite_some hf with ⟨hc, hf⟩ | ⟨hc, hf⟩
                    · cases hf; exact ⟨frx_r, (frx_c frx_r (by decide) (by decide))⟩
                    · cases hf
                  · cases hf; exact ⟨frx_r, frx_r⟩
              · cases hf; exact ⟨frx_r, frx_r⟩
            · cases hf; exact ⟨frx_r, frx_r⟩
        rcases ite_some hf with ⟨hc, hf⟩ | ⟨hc, hf⟩
        · rcases ite_some hf with ⟨hc, hf⟩ | ⟨hc, hf⟩
          · cases hf; exact ⟨frx_r, frx_r⟩
          · rcases ite_some hf with ⟨hc, hf⟩ | ⟨hc, hf⟩
            · rcases ite_some hf with ⟨hc, hf⟩ | ⟨hc, hf⟩
              · obtain ⟨q16, hq16, hf⟩ := Option.bind_eq_some_iff.mp hf
                rcases ite_some hf with ⟨hc, hf⟩ | ⟨hc, hf⟩
                · cases hf; exact ⟨frx_r, frx_r⟩
                · obtain ⟨q17, hq17, hf⟩ := Option.bind_eq_some_iff.mp hf
                  rcases ite_some hf with ⟨hc, hf⟩ | ⟨hc, hf⟩
                  · rcases ite_some hf with ⟨hc, hf⟩ | ⟨hc, hf⟩
                    · cases hf
                    rcases ite_some hf with ⟨hc, hf⟩ | ⟨hc, hf⟩
                    · cases hf; exact ⟨frx_r, (frx_c frx_r (by decide) (by decide))⟩
                    · cases hf
                  · cases hf; exact ⟨frx_r, frx_r⟩
              · cases hf; exact ⟨frx_r, frx_r⟩
            · cases hf; exact ⟨frx_r, frx_r⟩
        cases hf
      rcases ite_some hf with ⟨hc, hf⟩ | ⟨hc, hf⟩
      · rcases ite_some hf with ⟨hc, hf⟩ | ⟨hc, hf⟩
        · rcases ite_some hf with ⟨hc, hf⟩ | ⟨hc, hf⟩
          · cases hf; exact ⟨frx_r, frx_r⟩
          · rcases ite_some hf with ⟨hc, hf⟩ | ⟨hc, hf⟩
            · rcases ite_some hf with ⟨hc, hf⟩ | ⟨hc, hf⟩
              · obtain ⟨q18, hq18, hf⟩ := Option.bind_eq_some_iff.mp hf
                rcases ite_some hf with ⟨hc, hf⟩ | ⟨hc, hf⟩
                · cases hf; exact ⟨frx_r, frx_r⟩
                · obtain ⟨q19, hq19, hf⟩ := Option.bind_eq_some_iff.mp hf
                  rcases ite_some hf with ⟨hc, hf⟩ | ⟨hc, hf⟩
                  · rcases ite_some hf with ⟨hc, hf⟩ | ⟨hc, hf⟩
                    · cases hf
                    rcases ite_some hf with ⟨hc, hf⟩ | ⟨hc, hf⟩
                    · cases hf; exact ⟨frx_r, (frx_c frx_r (by decide) (by decide))⟩
                    · cases hf
                  · cases hf; exact ⟨frx_r, frx_r⟩
              · cases hf; exact ⟨frx_r, frx_r⟩
            · cases hf; exact ⟨frx_r, frx_r⟩
        rcases ite_some hf with ⟨hc, hf⟩ | ⟨hc, hf⟩
        · rcases ite_some hf with ⟨hc, hf⟩ | ⟨hc, hf⟩
          · cases hf; exact ⟨frx_r, frx_r⟩
          · rcases ite_some hf with ⟨hc, hf⟩ | ⟨hc, hf⟩
            · rcases ite_some hf with ⟨hc, hf⟩ | ⟨hc, hf⟩
              · obtain ⟨q20, hq20, hf⟩ := Option.bind_eq_some_iff.mp hf
                rcases ite_some hf with ⟨hc, hf⟩ | ⟨hc, hf⟩
                · cases hf; exact ⟨frx_r, frx_r⟩
                · obtain ⟨q21, hq21, hf⟩ := Option.bind_eq_some_iff.mp hf
                  rcases ite_some hf with ⟨hc, hf⟩ | ⟨hc, hf⟩
                  · rcases ite_some hf with ⟨hc, hf⟩ | ⟨hc, hf⟩
                    · cases hf
                    rcases ite_some hf with ⟨hc, hf⟩ | ⟨hc, hf⟩
                    · cases hf; exact ⟨frx_r, (frx_c frx_r (by decide) (by decide))⟩
                    · cases hf
                  · cases hf; exact ⟨frx_r, frx_r⟩
              · cases hf; exact ⟨frx_r, frx_r⟩
            · cases hf; exact ⟨frx_r, frx_r⟩
        rcases ite_some hf with ⟨hc, hf⟩ | ⟨hc, hf⟩
        · rcases ite_some hf with ⟨hc, hf⟩ | ⟨hc, hf⟩
          · cases hf; exact ⟨frx_r, frx_r⟩
          · rcases ite_some hf with ⟨hc, hf⟩ | ⟨hc, hf⟩
            · rcases ite_some hf with ⟨hc, hf⟩ | ⟨hc, hf⟩
              · obtain ⟨q22, hq22, hf⟩ := Option.bind_eq_some_iff.mp hf
                rcases ite_some hf with ⟨hc, hf⟩ | ⟨hc, hf⟩
                · cases hf; exact ⟨frx_r, frx_r⟩
                · obtain ⟨q23, hq23, hf⟩ := Option.bind_eq_some_iff.mp hf
                  rcases ite_some hf with ⟨hc, hf⟩ | ⟨hc, hf⟩
                  · rcases ite_some hf with ⟨hc, hf⟩ | ⟨hc, hf⟩
                    · cases hf
                    rcases ite_some hf with ⟨hc, hf⟩ | ⟨hc, hf⟩
                    · cases hf; exact ⟨frx_r, (frx_c frx_r (by decide) (by decide))⟩
                    · cases hf
                  · cases hf; exact ⟨frx_r, frx_r⟩
              · cases hf; exact ⟨frx_r, frx_r⟩
            · cases hf; exact ⟨frx_r, frx_r⟩
        rcases ite_some hf with ⟨hc, hf⟩ | ⟨hc, hf⟩
        · rcases ite_some hf with ⟨hc, hf⟩ | ⟨hc, hf⟩
          · cases hf; exact ⟨frx_r, frx_r⟩
          · rcases ite_some hf with ⟨hc, hf⟩ | ⟨hc, hf⟩
            · rcases ite_some hf with ⟨hc, hf⟩ | ⟨hc, hf⟩
              · obtain ⟨q24, hq24, hf⟩ := Option.bind_eq_some_iff.mp hf
                rcases ite_some hf with ⟨hc, hf⟩ | ⟨hc, hf⟩
                · cases hf; exact ⟨frx_r, frx_r⟩
                · obtain ⟨q25, hq25, hf⟩ := Option.bind_eq_some_iff.mp hf
                  rcases ite_some hf with ⟨hc, hf⟩ | ⟨hc, hf⟩
                  · rcases ite_some hf with ⟨hc, hf⟩ | ⟨hc, hf⟩
                    · cases hf
                    rcases ite_some hf with ⟨hc, hf⟩ | ⟨hc, hf⟩
                    · cases hf; exact ⟨frx_r, (frx_c frx_r (by decide) (by decide))⟩
                    · cases hf
                  · cases hf; exact ⟨frx_r, frx_r⟩
              · cases hf; exact ⟨frx_r, frx_r⟩
            · cases hf; exact ⟨frx_r, frx_r⟩
        cases hf
      rcases ite_some hf with ⟨hc, hf⟩ | ⟨hc, hf⟩
      · rcases ite_some hf with ⟨hc, hf⟩ | ⟨hc, hf⟩
        · rcases ite_some hf with ⟨hc, hf⟩ | ⟨hc, hf⟩
          · cases hf; exact ⟨frx_r, frx_r⟩
          · rcases ite_some hf with ⟨hc, hf⟩ | ⟨hc, hf⟩
            · rcases ite_some hf with ⟨hc, hf⟩ | ⟨hc, hf⟩
              · obtain ⟨q26, hq26, hf⟩ := Option.bind_eq_some_iff.mp hf
                rcases ite_some hf with ⟨hc, hf⟩ | ⟨hc, hf⟩
                · cases hf; exact ⟨frx_r, frx_r⟩
                · obtain ⟨q27, hq27, hf⟩ := Option.bind_eq_some_iff.mp hf
                  rcases ite_some hf with ⟨hc, hf⟩ | ⟨hc, hf⟩
                  · rcases ite_some hf with ⟨hc, hf⟩ | ⟨hc, hf⟩
                    · cases hf
                    rcases ite_some hf with ⟨hc, hf⟩ | ⟨hc, hf⟩
                    · cases hf; exact ⟨frx_r, (frx_c frx_r (by decide) (by decide))⟩
                    · cases hf
                  · cases hf; exact ⟨frx_r, frx_r⟩
              · cases hf; exact ⟨frx_r, frx_r⟩
            · cases hf; exact ⟨frx_r, frx_r⟩
        rcases ite_some hf with ⟨hc, hf⟩ | ⟨hc, hf⟩
        · rcases ite_some hf with ⟨hc, hf⟩ | ⟨hc, hf⟩
          · cases hf; exact ⟨frx_r, frx_r⟩
          · rcases ite_some hf with ⟨hc, hf⟩ | ⟨hc, hf⟩
            · rcases ite_some hf with ⟨hc, hf⟩ | ⟨hc, hf⟩
              · obtain ⟨q28, hq28, hf⟩ := Option.bind_eq_some_iff.mp hf
                rcases ite_some hf with ⟨hc, hf⟩ | ⟨hc, hf⟩
                · cases hf; exact ⟨frx_r, frx_r⟩
                · obtain ⟨q29, hq29, hf⟩ := Option.bind_eq_some_iff.mp hf
                  rcases ite_some hf with ⟨hc, hf⟩ | ⟨hc, hf⟩
                  · rcases ite_some hf with ⟨hc, hf⟩ | ⟨hc, hf⟩
                    · cases hf
                    rcases ite_some hf with ⟨hc, hf⟩ | ⟨hc, hf⟩
                    · cases hf; exact ⟨frx_r, (frx_c frx_r (by decide) (by decide))⟩
                    · cases hf
                  · cases hf; exact ⟨frx_r, frx_r⟩
              · cases hf; exact ⟨frx_r, frx_r⟩
            · cases hf; exact ⟨frx_r, frx_r⟩
        rcases ite_some hf with ⟨hc, hf⟩ | ⟨hc, hf⟩
        · rcases ite_some hf with ⟨hc, hf⟩ | ⟨hc, hf⟩
          · cases hf; exact ⟨frx_r, frx_r⟩
          · rcases ite_some hf with ⟨hc, hf⟩ | ⟨hc, hf⟩
            · rcases ite_some hf with ⟨hc, hf⟩ | ⟨hc, hf⟩
              · obtain ⟨q30, hq30, hf⟩ := Option.bind_eq_some_iff.mp hf
                rcases ite_some hf with ⟨hc, hf⟩ | ⟨hc, hf⟩
                · cases hf; exact ⟨frx_r, frx_r⟩
                · obtain ⟨q31, hq31, hf⟩ := Option.bind_eq_some_iff.mp hf
                  rcases ite_some hf with ⟨hc, hf⟩ | ⟨hc, hf⟩
                  · rcases ite_some hf with ⟨hc, hf⟩ | ⟨hc, hf⟩
                    · cases hf
                    rcases ite_some hf with ⟨hc, hf⟩ | ⟨hc, hf⟩
                    · cases hf; exact ⟨frx_r, (frx_c frx_r (by decide) (by decide))⟩
                    · cases hf
                  · cases hf; exact ⟨frx_r, frx_r⟩
              · cases hf; exact ⟨frx_r, frx_r⟩
            · cases hf; exact ⟨frx_r, frx_r⟩
        rcases ite_some hf with ⟨hc, hf⟩ | ⟨hc, hf⟩
        · rcases ite_some hf with ⟨hc, hf⟩ | ⟨hc, hf⟩
          · cases hf; exact ⟨frx_r, frx_r⟩
          · rcases ite_some hf with ⟨hc, hf⟩ | ⟨hc, hf⟩
            · rcases ite_some hf with ⟨hc, hf⟩ | ⟨hc, hf⟩
              · obtain ⟨q32, hq32, hf⟩ := Option.bind_eq_some_iff.mp hf
                rcases ite_some hf with ⟨hc, hf⟩ | ⟨hc, hf⟩
                · cases hf; exact ⟨frx_r, frx_r⟩
                · obtain ⟨q33, hq33, hf⟩ := Option.bind_eq_some_iff.mp hf
                  rcases ite_some hf with ⟨hc, hf⟩ | ⟨hc, hf⟩
                  · rcases ite_some hf with ⟨hc, hf⟩ | ⟨hc, hf⟩
                    · cases hf
                    rcases ite_some hf with ⟨hc, hf⟩ | ⟨hc, hf⟩
                    · cases hf; exact ⟨frx_r, (frx_c frx_r (by decide) (by decide))⟩
                    · cases hf
                  · cases hf; exact ⟨frx_r, frx_r⟩
              · cases hf; exact ⟨frx_r, frx_r⟩
            · cases hf; exact ⟨frx_r, frx_r⟩
        cases hf
      cases hf
    · cases hf; exact ⟨frx_r, frx_r⟩
def SI_194_1 : List Nat := [26, 27, 28, 29, 30, 31, 32]
def SL_194_1 : List Nat := []
theorem fr_194_1 (n : Nat) (x1 : Int32) (x2 : Int32) (I : FI) (L : FL) (r : FI × FL) (hf : f_194_1 n x1 x2 I L = some r) : Fr SI_194_1 I r.1 ∧ Fr SL_194_1 L r.2 := by
  unfold f_194_1 at hf
  obtain ⟨q0, hq0, hf⟩ := Option.bind_eq_some_iff.mp hf
  have hIq0 : Fr SI_194_1 I q0.1 := frx_t frx_r (frx_m (fr_53 _ _ _ _ q0 hq0).1 (by decide))
  have hLq0 : Fr SL_194_1 L q0.2 := frx_t frx_r (frx_m (fr_53 _ _ _ _ q0 hq0).2 (by decide))
  rcases ite_some hf with ⟨hc, hf⟩ | ⟨hc, hf⟩
  · rcases ite_some hf with ⟨hc, hf⟩ | ⟨hc, hf⟩
    · obtain ⟨q1, hq1, hf⟩ := Option.bind_eq_some_iff.mp hf
      have hIq1 : Fr SI_194_1 I q1.1 := frx_t (frx_u hIq0 (by decide) (by decide)) (frx_m (fr_55 _ _ _ q1 hq1).1 (by decide))
      have hLq1 : Fr SL_194_1 L q1.2 := frx_t hLq0 (frx_m (fr_55 _ _ _ q1 hq1).2 (by decide))
      cases hf; exact ⟨hIq1, hLq1⟩
    · cases hf
  · cases hf
