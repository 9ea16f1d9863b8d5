def S_findA : List Nat := [114, 115, 116, 117, 118, 119, 120, 121]
theorem frc_z31_1 (n : Nat) : ∀ (m : Nat) (x2 : Int32) (I : FI) (L : FL) (r : FI × FL), c_z31_1 n m x2 I L = some r → Fr S_findA I r.1 ∧ Fr S_findA L r.2
  | 0, x2, I, L, r, hf => by cases hf
  | m + 1, x2, I, L, r, hf => by
    unfold c_z31_1 b_z31_1 at hf
    rcases ite_some hf with ⟨hc, hf⟩ | ⟨hc, hf⟩
    · cases hf; exact ⟨frx_r, frx_r⟩
    · rcases ite_some hf with ⟨hc, hf⟩ | ⟨hc, hf⟩
      · have h := frc_z31_1 n m _ _ _ _ hf
        exact ⟨frx_t (frx_u frx_r (by decide) (by decide)) h.1, h.2⟩
      · cases hf
theorem frc_z31_0 (n : Nat) : ∀ (m : Nat) (x2 : Int32) (I : FI) (L : FL) (r : FI × FL), c_z31_0 n m x2 I L = some r → Fr S_findA I r.1 ∧ Fr S_findA L r.2
  | 0, x2, I, L, r, hf => by cases hf
  | m + 1, x2, I, L, r, hf => by
    unfold c_z31_0 b_z31_0 at hf
    rcases ite_some hf with ⟨hc, hf⟩ | ⟨hc, hf⟩
    · exact frc_z31_1 n n _ _ _ _ hf
    · rcases ite_some hf with ⟨hc, hf⟩ | ⟨hc, hf⟩
      · have h := frc_z31_0 n m _ _ _ _ hf
        exact ⟨frx_t (frx_u frx_r (by decide) (by decide)) h.1, h.2⟩
      · cases hf
theorem fr_findA (n : Nat) (I : FI) (L : FL) (r : FI × FL) (hf : f_findA n I L = some r) : Fr S_findA I r.1 ∧ Fr S_findA L r.2 := by
  unfold f_findA at hf
  obtain ⟨q0, hq0, hf⟩ := Option.bind_eq_some_iff.mp hf
  obtain ⟨q1, hq1, hf⟩ := Option.bind_eq_some_iff.mp hf
  cases hf
  unfold f_p30_114 at hq0
  obtain ⟨q2, hq2, hq0⟩ := Option.bind_eq_some_iff.mp hq0
  cases hq0
  unfold f_p3_115 at hq2
  cases hq2
  have h := frc_z31_0 n n _ _ _ _ hq1
  refine ⟨frx_t ?_ h.1, frx_t ?_ h.2⟩
  · repeat' (first | exact frx_r | refine frx_u ?_ (by decide) (by decide) | refine frx_z ?_ (by decide) (by decide))
  · repeat' (first | exact frx_r | refine frx_u ?_ (by decide) (by decide) | refine frx_z ?_ (by decide) (by decide))
def SI_186 : List Nat := [35, 39]
def SL_186 : List Nat := []
theorem fr_186 (n : Nat) (I : FI) (L : FL) (r : FI × FL) (hf : f_186 n I L = some r) : Fr SI_186 I r.1 ∧ Fr SL_186 L r.2 := by
  unfold f_186 at hf
  obtain ⟨q0, hq0, hf⟩ := Option.bind_eq_some_iff.mp hf
  have hIq0 : Fr SI_186 I q0.1 := frx_t frx_r (frx_m (fr_95 _ _ _ q0 hq0).1 (by decide))
  have hLq0 : Fr SL_186 L q0.2 := frx_t frx_r (frx_m (fr_95 _ _ _ q0 hq0).2 (by decide))
  cases hf; exact ⟨hIq0, hLq0⟩
def SI_115 : List Nat := [1, 3, 4, 5, 6, 7, 8, 9, 10, 11, 14, 15, 16, 17, 18, 20, 21, 22, 23, 24, 25, 35, 39]
def SL_115 : List Nat := []
theorem fr_115 (n : Nat) (rh : Option Nat) (I : FI) (L : FL) (r : Int32 × Option Nat × FI × FL) (hf : f_115 n rh I L = some r) : Fr SI_115 I r.2.2.1 ∧ Fr SL_115 L r.2.2.2 := by
  unfold f_115 at hf
  obtain ⟨q0, hq0, hf⟩ := Option.bind_eq_some_iff.mp hf
  have hIq0 : Fr SI_115 I q0.1 := frx_t frx_r (frx_m (fr_74 _ _ _ q0 hq0).1 (by decide))
  have hLq0 : Fr SL_115 L q0.2 := frx_t frx_r (frx_m (fr_74 _ _ _ q0 hq0).2 (by decide))
  rcases ite_some hf with ⟨hc, hf⟩ | ⟨hc, hf⟩
  · obtain ⟨q1, hq1, hf⟩ := Option.bind_eq_some_iff.mp hf
    have hIq1 : Fr SI_115 I q1.1 := frx_t (frx_u hIq0 (by decide) (by decide)) (frx_m (fr_17 _ _ q1 hq1).1 (by decide))
    have hLq1 : Fr SL_115 L q1.2 := frx_t hLq0 (frx_m (fr_17 _ _ q1 hq1).2 (by decide))
    obtain ⟨q2, hq2, hf⟩ := Option.bind_eq_some_iff.mp hf
    have hIq2 : Fr SI_115 I q2.1 := frx_t hIq1 (frx_m (fr_18 _ _ _ q2 hq2).1 (by decide))
    have hLq2 : Fr SL_115 L q2.2 := frx_t hLq1 (frx_m (fr_18 _ _ _ q2 hq2).2 (by decide))
    obtain ⟨q3, hq3, hf⟩ := Option.bind_eq_some_iff.mp hf
    have hIq3 : Fr SI_115 I q3.1 := frx_t (frx_u hIq2 (by decide) (by decide)) (frx_m (fr_186 _ _ _ q3 hq3).1 (by decide))
    have hLq3 : Fr SL_115 L q3.2 := frx_t hLq2 (frx_m (fr_186 _ _ _ q3 hq3).2 (by decide))
    cases hf; exact ⟨hIq3, hLq3⟩
  · cases hf; exact ⟨(frx_u hIq0 (by decide) (by decide)), hLq0⟩
def SI_136 : List Nat := [114, 115, 116, 117, 118, 119, 120, 121]
def SL_136 : List Nat := [114, 115, 116, 117, 118, 119, 120, 121]
theorem fr_136 (n : Nat) (x1 : Int32) (I : FI) (L : FL) (r : Int32 × Bool × FI × FL) (hf : f_136 n x1 I L = some r) : Fr SI_136 I r.2.2.1 ∧ Fr SL_136 L r.2.2.2 := by
  unfold f_136 at hf
  obtain ⟨q0, hq0, hf⟩ := Option.bind_eq_some_iff.mp hf
  rcases ite_some hf with ⟨hc, hf⟩ | ⟨hc, hf⟩
  · cases hf; exact ⟨frx_r, frx_r⟩
  · rcases ite_some hf with ⟨hc, hf⟩ | ⟨hc, hf⟩
    · cases hf; exact ⟨frx_r, frx_r⟩
    · obtain ⟨q1, hq1, hf⟩ := Option.bind_eq_some_iff.mp hf
      rcases ite_some hf with ⟨hc, hf⟩ | ⟨hc, hf⟩
      · obtain ⟨q2, hq2, hf⟩ := Option.bind_eq_some_iff.mp hf
        obtain ⟨q3, hq3, hf⟩ := Option.bind_eq_some_iff.mp hf
        have hIq3 : Fr SI_136 I q3.1 := frx_t frx_r (frx_m (fr_findA _ _ _ q3 hq3).1 (by decide))
        have hLq3 : Fr SL_136 L q3.2 := frx_t frx_r (frx_m (fr_findA _ _ _ q3 hq3).2 (by decide))
        obtain ⟨q4, hq4, hf⟩ := Option.bind_eq_some_iff.mp hf
        have hIq4 : Fr SI_136 I q4.2.1 := frx_t hIq3 (frx_m (fr_32 _ _ _ _ q4 hq4).1 (by decide))
        have hLq4 : Fr SL_136 L q4.2.2 := frx_t hLq3 (frx_m (fr_32 _ _ _ _ q4 hq4).2 (by decide))
        obtain ⟨q5, hq5, hf⟩ := Option.bind_eq_some_iff.mp hf
        rcases ite_some hf with ⟨hc, hf⟩ | ⟨hc, hf⟩
        · cases hf; exact ⟨hIq4, hLq4⟩
        · cases hf; exact ⟨hIq4, hLq4⟩
      · cases hf; exact ⟨frx_r, frx_r⟩
def SI_137 : List Nat := [114, 115, 116, 117, 118, 119, 120, 121]
def SL_137 : List Nat := [114, 115, 116, 117, 118, 119, 120, 121]
theorem fr_137 (n : Nat) (I : FI) (L : FL) (r : Int32 × Bool × FI × FL) (hf : f_137 n I L = some r) : Fr SI_137 I r.2.2.1 ∧ Fr SL_137 L r.2.2.2 := by
  unfold f_137 at hf
  obtain ⟨q0, hq0, hf⟩ := Option.bind_eq_some_iff.mp hf
  rcases ite_some hf with ⟨hc, hf⟩ | ⟨hc, hf⟩
  · cases hf; exact ⟨frx_r, frx_r⟩
  · obtain ⟨q1, hq1, hf⟩ := Option.bind_eq_some_iff.mp hf
    have hIq1 : Fr SI_137 I q1.1 := frx_t frx_r (frx_m (fr_findA _ _ _ q1 hq1).1 (by decide))
    have hLq1 : Fr SL_137 L q1.2 := frx_t frx_r (frx_m (fr_findA _ _ _ q1 hq1).2 (by decide))
    obtain ⟨q2, hq2, hf⟩ := Option.bind_eq_some_iff.mp hf
    have hIq2 : Fr SI_137 I q2.2.1 := frx_t hIq1 (frx_m (fr_33 _ _ _ q2 hq2).1 (by decide))
    have hLq2 : Fr SL_137 L q2.2.2 := frx_t hLq1 (frx_m (fr_33 _ _ _ q2 hq2).2 (by decide))
    cases hf; exact ⟨hIq2, hLq2⟩
def SI_138 : List Nat := [114, 115, 116, 117, 118, 119, 120, 121]
def SL_138 : List Nat := [114, 115, 116, 117, 118, 119, 120, 121]
theorem fr_138 (n : Nat) (I : FI) (L : FL) (r : Int32 × Bool × FI × FL) (hf : f_138 n I L = some r) : Fr SI_138 I r.2.2.1 ∧ Fr SL_138 L r.2.2.2 := by
  unfold f_138 at hf
  obtain ⟨q0, hq0, hf⟩ := Option.bind_eq_some_iff.mp hf
  rcases ite_some hf with ⟨hc, hf⟩ | ⟨hc, hf⟩
  · cases hf; exact ⟨frx_r, frx_r⟩
  · obtain ⟨q1, hq1, hf⟩ := Option.bind_eq_some_iff.mp hf
    have hIq1 : Fr SI_138 I q1.1 := frx_t frx_r (frx_m (fr_findA _ _ _ q1 hq1).1 (by decide))
    have hLq1 : Fr SL_138 L q1.2 := frx_t frx_r (frx_m (fr_findA _ _ _ q1 hq1).2 (by decide))
    obtain ⟨q2, hq2, hf⟩ := Option.bind_eq_some_iff.mp hf
    have hIq2 : Fr SI_138 I q2.2.1 := frx_t hIq1 (frx_m (fr_34 _ _ _ q2 hq2).1 (by decide))
    have hLq2 : Fr SL_138 L q2.2.2 := frx_t hLq1 (frx_m (fr_34 _ _ _ q2 hq2).2 (by decide))
    cases hf; exact ⟨hIq2, hLq2⟩
def SI_139 : List Nat := [114, 115, 116, 117, 118, 119, 120, 121]
def SL_139 : List Nat := [114, 115, 116, 117, 118, 119, 120, 121]
theorem fr_139 (n : Nat) (I : FI) (L : FL) (r : Int32 × Bool × FI × FL) (hf : f_139 n I L = some r) : Fr SI_139 I r.2.2.1 ∧ Fr SL_139 L r.2.2.2 := by
  unfold f_139 at hf
  obtain ⟨q0, hq0, hf⟩ := Option.bind_eq_some_iff.mp hf
  rcases ite_some hf with ⟨hc, hf⟩ | ⟨hc, hf⟩
  · cases hf; exact ⟨frx_r, frx_r⟩
  · obtain ⟨q1, hq1, hf⟩ := Option.bind_eq_some_iff.mp hf
    have hIq1 : Fr SI_139 I q1.1 := frx_t frx_r (frx_m (fr_findA _ _ _ q1 hq1).1 (by decide))
    have hLq1 : Fr SL_139 L q1.2 := frx_t frx_r (frx_m (fr_findA _ _ _ q1 hq1).2 (by decide))
    obtain ⟨q2, hq2, hf⟩ := Option.bind_eq_some_iff.mp hf
    have hIq2 : Fr SI_139 I q2.2.1 := frx_t hIq1 (frx_m (fr_35 _ _ _ q2 hq2).1 (by decide))
    have hLq2 : Fr SL_139 L q2.2.2 := frx_t hLq1 (frx_m (fr_35 _ _ _ q2 hq2).2 (by decide))
    cases hf; exact ⟨hIq2, hLq2⟩
def SI_189 : List Nat := [114, 115, 116, 117, 118, 119, 120, 121]
def SL_189 : List Nat := [114, 115, 116, 117, 118, 119, 120, 121]
theorem frc_189_1 (n : Nat) (K0 : Int32 → Int32 → FI → FL → Option (Int32 × Bool × FI × FL)) (hK0 : ∀ (x1 : Int32) (x2 : Int32) (I : FI) (L : FL) (r : Int32 × Bool × FI × FL), K0 x1 x2 I L = some r → Fr SI_189 I r.2.2.1 ∧ Fr SL_189 L r.2.2.2) (x1 : Int32) (x2 : Int32) (I : FI) (L : FL) (r : Int32 × Bool × FI × FL) (hf : c_189_1 n K0 x1 x2 I L = some r) : Fr SI_189 I r.2.2.1 ∧ Fr SL_189 L r.2.2.2 := by
  unfold c_189_1 at hf
  exact ⟨frx_t frx_r (hK0 x1 (x2 + (1 : Int32)) I L r hf).1, frx_t frx_r (hK0 x1 (x2 + (1 : Int32)) I L r hf).2⟩
theorem frc_189_3 (n : Nat) (K2 : Int32 → Int32 → FI → FL → Option (Int32 × Bool × FI × FL)) (hK2 : ∀ (x1 : Int32) (x2 : Int32) (I : FI) (L : FL) (r : Int32 × Bool × FI × FL), K2 x1 x2 I L = some r → Fr SI_189 I r.2.2.1 ∧ Fr SL_189 L r.2.2.2) (x1 : Int32) (x2 : Int32) (I : FI) (L : FL) (r : Int32 × Bool × FI × FL) (hf : c_189_3 n K2 x1 x2 I L = some r) : Fr SI_189 I r.2.2.1 ∧ Fr SL_189 L r.2.2.2 := by
  unfold c_189_3 at hf
  obtain ⟨q7, hq7, hf⟩ := Option.bind_eq_some_iff.mp hf
  rcases ite_some hf with ⟨hc, hf⟩ | ⟨hc, hf⟩
  · cases hf; exact ⟨frx_r, frx_r⟩
  · obtain ⟨q8, hq8, hf⟩ := Option.bind_eq_some_iff.mp hf
    obtain ⟨q9, hq9, hf⟩ := Option.bind_eq_some_iff.mp hf
    rcases ite_some hf with ⟨hc, hf⟩ | ⟨hc, hf⟩
    · exact ⟨frx_t frx_r (hK2 x1 x2 I L r hf).1, frx_t frx_r (hK2 x1 x2 I L r hf).2⟩
    · obtain ⟨q10, hq10, hf⟩ := Option.bind_eq_some_iff.mp hf
      obtain ⟨q11, hq11, hf⟩ := Option.bind_eq_some_iff.mp hf
      have hIq11 : Fr SI_189 I q11.1 := frx_t frx_r (frx_m (fr_187 _ _ q11 hq11).1 (by decide))
      have hLq11 : Fr SL_189 L q11.2 := frx_t frx_r (frx_m (fr_187 _ _ q11 hq11).2 (by decide))
      obtain ⟨q12, hq12, hf⟩ := Option.bind_eq_some_iff.mp hf
      have hIq12 : Fr SI_189 I q12.2.1 := frx_t hIq11 (frx_m (fr_32 _ _ _ _ q12 hq12).1 (by decide))
      have hLq12 : Fr SL_189 L q12.2.2 := frx_t hLq11 (frx_m (fr_32 _ _ _ _ q12 hq12).2 (by decide))
      obtain ⟨q13, hq13, hf⟩ := Option.bind_eq_some_iff.mp hf
      rcases ite_some hf with ⟨hc, hf⟩ | ⟨hc, hf⟩
      · exact ⟨frx_t hIq12 (hK2 x1 x2 q12.2.1 q12.2.2 r hf).1, frx_t hLq12 (hK2 x1 x2 q12.2.1 q12.2.2 r hf).2⟩
      · exact ⟨frx_t hIq12 (hK2 x2 x2 q12.2.1 q12.2.2 r hf).1, frx_t hLq12 (hK2 x2 x2 q12.2.1 q12.2.2 r hf).2⟩
theorem frc_189_2 (n : Nat) : ∀ (m : Nat) (x1 : Int32) (x2 : Int32) (I : FI) (L : FL) (r : Int32 × Bool × FI × FL), c_189_2 n m x1 x2 I L = some r → Fr SI_189 I r.2.2.1 ∧ Fr SL_189 L r.2.2.2
  | 0, x1, x2, I, L, r, hf => by cases hf
  | m + 1, x1, x2, I, L, r, hf => by
    unfold c_189_2 b_189_2 at hf
    have hK2 := frc_189_2 n m
    exact ⟨frx_t frx_r (frc_189_3 n _ hK2 x1 (x2 + (1 : Int32)) I L r hf).1, frx_t frx_r (frc_189_3 n _ hK2 x1 (x2 + (1 : Int32)) I L r hf).2⟩
theorem frc_189_0 (n : Nat) : ∀ (m : Nat) (x1 : Int32) (x2 : Int32) (I : FI) (L : FL) (r : Int32 × Bool × FI × FL), c_189_0 n m x1 x2 I L = some r → Fr SI_189 I r.2.2.1 ∧ Fr SL_189 L r.2.2.2
  | 0, x1, x2, I, L, r, hf => by cases hf
  | m + 1, x1, x2, I, L, r, hf => by
    unfold c_189_0 b_189_0 at hf
    have hK0 := frc_189_0 n m
    obtain ⟨q0, hq0, hf⟩ := Option.bind_eq_some_iff.mp hf
    rcases ite_some hf with ⟨hc, hf⟩ | ⟨hc, hf⟩
    · cases hf; exact ⟨frx_r, frx_r⟩
    · obtain ⟨q1, hq1, hf⟩ := Option.bind_eq_some_iff.mp hf
      obtain ⟨q2, hq2, hf⟩ := Option.bind_eq_some_iff.mp hf
      rcases ite_some hf with ⟨hc, hf⟩ | ⟨hc, hf⟩
      · exact ⟨frx_t frx_r (frc_189_1 n _ hK0 x1 x2 I L r hf).1, frx_t frx_r (frc_189_1 n _ hK0 x1 x2 I L r hf).2⟩
      · obtain ⟨q3, hq3, hf⟩ := Option.bind_eq_some_iff.mp hf
        obtain ⟨q4, hq4, hf⟩ := Option.bind_eq_some_iff.mp hf
        have hIq4 : Fr SI_189 I q4.1 := frx_t frx_r (frx_m (fr_findA _ _ _ q4 hq4).1 (by decide))
        have hLq4 : Fr SL_189 L q4.2 := frx_t frx_r (frx_m (fr_findA _ _ _ q4 hq4).2 (by decide))
        obtain ⟨q5, hq5, hf⟩ := Option.bind_eq_some_iff.mp hf
        have hIq5 : Fr SI_189 I q5.2.1 := frx_t hIq4 (frx_m (fr_32 _ _ _ _ q5 hq5).1 (by decide))
        have hLq5 : Fr SL_189 L q5.2.2 := frx_t hLq4 (frx_m (fr_32 _ _ _ _ q5 hq5).2 (by decide))
        obtain ⟨q6, hq6, hf⟩ := Option.bind_eq_some_iff.mp hf
        rcases ite_some hf with ⟨hc, hf⟩ | ⟨hc, hf⟩
        · exact ⟨frx_t hIq5 (frc_189_2 n n x1 x2 q5.2.1 q5.2.2 r hf).1, frx_t hLq5 (frc_189_2 n n x1 x2 q5.2.1 q5.2.2 r hf).2⟩
        · exact ⟨frx_t hIq5 (frc_189_2 n n x2 x2 q5.2.1 q5.2.2 r hf).1, frx_t hLq5 (frc_189_2 n n x2 x2 q5.2.1 q5.2.2 r hf).2⟩
theorem fr_189 (n : Nat) (I : FI) (L : FL) (r : Int32 × Bool × FI × FL) (hf : f_189 n I L = some r) : Fr SI_189 I r.2.2.1 ∧ Fr SL_189 L r.2.2.2 := by
  unfold f_189 at hf
  exact ⟨frx_t frx_r (frc_189_0 n n (0 : Int32) (1 : Int32) I L r hf).1, frx_t frx_r (frc_189_0 n n (0 : Int32) (1 : Int32) I L r hf).2⟩
def SI_144 : List Nat := [114, 115, 116, 117, 118, 119, 120, 121]
def SL_144 : List Nat := [114, 115, 116, 117, 118, 119, 120, 121]
theorem fr_144 (n : Nat) (I : FI) (L : FL) (r : Int32 × Bool × FI × FL) (hf : f_144 n I L = some r) : Fr SI_144 I r.2.2.1 ∧ Fr SL_144 L r.2.2.2 := by
  unfold f_144 at hf
  obtain ⟨q0, hq0, hf⟩ := Option.bind_eq_some_iff.mp hf
  rcases ite_some hf with ⟨hc, hf⟩ | ⟨hc, hf⟩
  · cases hf; exact ⟨frx_r, frx_r⟩
  · obtain ⟨q1, hq1, hf⟩ := Option.bind_eq_some_iff.mp hf
    have hIq1 : Fr SI_144 I q1.2.2.1 := frx_t frx_r (frx_m (fr_189 _ _ _ q1 hq1).1 (by decide))
    have hLq1 : Fr SL_144 L q1.2.2.2 := frx_t frx_r (frx_m (fr_189 _ _ _ q1 hq1).2 (by decide))
    rcases ite_some hf with ⟨hc, hf⟩ | ⟨hc, hf⟩
    · obtain ⟨q2, hq2, hf⟩ := Option.bind_eq_some_iff.mp hf
      cases hf; exact ⟨hIq1, hLq1⟩
    · obtain ⟨q3, hq3, hf⟩ := Option.bind_eq_some_iff.mp hf
      cases hf; exact ⟨hIq1, hLq1⟩
def SI_145 : List Nat := [114, 115, 116, 117, 118, 119, 120, 121]
def SL_145 : List Nat := [114, 115, 116, 117, 118, 119, 120, 121]
theorem fr_145 (n : Nat) (I : FI) (L : FL) (r : Int32 × Bool × FI × FL) (hf : f_145 n I L = some r) : Fr SI_145 I r.2.2.1 ∧ Fr SL_145 L r.2.2.2 := by
  unfold f_145 at hf
  obtain ⟨q0, hq0, hf⟩ := Option.bind_eq_some_iff.mp hf
  rcases ite_some hf with ⟨hc, hf⟩ | ⟨hc, hf⟩
  · cases hf; exact ⟨frx_r, frx_r⟩
  · obtain ⟨q1, hq1, hf⟩ := Option.bind_eq_some_iff.mp hf
    have hIq1 : Fr SI_145 I q1.2.2.1 := frx_t frx_r (frx_m (fr_189 _ _ _ q1 hq1).1 (by decide))
    have hLq1 : Fr SL_145 L q1.2.2.2 := frx_t frx_r (frx_m (fr_189 _ _ _ q1 hq1).2 (by decide))
    rcases ite_some hf with ⟨hc, hf⟩ | ⟨hc, hf⟩
    · cases hf; exact ⟨hIq1, hLq1⟩
    · cases hf; exact ⟨hIq1, hLq1⟩
def SI_146 : List Nat := [114, 115, 116, 117, 118, 119, 120, 121]
def SL_146 : List Nat := [114, 115, 116, 117, 118, 119, 120, 121]
theorem frc_146_2 (n : Nat) (K0 : Int32 → Int32 → Int32 → FI → FL → Option (Int32 × Bool × FI × FL)) (hK0 : ∀ (x1 : Int32) (x2 : Int32) (x3 : Int32) (I : FI) (L : FL) (r : Int32 × Bool × FI × FL), K0 x1 x2 x3 I L = some r → Fr SI_146 I r.2.2.1 ∧ Fr SL_146 L r.2.2.2) (x1 : Int32) (x2 : Int32) (x3 : Int32) (I : FI) (L : FL) (r : Int32 × Bool × FI × FL) (hf : c_146_2 n K0 x1 x2 x3 I L = some r) : Fr SI_146 I r.2.2.1 ∧ Fr SL_146 L r.2.2.2 := by
  unfold c_146_2 at hf
  exact ⟨frx_t frx_r (hK0 x1 x2 (x3 + (1 : Int32)) I L r hf).1, frx_t frx_r (hK0 x1 x2 (x3 + (1 : Int32)) I L r hf).2⟩
theorem frc_146_5 (n : Nat) (K3 : Int32 → Int32 → Int32 → FI → FL → Option (Int32 × Bool × FI × FL)) (hK3 : ∀ (x1 : Int32) (x2 : Int32) (x3 : Int32) (I : FI) (L : FL) (r : Int32 × Bool × FI × FL), K3 x1 x2 x3 I L = some r → Fr SI_146 I r.2.2.1 ∧ Fr SL_146 L r.2.2.2) (x1 : Int32) (x2 : Int32) (x3 : Int32) (s0 : Int32) (I : FI) (L : FL) (r : Int32 × Bool × FI × FL) (hf : c_146_5 n K3 x1 x2 x3 s0 I L = some r) : Fr SI_146 I r.2.2.1 ∧ Fr SL_146 L r.2.2.2 := by
  unfold c_146_5 at hf
  rcases ite_some hf with ⟨hc, hf⟩ | ⟨hc, hf⟩
  · exact ⟨frx_t frx_r (hK3 x1 x2 x3 I L r hf).1, frx_t frx_r (hK3 x1 x2 x3 I L r hf).2⟩
  · obtain ⟨q10, hq10, hf⟩ := Option.bind_eq_some_iff.mp hf
    obtain ⟨q11, hq11, hf⟩ := Option.bind_eq_some_iff.mp hf
    have hIq11 : Fr SI_146 I q11.1 := frx_t frx_r (frx_m (fr_187 _ _ q11 hq11).1 (by decide))
    have hLq11 : Fr SL_146 L q11.2 := frx_t frx_r (frx_m (fr_187 _ _ q11 hq11).2 (by decide))
    obtain ⟨q12, hq12, hf⟩ := Option.bind_eq_some_iff.mp hf
    have hIq12 : Fr SI_146 I q12.2.1 := frx_t hIq11 (frx_m (fr_32 _ _ _ _ q12 hq12).1 (by decide))
    have hLq12 : Fr SL_146 L q12.2.2 := frx_t hLq11 (frx_m (fr_32 _ _ _ _ q12 hq12).2 (by decide))
    obtain ⟨q13, hq13, hf⟩ := Option.bind_eq_some_iff.mp hf
    rcases ite_some hf with ⟨hc, hf⟩ | ⟨hc, hf⟩
    · exact ⟨frx_t hIq12 (hK3 x1 x2 x3 q12.2.1 q12.2.2 r hf).1, frx_t hLq12 (hK3 x1 x2 x3 q12.2.1 q12.2.2 r hf).2⟩
    · exact ⟨frx_t hIq12 (hK3 x1 x3 x3 q12.2.1 q12.2.2 r hf).1, frx_t hLq12 (hK3 x1 x3 x3 q12.2.1 q12.2.2 r hf).2⟩
theorem frc_146_4 (n : Nat) (K3 : Int32 → Int32 → Int32 → FI → FL → Option (Int32 × Bool × FI × FL)) (hK3 : ∀ (x1 : Int32) (x2 : Int32) (x3 : Int32) (I : FI) (L : FL) (r : Int32 × Bool × FI × FL), K3 x1 x2 x3 I L = some r → Fr SI_146 I r.2.2.1 ∧ Fr SL_146 L r.2.2.2) (x1 : Int32) (x2 : Int32) (x3 : Int32) (I : FI) (L : FL) (r : Int32 × Bool × FI × FL) (hf : c_146_4 n K3 x1 x2 x3 I L = some r) : Fr SI_146 I r.2.2.1 ∧ Fr SL_146 L r.2.2.2 := by
  unfold c_146_4 at hf
  rcases ite_some hf with ⟨hc, hf⟩ | ⟨hc, hf⟩
  · cases hf; exact ⟨frx_r, frx_r⟩
  · obtain ⟨q8, hq8, hf⟩ := Option.bind_eq_some_iff.mp hf
    obtain ⟨q9, hq9, hf⟩ := Option.bind_eq_some_iff.mp hf
    rcases ite_some hf with ⟨hc, hf⟩ | ⟨hc, hf⟩
    · exact ⟨frx_t frx_r (frc_146_5 n _ hK3 x1 x2 x3 (0 : Int32) I L r hf).1, frx_t frx_r (frc_146_5 n _ hK3 x1 x2 x3 (0 : Int32) I L r hf).2⟩
    · exact ⟨frx_t frx_r (frc_146_5 n _ hK3 x1 x2 x3 (1 : Int32) I L r hf).1, frx_t frx_r (frc_146_5 n _ hK3 x1 x2 x3 (1 : Int32) I L r hf).2⟩
theorem frc_146_3 (n : Nat) : ∀ (m : Nat) (x1 : Int32) (x2 : Int32) (x3 : Int32) (I : FI) (L : FL) (r : Int32 × Bool × FI × FL), c_146_3 n m x1 x2 x3 I L = some r → Fr SI_146 I r.2.2.1 ∧ Fr SL_146 L r.2.2.2
  | 0, x1, x2, x3, I, L, r, hf => by cases hf
  | m + 1, x1, x2, x3, I, L, r, hf => by
    unfold c_146_3 b_146_3 at hf
    have hK3 := frc_146_3 n m
    exact ⟨frx_t frx_r (frc_146_4 n _ hK3 x1 x2 (x3 + (1 : Int32)) I L r hf).1, frx_t frx_r (frc_146_4 n _ hK3 x1 x2 (x3 + (1 : Int32)) I L r hf).2⟩
theorem frc_146_1 (n : Nat) (K0 : Int32 → Int32 → Int32 → FI → FL → Option (Int32 × Bool × FI × FL)) (hK0 : ∀ (x1 : Int32) (x2 : Int32) (x3 : Int32) (I : FI) (L : FL) (r : Int32 × Bool × FI × FL), K0 x1 x2 x3 I L = some r → Fr SI_146 I r.2.2.1 ∧ Fr SL_146 L r.2.2.2) (x1 : Int32) (x2 : Int32) (x3 : Int32) (s0 : Int32) (I : FI) (L : FL) (r : Int32 × Bool × FI × FL) (hf : c_146_1 n K0 x1 x2 x3 s0 I L = some r) : Fr SI_146 I r.2.2.1 ∧ Fr SL_146 L r.2.2.2 := by
  unfold c_146_1 at hf
  rcases ite_some hf with ⟨hc, hf⟩ | ⟨hc, hf⟩
  · exact ⟨frx_t frx_r (frc_146_2 n _ hK0 x1 x2 x3 I L r hf).1, frx_t frx_r (frc_146_2 n _ hK0 x1 x2 x3 I L r hf).2⟩
  · obtain ⟨q4, hq4, hf⟩ := Option.bind_eq_some_iff.mp hf
    obtain ⟨q5, hq5, hf⟩ := Option.bind_eq_some_iff.mp hf
    have hIq5 : Fr SI_146 I q5.1 := frx_t frx_r (frx_m (fr_findA _ _ _ q5 hq5).1 (by decide))
    have hLq5 : Fr SL_146 L q5.2 := frx_t frx_r (frx_m (fr_findA _ _ _ q5 hq5).2 (by decide))
    obtain ⟨q6, hq6, hf⟩ := Option.bind_eq_some_iff.mp hf
    have hIq6 : Fr SI_146 I q6.2.1 := frx_t hIq5 (frx_m (fr_32 _ _ _ _ q6 hq6).1 (by decide))
    have hLq6 : Fr SL_146 L q6.2.2 := frx_t hLq5 (frx_m (fr_32 _ _ _ _ q6 hq6).2 (by decide))
    obtain ⟨q7, hq7, hf⟩ := Option.bind_eq_some_iff.mp hf
    rcases ite_some hf with ⟨hc, hf⟩ | ⟨hc, hf⟩
    · exact ⟨frx_t hIq6 (frc_146_3 n n x1 x2 x3 q6.2.1 q6.2.2 r hf).1, frx_t hLq6 (frc_146_3 n n x1 x2 x3 q6.2.1 q6.2.2 r hf).2⟩
    · exact ⟨frx_t hIq6 (frc_146_3 n n x1 x3 x3 q6.2.1 q6.2.2 r hf).1, frx_t hLq6 (frc_146_3 n n x1 x3 x3 q6.2.1 q6.2.2 r hf).2⟩
theorem frc_146_0 (n : Nat) : ∀ (m : Nat) (x1 : Int32) (x2 : Int32) (x3 : Int32) (I : FI) (L : FL) (r : Int32 × Bool × FI × FL), c_146_0 n m x1 x2 x3 I L = some r → Fr SI_146 I r.2.2.1 ∧ Fr SL_146 L r.2.2.2
  | 0, x1, x2, x3, I, L, r, hf => by cases hf
  | m + 1, x1, x2, x3, I, L, r, hf => by
    unfold c_146_0 b_146_0 at hf
    have hK0 := frc_146_0 n m
    rcases ite_some hf with ⟨hc, hf⟩ | ⟨hc, hf⟩
    · cases hf; exact ⟨frx_r, frx_r⟩
    · obtain ⟨q2, hq2, hf⟩ := Option.bind_eq_some_iff.mp hf
      obtain ⟨q3, hq3, hf⟩ := Option.bind_eq_some_iff.mp hf
      rcases ite_some hf with ⟨hc, hf⟩ | ⟨hc, hf⟩
      · exact ⟨frx_t frx_r (frc_146_1 n _ hK0 x1 x2 x3 (0 : Int32) I L r hf).1, frx_t frx_r (frc_146_1 n _ hK0 x1 x2 x3 (0 : Int32) I L r hf).2⟩
      · exact ⟨frx_t frx_r (frc_146_1 n _ hK0 x1 x2 x3 (1 : Int32) I L r hf).1, frx_t frx_r (frc_146_1 n _ hK0 x1 x2 x3 (1 : Int32) I L r hf).2⟩
theorem fr_146 (n : Nat) (I : FI) (L : FL) (r : Int32 × Bool × FI × FL) (hf : f_146 n I L = some r) : Fr SI_146 I r.2.2.1 ∧ Fr SL_146 L r.2.2.2 := by
  unfold f_146 at hf
  obtain ⟨q0, hq0, hf⟩ := Option.bind_eq_some_iff.mp hf
  rcases ite_some hf with ⟨hc, hf⟩ | ⟨hc, hf⟩
  · obtain ⟨q1, hq1, hf⟩ := Option.bind_eq_some_iff.mp hf
    exact ⟨frx_t frx_r (frc_146_0 n n q1 q1 (0 : Int32) I L r hf).1, frx_t frx_r (frc_146_0 n n q1 q1 (0 : Int32) I L r hf).2⟩
  · cases hf; exact ⟨frx_r, frx_r⟩
def SI_147 : List Nat := [114, 115, 116, 117, 118, 119, 120, 121]
def SL_147 : List Nat := [114, 115, 116, 117, 118, 119, 120, 121]
theorem fr_147 (n : Nat) (x1 : Int32) (I : FI) (L : FL) (r : Int32 × Bool × FI × FL) (hf : f_147 n x1 I L = some r) : Fr SI_147 I r.2.2.1 ∧ Fr SL_147 L r.2.2.2 := by
  unfold f_147 at hf
  obtain ⟨q0, hq0, hf⟩ := Option.bind_eq_some_iff.mp hf
  rcases ite_some hf with ⟨hc, hf⟩ | ⟨hc, hf⟩
  · cases hf; exact ⟨frx_r, frx_r⟩
  · obtain ⟨q1, hq1, hf⟩ := Option.bind_eq_some_iff.mp hf
    have hIq1 : Fr SI_147 I q1.1 := frx_t frx_r (frx_m (fr_findA _ _ _ q1 hq1).1 (by decide))
    have hLq1 : Fr SL_147 L q1.2 := frx_t frx_r (frx_m (fr_findA _ _ _ q1 hq1).2 (by decide))
    obtain ⟨q2, hq2, hf⟩ := Option.bind_eq_some_iff.mp hf
    have hIq2 : Fr SI_147 I q2.2.1 := frx_t hIq1 (frx_m (fr_36 _ _ _ _ q2 hq2).1 (by decide))
    have hLq2 : Fr SL_147 L q2.2.2 := frx_t hLq1 (frx_m (fr_36 _ _ _ _ q2 hq2).2 (by decide))
    cases hf; exact ⟨hIq2, hLq2⟩
def SI_190 : List Nat := [114, 115, 116, 117, 118, 119, 120, 121]
def SL_190 : List Nat := [114, 115, 116, 117, 118, 119, 120, 121]
theorem frc_190_2 (n : Nat) (K1 : Int32 → Int32 → Int32 → FI → FL → Option (Int32 × Bool × FI × FL)) (hK1 : ∀ (x1 : Int32) (x2 : Int32) (x3 : Int32) (I : FI) (L : FL) (r : Int32 × Bool × FI × FL), K1 x1 x2 x3 I L = some r → Fr SI_190 I r.2.2.1 ∧ Fr SL_190 L r.2.2.2) (x1 : Int32) (x2 : Int32) (x3 : Int32) (I : FI) (L : FL) (r : Int32 × Bool × FI × FL) (hf : c_190_2 n K1 x1 x2 x3 I L = some r) : Fr SI_190 I r.2.2.1 ∧ Fr SL_190 L r.2.2.2 := by
  unfold c_190_2 at hf
  rcases ite_some hf with ⟨hc, hf⟩ | ⟨hc, hf⟩
  · cases hf; exact ⟨frx_r, frx_r⟩
  · obtain ⟨q5, hq5, hf⟩ := Option.bind_eq_some_iff.mp hf
    obtain ⟨q6, hq6, hf⟩ := Option.bind_eq_some_iff.mp hf
    have hIq6 : Fr SI_190 I q6.1 := frx_t frx_r (frx_m (fr_187 _ _ q6 hq6).1 (by decide))
    have hLq6 : Fr SL_190 L q6.2 := frx_t frx_r (frx_m (fr_187 _ _ q6 hq6).2 (by decide))
    obtain ⟨q7, hq7, hf⟩ := Option.bind_eq_some_iff.mp hf
    have hIq7 : Fr SI_190 I q7.2.1 := frx_t hIq6 (frx_m (fr_32 _ _ _ _ q7 hq7).1 (by decide))
    have hLq7 : Fr SL_190 L q7.2.2 := frx_t hLq6 (frx_m (fr_32 _ _ _ _ q7 hq7).2 (by decide))
    obtain ⟨q8, hq8, hf⟩ := Option.bind_eq_some_iff.mp hf
    rcases ite_some hf with ⟨hc, hf⟩ | ⟨hc, hf⟩
    · exact ⟨frx_t hIq7 (hK1 x1 x2 x3 q7.2.1 q7.2.2 r hf).1, frx_t hLq7 (hK1 x1 x2 x3 q7.2.1 q7.2.2 r hf).2⟩
    · obtain ⟨q9, hq9, hf⟩ := Option.bind_eq_some_iff.mp hf
      have hIq9 : Fr SI_190 I q9.1 := frx_t hIq7 (frx_m (fr_187 _ _ q9 hq9).1 (by decide))
      have hLq9 : Fr SL_190 L q9.2 := frx_t hLq7 (frx_m (fr_187 _ _ q9 hq9).2 (by decide))
      obtain ⟨q10, hq10, hf⟩ := Option.bind_eq_some_iff.mp hf
      have hIq10 : Fr SI_190 I q10.2.1 := frx_t hIq9 (frx_m (fr_32 _ _ _ _ q10 hq10).1 (by decide))
      have hLq10 : Fr SL_190 L q10.2.2 := frx_t hLq9 (frx_m (fr_32 _ _ _ _ q10 hq10).2 (by decide))
      obtain ⟨q11, hq11, hf⟩ := Option.bind_eq_some_iff.mp hf
      rcases ite_some hf with ⟨hc, hf⟩ | ⟨hc, hf⟩
      · exact ⟨frx_t hIq10 (hK1 x1 x2 x3 q10.2.1 q10.2.2 r hf).1, frx_t hLq10 (hK1 x1 x2 x3 q10.2.1 q10.2.2 r hf).2⟩
      · cases hf; exact ⟨hIq10, hLq10⟩
theorem frc_190_1 (n : Nat) : ∀ (m : Nat) (x1 : Int32) (x2 : Int32) (x3 : Int32) (I : FI) (L : FL) (r : Int32 × Bool × FI × FL), c_190_1 n m x1 x2 x3 I L = some r → Fr SI_190 I r.2.2.1 ∧ Fr SL_190 L r.2.2.2
  | 0, x1, x2, x3, I, L, r, hf => by cases hf
  | m + 1, x1, x2, x3, I, L, r, hf => by
    unfold c_190_1 b_190_1 at hf
    have hK1 := frc_190_1 n m
    exact ⟨frx_t frx_r (frc_190_2 n _ hK1 x1 x2 (x3 + (1 : Int32)) I L r hf).1, frx_t frx_r (frc_190_2 n _ hK1 x1 x2 (x3 + (1 : Int32)) I L r hf).2⟩
theorem frc_190_0 (n : Nat) (x1 : Int32) (x2 : Int32) (x3 : Int32) (I : FI) (L : FL) (r : Int32 × Bool × FI × FL) (hf : c_190_0 n x1 x2 x3 I L = some r) : Fr SI_190 I r.2.2.1 ∧ Fr SL_190 L r.2.2.2 := by
  unfold c_190_0 at hf
  rcases ite_some hf with ⟨hc, hf⟩ | ⟨hc, hf⟩
  · cases hf; exact ⟨frx_r, frx_r⟩
  · obtain ⟨q1, hq1, hf⟩ := Option.bind_eq_some_iff.mp hf
    obtain ⟨q2, hq2, hf⟩ := Option.bind_eq_some_iff.mp hf
    have hIq2 : Fr SI_190 I q2.1 := frx_t frx_r (frx_m (fr_findA _ _ _ q2 hq2).1 (by decide))
    have hLq2 : Fr SL_190 L q2.2 := frx_t frx_r (frx_m (fr_findA _ _ _ q2 hq2).2 (by decide))
    obtain ⟨q3, hq3, hf⟩ := Option.bind_eq_some_iff.mp hf
    have hIq3 : Fr SI_190 I q3.2.1 := frx_t hIq2 (frx_m (fr_32 _ _ _ _ q3 hq3).1 (by decide))
    have hLq3 : Fr SL_190 L q3.2.2 := frx_t hLq2 (frx_m (fr_32 _ _ _ _ q3 hq3).2 (by decide))
    obtain ⟨q4, hq4, hf⟩ := Option.bind_eq_some_iff.mp hf
    rcases ite_some hf with ⟨hc, hf⟩ | ⟨hc, hf⟩
    · exact ⟨frx_t hIq3 (frc_190_1 n n x1 x2 x3 q3.2.1 q3.2.2 r hf).1, frx_t hLq3 (frc_190_1 n n x1 x2 x3 q3.2.1 q3.2.2 r hf).2⟩
    · obtain ⟨q12, hq12, hf⟩ := Option.bind_eq_some_iff.mp hf
      have hIq12 : Fr SI_190 I q12.1 := frx_t hIq3 (frx_m (fr_187 _ _ q12 hq12).1 (by decide))
      have hLq12 : Fr SL_190 L q12.2 := frx_t hLq3 (frx_m (fr_187 _ _ q12 hq12).2 (by decide))
      obtain ⟨q13, hq13, hf⟩ := Option.bind_eq_some_iff.mp hf
      have hIq13 : Fr SI_190 I q13.2.1 := frx_t hIq12 (frx_m (fr_32 _ _ _ _ q13 hq13).1 (by decide))
      have hLq13 : Fr SL_190 L q13.2.2 := frx_t hLq12 (frx_m (fr_32 _ _ _ _ q13 hq13).2 (by decide))
      obtain ⟨q14, hq14, hf⟩ := Option.bind_eq_some_iff.mp hf
      rcases ite_some hf with ⟨hc, hf⟩ | ⟨hc, hf⟩
      · exact ⟨frx_t hIq13 (frc_190_1 n n x1 x2 x3 q13.2.1 q13.2.2 r hf).1, frx_t hLq13 (frc_190_1 n n x1 x2 x3 q13.2.1 q13.2.2 r hf).2⟩
      · cases hf; exact ⟨hIq13, hLq13⟩
theorem fr_190 (n : Nat) (x1 : Int32) (I : FI) (L : FL) (r : Int32 × Bool × FI × FL) (hf : f_190 n x1 I L = some r) : Fr SI_190 I r.2.2.1 ∧ Fr SL_190 L r.2.2.2 := by
  unfold f_190 at hf
  obtain ⟨q0, hq0, hf⟩ := Option.bind_eq_some_iff.mp hf
  exact ⟨frx_t frx_r (frc_190_0 n x1 q0 (0 : Int32) I L r hf).1, frx_t frx_r (frc_190_0 n x1 q0 (0 : Int32) I L r hf).2⟩
def SI_150 : List Nat := [114, 115, 116, 117, 118, 119, 120, 121]
def SL_150 : List Nat := [114, 115, 116, 117, 118, 119, 120, 121]
theorem fr_150 (n : Nat) (x1 : Int32) (I : FI) (L : FL) (r : Int32 × Bool × FI × FL) (hf : f_150 n x1 I L = some r) : Fr SI_150 I r.2.2.1 ∧ Fr SL_150 L r.2.2.2 := by
  unfold f_150 at hf
  obtain ⟨q0, hq0, hf⟩ := Option.bind_eq_some_iff.mp hf
  rcases ite_some hf with ⟨hc, hf⟩ | ⟨hc, hf⟩
  · cases hf; exact ⟨frx_r, frx_r⟩
  · obtain ⟨q1, hq1, hf⟩ := Option.bind_eq_some_iff.mp hf
    have hIq1 : Fr SI_150 I q1.2.2.1 := frx_t frx_r (frx_m (fr_190 _ _ _ _ q1 hq1).1 (by decide))
    have hLq1 : Fr SL_150 L q1.2.2.2 := frx_t frx_r (frx_m (fr_190 _ _ _ _ q1 hq1).2 (by decide))
    rcases ite_some hf with ⟨hc, hf⟩ | ⟨hc, hf⟩
    · cases hf; exact ⟨hIq1, hLq1⟩
    · cases hf; exact ⟨hIq1, hLq1⟩
def SI_151 : List Nat := [114, 115, 116, 117, 118, 119, 120, 121]
def SL_151 : List Nat := [114, 115, 116, 117, 118, 119, 120, 121]
theorem frc_151_1 (n : Nat) : ∀ (m : Nat) (x1 : Int32) (I : FI) (L : FL) (r : Int32 × Bool × FI × FL), c_151_1 n m x1 I L = some r → Fr SI_151 I r.2.2.1 ∧ Fr SL_151 L r.2.2.2
  | 0, x1, I, L, r, hf => by cases hf
  | m + 1, x1, I, L, r, hf => by
    unfold c_151_1 b_151_1 at hf
    have hK1 := frc_151_1 n m
    rcases ite_some hf with ⟨hc, hf⟩ | ⟨hc, hf⟩
    · cases hf; exact ⟨frx_r, frx_r⟩
    · obtain ⟨q2, hq2, hf⟩ := Option.bind_eq_some_iff.mp hf
      have hIq2 : Fr SI_151 I q2.2.1 := frx_t frx_r (frx_m (fr_190_1 _ _ _ _ q2 hq2).1 (by decide))
      have hLq2 : Fr SL_151 L q2.2.2 := frx_t frx_r (frx_m (fr_190_1 _ _ _ _ q2 hq2).2 (by decide))
      rcases ite_some hf with ⟨hc, hf⟩ | ⟨hc, hf⟩
      · exact ⟨frx_t hIq2 (hK1 (x1 + (1 : Int32)) q2.2.1 q2.2.2 r hf).1, frx_t hLq2 (hK1 (x1 + (1 : Int32)) q2.2.1 q2.2.2 r hf).2⟩
      · cases hf; exact ⟨hIq2, hLq2⟩
theorem frc_151_0 (n : Nat) : ∀ (m : Nat) (x1 : Int32) (I : FI) (L : FL) (r : Int32 × Bool × FI × FL), c_151_0 n m x1 I L = some r → Fr SI_151 I r.2.2.1 ∧ Fr SL_151 L r.2.2.2
  | 0, x1, I, L, r, hf => by cases hf
  | m + 1, x1, I, L, r, hf => by
    unfold c_151_0 b_151_0 at hf
    have hK0 := frc_151_0 n m
    rcases ite_some hf with ⟨hc, hf⟩ | ⟨hc, hf⟩
    · cases hf; exact ⟨frx_r, frx_r⟩
    · obtain ⟨q1, hq1, hf⟩ := Option.bind_eq_some_iff.mp hf
      have hIq1 : Fr SI_151 I q1.2.2.1 := frx_t frx_r (frx_m (fr_190 _ _ _ _ q1 hq1).1 (by decide))
      have hLq1 : Fr SL_151 L q1.2.2.2 := frx_t frx_r (frx_m (fr_190 _ _ _ _ q1 hq1).2 (by decide))
      rcases ite_some hf with ⟨hc, hf⟩ | ⟨hc, hf⟩
      · rcases ite_some hf with ⟨hc, hf⟩ | ⟨hc, hf⟩
        · exact ⟨frx_t hIq1 (frc_151_1 n n (x1 + (1 : Int32)) q1.2.2.1 q1.2.2.2 r hf).1, frx_t hLq1 (frc_151_1 n n (x1 + (1 : Int32)) q1.2.2.1 q1.2.2.2 r hf).2⟩
        · cases hf; exact ⟨hIq1, hLq1⟩
      · rcases ite_some hf with ⟨hc, hf⟩ | ⟨hc, hf⟩
        · exact ⟨frx_t hIq1 (hK0 (x1 + (1 : Int32)) q1.2.2.1 q1.2.2.2 r hf).1, frx_t hLq1 (hK0 (x1 + (1 : Int32)) q1.2.2.1 q1.2.2.2 r hf).2⟩
        · cases hf; exact ⟨hIq1, hLq1⟩
theorem fr_151 (n : Nat) (I : FI) (L : FL) (r : Int32 × Bool × FI × FL) (hf : f_151 n I L = some r) : Fr SI_151 I r.2.2.1 ∧ Fr SL_151 L r.2.2.2 := by
  unfold f_151 at hf
  obtain ⟨q0, hq0, hf⟩ := Option.bind_eq_some_iff.mp hf
  rcases ite_some hf with ⟨hc, hf⟩ | ⟨hc, hf⟩
  · exact ⟨frx_t frx_r (frc_151_0 n n (0 : Int32) I L r hf).1, frx_t frx_r (frc_151_0 n n (0 : Int32) I L r hf).2⟩
  · cases hf; exact ⟨frx_r, frx_r⟩
def SI_173 : List Nat := [3, 4, 5, 6, 7, 8, 9, 10, 11, 12, 13, 35, 39]
def SL_173 : List Nat := []
theorem fr_173 (n : Nat) (rh : Option Nat) (x1 : Int32) (I : FI) (L : FL) (r : Int32 × Option Nat × FI × FL) (hf : f_173 n rh x1 I L = some r) : Fr SI_173 I r.2.2.1 ∧ Fr SL_173 L r.2.2.2 := by
  unfold f_173 at hf
  rcases ite_some hf with ⟨hc, hf⟩ | ⟨hc, hf⟩
  · cases hf; exact ⟨frx_r, frx_r⟩
  · rcases ite_some hf with ⟨hc, hf⟩ | ⟨hc, hf⟩
    · rcases ite_some hf with ⟨hc, hf⟩ | ⟨hc, hf⟩
      · rcases ite_some hf with ⟨hc, hf⟩ | ⟨hc, hf⟩
        · obtain ⟨q0, hq0, hf⟩ := Option.bind_eq_some_iff.mp hf
          have hIq0 : Fr SI_173 I q0.1 := frx_t frx_r (frx_m (fr_17_4 _ _ q0 hq0).1 (by decide))
          have hLq0 : Fr SL_173 L q0.2 := frx_t frx_r (frx_m (fr_17_4 _ _ q0 hq0).2 (by decide))
          obtain ⟨q1, hq1, hf⟩ := Option.bind_eq_some_iff.mp hf
          have hIq1 : Fr SI_173 I q1.1 := frx_t hIq0 (frx_m (fr_2_3 _ _ q1 hq1).1 (by decide))
          have hLq1 : Fr SL_173 L q1.2 := frx_t hLq0 (frx_m (fr_2_3 _ _ q1 hq1).2 (by decide))
          obtain ⟨q2, hq2, hf⟩ := Option.bind_eq_some_iff.mp hf
          have hIq2 : Fr SI_173 I q2.1 := frx_t hIq1 (frx_m (fr_186 _ _ _ q2 hq2).1 (by decide))
          have hLq2 : Fr SL_173 L q2.2 := frx_t hLq1 (frx_m (fr_186 _ _ _ q2 hq2).2 (by decide))
          cases hf; exact ⟨hIq2, hLq2⟩
        · cases hf; exact ⟨frx_r, frx_r⟩
      rcases ite_some hf with ⟨hc, hf⟩ | ⟨hc, hf⟩
      · rcases ite_some hf with ⟨hc, hf⟩ | ⟨hc, hf⟩
        · obtain ⟨q3, hq3, hf⟩ := Option.bind_eq_some_iff.mp hf
          have hIq3 : Fr SI_173 I q3.1 := frx_t frx_r (frx_m (fr_17_5 _ _ q3 hq3).1 (by decide))
          have hLq3 : Fr SL_173 L q3.2 := frx_t frx_r (frx_m (fr_17_5 _ _ q3 hq3).2 (by decide))
          obtain ⟨q4, hq4, hf⟩ := Option.bind_eq_some_iff.mp hf
          have hIq4 : Fr SI_173 I q4.1 := frx_t hIq3 (frx_m (fr_2_4 _ _ q4 hq4).1 (by decide))
          have hLq4 : Fr SL_173 L q4.2 := frx_t hLq3 (frx_m (fr_2_4 _ _ q4 hq4).2 (by decide))
          obtain ⟨q5, hq5, hf⟩ := Option.bind_eq_some_iff.mp hf
          have hIq5 : Fr SI_173 I q5.1 := frx_t hIq4 (frx_m (fr_186 _ _ _ q5 hq5).1 (by decide))
          have hLq5 : Fr SL_173 L q5.2 := frx_t hLq4 (frx_m (fr_186 _ _ _ q5 hq5).2 (by decide))
          cases hf; exact ⟨hIq5, hLq5⟩
        · cases hf; exact ⟨frx_r, frx_r⟩
      rcases ite_some hf with ⟨hc, hf⟩ | ⟨hc, hf⟩
      · rcases ite_some hf with ⟨hc, hf⟩ | ⟨hc, hf⟩
        · obtain ⟨q6, hq6, hf⟩ := Option.bind_eq_some_iff.mp hf
          have hIq6 : Fr SI_173 I q6.1 := frx_t frx_r (frx_m (fr_17_6 _ _ q6 hq6).1 (by decide))
          have hLq6 : Fr SL_173 L q6.2 := frx_t frx_r (frx_m (fr_17_6 _ _ q6 hq6).2 (by decide))
          obtain ⟨q7, hq7, hf⟩ := Option.bind_eq_some_iff.mp hf
          have hIq7 : Fr SI_173 I q7.1 := frx_t hIq6 (frx_m (fr_2_5 _ _ q7 hq7).1 (by decide))
          have hLq7 : Fr SL_173 L q7.2 := frx_t hLq6 (frx_m (fr_2_5 _ _ q7 hq7).2 (by decide))
          obtain ⟨q8, hq8, hf⟩ := Option.bind_eq_some_iff.mp hf
          have hIq8 : Fr SI_173 I q8.1 := frx_t hIq7 (frx_m (fr_186 _ _ _ q8 hq8).1 (by decide))
          have hLq8 : Fr SL_173 L q8.2 := frx_t hLq7 (frx_m (fr_186 _ _ _ q8 hq8).2 (by decide))
          cases hf; exact ⟨hIq8, hLq8⟩
        · cases hf; exact ⟨frx_r, frx_r⟩
      cases hf
    · cases hf; exact ⟨frx_r, frx_r⟩
