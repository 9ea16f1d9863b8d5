def SI_203 : List Nat := [90, 91, 1000]
def SL_203 : List Nat := [92]
theorem frc_203_0 (n : Nat) : ∀ (m : Nat) (x1 : Int32) (x3 : Int32) (x4 : Int32) (I : FI) (L : FL) (r : Int32 × FI × FL), c_203_0 n m x1 x3 x4 I L = some r → Fr SI_203 I r.2.1 ∧ Fr SL_203 L r.2.2
  | 0, x1, x3, x4, I, L, r, hf => by cases hf
  | m + 1, x1, x3, x4, I, L, r, hf => by
    unfold c_203_0 b_203_0 at hf
    have hK0 := frc_203_0 n m
    rcases ite_some hf with ⟨hc, hf⟩ | ⟨hc, hf⟩
    · cases hf; exact ⟨frx_r, frx_r⟩
    · rcases ite_some hf with ⟨hc, hf⟩ | ⟨hc, hf⟩
      · exact ⟨frx_t frx_r (hK0 x1 x3 (x4 + (1 : Int32)) I (u2 L 92 ((((60 : Int32) * x1) + x4).toNatClampNeg) (0 : Int64)) r hf).1, frx_t (frx_u frx_r (by decide) (by decide)) (hK0 x1 x3 (x4 + (1 : Int32)) I (u2 L 92 ((((60 : Int32) * x1) + x4).toNatClampNeg) (0 : Int64)) r hf).2⟩
      · cases hf
theorem fr_203 (n : Nat) (x1 : Int32) (x2 : Int32) (x3 : Int32) (I : FI) (L : FL) (r : Int32 × FI × FL) (hf : f_203 n x1 x2 x3 I L = some r) : Fr SI_203 I r.2.1 ∧ Fr SL_203 L r.2.2 := by
  unfold f_203 at hf
  obtain ⟨q0, hq0, hf⟩ := Option.bind_eq_some_iff.mp hf
  rcases ite_some hf with ⟨hc, hf⟩ | ⟨hc, hf⟩
  · cases hf; exact ⟨(frx_v frx_r (by decide)), frx_r⟩
  · obtain ⟨q1, hq1, hf⟩ := Option.bind_eq_some_iff.mp hf
    rcases ite_some hf with ⟨hc, hf⟩ | ⟨hc, hf⟩
    · cases hf; exact ⟨(frx_v frx_r (by decide)), frx_r⟩
    · rcases ite_some hf with ⟨hc, hf⟩ | ⟨hc, hf⟩
      · rcases ite_some hf with ⟨hc, hf⟩ | ⟨hc, hf⟩
        · rcases ite_some hf with ⟨hc, hf⟩ | ⟨hc, hf⟩
          · rcases ite_some hf with ⟨hc, hf⟩ | ⟨hc, hf⟩
            · exact ⟨frx_t (frx_u (frx_u (frx_v frx_r (by decide)) (by decide) (by decide)) (by decide) (by decide)) (frc_203_0 n n x1 x3 (0 : Int32) (u2 (u2 (u2 I 89 0 (0 : Int32)) 90 x1.toNatClampNeg x2) 91 x1.toNatClampNeg x3) L r hf).1, frx_t frx_r (frc_203_0 n n x1 x3 (0 : Int32) (u2 (u2 (u2 I 89 0 (0 : Int32)) 90 x1.toNatClampNeg x2) 91 x1.toNatClampNeg x3) L r hf).2⟩
            · cases hf
          · cases hf
        · cases hf; exact ⟨(frx_v frx_r (by decide)), frx_r⟩
      · cases hf; exact ⟨(frx_v frx_r (by decide)), frx_r⟩
def SI_205 : List Nat := [1000]
def SL_205 : List Nat := [92]
theorem fr_205 (x1 : Int32) (x2 : Int32) (y3 : Int64) (I : FI) (L : FL) (r : Int32 × FI × FL) (hf : f_205 x1 x2 y3 I L = some r) : Fr SI_205 I r.2.1 ∧ Fr SL_205 L r.2.2 := by
  unfold f_205 at hf
  obtain ⟨q0, hq0, hf⟩ := Option.bind_eq_some_iff.mp hf
  rcases ite_some hf with ⟨hc, hf⟩ | ⟨hc, hf⟩
  · rcases ite_some hf with ⟨hc, hf⟩ | ⟨hc, hf⟩
    · rcases ite_some hf with ⟨hc, hf⟩ | ⟨hc, hf⟩
      · rcases ite_some hf with ⟨hc, hf⟩ | ⟨hc, hf⟩
        · obtain ⟨q1, hq1, hf⟩ := Option.bind_eq_some_iff.mp hf
          rcases ite_some hf with ⟨hc, hf⟩ | ⟨hc, hf⟩
          · rcases ite_some hf with ⟨hc, hf⟩ | ⟨hc, hf⟩
            · obtain ⟨q2, hq2, hf⟩ := Option.bind_eq_some_iff.mp hf
              rcases ite_some hf with ⟨hc, hf⟩ | ⟨hc, hf⟩
              · cases hf; exact ⟨(frx_v frx_r (by decide)), (frx_u frx_r (by decide) (by decide))⟩
              · cases hf
            · cases hf
          · cases hf; exact ⟨(frx_v frx_r (by decide)), frx_r⟩
        · cases hf
      · cases hf; exact ⟨(frx_v frx_r (by decide)), frx_r⟩
    · cases hf
  · cases hf; exact ⟨(frx_v frx_r (by decide)), frx_r⟩
def SI_206 : List Nat := [1000]
def SL_206 : List Nat := [92, 93]
theorem frc_206_1 (n : Nat) : ∀ (m : Nat) (x3 : Int32) (x4 : Int32) (x5 : Int32) (x6 : Int32) (I : FI) (L : FL) (r : Int32 × FI × FL), c_206_1 n m x3 x4 x5 x6 I L = some r → Fr SI_206 I r.2.1 ∧ Fr SL_206 L r.2.2
  | 0, x3, x4, x5, x6, I, L, r, hf => by cases hf
  | m + 1, x3, x4, x5, x6, I, L, r, hf => by
    unfold c_206_1 b_206_1 at hf
    have hK1 := frc_206_1 n m
    rcases ite_some hf with ⟨hc, hf⟩ | ⟨hc, hf⟩
    · cases hf; exact ⟨frx_r, frx_r⟩
    · rcases ite_some hf with ⟨hc, hf⟩ | ⟨hc, hf⟩
      · rcases ite_some hf with ⟨hc, hf⟩ | ⟨hc, hf⟩
        · exact ⟨frx_t frx_r (hK1 x3 x4 x5 (x6 + (1 : Int32)) I (u2 L 92 (((((60 : Int32) * x3) + x4) + x6).toNatClampNeg) (L 93 x6.toNatClampNeg)) r hf).1, frx_t (frx_u frx_r (by decide) (by decide)) (hK1 x3 x4 x5 (x6 + (1 : Int32)) I (u2 L 92 (((((60 : Int32) * x3) + x4) + x6).toNatClampNeg) (L 93 x6.toNatClampNeg)) r hf).2⟩
        · cases hf
      · cases hf
theorem frc_206_0 (n : Nat) : ∀ (m : Nat) (x1 : Int32) (x2 : Int32) (x3 : Int32) (x4 : Int32) (x5 : Int32) (x6 : Int32) (I : FI) (L : FL) (r : Int32 × FI × FL), c_206_0 n m x1 x2 x3 x4 x5 x6 I L = some r → Fr SI_206 I r.2.1 ∧ Fr SL_206 L r.2.2
  | 0, x1, x2, x3, x4, x5, x6, I, L, r, hf => by cases hf
  | m + 1, x1, x2, x3, x4, x5, x6, I, L, r, hf => by
    unfold c_206_0 b_206_0 at hf
    have hK0 := frc_206_0 n m
    rcases ite_some hf with ⟨hc, hf⟩ | ⟨hc, hf⟩
    · exact ⟨frx_t frx_r (frc_206_1 n n x3 x4 x5 (0 : Int32) I L r hf).1, frx_t frx_r (frc_206_1 n n x3 x4 x5 (0 : Int32) I L r hf).2⟩
    · rcases ite_some hf with ⟨hc, hf⟩ | ⟨hc, hf⟩
      · rcases ite_some hf with ⟨hc, hf⟩ | ⟨hc, hf⟩
        · exact ⟨frx_t frx_r (hK0 x1 x2 x3 x4 x5 (x6 + (1 : Int32)) I (u2 L 93 x6.toNatClampNeg (L 92 (((((60 : Int32) * x1) + x2) + x6).toNatClampNeg))) r hf).1, frx_t (frx_u frx_r (by decide) (by decide)) (hK0 x1 x2 x3 x4 x5 (x6 + (1 : Int32)) I (u2 L 93 x6.toNatClampNeg (L 92 (((((60 : Int32) * x1) + x2) + x6).toNatClampNeg))) r hf).2⟩
        · cases hf
      · cases hf
theorem fr_206 (n : Nat) (x1 : Int32) (x2 : Int32) (x3 : Int32) (x4 : Int32) (x5 : Int32) (I : FI) (L : FL) (r : Int32 × FI × FL) (hf : f_206 n x1 x2 x3 x4 x5 I L = some r) : Fr SI_206 I r.2.1 ∧ Fr SL_206 L r.2.2 := by
  unfold f_206 at hf
  obtain ⟨q0, hq0, hf⟩ := Option.bind_eq_some_iff.mp hf
  rcases ite_some hf with ⟨hc, hf⟩ | ⟨hc, hf⟩
  · cases hf; exact ⟨(frx_v frx_r (by decide)), frx_r⟩
  · obtain ⟨q1, hq1, hf⟩ := Option.bind_eq_some_iff.mp hf
    rcases ite_some hf with ⟨hc, hf⟩ | ⟨hc, hf⟩
    · rcases ite_some hf with ⟨hc, hf⟩ | ⟨hc, hf⟩
      · rcases ite_some hf with ⟨hc, hf⟩ | ⟨hc, hf⟩
        · cases hf; exact ⟨(frx_v frx_r (by decide)), frx_r⟩
        · rcases ite_some hf with ⟨hc, hf⟩ | ⟨hc, hf⟩
          · rcases ite_some hf with ⟨hc, hf⟩ | ⟨hc, hf⟩
            · rcases ite_some hf with ⟨hc, hf⟩ | ⟨hc, hf⟩
              · rcases ite_some hf with ⟨hc, hf⟩ | ⟨hc, hf⟩
                · rcases ite_some hf with ⟨hc, hf⟩ | ⟨hc, hf⟩
                  · rcases ite_some hf with ⟨hc, hf⟩ | ⟨hc, hf⟩
                    · cases hf; exact ⟨(frx_v frx_r (by decide)), frx_r⟩
                    · rcases ite_some hf with ⟨hc, hf⟩ | ⟨hc, hf⟩
                      · cases hf; exact ⟨(frx_v frx_r (by decide)), frx_r⟩
                      · rcases ite_some hf with ⟨hc, hf⟩ | ⟨hc, hf⟩
                        · cases hf; exact ⟨(frx_v frx_r (by decide)), frx_r⟩
                        · rcases ite_some hf with ⟨hc, hf⟩ | ⟨hc, hf⟩
                          · rcases ite_some hf with ⟨hc, hf⟩ | ⟨hc, hf⟩
                            · cases hf; exact ⟨(frx_v frx_r (by decide)), frx_r⟩
                            · rcases ite_some hf with ⟨hc, hf⟩ | ⟨hc, hf⟩
                              · rcases ite_some hf with ⟨hc, hf⟩ | ⟨hc, hf⟩
                                · exact ⟨frx_t (frx_v frx_r (by decide)) (frc_206_0 n n x1 x2 x3 x4 x5 (0 : Int32) (u2 I 89 0 (0 : Int32)) L r hf).1, frx_t frx_r (frc_206_0 n n x1 x2 x3 x4 x5 (0 : Int32) (u2 I 89 0 (0 : Int32)) L r hf).2⟩
                                · cases hf; exact ⟨(frx_v frx_r (by decide)), frx_r⟩
                              · cases hf
                          · cases hf
                  · cases hf; exact ⟨(frx_v frx_r (by decide)), frx_r⟩
                · cases hf
              · cases hf
            · cases hf; exact ⟨(frx_v frx_r (by decide)), frx_r⟩
          · cases hf
      · cases hf
    · cases hf; exact ⟨(frx_v frx_r (by decide)), frx_r⟩
def SI_208 : List Nat := [94, 1006]
def SL_208 : List Nat := []
theorem frc_208_0 (n : Nat) : ∀ (m : Nat) (x1 : Int32) (x2 : Int32) (I : FI) (L : FL) (r : FI × FL), c_208_0 n m x1 x2 I L = some r → Fr SI_208 I r.1 ∧ Fr SL_208 L r.2
  | 0, x1, x2, I, L, r, hf => by cases hf
  | m + 1, x1, x2, I, L, r, hf => by
    unfold c_208_0 b_208_0 at hf
    have hK0 := frc_208_0 n m
    rcases ite_some hf with ⟨hc, hf⟩ | ⟨hc, hf⟩
    · cases hf; exact ⟨frx_r, frx_r⟩
    · rcases ite_some hf with ⟨hc, hf⟩ | ⟨hc, hf⟩
      · exact ⟨frx_t (frx_v (frx_u frx_r (by decide) (by decide)) (by decide)) (hK0 x1 (x2 + (-8 : Int32)) (u2 (u2 I 94 ((I 89 6).toNatClampNeg) (vp_nar .byte ((x1 >>> (x2 &&& 31)).toInt8.toInt32))) 89 6 ((I 89 6) + (1 : Int32))) L r hf).1, frx_t frx_r (hK0 x1 (x2 + (-8 : Int32)) (u2 (u2 I 94 ((I 89 6).toNatClampNeg) (vp_nar .byte ((x1 >>> (x2 &&& 31)).toInt8.toInt32))) 89 6 ((I 89 6) + (1 : Int32))) L r hf).2⟩
      · cases hf
theorem fr_208 (n : Nat) (x1 : Int32) (I : FI) (L : FL) (r : FI × FL) (hf : f_208 n x1 I L = some r) : Fr SI_208 I r.1 ∧ Fr SL_208 L r.2 := by
  unfold f_208 at hf
  exact ⟨frx_t frx_r (frc_208_0 n n x1 (24 : Int32) I L r hf).1, frx_t frx_r (frc_208_0 n n x1 (24 : Int32) I L r hf).2⟩
def SI_207 : List Nat := [94, 1000, 1006]
def SL_207 : List Nat := []
theorem fr_207 (n : Nat) (x1 : Int32) (x2 : Int32) (x3 : Int32) (x4 : Int32) (x5 : Int32) (I : FI) (L : FL) (r : Int32 × FI × FL) (hf : f_207 n x1 x2 x3 x4 x5 I L = some r) : Fr SI_207 I r.2.1 ∧ Fr SL_207 L r.2.2 := by
  unfold f_207 at hf
  rcases ite_some hf with ⟨hc, hf⟩ | ⟨hc, hf⟩
  · obtain ⟨q0, hq0, hf⟩ := Option.bind_eq_some_iff.mp hf
    have hIq0 : Fr SI_207 I q0.1 := frx_t (frx_v frx_r (by decide)) (frx_m (fr_208 _ _ _ _ q0 hq0).1 (by decide))
    have hLq0 : Fr SL_207 L q0.2 := frx_t frx_r (frx_m (fr_208 _ _ _ _ q0 hq0).2 (by decide))
    obtain ⟨q1, hq1, hf⟩ := Option.bind_eq_some_iff.mp hf
    have hIq1 : Fr SI_207 I q1.1 := frx_t hIq0 (frx_m (fr_208 _ _ _ _ q1 hq1).1 (by decide))
    have hLq1 : Fr SL_207 L q1.2 := frx_t hLq0 (frx_m (fr_208 _ _ _ _ q1 hq1).2 (by decide))
    obtain ⟨q2, hq2, hf⟩ := Option.bind_eq_some_iff.mp hf
    have hIq2 : Fr SI_207 I q2.1 := frx_t hIq1 (frx_m (fr_208 _ _ _ _ q2 hq2).1 (by decide))
    have hLq2 : Fr SL_207 L q2.2 := frx_t hLq1 (frx_m (fr_208 _ _ _ _ q2 hq2).2 (by decide))
    obtain ⟨q3, hq3, hf⟩ := Option.bind_eq_some_iff.mp hf
    have hIq3 : Fr SI_207 I q3.1 := frx_t hIq2 (frx_m (fr_208 _ _ _ _ q3 hq3).1 (by decide))
    have hLq3 : Fr SL_207 L q3.2 := frx_t hLq2 (frx_m (fr_208 _ _ _ _ q3 hq3).2 (by decide))
    obtain ⟨q4, hq4, hf⟩ := Option.bind_eq_some_iff.mp hf
    have hIq4 : Fr SI_207 I q4.1 := frx_t hIq3 (frx_m (fr_208 _ _ _ _ q4 hq4).1 (by decide))
    have hLq4 : Fr SL_207 L q4.2 := frx_t hLq3 (frx_m (fr_208 _ _ _ _ q4 hq4).2 (by decide))
    cases hf; exact ⟨hIq4, hLq4⟩
  · cases hf; exact ⟨(frx_v frx_r (by decide)), frx_r⟩
def SI_209 : List Nat := [1000, 1006]
def SL_209 : List Nat := []
theorem fr_209 (x1 : Int32) (I : FI) (L : FL) (r : Int32 × FI × FL) (hf : f_209 x1 I L = some r) : Fr SI_209 I r.2.1 ∧ Fr SL_209 L r.2.2 := by
  unfold f_209 at hf
  obtain ⟨q0, hq0, hf⟩ := Option.bind_eq_some_iff.mp hf
  rcases ite_some hf with ⟨hc, hf⟩ | ⟨hc, hf⟩
  · cases hf; exact ⟨(frx_v (frx_v frx_r (by decide)) (by decide)), frx_r⟩
  · cases hf; exact ⟨(frx_v frx_r (by decide)), frx_r⟩
def SI_211 : List Nat := [1007, 1008, 1009, 1010]
def SL_211 : List Nat := [1011]
theorem frc_211_1 (n : Nat) (K0 : FI → FL → Option (FI × FL)) (hK0 : ∀ (I : FI) (L : FL) (r : FI × FL), K0 I L = some r → Fr SI_211 I r.1 ∧ Fr SL_211 L r.2) (I : FI) (L : FL) (r : FI × FL) (hf : c_211_1 n K0 I L = some r) : Fr SI_211 I r.1 ∧ Fr SL_211 L r.2 := by
  unfold c_211_1 at hf
  exact ⟨frx_t (frx_v frx_r (by decide)) (hK0 (u2 I 89 7 ((I 89 7) + (1 : Int32))) L r hf).1, frx_t frx_r (hK0 (u2 I 89 7 ((I 89 7) + (1 : Int32))) L r hf).2⟩
theorem frc_211_2 (n : Nat) (s0 : Int32) (I : FI) (L : FL) (r : FI × FL) (hf : c_211_2 n s0 I L = some r) : Fr SI_211 I r.1 ∧ Fr SL_211 L r.2 := by
  unfold c_211_2 at hf
  cases hf; exact ⟨(frx_v (frx_v frx_r (by decide)) (by decide)), frx_r⟩
theorem frc_211_4 (n : Nat) (K3 : FI → FL → Option (FI × FL)) (hK3 : ∀ (I : FI) (L : FL) (r : FI × FL), K3 I L = some r → Fr SI_211 I r.1 ∧ Fr SL_211 L r.2) (s0 : Int32) (I : FI) (L : FL) (r : FI × FL) (hf : c_211_4 n K3 s0 I L = some r) : Fr SI_211 I r.1 ∧ Fr SL_211 L r.2 := by
  unfold c_211_4 at hf
  exact ⟨frx_t (frx_v (frx_v frx_r (by decide)) (by decide)) (hK3 (u2 (u2 I 89 10 s0) 89 7 ((I 89 7) + (1 : Int32))) L r hf).1, frx_t frx_r (hK3 (u2 (u2 I 89 10 s0) 89 7 ((I 89 7) + (1 : Int32))) L r hf).2⟩
theorem frc_211_3 (n : Nat) : ∀ (m : Nat) (I : FI) (L : FL) (r : FI × FL), c_211_3 n m I L = some r → Fr SI_211 I r.1 ∧ Fr SL_211 L r.2
  | 0, I, L, r, hf => by cases hf
  | m + 1, I, L, r, hf => by
    unfold c_211_3 b_211_3 at hf
    have hK3 := frc_211_3 n m
    obtain ⟨q4, hq4, hf⟩ := Option.bind_eq_some_iff.mp hf
    rcases ite_some hf with ⟨hc, hf⟩ | ⟨hc, hf⟩
    · cases hf; exact ⟨frx_r, frx_r⟩
    · rcases ite_some hf with ⟨hc, hf⟩ | ⟨hc, hf⟩
      · rcases ite_some hf with ⟨hc, hf⟩ | ⟨hc, hf⟩
        · exact ⟨frx_t frx_r (frc_211_4 n _ hK3 ((((10 : Int32) * (I 89 10)) + (I 94 ((I 89 7).toNatClampNeg))) - (48 : Int32)) I L r hf).1, frx_t frx_r (frc_211_4 n _ hK3 ((((10 : Int32) * (I 89 10)) + (I 94 ((I 89 7).toNatClampNeg))) - (48 : Int32)) I L r hf).2⟩
        · cases hf
      · exact ⟨frx_t frx_r (frc_211_4 n _ hK3 (1000000 : Int32) I L r hf).1, frx_t frx_r (frc_211_4 n _ hK3 (1000000 : Int32) I L r hf).2⟩
theorem frc_211_7 (n : Nat) (K5 : Int32 → FI → FL → Option (FI × FL)) (hK5 : ∀ (x1 : Int32) (I : FI) (L : FL) (r : FI × FL), K5 x1 I L = some r → Fr SI_211 I r.1 ∧ Fr SL_211 L r.2) (x1 : Int32) (I : FI) (L : FL) (r : FI × FL) (hf : c_211_7 n K5 x1 I L = some r) : Fr SI_211 I r.1 ∧ Fr SL_211 L r.2 := by
  unfold c_211_7 at hf
  exact ⟨frx_t (frx_v frx_r (by decide)) (hK5 (x1 + (1 : Int32)) (u2 I 89 7 ((I 89 7) + (1 : Int32))) L r hf).1, frx_t frx_r (hK5 (x1 + (1 : Int32)) (u2 I 89 7 ((I 89 7) + (1 : Int32))) L r hf).2⟩
theorem frc_211_6 (n : Nat) (K5 : Int32 → FI → FL → Option (FI × FL)) (hK5 : ∀ (x1 : Int32) (I : FI) (L : FL) (r : FI × FL), K5 x1 I L = some r → Fr SI_211 I r.1 ∧ Fr SL_211 L r.2) (x1 : Int32) (t0 : Int64) (I : FI) (L : FL) (r : FI × FL) (hf : c_211_6 n K5 x1 t0 I L = some r) : Fr SI_211 I r.1 ∧ Fr SL_211 L r.2 := by
  unfold c_211_6 at hf
  rcases ite_some hf with ⟨hc, hf⟩ | ⟨hc, hf⟩
  · exact ⟨frx_t frx_r (frc_211_7 n _ hK5 x1 I (u2 L 89 11 t0) r hf).1, frx_t (frx_v frx_r (by decide)) (frc_211_7 n _ hK5 x1 I (u2 L 89 11 t0) r hf).2⟩
  · exact ⟨frx_t frx_r (frc_211_7 n _ hK5 x1 I (u2 (u2 L 89 11 t0) 89 11 (-1 : Int64)) r hf).1, frx_t (frx_v (frx_v frx_r (by decide)) (by decide)) (frc_211_7 n _ hK5 x1 I (u2 (u2 L 89 11 t0) 89 11 (-1 : Int64)) r hf).2⟩
theorem frc_211_5 (n : Nat) : ∀ (m : Nat) (x1 : Int32) (I : FI) (L : FL) (r : FI × FL), c_211_5 n m x1 I L = some r → Fr SI_211 I r.1 ∧ Fr SL_211 L r.2
  | 0, x1, I, L, r, hf => by cases hf
  | m + 1, x1, I, L, r, hf => by
    unfold c_211_5 b_211_5 at hf
    have hK5 := frc_211_5 n m
    obtain ⟨q5, hq5, hf⟩ := Option.bind_eq_some_iff.mp hf
    rcases ite_some hf with ⟨hc, hf⟩ | ⟨hc, hf⟩
    · cases hf; exact ⟨frx_r, frx_r⟩
    · rcases ite_some hf with ⟨hc, hf⟩ | ⟨hc, hf⟩
      · rcases ite_some hf with ⟨hc, hf⟩ | ⟨hc, hf⟩
        · exact ⟨frx_t frx_r (frc_211_6 n _ hK5 x1 ((((27 : Int64) * (L 89 11)) + ((I 94 ((I 89 7).toNatClampNeg)).toInt64)) - (96 : Int64)) I L r hf).1, frx_t frx_r (frc_211_6 n _ hK5 x1 ((((27 : Int64) * (L 89 11)) + ((I 94 ((I 89 7).toNatClampNeg)).toInt64)) - (96 : Int64)) I L r hf).2⟩
        · cases hf
      · exact ⟨frx_t frx_r (frc_211_6 n _ hK5 x1 (-1 : Int64) I L r hf).1, frx_t frx_r (frc_211_6 n _ hK5 x1 (-1 : Int64) I L r hf).2⟩
theorem frc_211_0 (n : Nat) : ∀ (m : Nat) (I : FI) (L : FL) (r : FI × FL), c_211_0 n m I L = some r → Fr SI_211 I r.1 ∧ Fr SL_211 L r.2
  | 0, I, L, r, hf => by cases hf
  | m + 1, I, L, r, hf => by
    unfold c_211_0 b_211_0 at hf
    have hK0 := frc_211_0 n m
    obtain ⟨q0, hq0, hf⟩ := Option.bind_eq_some_iff.mp hf
    rcases ite_some hf with ⟨hc, hf⟩ | ⟨hc, hf⟩
    · exact ⟨frx_t frx_r (frc_211_1 n _ hK0 I L r hf).1, frx_t frx_r (frc_211_1 n _ hK0 I L r hf).2⟩
    · obtain ⟨q1, hq1, hf⟩ := Option.bind_eq_some_iff.mp hf
      rcases ite_some hf with ⟨hc, hf⟩ | ⟨hc, hf⟩
      · rcases ite_some hf with ⟨hc, hf⟩ | ⟨hc, hf⟩
        · obtain ⟨q2, hq2, hf⟩ := Option.bind_eq_some_iff.mp hf
          rcases ite_some hf with ⟨hc, hf⟩ | ⟨hc, hf⟩
          · obtain ⟨q3, hq3, hf⟩ := Option.bind_eq_some_iff.mp hf
            rcases ite_some hf with ⟨hc, hf⟩ | ⟨hc, hf⟩
            · rcases ite_some hf with ⟨hc, hf⟩ | ⟨hc, hf⟩
              · rcases ite_some hf with ⟨hc, hf⟩ | ⟨hc, hf⟩
                · exact ⟨frx_t (frx_v (frx_v frx_r (by decide)) (by decide)) (frc_211_2 n (4 : Int32) (u2 (u2 I 89 9 (I 89 7)) 89 10 (0 : Int32)) (u2 L 89 11 (0 : Int64)) r hf).1, frx_t (frx_v frx_r (by decide)) (frc_211_2 n (4 : Int32) (u2 (u2 I 89 9 (I 89 7)) 89 10 (0 : Int32)) (u2 L 89 11 (0 : Int64)) r hf).2⟩
                · exact ⟨frx_t (frx_v (frx_v frx_r (by decide)) (by decide)) (frc_211_2 n (3 : Int32) (u2 (u2 I 89 9 (I 89 7)) 89 10 (0 : Int32)) (u2 L 89 11 (0 : Int64)) r hf).1, frx_t (frx_v frx_r (by decide)) (frc_211_2 n (3 : Int32) (u2 (u2 I 89 9 (I 89 7)) 89 10 (0 : Int32)) (u2 L 89 11 (0 : Int64)) r hf).2⟩
              · cases hf
            · exact ⟨frx_t (frx_v (frx_v (frx_v frx_r (by decide)) (by decide)) (by decide)) (frc_211_3 n n (u2 (u2 (u2 I 89 9 (I 89 7)) 89 10 (0 : Int32)) 89 8 (2 : Int32)) (u2 L 89 11 (0 : Int64)) r hf).1, frx_t (frx_v frx_r (by decide)) (frc_211_3 n n (u2 (u2 (u2 I 89 9 (I 89 7)) 89 10 (0 : Int32)) 89 8 (2 : Int32)) (u2 L 89 11 (0 : Int64)) r hf).2⟩
          · exact ⟨frx_t (frx_v (frx_v (frx_v frx_r (by decide)) (by decide)) (by decide)) (frc_211_5 n n (0 : Int32) (u2 (u2 (u2 I 89 9 (I 89 7)) 89 10 (0 : Int32)) 89 8 (1 : Int32)) (u2 L 89 11 (0 : Int64)) r hf).1, frx_t (frx_v frx_r (by decide)) (frc_211_5 n n (0 : Int32) (u2 (u2 (u2 I 89 9 (I 89 7)) 89 10 (0 : Int32)) 89 8 (1 : Int32)) (u2 L 89 11 (0 : Int64)) r hf).2⟩
        · cases hf; exact ⟨(frx_v (frx_v (frx_v frx_r (by decide)) (by decide)) (by decide)), (frx_v frx_r (by decide))⟩
      · exact ⟨frx_t frx_r (frc_211_1 n _ hK0 I L r hf).1, frx_t frx_r (frc_211_1 n _ hK0 I L r hf).2⟩
theorem fr_211 (n : Nat) (I : FI) (L : FL) (r : FI × FL) (hf : f_211 n I L = some r) : Fr SI_211 I r.1 ∧ Fr SL_211 L r.2 := by
  unfold f_211 at hf
  exact ⟨frx_t frx_r (frc_211_0 n n I L r hf).1, frx_t frx_r (frc_211_0 n n I L r hf).2⟩
def SI_213 : List Nat := [1012, 1013]
def SL_213 : List Nat := []
theorem fr_213 (x1 : Int32) (I : FI) (L : FL) (r : FI × FL) (hf : f_213 x1 I L = some r) : Fr SI_213 I r.1 ∧ Fr SL_213 L r.2 := by
  unfold f_213 at hf
  rcases ite_some hf with ⟨hc, hf⟩ | ⟨hc, hf⟩
  · cases hf; exact ⟨(frx_v (frx_v frx_r (by decide)) (by decide)), frx_r⟩
  · cases hf; exact ⟨frx_r, frx_r⟩
def SI_215 : List Nat := [1007, 1008, 1009, 1010]
def SL_215 : List Nat := [1011]
theorem fr_215 (n : Nat) (y1 : Int64) (I : FI) (L : FL) (r : Int32 × FI × FL) (hf : f_215 n y1 I L = some r) : Fr SI_215 I r.2.1 ∧ Fr SL_215 L r.2.2 := by
  unfold f_215 at hf
  obtain ⟨q0, hq0, hf⟩ := Option.bind_eq_some_iff.mp hf
  rcases ite_some hf with ⟨hc, hf⟩ | ⟨hc, hf⟩
  · obtain ⟨q1, hq1, hf⟩ := Option.bind_eq_some_iff.mp hf
    have hIq1 : Fr SI_215 I q1.1 := frx_t frx_r (frx_m (fr_211 _ _ _ q1 hq1).1 (by decide))
    have hLq1 : Fr SL_215 L q1.2 := frx_t frx_r (frx_m (fr_211 _ _ _ q1 hq1).2 (by decide))
    cases hf; exact ⟨hIq1, hLq1⟩
  · cases hf; exact ⟨frx_r, frx_r⟩
def SI_216 : List Nat := [1007, 1008, 1009, 1010, 1012, 1013]
def SL_216 : List Nat := [1011]
theorem fr_216 (n : Nat) (y1 : Int64) (I : FI) (L : FL) (r : FI × FL) (hf : f_216 n y1 I L = some r) : Fr SI_216 I r.1 ∧ Fr SL_216 L r.2 := by
  unfold f_216 at hf
  obtain ⟨q0, hq0, hf⟩ := Option.bind_eq_some_iff.mp hf
  have hIq0 : Fr SI_216 I q0.2.1 := frx_t frx_r (frx_m (fr_215 _ _ _ _ q0 hq0).1 (by decide))
  have hLq0 : Fr SL_216 L q0.2.2 := frx_t frx_r (frx_m (fr_215 _ _ _ _ q0 hq0).2 (by decide))
  rcases ite_some hf with ⟨hc, hf⟩ | ⟨hc, hf⟩
  · cases hf; exact ⟨hIq0, hLq0⟩
  · obtain ⟨q1, hq1, hf⟩ := Option.bind_eq_some_iff.mp hf
    have hIq1 : Fr SI_216 I q1.1 := frx_t hIq0 (frx_m (fr_213 _ _ _ q1 hq1).1 (by decide))
    have hLq1 : Fr SL_216 L q1.2 := frx_t hLq0 (frx_m (fr_213 _ _ _ q1 hq1).2 (by decide))
    cases hf; exact ⟨hIq1, hLq1⟩
def SI_217 : List Nat := [1007, 1008, 1009, 1010, 1012, 1013]
def SL_217 : List Nat := [1011]
theorem fr_217 (n : Nat) (x1 : Int32) (x2 : Int32) (I : FI) (L : FL) (r : Int32 × FI × FL) (hf : f_217 n x1 x2 I L = some r) : Fr SI_217 I r.2.1 ∧ Fr SL_217 L r.2.2 := by
  unfold f_217 at hf
  rcases ite_some hf with ⟨hc, hf⟩ | ⟨hc, hf⟩
  · rcases ite_some hf with ⟨hc, hf⟩ | ⟨hc, hf⟩
    · obtain ⟨q0, hq0, hf⟩ := Option.bind_eq_some_iff.mp hf
      rcases ite_some hf with ⟨hc, hf⟩ | ⟨hc, hf⟩
      · obtain ⟨q1, hq1, hf⟩ := Option.bind_eq_some_iff.mp hf
        have hIq1 : Fr SI_217 I q1.1 := frx_t frx_r (frx_m (fr_211 _ _ _ q1 hq1).1 (by decide))
        have hLq1 : Fr SL_217 L q1.2 := frx_t frx_r (frx_m (fr_211 _ _ _ q1 hq1).2 (by decide))
        cases hf; exact ⟨hIq1, hLq1⟩
      · obtain ⟨q2, hq2, hf⟩ := Option.bind_eq_some_iff.mp hf
        have hIq2 : Fr SI_217 I q2.1 := frx_t frx_r (frx_m (fr_213 _ _ _ q2 hq2).1 (by decide))
        have hLq2 : Fr SL_217 L q2.2 := frx_t frx_r (frx_m (fr_213 _ _ _ q2 hq2).2 (by decide))
        cases hf; exact ⟨hIq2, hLq2⟩
    · obtain ⟨q3, hq3, hf⟩ := Option.bind_eq_some_iff.mp hf
      have hIq3 : Fr SI_217 I q3.1 := frx_t frx_r (frx_m (fr_213 _ _ _ q3 hq3).1 (by decide))
      have hLq3 : Fr SL_217 L q3.2 := frx_t frx_r (frx_m (fr_213 _ _ _ q3 hq3).2 (by decide))
      cases hf; exact ⟨hIq3, hLq3⟩
  · cases hf; exact ⟨frx_r, frx_r⟩
def SI_218 : List Nat := [1007, 1008, 1009, 1010, 1012, 1013]
def SL_218 : List Nat := [1011]
theorem fr_218 (n : Nat) (y1 : Int64) (x3 : Int32) (x4 : Int32) (I : FI) (L : FL) (r : Int32 × FI × FL) (hf : f_218 n y1 x3 x4 I L = some r) : Fr SI_218 I r.2.1 ∧ Fr SL_218 L r.2.2 := by
  unfold f_218 at hf
  obtain ⟨q0, hq0, hf⟩ := Option.bind_eq_some_iff.mp hf
  have hIq0 : Fr SI_218 I q0.1 := frx_t frx_r (frx_m (fr_216 _ _ _ _ q0 hq0).1 (by decide))
  have hLq0 : Fr SL_218 L q0.2 := frx_t frx_r (frx_m (fr_216 _ _ _ _ q0 hq0).2 (by decide))
  obtain ⟨q1, hq1, hf⟩ := Option.bind_eq_some_iff.mp hf
  have hIq1 : Fr SI_218 I q1.2.1 := frx_t hIq0 (frx_m (fr_217 _ _ _ _ _ q1 hq1).1 (by decide))
  have hLq1 : Fr SL_218 L q1.2.2 := frx_t hLq0 (frx_m (fr_217 _ _ _ _ _ q1 hq1).2 (by decide))
  cases hf; exact ⟨hIq1, hLq1⟩
def SI_219 : List Nat := [1007, 1008, 1009, 1010, 1012, 1013]
def SL_219 : List Nat := [1011]
theorem frc_219_0 (n : Nat) (I : FI) (L : FL) (r : FI × FL) (hf : c_219_0 n I L = some r) : Fr SI_219 I r.1 ∧ Fr SL_219 L r.2 := by
  unfold c_219_0 at hf
  rcases ite_some hf with ⟨hc, hf⟩ | ⟨hc, hf⟩
  · cases hf; exact ⟨frx_r, frx_r⟩
  · obtain ⟨q0, hq0, hf⟩ := Option.bind_eq_some_iff.mp hf
    have hIq0 : Fr SI_219 I q0.1 := frx_t frx_r (frx_m (fr_211 _ _ _ q0 hq0).1 (by decide))
    have hLq0 : Fr SL_219 L q0.2 := frx_t frx_r (frx_m (fr_211 _ _ _ q0 hq0).2 (by decide))
    cases hf; exact ⟨hIq0, hLq0⟩
theorem fr_219 (n : Nat) (I : FI) (L : FL) (r : FI × FL) (hf : f_219 n I L = some r) : Fr SI_219 I r.1 ∧ Fr SL_219 L r.2 := by
  unfold f_219 at hf
  rcases ite_some hf with ⟨hc, hf⟩ | ⟨hc, hf⟩
  · exact ⟨frx_t frx_r (frc_219_0 n I L r hf).1, frx_t frx_r (frc_219_0 n I L r hf).2⟩
  · obtain ⟨q1, hq1, hf⟩ := Option.bind_eq_some_iff.mp hf
    have hIq1 : Fr SI_219 I q1.1 := frx_t frx_r (frx_m (fr_213 _ _ _ q1 hq1).1 (by decide))
    have hLq1 : Fr SL_219 L q1.2 := frx_t frx_r (frx_m (fr_213 _ _ _ q1 hq1).2 (by decide))
    exact ⟨frx_t hIq1 (frc_219_0 n q1.1 q1.2 r hf).1, frx_t hLq1 (frc_219_0 n q1.1 q1.2 r hf).2⟩
def SI_220 : List Nat := [1007, 1008, 1009, 1010, 1012, 1013]
def SL_220 : List Nat := [1011]
theorem fr_220 (n : Nat) (I : FI) (L : FL) (r : FI × FL) (hf : f_220 n I L = some r) : Fr SI_220 I r.1 ∧ Fr SL_220 L r.2 := by
  unfold f_220 at hf
  obtain ⟨q0, hq0, hf⟩ := Option.bind_eq_some_iff.mp hf
  have hIq0 : Fr SI_220 I q0.1 := frx_t (frx_v (frx_v (frx_v frx_r (by decide)) (by decide)) (by decide)) (frx_m (fr_211 _ _ _ q0 hq0).1 (by decide))
  have hLq0 : Fr SL_220 L q0.2 := frx_t frx_r (frx_m (fr_211 _ _ _ q0 hq0).2 (by decide))
  cases hf; exact ⟨hIq0, hLq0⟩
def SI_221 : List Nat := [1006, 1014, 1015]
def SL_221 : List Nat := []
theorem fr_221 (I : FI) (L : FL) (r : FI × FL) (hf : f_221 I L = some r) : Fr SI_221 I r.1 ∧ Fr SL_221 L r.2 := by
  unfold f_221 at hf
  rcases ite_some hf with ⟨hc, hf⟩ | ⟨hc, hf⟩
  · cases hf; exact ⟨(frx_v (frx_v (frx_v frx_r (by decide)) (by decide)) (by decide)), frx_r⟩
  · cases hf; exact ⟨(frx_v (frx_v (frx_v frx_r (by decide)) (by decide)) (by decide)), frx_r⟩
def SI_222 : List Nat := [1000]
def SL_222 : List Nat := []
theorem fr_222 (x1 : Int32) (I : FI) (L : FL) (r : Int32 × FI × FL) (hf : f_222 x1 I L = some r) : Fr SI_222 I r.2.1 ∧ Fr SL_222 L r.2.2 := by
  unfold f_222 at hf
  rcases ite_some hf with ⟨hc, hf⟩ | ⟨hc, hf⟩
  · rcases ite_some hf with ⟨hc, hf⟩ | ⟨hc, hf⟩
    · cases hf; exact ⟨(frx_v frx_r (by decide)), frx_r⟩
    · cases hf; exact ⟨(frx_v frx_r (by decide)), frx_r⟩
  · cases hf; exact ⟨(frx_v frx_r (by decide)), frx_r⟩
def SI_224 : List Nat := [96]
def SL_224 : List Nat := []
theorem fr_224 (x1 : Int32) (x2 : Int32) (I : FI) (L : FL) (r : FI × FL) (hf : f_224 x1 x2 I L = some r) : Fr SI_224 I r.1 ∧ Fr SL_224 L r.2 := by
  unfold f_224 at hf
  rcases ite_some hf with ⟨hc, hf⟩ | ⟨hc, hf⟩
  · cases hf; exact ⟨(frx_u frx_r (by decide) (by decide)), frx_r⟩
  · cases hf
def SI_225 : List Nat := [1007, 1008, 1009, 1010, 1012, 1013]
def SL_225 : List Nat := [1011]
theorem fr_225 (n : Nat) (I : FI) (L : FL) (r : Int32 × FI × FL) (hf : f_225 n I L = some r) : Fr SI_225 I r.2.1 ∧ Fr SL_225 L r.2.2 := by
  unfold f_225 at hf
  obtain ⟨q0, hq0, hf⟩ := Option.bind_eq_some_iff.mp hf
  obtain ⟨q1, hq1, hf⟩ := Option.bind_eq_some_iff.mp hf
  have hIq1 : Fr SI_225 I q1.2.1 := frx_t frx_r (frx_m (fr_217 _ _ _ _ _ q1 hq1).1 (by decide))
  have hLq1 : Fr SL_225 L q1.2.2 := frx_t frx_r (frx_m (fr_217 _ _ _ _ _ q1 hq1).2 (by decide))
  cases hf; exact ⟨hIq1, hLq1⟩
def SI_226 : List Nat := [96, 97, 1007, 1008, 1009, 1010, 1012, 1013]
def SL_226 : List Nat := [1011]
theorem fr_226 (n : Nat) (I : FI) (L : FL) (r : FI × FL) (hf : f_226 n I L = some r) : Fr SI_226 I r.1 ∧ Fr SL_226 L r.2 := by
  unfold f_226 at hf
  obtain ⟨q0, hq0, hf⟩ := Option.bind_eq_some_iff.mp hf
  obtain ⟨q1, hq1, hf⟩ := Option.bind_eq_some_iff.mp hf
  have hIq1 : Fr SI_226 I q1.2.1 := frx_t frx_r (frx_m (fr_218 _ _ _ _ _ _ q1 hq1).1 (by decide))
  have hLq1 : Fr SL_226 L q1.2.2 := frx_t frx_r (frx_m (fr_218 _ _ _ _ _ _ q1 hq1).2 (by decide))
  rcases ite_some hf with ⟨hc, hf⟩ | ⟨hc, hf⟩
  · obtain ⟨q2, hq2, hf⟩ := Option.bind_eq_some_iff.mp hf
    have hIq2 : Fr SI_226 I q2.2.1 := frx_t (frx_u hIq1 (by decide) (by decide)) (frx_m (fr_218 _ _ _ _ _ _ q2 hq2).1 (by decide))
    have hLq2 : Fr SL_226 L q2.2.2 := frx_t hLq1 (frx_m (fr_218 _ _ _ _ _ _ q2 hq2).2 (by decide))
    rcases ite_some hf with ⟨hc, hf⟩ | ⟨hc, hf⟩
    · obtain ⟨q3, hq3, hf⟩ := Option.bind_eq_some_iff.mp hf
      obtain ⟨q4, hq4, hf⟩ := Option.bind_eq_some_iff.mp hf
      have hIq4 : Fr SI_226 I q4.1 := frx_t (frx_u hIq2 (by decide) (by decide)) (frx_m (fr_224 _ _ _ _ q4 hq4).1 (by decide))
      have hLq4 : Fr SL_226 L q4.2 := frx_t hLq2 (frx_m (fr_224 _ _ _ _ q4 hq4).2 (by decide))
      cases hf; exact ⟨hIq4, hLq4⟩
    · cases hf
  · cases hf
def SI_227 : List Nat := [96, 98, 1007, 1008, 1009, 1010, 1012, 1013]
def SL_227 : List Nat := [1011]
theorem frc_227_0 (n : Nat) (x1 : Int32) (I : FI) (L : FL) (r : FI × FL) (hf : c_227_0 n x1 I L = some r) : Fr SI_227 I r.1 ∧ Fr SL_227 L r.2 := by
  unfold c_227_0 at hf
  obtain ⟨q2, hq2, hf⟩ := Option.bind_eq_some_iff.mp hf
  have hIq2 : Fr SI_227 I q2.2.1 := frx_t frx_r (frx_m (fr_225 _ _ _ q2 hq2).1 (by decide))
  have hLq2 : Fr SL_227 L q2.2.2 := frx_t frx_r (frx_m (fr_225 _ _ _ q2 hq2).2 (by decide))
  rcases ite_some hf with ⟨hc, hf⟩ | ⟨hc, hf⟩
  · obtain ⟨q3, hq3, hf⟩ := Option.bind_eq_some_iff.mp hf
    obtain ⟨q4, hq4, hf⟩ := Option.bind_eq_some_iff.mp hf
    have hIq4 : Fr SI_227 I q4.1 := frx_t (frx_u hIq2 (by decide) (by decide)) (frx_m (fr_224 _ _ _ _ q4 hq4).1 (by decide))
    have hLq4 : Fr SL_227 L q4.2 := frx_t hLq2 (frx_m (fr_224 _ _ _ _ q4 hq4).2 (by decide))
    cases hf; exact ⟨hIq4, hLq4⟩
  · cases hf
theorem fr_227 (n : Nat) (I : FI) (L : FL) (r : FI × FL) (hf : f_227 n I L = some r) : Fr SI_227 I r.1 ∧ Fr SL_227 L r.2 := by
  unfold f_227 at hf
  obtain ⟨q0, hq0, hf⟩ := Option.bind_eq_some_iff.mp hf
  obtain ⟨q1, hq1, hf⟩ := Option.bind_eq_some_iff.mp hf
  have hIq1 : Fr SI_227 I q1.2.1 := frx_t frx_r (frx_m (fr_225 _ _ _ q1 hq1).1 (by decide))
  have hLq1 : Fr SL_227 L q1.2.2 := frx_t frx_r (frx_m (fr_225 _ _ _ q1 hq1).2 (by decide))
  rcases ite_some hf with ⟨hc, hf⟩ | ⟨hc, hf⟩
  · rcases ite_some hf with ⟨hc, hf⟩ | ⟨hc, hf⟩
    · exact ⟨frx_t (frx_u hIq1 (by decide) (by decide)) (frc_227_0 n ((2 : Int32) * ((24 : Int32) + q0)) (u2 q1.2.1 98 (((2 : Int32) * ((24 : Int32) + q0)).toNatClampNeg) q1.1) q1.2.2 r hf).1, frx_t hLq1 (frc_227_0 n ((2 : Int32) * ((24 : Int32) + q0)) (u2 q1.2.1 98 (((2 : Int32) * ((24 : Int32) + q0)).toNatClampNeg) q1.1) q1.2.2 r hf).2⟩
    · rcases ite_some hf with ⟨hc, hf⟩ | ⟨hc, hf⟩
      · exact ⟨frx_t (frx_u hIq1 (by decide) (by decide)) (frc_227_0 n ((2 : Int32) * ((24 : Int32) + q0)) (u2 q1.2.1 98 (((2 : Int32) * ((24 : Int32) + q0)).toNatClampNeg) q1.1) q1.2.2 r hf).1, frx_t hLq1 (frc_227_0 n ((2 : Int32) * ((24 : Int32) + q0)) (u2 q1.2.1 98 (((2 : Int32) * ((24 : Int32) + q0)).toNatClampNeg) q1.1) q1.2.2 r hf).2⟩
      · rcases ite_some hf with ⟨hc, hf⟩ | ⟨hc, hf⟩
        · rcases ite_some hf with ⟨hc, hf⟩ | ⟨hc, hf⟩
          · exact ⟨frx_t (frx_u hIq1 (by decide) (by decide)) (frc_227_0 n ((2 : Int32) * ((24 : Int32) + q0)) (u2 q1.2.1 98 (((2 : Int32) * ((24 : Int32) + q0)).toNatClampNeg) q1.1) q1.2.2 r hf).1, frx_t hLq1 (frc_227_0 n ((2 : Int32) * ((24 : Int32) + q0)) (u2 q1.2.1 98 (((2 : Int32) * ((24 : Int32) + q0)).toNatClampNeg) q1.1) q1.2.2 r hf).2⟩
          · obtain ⟨q5, hq5, hf⟩ := Option.bind_eq_some_iff.mp hf
            have hIq5 : Fr SI_227 I q5.1 := frx_t (frx_u hIq1 (by decide) (by decide)) (frx_m (fr_213 _ _ _ q5 hq5).1 (by decide))
            have hLq5 : Fr SL_227 L q5.2 := frx_t hLq1 (frx_m (fr_213 _ _ _ q5 hq5).2 (by decide))
            exact ⟨frx_t hIq5 (frc_227_0 n ((2 : Int32) * ((24 : Int32) + q0)) q5.1 q5.2 r hf).1, frx_t hLq5 (frc_227_0 n ((2 : Int32) * ((24 : Int32) + q0)) q5.1 q5.2 r hf).2⟩
        · cases hf
  · cases hf
def SI_228 : List Nat := [96, 99, 1007, 1008, 1009, 1010, 1012, 1013]
def SL_228 : List Nat := [1011]
theorem fr_228 (n : Nat) (I : FI) (L : FL) (r : FI × FL) (hf : f_228 n I L = some r) : Fr SI_228 I r.1 ∧ Fr SL_228 L r.2 := by
  unfold f_228 at hf
  obtain ⟨q0, hq0, hf⟩ := Option.bind_eq_some_iff.mp hf
  obtain ⟨q1, hq1, hf⟩ := Option.bind_eq_some_iff.mp hf
  have hIq1 : Fr SI_228 I q1.1 := frx_t frx_r (frx_m (fr_216 _ _ _ _ q1 hq1).1 (by decide))
  have hLq1 : Fr SL_228 L q1.2 := frx_t frx_r (frx_m (fr_216 _ _ _ _ q1 hq1).2 (by decide))
  obtain ⟨q2, hq2, hf⟩ := Option.bind_eq_some_iff.mp hf
  have hIq2 : Fr SI_228 I q2.2.1 := frx_t hIq1 (frx_m (fr_225 _ _ _ q2 hq2).1 (by decide))
  have hLq2 : Fr SL_228 L q2.2.2 := frx_t hLq1 (frx_m (fr_225 _ _ _ q2 hq2).2 (by decide))
  rcases ite_some hf with ⟨hc, hf⟩ | ⟨hc, hf⟩
  · obtain ⟨q3, hq3, hf⟩ := Option.bind_eq_some_iff.mp hf
    have hIq3 : Fr SI_228 I q3.2.1 := frx_t (frx_u hIq2 (by decide) (by decide)) (frx_m (fr_218 _ _ _ _ _ _ q3 hq3).1 (by decide))
    have hLq3 : Fr SL_228 L q3.2.2 := frx_t hLq2 (frx_m (fr_218 _ _ _ _ _ _ q3 hq3).2 (by decide))
    rcases ite_some hf with ⟨hc, hf⟩ | ⟨hc, hf⟩
    · obtain ⟨q4, hq4, hf⟩ := Option.bind_eq_some_iff.mp hf
      obtain ⟨q5, hq5, hf⟩ := Option.bind_eq_some_iff.mp hf
      have hIq5 : Fr SI_228 I q5.1 := frx_t (frx_u hIq3 (by decide) (by decide)) (frx_m (fr_224 _ _ _ _ q5 hq5).1 (by decide))
      have hLq5 : Fr SL_228 L q5.2 := frx_t hLq3 (frx_m (fr_224 _ _ _ _ q5 hq5).2 (by decide))
      cases hf; exact ⟨hIq5, hLq5⟩
    · cases hf
  · cases hf
def SI_229 : List Nat := [96, 100, 1007, 1008, 1009, 1010, 1012, 1013]
def SL_229 : List Nat := [1011]
theorem frc_229_1 (n : Nat) (K0 : Int32 → FI → FL → Option (FI × FL)) (hK0 : ∀ (x1 : Int32) (I : FI) (L : FL) (r : FI × FL), K0 x1 I L = some r → Fr SI_229 I r.1 ∧ Fr SL_229 L r.2) (I : FI) (L : FL) (r : FI × FL) (hf : c_229_1 n K0 I L = some r) : Fr SI_229 I r.1 ∧ Fr SL_229 L r.2 := by
  unfold c_229_1 at hf
  obtain ⟨q7, hq7, hf⟩ := Option.bind_eq_some_iff.mp hf
  have hIq7 : Fr SI_229 I q7.2.1 := frx_t frx_r (frx_m (fr_225 _ _ _ q7 hq7).1 (by decide))
  have hLq7 : Fr SL_229 L q7.2.2 := frx_t frx_r (frx_m (fr_225 _ _ _ q7 hq7).2 (by decide))
  exact ⟨frx_t hIq7 (hK0 q7.1 q7.2.1 q7.2.2 r hf).1, frx_t hLq7 (hK0 q7.1 q7.2.1 q7.2.2 r hf).2⟩
theorem frc_229_2 (n : Nat) (K0 : Int32 → FI → FL → Option (FI × FL)) (hK0 : ∀ (x1 : Int32) (I : FI) (L : FL) (r : FI × FL), K0 x1 I L = some r → Fr SI_229 I r.1 ∧ Fr SL_229 L r.2) (s0 : Int32) (I : FI) (L : FL) (r : FI × FL) (hf : c_229_2 n K0 s0 I L = some r) : Fr SI_229 I r.1 ∧ Fr SL_229 L r.2 := by
  unfold c_229_2 at hf
  obtain ⟨q9, hq9, hf⟩ := Option.bind_eq_some_iff.mp hf
  have hIq9 : Fr SI_229 I q9.1 := frx_t frx_r (frx_m (fr_213 _ _ _ q9 hq9).1 (by decide))
  have hLq9 : Fr SL_229 L q9.2 := frx_t frx_r (frx_m (fr_213 _ _ _ q9 hq9).2 (by decide))
  exact ⟨frx_t hIq9 (frc_229_1 n _ hK0 q9.1 q9.2 r hf).1, frx_t hLq9 (frc_229_1 n _ hK0 q9.1 q9.2 r hf).2⟩
theorem frc_229_0 (n : Nat) : ∀ (m : Nat) (x1 : Int32) (I : FI) (L : FL) (r : FI × FL), c_229_0 n m x1 I L = some r → Fr SI_229 I r.1 ∧ Fr SL_229 L r.2
  | 0, x1, I, L, r, hf => by cases hf
  | m + 1, x1, I, L, r, hf => by
    unfold c_229_0 b_229_0 at hf
    have hK0 := frc_229_0 n m
    rcases ite_some hf with ⟨hc, hf⟩ | ⟨hc, hf⟩
    · cases hf; exact ⟨frx_r, frx_r⟩
    · obtain ⟨q3, hq3, hf⟩ := Option.bind_eq_some_iff.mp hf
      rcases ite_some hf with ⟨hc, hf⟩ | ⟨hc, hf⟩
      · obtain ⟨q4, hq4, hf⟩ := Option.bind_eq_some_iff.mp hf
        obtain ⟨q5, hq5, hf⟩ := Option.bind_eq_some_iff.mp hf
        have hIq5 : Fr SI_229 I q5.1 := frx_t (frx_u frx_r (by decide) (by decide)) (frx_m (fr_224 _ _ _ _ q5 hq5).1 (by decide))
        have hLq5 : Fr SL_229 L q5.2 := frx_t frx_r (frx_m (fr_224 _ _ _ _ q5 hq5).2 (by decide))
        rcases ite_some hf with ⟨hc, hf⟩ | ⟨hc, hf⟩
        · obtain ⟨q6, hq6, hf⟩ := Option.bind_eq_some_iff.mp hf
          rcases ite_some hf with ⟨hc, hf⟩ | ⟨hc, hf⟩
          · exact ⟨frx_t hIq5 (frc_229_1 n _ hK0 q5.1 q5.2 r hf).1, frx_t hLq5 (frc_229_1 n _ hK0 q5.1 q5.2 r hf).2⟩
          · obtain ⟨q8, hq8, hf⟩ := Option.bind_eq_some_iff.mp hf
            rcases ite_some hf with ⟨hc, hf⟩ | ⟨hc, hf⟩
            · exact ⟨frx_t hIq5 (frc_229_2 n _ hK0 (2 : Int32) q5.1 q5.2 r hf).1, frx_t hLq5 (frc_229_2 n _ hK0 (2 : Int32) q5.1 q5.2 r hf).2⟩
            · exact ⟨frx_t hIq5 (frc_229_2 n _ hK0 (3 : Int32) q5.1 q5.2 r hf).1, frx_t hLq5 (frc_229_2 n _ hK0 (3 : Int32) q5.1 q5.2 r hf).2⟩
        · cases hf; exact ⟨hIq5, hLq5⟩
      · cases hf
theorem fr_229 (n : Nat) (I : FI) (L : FL) (r : FI × FL) (hf : f_229 n I L = some r) : Fr SI_229 I r.1 ∧ Fr SL_229 L r.2 := by
  unfold f_229 at hf
  obtain ⟨q0, hq0, hf⟩ := Option.bind_eq_some_iff.mp hf
  have hIq0 : Fr SI_229 I q0.1 := frx_t frx_r (frx_m (fr_224 _ _ _ _ q0 hq0).1 (by decide))
  have hLq0 : Fr SL_229 L q0.2 := frx_t frx_r (frx_m (fr_224 _ _ _ _ q0 hq0).2 (by decide))
  obtain ⟨q1, hq1, hf⟩ := Option.bind_eq_some_iff.mp hf
  have hIq1 : Fr SI_229 I q1.1 := frx_t hIq0 (frx_m (fr_224 _ _ _ _ q1 hq1).1 (by decide))
  have hLq1 : Fr SL_229 L q1.2 := frx_t hLq0 (frx_m (fr_224 _ _ _ _ q1 hq1).2 (by decide))
  obtain ⟨q2, hq2, hf⟩ := Option.bind_eq_some_iff.mp hf
  have hIq2 : Fr SI_229 I q2.2.1 := frx_t hIq1 (frx_m (fr_225 _ _ _ q2 hq2).1 (by decide))
  have hLq2 : Fr SL_229 L q2.2.2 := frx_t hLq1 (frx_m (fr_225 _ _ _ q2 hq2).2 (by decide))
  exact ⟨frx_t hIq2 (frc_229_0 n n q2.1 q2.2.1 q2.2.2 r hf).1, frx_t hLq2 (frc_229_0 n n q2.1 q2.2.1 q2.2.2 r hf).2⟩
def SI_230 : List Nat := [1007, 1008, 1009, 1010, 1012, 1013]
def SL_230 : List Nat := [1011]
theorem frc_230_1 (n : Nat) (x1 : Int32) (I : FI) (L : FL) (r : Int32 × FI × FL) (hf : c_230_1 n x1 I L = some r) : Fr SI_230 I r.2.1 ∧ Fr SL_230 L r.2.2 := by
  unfold c_230_1 at hf
  rcases ite_some hf with ⟨hc, hf⟩ | ⟨hc, hf⟩
  · cases hf; exact ⟨frx_r, frx_r⟩
  · rcases ite_some hf with ⟨hc, hf⟩ | ⟨hc, hf⟩
    · cases hf; exact ⟨frx_r, frx_r⟩
    · cases hf; exact ⟨frx_r, frx_r⟩
theorem frc_230_0 (n : Nat) (x1 : Int32) (I : FI) (L : FL) (r : Int32 × FI × FL) (hf : c_230_0 n x1 I L = some r) : Fr SI_230 I r.2.1 ∧ Fr SL_230 L r.2.2 := by
  unfold c_230_0 at hf
  rcases ite_some hf with ⟨hc, hf⟩ | ⟨hc, hf⟩
  · exact ⟨frx_t frx_r (frc_230_1 n x1 I L r hf).1, frx_t frx_r (frc_230_1 n x1 I L r hf).2⟩
  · rcases ite_some hf with ⟨hc, hf⟩ | ⟨hc, hf⟩
    · exact ⟨frx_t frx_r (frc_230_1 n x1 I L r hf).1, frx_t frx_r (frc_230_1 n x1 I L r hf).2⟩
    · obtain ⟨q0, hq0, hf⟩ := Option.bind_eq_some_iff.mp hf
      have hIq0 : Fr SI_230 I q0.1 := frx_t frx_r (frx_m (fr_211 _ _ _ q0 hq0).1 (by decide))
      have hLq0 : Fr SL_230 L q0.2 := frx_t frx_r (frx_m (fr_211 _ _ _ q0 hq0).2 (by decide))
      exact ⟨frx_t hIq0 (frc_230_1 n x1 q0.1 q0.2 r hf).1, frx_t hLq0 (frc_230_1 n x1 q0.1 q0.2 r hf).2⟩
theorem fr_230 (n : Nat) (x1 : Int32) (x2 : Int32) (x3 : Int32) (I : FI) (L : FL) (r : Int32 × FI × FL) (hf : f_230 n x1 x2 x3 I L = some r) : Fr SI_230 I r.2.1 ∧ Fr SL_230 L r.2.2 := by
  unfold f_230 at hf
  rcases ite_some hf with ⟨hc, hf⟩ | ⟨hc, hf⟩
  · exact ⟨frx_t frx_r (frc_230_0 n x1 I L r hf).1, frx_t frx_r (frc_230_0 n x1 I L r hf).2⟩
  · obtain ⟨q1, hq1, hf⟩ := Option.bind_eq_some_iff.mp hf
    rcases ite_some hf with ⟨hc, hf⟩ | ⟨hc, hf⟩
    · exact ⟨frx_t frx_r (frc_230_0 n x1 I L r hf).1, frx_t frx_r (frc_230_0 n x1 I L r hf).2⟩
    · obtain ⟨q2, hq2, hf⟩ := Option.bind_eq_some_iff.mp hf
      have hIq2 : Fr SI_230 I q2.1 := frx_t frx_r (frx_m (fr_213 _ _ _ q2 hq2).1 (by decide))
      have hLq2 : Fr SL_230 L q2.2 := frx_t frx_r (frx_m (fr_213 _ _ _ q2 hq2).2 (by decide))
      exact ⟨frx_t hIq2 (frc_230_0 n x1 q2.1 q2.2 r hf).1, frx_t hLq2 (frc_230_0 n x1 q2.1 q2.2 r hf).2⟩
def SI_231 : List Nat := [96, 97, 98, 99, 100, 1007, 1008, 1009, 1010, 1012, 1013]
def SL_231 : List Nat := [1011]
theorem frc_231_2 (n : Nat) (I : FI) (L : FL) (r : FI × FL) (hf : c_231_2 n I L = some r) : Fr SI_231 I r.1 ∧ Fr SL_231 L r.2 := by
  unfold c_231_2 at hf
  rcases ite_some hf with ⟨hc, hf⟩ | ⟨hc, hf⟩
  · cases hf; exact ⟨frx_r, frx_r⟩
  · obtain ⟨q2, hq2, hf⟩ := Option.bind_eq_some_iff.mp hf
    have hIq2 : Fr SI_231 I q2.1 := frx_t frx_r (frx_m (fr_213 _ _ _ q2 hq2).1 (by decide))
    have hLq2 : Fr SL_231 L q2.2 := frx_t frx_r (frx_m (fr_213 _ _ _ q2 hq2).2 (by decide))
    cases hf; exact ⟨hIq2, hLq2⟩
theorem frc_231_1 (n : Nat) (I : FI) (L : FL) (r : FI × FL) (hf : c_231_1 n I L = some r) : Fr SI_231 I r.1 ∧ Fr SL_231 L r.2 := by
  unfold c_231_1 at hf
  rcases ite_some hf with ⟨hc, hf⟩ | ⟨hc, hf⟩
  · exact ⟨frx_t frx_r (frc_231_2 n I L r hf).1, frx_t frx_r (frc_231_2 n I L r hf).2⟩
  · obtain ⟨q3, hq3, hf⟩ := Option.bind_eq_some_iff.mp hf
    obtain ⟨q4, hq4, hf⟩ := Option.bind_eq_some_iff.mp hf
    have hIq4 : Fr SI_231 I q4.2.1 := frx_t frx_r (frx_m (fr_230 _ _ _ _ _ _ q4 hq4).1 (by decide))
    have hLq4 : Fr SL_231 L q4.2.2 := frx_t frx_r (frx_m (fr_230 _ _ _ _ _ _ q4 hq4).2 (by decide))
    rcases ite_some hf with ⟨hc, hf⟩ | ⟨hc, hf⟩
    · exact ⟨frx_t hIq4 (frc_231_2 n q4.2.1 q4.2.2 r hf).1, frx_t hLq4 (frc_231_2 n q4.2.1 q4.2.2 r hf).2⟩
    · obtain ⟨q5, hq5, hf⟩ := Option.bind_eq_some_iff.mp hf
      have hIq5 : Fr SI_231 I q5.1 := frx_t hIq4 (frx_m (fr_229 _ _ _ q5 hq5).1 (by decide))
      have hLq5 : Fr SL_231 L q5.2 := frx_t hLq4 (frx_m (fr_229 _ _ _ q5 hq5).2 (by decide))
      cases hf; exact ⟨hIq5, hLq5⟩
theorem frc_231_0 (n : Nat) (I : FI) (L : FL) (r : FI × FL) (hf : c_231_0 n I L = some r) : Fr SI_231 I r.1 ∧ Fr SL_231 L r.2 := by
  unfold c_231_0 at hf
  rcases ite_some hf with ⟨hc, hf⟩ | ⟨hc, hf⟩
  · exact ⟨frx_t frx_r (frc_231_1 n I L r hf).1, frx_t frx_r (frc_231_1 n I L r hf).2⟩
  · obtain ⟨q6, hq6, hf⟩ := Option.bind_eq_some_iff.mp hf
    obtain ⟨q7, hq7, hf⟩ := Option.bind_eq_some_iff.mp hf
    have hIq7 : Fr SI_231 I q7.2.1 := frx_t frx_r (frx_m (fr_230 _ _ _ _ _ _ q7 hq7).1 (by decide))
    have hLq7 : Fr SL_231 L q7.2.2 := frx_t frx_r (frx_m (fr_230 _ _ _ _ _ _ q7 hq7).2 (by decide))
    rcases ite_some hf with ⟨hc, hf⟩ | ⟨hc, hf⟩
    · exact ⟨frx_t hIq7 (frc_231_1 n q7.2.1 q7.2.2 r hf).1, frx_t hLq7 (frc_231_1 n q7.2.1 q7.2.2 r hf).2⟩
    · obtain ⟨q8, hq8, hf⟩ := Option.bind_eq_some_iff.mp hf
      have hIq8 : Fr SI_231 I q8.1 := frx_t hIq7 (frx_m (fr_228 _ _ _ q8 hq8).1 (by decide))
      have hLq8 : Fr SL_231 L q8.2 := frx_t hLq7 (frx_m (fr_228 _ _ _ q8 hq8).2 (by decide))
      cases hf; exact ⟨hIq8, hLq8⟩
theorem fr_231 (n : Nat) (I : FI) (L : FL) (r : FI × FL) (hf : f_231 n I L = some r) : Fr SI_231 I r.1 ∧ Fr SL_231 L r.2 := by
  unfold f_231 at hf
  obtain ⟨q0, hq0, hf⟩ := Option.bind_eq_some_iff.mp hf
  obtain ⟨q1, hq1, hf⟩ := Option.bind_eq_some_iff.mp hf
  have hIq1 : Fr SI_231 I q1.2.1 := frx_t frx_r (frx_m (fr_230 _ _ _ _ _ _ q1 hq1).1 (by decide))
  have hLq1 : Fr SL_231 L q1.2.2 := frx_t frx_r (frx_m (fr_230 _ _ _ _ _ _ q1 hq1).2 (by decide))
  rcases ite_some hf with ⟨hc, hf⟩ | ⟨hc, hf⟩
  · rcases ite_some hf with ⟨hc, hf⟩ | ⟨hc, hf⟩
    · exact ⟨frx_t hIq1 (frc_231_0 n q1.2.1 q1.2.2 r hf).1, frx_t hLq1 (frc_231_0 n q1.2.1 q1.2.2 r hf).2⟩
    · obtain ⟨q9, hq9, hf⟩ := Option.bind_eq_some_iff.mp hf
      obtain ⟨q10, hq10, hf⟩ := Option.bind_eq_some_iff.mp hf
      have hIq10 : Fr SI_231 I q10.2.1 := frx_t hIq1 (frx_m (fr_230 _ _ _ _ _ _ q10 hq10).1 (by decide))
      have hLq10 : Fr SL_231 L q10.2.2 := frx_t hLq1 (frx_m (fr_230 _ _ _ _ _ _ q10 hq10).2 (by decide))
      rcases ite_some hf with ⟨hc, hf⟩ | ⟨hc, hf⟩
      · exact ⟨frx_t hIq10 (frc_231_0 n q10.2.1 q10.2.2 r hf).1, frx_t hLq10 (frc_231_0 n q10.2.1 q10.2.2 r hf).2⟩
      · obtain ⟨q11, hq11, hf⟩ := Option.bind_eq_some_iff.mp hf
        have hIq11 : Fr SI_231 I q11.1 := frx_t hIq10 (frx_m (fr_227 _ _ _ q11 hq11).1 (by decide))
        have hLq11 : Fr SL_231 L q11.2 := frx_t hLq10 (frx_m (fr_227 _ _ _ q11 hq11).2 (by decide))
        cases hf; exact ⟨hIq11, hLq11⟩
  · obtain ⟨q12, hq12, hf⟩ := Option.bind_eq_some_iff.mp hf
    have hIq12 : Fr SI_231 I q12.1 := frx_t hIq1 (frx_m (fr_226 _ _ _ q12 hq12).1 (by decide))
    have hLq12 : Fr SL_231 L q12.2 := frx_t hLq1 (frx_m (fr_226 _ _ _ q12 hq12).2 (by decide))
    cases hf; exact ⟨hIq12, hLq12⟩
def SI_232 : List Nat := [95, 96]
def SL_232 : List Nat := []
theorem frc_232_0 (n : Nat) : ∀ (m : Nat) (x1 : Int32) (I : FI) (L : FL) (r : FI × FL), c_232_0 n m x1 I L = some r → Fr SI_232 I r.1 ∧ Fr SL_232 L r.2
  | 0, x1, I, L, r, hf => by cases hf
  | m + 1, x1, I, L, r, hf => by
    unfold c_232_0 b_232_0 at hf
    have hK0 := frc_232_0 n m
    rcases ite_some hf with ⟨hc, hf⟩ | ⟨hc, hf⟩
    · cases hf; exact ⟨frx_r, frx_r⟩
    · obtain ⟨q0, hq0, hf⟩ := Option.bind_eq_some_iff.mp hf
      have hIq0 : Fr SI_232 I q0.1 := frx_t frx_r (frx_m (fr_224 _ _ _ _ q0 hq0).1 (by decide))
      have hLq0 : Fr SL_232 L q0.2 := frx_t frx_r (frx_m (fr_224 _ _ _ _ q0 hq0).2 (by decide))
      exact ⟨frx_t hIq0 (hK0 (x1 + (1 : Int32)) q0.1 q0.2 r hf).1, frx_t hLq0 (hK0 (x1 + (1 : Int32)) q0.1 q0.2 r hf).2⟩
theorem fr_232 (n : Nat) (I : FI) (L : FL) (r : FI × FL) (hf : f_232 n I L = some r) : Fr SI_232 I r.1 ∧ Fr SL_232 L r.2 := by
  unfold f_232 at hf
  exact ⟨frx_t (frx_u frx_r (by decide) (by decide)) (frc_232_0 n n (0 : Int32) (u2 I 95 4 (0 : Int32)) L r hf).1, frx_t frx_r (frc_232_0 n n (0 : Int32) (u2 I 95 4 (0 : Int32)) L r hf).2⟩
def SI_234 : List Nat := [95]
def SL_234 : List Nat := []
theorem frc_234_0 (n : Nat) : ∀ (m : Nat) (x1 : Int32) (x2 : Int32) (x3 : Int32) (x4 : Int32) (I : FI) (L : FL) (r : FI × FL), c_234_0 n m x1 x2 x3 x4 I L = some r → Fr SI_234 I r.1 ∧ Fr SL_234 L r.2
  | 0, x1, x2, x3, x4, I, L, r, hf => by cases hf
  | m + 1, x1, x2, x3, x4, I, L, r, hf => by
    unfold c_234_0 b_234_0 at hf
    have hK0 := frc_234_0 n m
    rcases ite_some hf with ⟨hc, hf⟩ | ⟨hc, hf⟩
    · cases hf; exact ⟨frx_r, frx_r⟩
    · rcases ite_some hf with ⟨hc, hf⟩ | ⟨hc, hf⟩
      · rcases ite_some hf with ⟨hc, hf⟩ | ⟨hc, hf⟩
        · exact ⟨frx_t (frx_u frx_r (by decide) (by decide)) (hK0 x1 x2 x3 (x4 + (1 : Int32)) (u2 I 95 (((x1 * x3) + x4).toNatClampNeg) (I 95 (((x1 * x2) + x4).toNatClampNeg))) L r hf).1, frx_t frx_r (hK0 x1 x2 x3 (x4 + (1 : Int32)) (u2 I 95 (((x1 * x3) + x4).toNatClampNeg) (I 95 (((x1 * x2) + x4).toNatClampNeg))) L r hf).2⟩
        · cases hf
      · cases hf
theorem fr_234 (n : Nat) (x1 : Int32) (x2 : Int32) (x3 : Int32) (I : FI) (L : FL) (r : FI × FL) (hf : f_234 n x1 x2 x3 I L = some r) : Fr SI_234 I r.1 ∧ Fr SL_234 L r.2 := by
  unfold f_234 at hf
  exact ⟨frx_t frx_r (frc_234_0 n n x1 x2 x3 (0 : Int32) I L r hf).1, frx_t frx_r (frc_234_0 n n x1 x2 x3 (0 : Int32) I L r hf).2⟩
def SI_234_1 : List Nat := [96]
def SL_234_1 : List Nat := []
theorem frc_234_1_0 (n : Nat) : ∀ (m : Nat) (x1 : Int32) (x2 : Int32) (x3 : Int32) (x4 : Int32) (I : FI) (L : FL) (r : FI × FL), c_234_1_0 n m x1 x2 x3 x4 I L = some r → Fr SI_234_1 I r.1 ∧ Fr SL_234_1 L r.2
  | 0, x1, x2, x3, x4, I, L, r, hf => by cases hf
  | m + 1, x1, x2, x3, x4, I, L, r, hf => by
    unfold c_234_1_0 b_234_1_0 at hf
    have hK0 := frc_234_1_0 n m
    rcases ite_some hf with ⟨hc, hf⟩ | ⟨hc, hf⟩
    · cases hf; exact ⟨frx_r, frx_r⟩
    · rcases ite_some hf with ⟨hc, hf⟩ | ⟨hc, hf⟩
      · rcases ite_some hf with ⟨hc, hf⟩ | ⟨hc, hf⟩
        · exact ⟨frx_t (frx_u frx_r (by decide) (by decide)) (hK0 x1 x2 x3 (x4 + (1 : Int32)) (u2 I 96 (((x1 * x3) + x4).toNatClampNeg) (I 96 (((x1 * x2) + x4).toNatClampNeg))) L r hf).1, frx_t frx_r (hK0 x1 x2 x3 (x4 + (1 : Int32)) (u2 I 96 (((x1 * x3) + x4).toNatClampNeg) (I 96 (((x1 * x2) + x4).toNatClampNeg))) L r hf).2⟩
        · cases hf
      · cases hf
theorem fr_234_1 (n : Nat) (x1 : Int32) (x2 : Int32) (x3 : Int32) (I : FI) (L : FL) (r : FI × FL) (hf : f_234_1 n x1 x2 x3 I L = some r) : Fr SI_234_1 I r.1 ∧ Fr SL_234_1 L r.2 := by
  unfold f_234_1 at hf
  exact ⟨frx_t frx_r (frc_234_1_0 n n x1 x2 x3 (0 : Int32) I L r hf).1, frx_t frx_r (frc_234_1_0 n n x1 x2 x3 (0 : Int32) I L r hf).2⟩
def SI_234_2 : List Nat := [97]
def SL_234_2 : List Nat := []
theorem frc_234_2_0 (n : Nat) : ∀ (m : Nat) (x1 : Int32) (x2 : Int32) (x3 : Int32) (x4 : Int32) (I : FI) (L : FL) (r : FI × FL), c_234_2_0 n m x1 x2 x3 x4 I L = some r → Fr SI_234_2 I r.1 ∧ Fr SL_234_2 L r.2
  | 0, x1, x2, x3, x4, I, L, r, hf => by cases hf
  | m + 1, x1, x2, x3, x4, I, L, r, hf => by
    unfold c_234_2_0 b_234_2_0 at hf
    have hK0 := frc_234_2_0 n m
    rcases ite_some hf with ⟨hc, hf⟩ | ⟨hc, hf⟩
    · cases hf; exact ⟨frx_r, frx_r⟩
    · rcases ite_some hf with ⟨hc, hf⟩ | ⟨hc, hf⟩
      · rcases ite_some hf with ⟨hc, hf⟩ | ⟨hc, hf⟩
        · exact ⟨frx_t (frx_u frx_r (by decide) (by decide)) (hK0 x1 x2 x3 (x4 + (1 : Int32)) (u2 I 97 (((x1 * x3) + x4).toNatClampNeg) (I 97 (((x1 * x2) + x4).toNatClampNeg))) L r hf).1, frx_t frx_r (hK0 x1 x2 x3 (x4 + (1 : Int32)) (u2 I 97 (((x1 * x3) + x4).toNatClampNeg) (I 97 (((x1 * x2) + x4).toNatClampNeg))) L r hf).2⟩
        · cases hf
      · cases hf
theorem fr_234_2 (n : Nat) (x1 : Int32) (x2 : Int32) (x3 : Int32) (I : FI) (L : FL) (r : FI × FL) (hf : f_234_2 n x1 x2 x3 I L = some r) : Fr SI_234_2 I r.1 ∧ Fr SL_234_2 L r.2 := by
  unfold f_234_2 at hf
  exact ⟨frx_t frx_r (frc_234_2_0 n n x1 x2 x3 (0 : Int32) I L r hf).1, frx_t frx_r (frc_234_2_0 n n x1 x2 x3 (0 : Int32) I L r hf).2⟩
def SI_234_3 : List Nat := [98]
def SL_234_3 : List Nat := []
theorem frc_234_3_0 (n : Nat) : ∀ (m : Nat) (x1 : Int32) (x2 : Int32) (x3 : Int32) (x4 : Int32) (I : FI) (L : FL) (r : FI × FL), c_234_3_0 n m x1 x2 x3 x4 I L = some r → Fr SI_234_3 I r.1 ∧ Fr SL_234_3 L r.2
  | 0, x1, x2, x3, x4, I, L, r, hf => by cases hf
  | m + 1, x1, x2, x3, x4, I, L, r, hf => by
    unfold c_234_3_0 b_234_3_0 at hf
    have hK0 := frc_234_3_0 n m
    rcases ite_some hf with ⟨hc, hf⟩ | ⟨hc, hf⟩
    · cases hf; exact ⟨frx_r, frx_r⟩
    · rcases ite_some hf with ⟨hc, hf⟩ | ⟨hc, hf⟩
      · rcases ite_some hf with ⟨hc, hf⟩ | ⟨hc, hf⟩
        · exact ⟨frx_t (frx_u frx_r (by decide) (by decide)) (hK0 x1 x2 x3 (x4 + (1 : Int32)) (u2 I 98 (((x1 * x3) + x4).toNatClampNeg) (I 98 (((x1 * x2) + x4).toNatClampNeg))) L r hf).1, frx_t frx_r (hK0 x1 x2 x3 (x4 + (1 : Int32)) (u2 I 98 (((x1 * x3) + x4).toNatClampNeg) (I 98 (((x1 * x2) + x4).toNatClampNeg))) L r hf).2⟩
        · cases hf
      · cases hf
theorem fr_234_3 (n : Nat) (x1 : Int32) (x2 : Int32) (x3 : Int32) (I : FI) (L : FL) (r : FI × FL) (hf : f_234_3 n x1 x2 x3 I L = some r) : Fr SI_234_3 I r.1 ∧ Fr SL_234_3 L r.2 := by
  unfold f_234_3 at hf
  exact ⟨frx_t frx_r (frc_234_3_0 n n x1 x2 x3 (0 : Int32) I L r hf).1, frx_t frx_r (frc_234_3_0 n n x1 x2 x3 (0 : Int32) I L r hf).2⟩
def SI_234_4 : List Nat := [99]
def SL_234_4 : List Nat := []
theorem frc_234_4_0 (n : Nat) : ∀ (m : Nat) (x1 : Int32) (x2 : Int32) (x3 : Int32) (x4 : Int32) (I : FI) (L : FL) (r : FI × FL), c_234_4_0 n m x1 x2 x3 x4 I L = some r → Fr SI_234_4 I r.1 ∧ Fr SL_234_4 L r.2
  | 0, x1, x2, x3, x4, I, L, r, hf => by cases hf
  | m + 1, x1, x2, x3, x4, I, L, r, hf => by
    unfold c_234_4_0 b_234_4_0 at hf
    have hK0 := frc_234_4_0 n m
    rcases ite_some hf with ⟨hc, hf⟩ | ⟨hc, hf⟩
    · cases hf; exact ⟨frx_r, frx_r⟩
    · rcases ite_some hf with ⟨hc, hf⟩ | ⟨hc, hf⟩
      · rcases ite_some hf with ⟨hc, hf⟩ | ⟨hc, hf⟩
        · exact ⟨frx_t (frx_u frx_r (by decide) (by decide)) (hK0 x1 x2 x3 (x4 + (1 : Int32)) (u2 I 99 (((x1 * x3) + x4).toNatClampNeg) (I 99 (((x1 * x2) + x4).toNatClampNeg))) L r hf).1, frx_t frx_r (hK0 x1 x2 x3 (x4 + (1 : Int32)) (u2 I 99 (((x1 * x3) + x4).toNatClampNeg) (I 99 (((x1 * x2) + x4).toNatClampNeg))) L r hf).2⟩
        · cases hf
      · cases hf
theorem fr_234_4 (n : Nat) (x1 : Int32) (x2 : Int32) (x3 : Int32) (I : FI) (L : FL) (r : FI × FL) (hf : f_234_4 n x1 x2 x3 I L = some r) : Fr SI_234_4 I r.1 ∧ Fr SL_234_4 L r.2 := by
  unfold f_234_4 at hf
  exact ⟨frx_t frx_r (frc_234_4_0 n n x1 x2 x3 (0 : Int32) I L r hf).1, frx_t frx_r (frc_234_4_0 n n x1 x2 x3 (0 : Int32) I L r hf).2⟩
def SI_234_5 : List Nat := [100]
def SL_234_5 : List Nat := []
theorem frc_234_5_0 (n : Nat) : ∀ (m : Nat) (x1 : Int32) (x2 : Int32) (x3 : Int32) (x4 : Int32) (I : FI) (L : FL) (r : FI × FL), c_234_5_0 n m x1 x2 x3 x4 I L = some r → Fr SI_234_5 I r.1 ∧ Fr SL_234_5 L r.2
  | 0, x1, x2, x3, x4, I, L, r, hf => by cases hf
  | m + 1, x1, x2, x3, x4, I, L, r, hf => by
    unfold c_234_5_0 b_234_5_0 at hf
    have hK0 := frc_234_5_0 n m
    rcases ite_some hf with ⟨hc, hf⟩ | ⟨hc, hf⟩
    · cases hf; exact ⟨frx_r, frx_r⟩
    · rcases ite_some hf with ⟨hc, hf⟩ | ⟨hc, hf⟩
      · rcases ite_some hf with ⟨hc, hf⟩ | ⟨hc, hf⟩
        · exact ⟨frx_t (frx_u frx_r (by decide) (by decide)) (hK0 x1 x2 x3 (x4 + (1 : Int32)) (u2 I 100 (((x1 * x3) + x4).toNatClampNeg) (I 100 (((x1 * x2) + x4).toNatClampNeg))) L r hf).1, frx_t frx_r (hK0 x1 x2 x3 (x4 + (1 : Int32)) (u2 I 100 (((x1 * x3) + x4).toNatClampNeg) (I 100 (((x1 * x2) + x4).toNatClampNeg))) L r hf).2⟩
        · cases hf
      · cases hf
theorem fr_234_5 (n : Nat) (x1 : Int32) (x2 : Int32) (x3 : Int32) (I : FI) (L : FL) (r : FI × FL) (hf : f_234_5 n x1 x2 x3 I L = some r) : Fr SI_234_5 I r.1 ∧ Fr SL_234_5 L r.2 := by
  unfold f_234_5 at hf
  exact ⟨frx_t frx_r (frc_234_5_0 n n x1 x2 x3 (0 : Int32) I L r hf).1, frx_t frx_r (frc_234_5_0 n n x1 x2 x3 (0 : Int32) I L r hf).2⟩
def SI_234_6 : List Nat := [101]
def SL_234_6 : List Nat := []
theorem frc_234_6_0 (n : Nat) : ∀ (m : Nat) (x1 : Int32) (x2 : Int32) (x3 : Int32) (x4 : Int32) (I : FI) (L : FL) (r : FI × FL), c_234_6_0 n m x1 x2 x3 x4 I L = some r → Fr SI_234_6 I r.1 ∧ Fr SL_234_6 L r.2
  | 0, x1, x2, x3, x4, I, L, r, hf => by cases hf
  | m + 1, x1, x2, x3, x4, I, L, r, hf => by
    unfold c_234_6_0 b_234_6_0 at hf
    have hK0 := frc_234_6_0 n m
    rcases ite_some hf with ⟨hc, hf⟩ | ⟨hc, hf⟩
    · cases hf; exact ⟨frx_r, frx_r⟩
    · rcases ite_some hf with ⟨hc, hf⟩ | ⟨hc, hf⟩
      · rcases ite_some hf with ⟨hc, hf⟩ | ⟨hc, hf⟩
        · exact ⟨frx_t (frx_u frx_r (by decide) (by decide)) (hK0 x1 x2 x3 (x4 + (1 : Int32)) (u2 I 101 (((x1 * x3) + x4).toNatClampNeg) (I 101 (((x1 * x2) + x4).toNatClampNeg))) L r hf).1, frx_t frx_r (hK0 x1 x2 x3 (x4 + (1 : Int32)) (u2 I 101 (((x1 * x3) + x4).toNatClampNeg) (I 101 (((x1 * x2) + x4).toNatClampNeg))) L r hf).2⟩
        · cases hf
      · cases hf
theorem fr_234_6 (n : Nat) (x1 : Int32) (x2 : Int32) (x3 : Int32) (I : FI) (L : FL) (r : FI × FL) (hf : f_234_6 n x1 x2 x3 I L = some r) : Fr SI_234_6 I r.1 ∧ Fr SL_234_6 L r.2 := by
  unfold f_234_6 at hf
  exact ⟨frx_t frx_r (frc_234_6_0 n n x1 x2 x3 (0 : Int32) I L r hf).1, frx_t frx_r (frc_234_6_0 n n x1 x2 x3 (0 : Int32) I L r hf).2⟩
def SI_235 : List Nat := [95, 96, 97, 98, 99, 100, 101]
def SL_235 : List Nat := []
theorem fr_235 (n : Nat) (x1 : Int32) (x2 : Int32) (I : FI) (L : FL) (r : FI × FL) (hf : f_235 n x1 x2 I L = some r) : Fr SI_235 I r.1 ∧ Fr SL_235 L r.2 := by
  unfold f_235 at hf
  obtain ⟨q0, hq0, hf⟩ := Option.bind_eq_some_iff.mp hf
  have hIq0 : Fr SI_235 I q0.1 := frx_t frx_r (frx_m (fr_234 _ _ _ _ _ _ q0 hq0).1 (by decide))
  have hLq0 : Fr SL_235 L q0.2 := frx_t frx_r (frx_m (fr_234 _ _ _ _ _ _ q0 hq0).2 (by decide))
  obtain ⟨q1, hq1, hf⟩ := Option.bind_eq_some_iff.mp hf
  have hIq1 : Fr SI_235 I q1.1 := frx_t hIq0 (frx_m (fr_234_1 _ _ _ _ _ _ q1 hq1).1 (by decide))
  have hLq1 : Fr SL_235 L q1.2 := frx_t hLq0 (frx_m (fr_234_1 _ _ _ _ _ _ q1 hq1).2 (by decide))
  obtain ⟨q2, hq2, hf⟩ := Option.bind_eq_some_iff.mp hf
  have hIq2 : Fr SI_235 I q2.1 := frx_t hIq1 (frx_m (fr_234_2 _ _ _ _ _ _ q2 hq2).1 (by decide))
  have hLq2 : Fr SL_235 L q2.2 := frx_t hLq1 (frx_m (fr_234_2 _ _ _ _ _ _ q2 hq2).2 (by decide))
  obtain ⟨q3, hq3, hf⟩ := Option.bind_eq_some_iff.mp hf
  have hIq3 : Fr SI_235 I q3.1 := frx_t hIq2 (frx_m (fr_234_3 _ _ _ _ _ _ q3 hq3).1 (by decide))
  have hLq3 : Fr SL_235 L q3.2 := frx_t hLq2 (frx_m (fr_234_3 _ _ _ _ _ _ q3 hq3).2 (by decide))
  obtain ⟨q4, hq4, hf⟩ := Option.bind_eq_some_iff.mp hf
  have hIq4 : Fr SI_235 I q4.1 := frx_t hIq3 (frx_m (fr_234_4 _ _ _ _ _ _ q4 hq4).1 (by decide))
  have hLq4 : Fr SL_235 L q4.2 := frx_t hLq3 (frx_m (fr_234_4 _ _ _ _ _ _ q4 hq4).2 (by decide))
  obtain ⟨q5, hq5, hf⟩ := Option.bind_eq_some_iff.mp hf
  have hIq5 : Fr SI_235 I q5.1 := frx_t hIq4 (frx_m (fr_234_5 _ _ _ _ _ _ q5 hq5).1 (by decide))
  have hLq5 : Fr SL_235 L q5.2 := frx_t hLq4 (frx_m (fr_234_5 _ _ _ _ _ _ q5 hq5).2 (by decide))
  obtain ⟨q6, hq6, hf⟩ := Option.bind_eq_some_iff.mp hf
  have hIq6 : Fr SI_235 I q6.1 := frx_t hIq5 (frx_m (fr_234_6 _ _ _ _ _ _ q6 hq6).1 (by decide))
  have hLq6 : Fr SL_235 L q6.2 := frx_t hLq5 (frx_m (fr_234_6 _ _ _ _ _ _ q6 hq6).2 (by decide))
  cases hf; exact ⟨hIq6, hLq6⟩
def SI_233 : List Nat := [95, 96, 97, 98, 99, 100, 101, 1000, 1006, 1007, 1008, 1009, 1010, 1012, 1013, 1014, 1015]
def SL_233 : List Nat := [1011]
theorem frc_233_1 (n : Nat) (I : FI) (L : FL) (r : Int32 × FI × FL) (hf : c_233_1 n I L = some r) : Fr SI_233 I r.2.1 ∧ Fr SL_233 L r.2.2 := by
  unfold c_233_1 at hf
  obtain ⟨q3, hq3, hf⟩ := Option.bind_eq_some_iff.mp hf
  have hIq3 : Fr SI_233 I q3.1 := frx_t frx_r (frx_m (fr_221 _ _ q3 hq3).1 (by decide))
  have hLq3 : Fr SL_233 L q3.2 := frx_t frx_r (frx_m (fr_221 _ _ q3 hq3).2 (by decide))
  rcases ite_some hf with ⟨hc, hf⟩ | ⟨hc, hf⟩
  · obtain ⟨q4, hq4, hf⟩ := Option.bind_eq_some_iff.mp hf
    have hIq4 : Fr SI_233 I q4.1 := frx_t hIq3 (frx_m (fr_235 _ _ _ _ _ q4 hq4).1 (by decide))
    have hLq4 : Fr SL_233 L q4.2 := frx_t hLq3 (frx_m (fr_235 _ _ _ _ _ q4 hq4).2 (by decide))
    cases hf; exact ⟨hIq4, hLq4⟩
  · cases hf; exact ⟨hIq3, hLq3⟩
theorem frc_233_3 (n : Nat) (K0 : FI → FL → Option (Int32 × FI × FL)) (hK0 : ∀ (I : FI) (L : FL) (r : Int32 × FI × FL), K0 I L = some r → Fr SI_233 I r.2.1 ∧ Fr SL_233 L r.2.2) (I : FI) (L : FL) (r : Int32 × FI × FL) (hf : c_233_3 n K0 I L = some r) : Fr SI_233 I r.2.1 ∧ Fr SL_233 L r.2.2 := by
  unfold c_233_3 at hf
  exact ⟨frx_t (frx_u frx_r (by decide) (by decide)) (hK0 (u2 I 95 4 ((I 95 4) + (1 : Int32))) L r hf).1, frx_t frx_r (hK0 (u2 I 95 4 ((I 95 4) + (1 : Int32))) L r hf).2⟩
theorem frc_233_2 (n : Nat) (K0 : FI → FL → Option (Int32 × FI × FL)) (hK0 : ∀ (I : FI) (L : FL) (r : Int32 × FI × FL), K0 I L = some r → Fr SI_233 I r.2.1 ∧ Fr SL_233 L r.2.2) (I : FI) (L : FL) (r : Int32 × FI × FL) (hf : c_233_2 n K0 I L = some r) : Fr SI_233 I r.2.1 ∧ Fr SL_233 L r.2.2 := by
  unfold c_233_2 at hf
  obtain ⟨q6, hq6, hf⟩ := Option.bind_eq_some_iff.mp hf
  rcases ite_some hf with ⟨hc, hf⟩ | ⟨hc, hf⟩
  · exact ⟨frx_t frx_r (frc_233_3 n _ hK0 I L r hf).1, frx_t frx_r (frc_233_3 n _ hK0 I L r hf).2⟩
  · obtain ⟨q7, hq7, hf⟩ := Option.bind_eq_some_iff.mp hf
    have hIq7 : Fr SI_233 I q7.1 := frx_t frx_r (frx_m (fr_219 _ _ _ q7 hq7).1 (by decide))
    have hLq7 : Fr SL_233 L q7.2 := frx_t frx_r (frx_m (fr_219 _ _ _ q7 hq7).2 (by decide))
    exact ⟨frx_t hIq7 (frc_233_3 n _ hK0 q7.1 q7.2 r hf).1, frx_t hLq7 (frc_233_3 n _ hK0 q7.1 q7.2 r hf).2⟩
theorem frc_233_0 (n : Nat) : ∀ (m : Nat) (I : FI) (L : FL) (r : Int32 × FI × FL), c_233_0 n m I L = some r → Fr SI_233 I r.2.1 ∧ Fr SL_233 L r.2.2
  | 0, I, L, r, hf => by cases hf
  | m + 1, I, L, r, hf => by
    unfold c_233_0 b_233_0 at hf
    have hK0 := frc_233_0 n m
    obtain ⟨q2, hq2, hf⟩ := Option.bind_eq_some_iff.mp hf
    rcases ite_some hf with ⟨hc, hf⟩ | ⟨hc, hf⟩
    · exact ⟨frx_t frx_r (frc_233_1 n I L r hf).1, frx_t frx_r (frc_233_1 n I L r hf).2⟩
    · rcases ite_some hf with ⟨hc, hf⟩ | ⟨hc, hf⟩
      · exact ⟨frx_t frx_r (frc_233_1 n I L r hf).1, frx_t frx_r (frc_233_1 n I L r hf).2⟩
      · rcases ite_some hf with ⟨hc, hf⟩ | ⟨hc, hf⟩
        · obtain ⟨q5, hq5, hf⟩ := Option.bind_eq_some_iff.mp hf
          have hIq5 : Fr SI_233 I q5.1 := frx_t frx_r (frx_m (fr_231 _ _ _ q5 hq5).1 (by decide))
          have hLq5 : Fr SL_233 L q5.2 := frx_t frx_r (frx_m (fr_231 _ _ _ q5 hq5).2 (by decide))
          exact ⟨frx_t hIq5 (frc_233_2 n _ hK0 q5.1 q5.2 r hf).1, frx_t hLq5 (frc_233_2 n _ hK0 q5.1 q5.2 r hf).2⟩
        · obtain ⟨q8, hq8, hf⟩ := Option.bind_eq_some_iff.mp hf
          have hIq8 : Fr SI_233 I q8.1 := frx_t frx_r (frx_m (fr_216 _ _ _ _ q8 hq8).1 (by decide))
          have hLq8 : Fr SL_233 L q8.2 := frx_t frx_r (frx_m (fr_216 _ _ _ _ q8 hq8).2 (by decide))
          obtain ⟨q9, hq9, hf⟩ := Option.bind_eq_some_iff.mp hf
          have hIq9 : Fr SI_233 I q9.2.1 := frx_t hIq8 (frx_m (fr_218 _ _ _ _ _ _ q9 hq9).1 (by decide))
          have hLq9 : Fr SL_233 L q9.2.2 := frx_t hLq8 (frx_m (fr_218 _ _ _ _ _ _ q9 hq9).2 (by decide))
          obtain ⟨q10, hq10, hf⟩ := Option.bind_eq_some_iff.mp hf
          have hIq10 : Fr SI_233 I q10.1 := frx_t hIq9 (frx_m (fr_224 _ _ _ _ q10 hq10).1 (by decide))
          have hLq10 : Fr SL_233 L q10.2 := frx_t hLq9 (frx_m (fr_224 _ _ _ _ q10 hq10).2 (by decide))
          obtain ⟨q11, hq11, hf⟩ := Option.bind_eq_some_iff.mp hf
          have hIq11 : Fr SI_233 I q11.2.1 := frx_t hIq10 (frx_m (fr_218 _ _ _ _ _ _ q11 hq11).1 (by decide))
          have hLq11 : Fr SL_233 L q11.2.2 := frx_t hLq10 (frx_m (fr_218 _ _ _ _ _ _ q11 hq11).2 (by decide))
          obtain ⟨q12, hq12, hf⟩ := Option.bind_eq_some_iff.mp hf
          have hIq12 : Fr SI_233 I q12.1 := frx_t hIq11 (frx_m (fr_224 _ _ _ _ q12 hq12).1 (by decide))
          have hLq12 : Fr SL_233 L q12.2 := frx_t hLq11 (frx_m (fr_224 _ _ _ _ q12 hq12).2 (by decide))
          obtain ⟨q13, hq13, hf⟩ := Option.bind_eq_some_iff.mp hf
          have hIq13 : Fr SI_233 I q13.2.1 := frx_t hIq12 (frx_m (fr_218 _ _ _ _ _ _ q13 hq13).1 (by decide))
          have hLq13 : Fr SL_233 L q13.2.2 := frx_t hLq12 (frx_m (fr_218 _ _ _ _ _ _ q13 hq13).2 (by decide))
          obtain ⟨q14, hq14, hf⟩ := Option.bind_eq_some_iff.mp hf
          have hIq14 : Fr SI_233 I q14.1 := frx_t hIq13 (frx_m (fr_224 _ _ _ _ q14 hq14).1 (by decide))
          have hLq14 : Fr SL_233 L q14.2 := frx_t hLq13 (frx_m (fr_224 _ _ _ _ q14 hq14).2 (by decide))
          exact ⟨frx_t hIq14 (frc_233_2 n _ hK0 q14.1 q14.2 r hf).1, frx_t hLq14 (frc_233_2 n _ hK0 q14.1 q14.2 r hf).2⟩
theorem fr_233 (n : Nat) (I : FI) (L : FL) (r : Int32 × FI × FL) (hf : f_233 n I L = some r) : Fr SI_233 I r.2.1 ∧ Fr SL_233 L r.2.2 := by
  unfold f_233 at hf
  obtain ⟨q0, hq0, hf⟩ := Option.bind_eq_some_iff.mp hf
  have hIq0 : Fr SI_233 I q0.1 := frx_t (frx_v frx_r (by decide)) (frx_m (fr_232 _ _ _ q0 hq0).1 (by decide))
  have hLq0 : Fr SL_233 L q0.2 := frx_t frx_r (frx_m (fr_232 _ _ _ q0 hq0).2 (by decide))
  obtain ⟨q1, hq1, hf⟩ := Option.bind_eq_some_iff.mp hf
  have hIq1 : Fr SI_233 I q1.1 := frx_t hIq0 (frx_m (fr_220 _ _ _ q1 hq1).1 (by decide))
  have hLq1 : Fr SL_233 L q1.2 := frx_t hLq0 (frx_m (fr_220 _ _ _ q1 hq1).2 (by decide))
  exact ⟨frx_t hIq1 (frc_233_0 n n q1.1 q1.2 r hf).1, frx_t hLq1 (frc_233_0 n n q1.1 q1.2 r hf).2⟩
def SI_251 : List Nat := [103]
def SL_251 : List Nat := []
theorem frc_251_4 (n : Nat) (K1 : Int32 → Int32 → FI → FL → Option (Int32 × FI × FL)) (K2 : Int32 → Int32 → Int32 → FI → FL → Option (Int32 × FI × FL)) (K3 : Int32 → Int32 → Int32 → Int32 → FI → FL → Option (Int32 × FI × FL)) (hK1 : ∀ (x2 : Int32) (x3 : Int32) (I : FI) (L : FL) (r : Int32 × FI × FL), K1 x2 x3 I L = some r → Fr SI_251 I r.2.1 ∧ Fr SL_251 L r.2.2) (hK2 : ∀ (x2 : Int32) (x3 : Int32) (x4 : Int32) (I : FI) (L : FL) (r : Int32 × FI × FL), K2 x2 x3 x4 I L = some r → Fr SI_251 I r.2.1 ∧ Fr SL_251 L r.2.2) (hK3 : ∀ (x2 : Int32) (x3 : Int32) (x4 : Int32) (x5 : Int32) (I : FI) (L : FL) (r : Int32 × FI × FL), K3 x2 x3 x4 x5 I L = some r → Fr SI_251 I r.2.1 ∧ Fr SL_251 L r.2.2) (x2 : Int32) (x3 : Int32) (x4 : Int32) (x5 : Int32) (I : FI) (L : FL) (r : Int32 × FI × FL) (hf : c_251_4 n K1 K2 K3 x2 x3 x4 x5 I L = some r) : Fr SI_251 I r.2.1 ∧ Fr SL_251 L r.2.2 := by
  unfold c_251_4 at hf
  exact ⟨frx_t frx_r (hK3 x2 x3 x4 (x5 + (1 : Int32)) I L r hf).1, frx_t frx_r (hK3 x2 x3 x4 (x5 + (1 : Int32)) I L r hf).2⟩
theorem frc_251_3 (n : Nat) (K1 : Int32 → Int32 → FI → FL → Option (Int32 × FI × FL)) (K2 : Int32 → Int32 → Int32 → FI → FL → Option (Int32 × FI × FL)) (hK1 : ∀ (x2 : Int32) (x3 : Int32) (I : FI) (L : FL) (r : Int32 × FI × FL), K1 x2 x3 I L = some r → Fr SI_251 I r.2.1 ∧ Fr SL_251 L r.2.2) (hK2 : ∀ (x2 : Int32) (x3 : Int32) (x4 : Int32) (I : FI) (L : FL) (r : Int32 × FI × FL), K2 x2 x3 x4 I L = some r → Fr SI_251 I r.2.1 ∧ Fr SL_251 L r.2.2) : ∀ (m : Nat) (x2 : Int32) (x3 : Int32) (x4 : Int32) (x5 : Int32) (I : FI) (L : FL) (r : Int32 × FI × FL), c_251_3 n K1 K2 m x2 x3 x4 x5 I L = some r → Fr SI_251 I r.2.1 ∧ Fr SL_251 L r.2.2
  | 0, x2, x3, x4, x5, I, L, r, hf => by cases hf
  | m + 1, x2, x3, x4, x5, I, L, r, hf => by
    unfold c_251_3 b_251_3 at hf
    have hK3 := frc_251_3 n K1 K2 hK1 hK2 m
    obtain ⟨q3, hq3, hf⟩ := Option.bind_eq_some_iff.mp hf
    rcases ite_some hf with ⟨hc, hf⟩ | ⟨hc, hf⟩
    · exact ⟨frx_t frx_r (hK2 x2 x3 (x4 + (1 : Int32)) I L r hf).1, frx_t frx_r (hK2 x2 x3 (x4 + (1 : Int32)) I L r hf).2⟩
    · obtain ⟨q4, hq4, hf⟩ := Option.bind_eq_some_iff.mp hf
      rcases ite_some hf with ⟨hc, hf⟩ | ⟨hc, hf⟩
      · exact ⟨frx_t frx_r (frc_251_4 n _ _ _ hK1 hK2 hK3 x2 x3 x4 x5 I L r hf).1, frx_t frx_r (frc_251_4 n _ _ _ hK1 hK2 hK3 x2 x3 x4 x5 I L r hf).2⟩
      · rcases ite_some hf with ⟨hc, hf⟩ | ⟨hc, hf⟩
        · rcases ite_some hf with ⟨hc, hf⟩ | ⟨hc, hf⟩
          · rcases ite_some hf with ⟨hc, hf⟩ | ⟨hc, hf⟩
            · exact ⟨frx_t frx_r (frc_251_4 n _ _ _ hK1 hK2 hK3 x2 x3 x4 x5 I L r hf).1, frx_t frx_r (frc_251_4 n _ _ _ hK1 hK2 hK3 x2 x3 x4 x5 I L r hf).2⟩
            · rcases ite_some hf with ⟨hc, hf⟩ | ⟨hc, hf⟩
              · rcases ite_some hf with ⟨hc, hf⟩ | ⟨hc, hf⟩
                · exact ⟨frx_t (frx_u frx_r (by decide) (by decide)) (frc_251_4 n _ _ _ hK1 hK2 hK3 x2 x3 x4 x5 (u2 I 103 x5.toNatClampNeg ((I 103 x4.toNatClampNeg) + (1 : Int32))) L r hf).1, frx_t frx_r (frc_251_4 n _ _ _ hK1 hK2 hK3 x2 x3 x4 x5 (u2 I 103 x5.toNatClampNeg ((I 103 x4.toNatClampNeg) + (1 : Int32))) L r hf).2⟩
                · cases hf
              · cases hf
          · cases hf
        · cases hf
theorem frc_251_2 (n : Nat) (K1 : Int32 → Int32 → FI → FL → Option (Int32 × FI × FL)) (hK1 : ∀ (x2 : Int32) (x3 : Int32) (I : FI) (L : FL) (r : Int32 × FI × FL), K1 x2 x3 I L = some r → Fr SI_251 I r.2.1 ∧ Fr SL_251 L r.2.2) : ∀ (m : Nat) (x2 : Int32) (x3 : Int32) (x4 : Int32) (I : FI) (L : FL) (r : Int32 × FI × FL), c_251_2 n K1 m x2 x3 x4 I L = some r → Fr SI_251 I r.2.1 ∧ Fr SL_251 L r.2.2
  | 0, x2, x3, x4, I, L, r, hf => by cases hf
  | m + 1, x2, x3, x4, I, L, r, hf => by
    unfold c_251_2 b_251_2 at hf
    have hK2 := frc_251_2 n K1 hK1 m
    obtain ⟨q2, hq2, hf⟩ := Option.bind_eq_some_iff.mp hf
    rcases ite_some hf with ⟨hc, hf⟩ | ⟨hc, hf⟩
    · exact ⟨frx_t frx_r (hK1 x2 (x3 + (1 : Int32)) I L r hf).1, frx_t frx_r (hK1 x2 (x3 + (1 : Int32)) I L r hf).2⟩
    · exact ⟨frx_t frx_r (frc_251_3 n _ _ hK1 hK2 n x2 x3 x4 (0 : Int32) I L r hf).1, frx_t frx_r (frc_251_3 n _ _ hK1 hK2 n x2 x3 x4 (0 : Int32) I L r hf).2⟩
theorem frc_251_1 (n : Nat) : ∀ (m : Nat) (x2 : Int32) (x3 : Int32) (I : FI) (L : FL) (r : Int32 × FI × FL), c_251_1 n m x2 x3 I L = some r → Fr SI_251 I r.2.1 ∧ Fr SL_251 L r.2.2
  | 0, x2, x3, I, L, r, hf => by cases hf
  | m + 1, x2, x3, I, L, r, hf => by
    unfold c_251_1 b_251_1 at hf
    have hK1 := frc_251_1 n m
    obtain ⟨q1, hq1, hf⟩ := Option.bind_eq_some_iff.mp hf
    rcases ite_some hf with ⟨hc, hf⟩ | ⟨hc, hf⟩
    · rcases ite_some hf with ⟨hc, hf⟩ | ⟨hc, hf⟩
      · cases hf; exact ⟨frx_r, frx_r⟩
      · cases hf
    · exact ⟨frx_t frx_r (frc_251_2 n _ hK1 n x2 x3 (0 : Int32) I L r hf).1, frx_t frx_r (frc_251_2 n _ hK1 n x2 x3 (0 : Int32) I L r hf).2⟩
theorem frc_251_5 (n : Nat) (K0 : Int32 → Int32 → Int32 → FI → FL → Option (Int32 × FI × FL)) (hK0 : ∀ (x1 : Int32) (x2 : Int32) (x3 : Int32) (I : FI) (L : FL) (r : Int32 × FI × FL), K0 x1 x2 x3 I L = some r → Fr SI_251 I r.2.1 ∧ Fr SL_251 L r.2.2) (x1 : Int32) (x2 : Int32) (x3 : Int32) (s0 : Int32) (s1 : Int32) (I : FI) (L : FL) (r : Int32 × FI × FL) (hf : c_251_5 n K0 x1 x2 x3 s0 s1 I L = some r) : Fr SI_251 I r.2.1 ∧ Fr SL_251 L r.2.2 := by
  unfold c_251_5 at hf
  rcases ite_some hf with ⟨hc, hf⟩ | ⟨hc, hf⟩
  · exact ⟨frx_t (frx_u frx_r (by decide) (by decide)) (hK0 x1 x2 (x3 + (1 : Int32)) (u2 I 103 s1.toNatClampNeg s0) L r hf).1, frx_t frx_r (hK0 x1 x2 (x3 + (1 : Int32)) (u2 I 103 s1.toNatClampNeg s0) L r hf).2⟩
  · cases hf
theorem frc_251_0 (n : Nat) : ∀ (m : Nat) (x1 : Int32) (x2 : Int32) (x3 : Int32) (I : FI) (L : FL) (r : Int32 × FI × FL), c_251_0 n m x1 x2 x3 I L = some r → Fr SI_251 I r.2.1 ∧ Fr SL_251 L r.2.2
  | 0, x1, x2, x3, I, L, r, hf => by cases hf
  | m + 1, x1, x2, x3, I, L, r, hf => by
    unfold c_251_0 b_251_0 at hf
    have hK0 := frc_251_0 n m
    obtain ⟨q0, hq0, hf⟩ := Option.bind_eq_some_iff.mp hf
    rcases ite_some hf with ⟨hc, hf⟩ | ⟨hc, hf⟩
    · exact ⟨frx_t frx_r (frc_251_1 n n x2 (1 : Int32) I L r hf).1, frx_t frx_r (frc_251_1 n n x2 (1 : Int32) I L r hf).2⟩
    · rcases ite_some hf with ⟨hc, hf⟩ | ⟨hc, hf⟩
      · exact ⟨frx_t frx_r (frc_251_5 n _ hK0 x1 x2 x3 (100000 : Int32) x3 I L r hf).1, frx_t frx_r (frc_251_5 n _ hK0 x1 x2 x3 (100000 : Int32) x3 I L r hf).2⟩
      · exact ⟨frx_t frx_r (frc_251_5 n _ hK0 x1 x2 x3 (0 : Int32) x3 I L r hf).1, frx_t frx_r (frc_251_5 n _ hK0 x1 x2 x3 (0 : Int32) x3 I L r hf).2⟩
theorem fr_251 (n : Nat) (x1 : Int32) (x2 : Int32) (I : FI) (L : FL) (r : Int32 × FI × FL) (hf : f_251 n x1 x2 I L = some r) : Fr SI_251 I r.2.1 ∧ Fr SL_251 L r.2.2 := by
  unfold f_251 at hf
  exact ⟨frx_t frx_r (frc_251_0 n n x1 x2 (0 : Int32) I L r hf).1, frx_t frx_r (frc_251_0 n n x1 x2 (0 : Int32) I L r hf).2⟩
def SI_252 : List Nat := [104, 1025, 1026, 1027, 1028]
def SL_252 : List Nat := []
theorem frc_252_0 (n : Nat) : ∀ (m : Nat) (x1 : Int32) (I : FI) (L : FL) (r : FI × FL), c_252_0 n m x1 I L = some r → Fr SI_252 I r.1 ∧ Fr SL_252 L r.2
  | 0, x1, I, L, r, hf => by cases hf
  | m + 1, x1, I, L, r, hf => by
    unfold c_252_0 b_252_0 at hf
    have hK0 := frc_252_0 n m
    obtain ⟨q0, hq0, hf⟩ := Option.bind_eq_some_iff.mp hf
    rcases ite_some hf with ⟨hc, hf⟩ | ⟨hc, hf⟩
    · cases hf; exact ⟨frx_r, frx_r⟩
    · rcases ite_some hf with ⟨hc, hf⟩ | ⟨hc, hf⟩
      · rcases ite_some hf with ⟨hc, hf⟩ | ⟨hc, hf⟩
        · exact ⟨frx_t (frx_u frx_r (by decide) (by decide)) (hK0 (x1 + (1 : Int32)) (u2 I 104 x1.toNatClampNeg (I 97 (((2 : Int32) * x1).toNatClampNeg))) L r hf).1, frx_t frx_r (hK0 (x1 + (1 : Int32)) (u2 I 104 x1.toNatClampNeg (I 97 (((2 : Int32) * x1).toNatClampNeg))) L r hf).2⟩
        · cases hf
      · cases hf
theorem fr_252 (n : Nat) (I : FI) (L : FL) (r : FI × FL) (hf : f_252 n I L = some r) : Fr SI_252 I r.1 ∧ Fr SL_252 L r.2 := by
  unfold f_252 at hf
  exact ⟨frx_t (frx_v (frx_v (frx_v (frx_v frx_r (by decide)) (by decide)) (by decide)) (by decide)) (frc_252_0 n n (0 : Int32) (u2 (u2 (u2 (u2 I 89 25 (I 96 0)) 89 26 (0 : Int32)) 89 27 (0 : Int32)) 89 28 (-1 : Int32)) L r hf).1, frx_t frx_r (frc_252_0 n n (0 : Int32) (u2 (u2 (u2 (u2 I 89 25 (I 96 0)) 89 26 (0 : Int32)) 89 27 (0 : Int32)) 89 28 (-1 : Int32)) L r hf).2⟩
def SI_253 : List Nat := [105]
def SL_253 : List Nat := []
theorem frc_253_6 (n : Nat) (K0 : Int32 → Int32 → Int32 → Int32 → FI → FL → Option (FI × FL)) (hK0 : ∀ (x1 : Int32) (x2 : Int32) (x3 : Int32) (x4 : Int32) (I : FI) (L : FL) (r : FI × FL), K0 x1 x2 x3 x4 I L = some r → Fr SI_253 I r.1 ∧ Fr SL_253 L r.2) (x1 : Int32) (x2 : Int32) (x3 : Int32) (x4 : Int32) (I : FI) (L : FL) (r : FI × FL) (hf : c_253_6 n K0 x1 x2 x3 x4 I L = some r) : Fr SI_253 I r.1 ∧ Fr SL_253 L r.2 := by
  unfold c_253_6 at hf
  exact ⟨frx_t frx_r (hK0 x1 x2 x3 (x4 + (1 : Int32)) I L r hf).1, frx_t frx_r (hK0 x1 x2 x3 (x4 + (1 : Int32)) I L r hf).2⟩
theorem frc_253_5 (n : Nat) (K0 : Int32 → Int32 → Int32 → Int32 → FI → FL → Option (FI × FL)) (hK0 : ∀ (x1 : Int32) (x2 : Int32) (x3 : Int32) (x4 : Int32) (I : FI) (L : FL) (r : FI × FL), K0 x1 x2 x3 x4 I L = some r → Fr SI_253 I r.1 ∧ Fr SL_253 L r.2) (x1 : Int32) (x2 : Int32) (x3 : Int32) (x4 : Int32) (s0 : Int32) (s1 : Int32) (I : FI) (L : FL) (r : FI × FL) (hf : c_253_5 n K0 x1 x2 x3 x4 s0 s1 I L = some r) : Fr SI_253 I r.1 ∧ Fr SL_253 L r.2 := by
  unfold c_253_5 at hf
  rcases ite_some hf with ⟨hc, hf⟩ | ⟨hc, hf⟩
  · exact ⟨frx_t (frx_u frx_r (by decide) (by decide)) (frc_253_6 n _ hK0 x1 x2 x3 x4 (u2 I 105 s1.toNatClampNeg s0) L r hf).1, frx_t frx_r (frc_253_6 n _ hK0 x1 x2 x3 x4 (u2 I 105 s1.toNatClampNeg s0) L r hf).2⟩
  · cases hf
theorem frc_253_4 (n : Nat) (K0 : Int32 → Int32 → Int32 → Int32 → FI → FL → Option (FI × FL)) (hK0 : ∀ (x1 : Int32) (x2 : Int32) (x3 : Int32) (x4 : Int32) (I : FI) (L : FL) (r : FI × FL), K0 x1 x2 x3 x4 I L = some r → Fr SI_253 I r.1 ∧ Fr SL_253 L r.2) (x1 : Int32) (x2 : Int32) (x3 : Int32) (x4 : Int32) (x7 : Int32) (I : FI) (L : FL) (r : FI × FL) (hf : c_253_4 n K0 x1 x2 x3 x4 x7 I L = some r) : Fr SI_253 I r.1 ∧ Fr SL_253 L r.2 := by
  unfold c_253_4 at hf
  rcases ite_some hf with ⟨hc, hf⟩ | ⟨hc, hf⟩
  · rcases ite_some hf with ⟨hc, hf⟩ | ⟨hc, hf⟩
    · exact ⟨frx_t frx_r (frc_253_5 n _ hK0 x1 x2 x3 x4 x7 x4 I L r hf).1, frx_t frx_r (frc_253_5 n _ hK0 x1 x2 x3 x4 x7 x4 I L r hf).2⟩
    · exact ⟨frx_t frx_r (frc_253_5 n _ hK0 x1 x2 x3 x4 (99 : Int32) x4 I L r hf).1, frx_t frx_r (frc_253_5 n _ hK0 x1 x2 x3 x4 (99 : Int32) x4 I L r hf).2⟩
  · cases hf
theorem frc_253_3 (n : Nat) (K0 : Int32 → Int32 → Int32 → Int32 → FI → FL → Option (FI × FL)) (hK0 : ∀ (x1 : Int32) (x2 : Int32) (x3 : Int32) (x4 : Int32) (I : FI) (L : FL) (r : FI × FL), K0 x1 x2 x3 x4 I L = some r → Fr SI_253 I r.1 ∧ Fr SL_253 L r.2) (x1 : Int32) (x2 : Int32) (x3 : Int32) (x4 : Int32) (s0 : Int32) (I : FI) (L : FL) (r : FI × FL) (hf : c_253_3 n K0 x1 x2 x3 x4 s0 I L = some r) : Fr SI_253 I r.1 ∧ Fr SL_253 L r.2 := by
  unfold c_253_3 at hf
  exact ⟨frx_t frx_r (frc_253_4 n _ hK0 x1 x2 x3 x4 s0 I L r hf).1, frx_t frx_r (frc_253_4 n _ hK0 x1 x2 x3 x4 s0 I L r hf).2⟩
theorem frc_253_2 (n : Nat) (K0 : Int32 → Int32 → Int32 → Int32 → FI → FL → Option (FI × FL)) (hK0 : ∀ (x1 : Int32) (x2 : Int32) (x3 : Int32) (x4 : Int32) (I : FI) (L : FL) (r : FI × FL), K0 x1 x2 x3 x4 I L = some r → Fr SI_253 I r.1 ∧ Fr SL_253 L r.2) (x1 : Int32) (x2 : Int32) (x3 : Int32) (x4 : Int32) (I : FI) (L : FL) (r : FI × FL) (hf : c_253_2 n K0 x1 x2 x3 x4 I L = some r) : Fr SI_253 I r.1 ∧ Fr SL_253 L r.2 := by
  unfold c_253_2 at hf
  exact ⟨frx_t frx_r (frc_253_3 n _ hK0 x1 x2 x3 x4 (0 : Int32) I L r hf).1, frx_t frx_r (frc_253_3 n _ hK0 x1 x2 x3 x4 (0 : Int32) I L r hf).2⟩
theorem frc_253_1 (n : Nat) (K0 : Int32 → Int32 → Int32 → Int32 → FI → FL → Option (FI × FL)) (hK0 : ∀ (x1 : Int32) (x2 : Int32) (x3 : Int32) (x4 : Int32) (I : FI) (L : FL) (r : FI × FL), K0 x1 x2 x3 x4 I L = some r → Fr SI_253 I r.1 ∧ Fr SL_253 L r.2) (x1 : Int32) (x2 : Int32) (x3 : Int32) (x4 : Int32) (x5 : Int32) (x6 : Int32) (I : FI) (L : FL) (r : FI × FL) (hf : c_253_1 n K0 x1 x2 x3 x4 x5 x6 I L = some r) : Fr SI_253 I r.1 ∧ Fr SL_253 L r.2 := by
  unfold c_253_1 at hf
  rcases ite_some hf with ⟨hc, hf⟩ | ⟨hc, hf⟩
  · rcases ite_some hf with ⟨hc, hf⟩ | ⟨hc, hf⟩
    · exact ⟨frx_t frx_r (frc_253_2 n _ hK0 x1 x2 x3 x4 I L r hf).1, frx_t frx_r (frc_253_2 n _ hK0 x1 x2 x3 x4 I L r hf).2⟩
    · rcases ite_some hf with ⟨hc, hf⟩ | ⟨hc, hf⟩
      · exact ⟨frx_t frx_r (frc_253_2 n _ hK0 x1 x2 x3 x4 I L r hf).1, frx_t frx_r (frc_253_2 n _ hK0 x1 x2 x3 x4 I L r hf).2⟩
      · rcases ite_some hf with ⟨hc, hf⟩ | ⟨hc, hf⟩
        · exact ⟨frx_t frx_r (frc_253_2 n _ hK0 x1 x2 x3 x4 I L r hf).1, frx_t frx_r (frc_253_2 n _ hK0 x1 x2 x3 x4 I L r hf).2⟩
        · exact ⟨frx_t frx_r (frc_253_3 n _ hK0 x1 x2 x3 x4 x5 I L r hf).1, frx_t frx_r (frc_253_3 n _ hK0 x1 x2 x3 x4 x5 I L r hf).2⟩
  · exact ⟨frx_t frx_r (frc_253_3 n _ hK0 x1 x2 x3 x4 (x5 / (2 : Int32)) I L r hf).1, frx_t frx_r (frc_253_3 n _ hK0 x1 x2 x3 x4 (x5 / (2 : Int32)) I L r hf).2⟩
theorem frc_253_0 (n : Nat) : ∀ (m : Nat) (x1 : Int32) (x2 : Int32) (x3 : Int32) (x4 : Int32) (I : FI) (L : FL) (r : FI × FL), c_253_0 n m x1 x2 x3 x4 I L = some r → Fr SI_253 I r.1 ∧ Fr SL_253 L r.2
  | 0, x1, x2, x3, x4, I, L, r, hf => by cases hf
  | m + 1, x1, x2, x3, x4, I, L, r, hf => by
    unfold c_253_0 b_253_0 at hf
    have hK0 := frc_253_0 n m
    obtain ⟨q0, hq0, hf⟩ := Option.bind_eq_some_iff.mp hf
    rcases ite_some hf with ⟨hc, hf⟩ | ⟨hc, hf⟩
    · cases hf; exact ⟨frx_r, frx_r⟩
    · rcases ite_some hf with ⟨hc, hf⟩ | ⟨hc, hf⟩
      · rcases ite_some hf with ⟨hc, hf⟩ | ⟨hc, hf⟩
        · obtain ⟨q1, hq1, hf⟩ := Option.bind_eq_some_iff.mp hf
          rcases ite_some hf with ⟨hc, hf⟩ | ⟨hc, hf⟩
          · exact ⟨frx_t frx_r (frc_253_1 n _ hK0 x1 x2 x3 x4 (I 105 x4.toNatClampNeg) q1 I L r hf).1, frx_t frx_r (frc_253_1 n _ hK0 x1 x2 x3 x4 (I 105 x4.toNatClampNeg) q1 I L r hf).2⟩
          · rcases ite_some hf with ⟨hc, hf⟩ | ⟨hc, hf⟩
            · rcases ite_some hf with ⟨hc, hf⟩ | ⟨hc, hf⟩
              · exact ⟨frx_t frx_r (frc_253_4 n _ hK0 x1 x2 x3 x4 ((I 105 x4.toNatClampNeg) + (1 : Int32)) I L r hf).1, frx_t frx_r (frc_253_4 n _ hK0 x1 x2 x3 x4 ((I 105 x4.toNatClampNeg) + (1 : Int32)) I L r hf).2⟩
              · rcases ite_some hf with ⟨hc, hf⟩ | ⟨hc, hf⟩
                · exact ⟨frx_t frx_r (frc_253_4 n _ hK0 x1 x2 x3 x4 ((I 105 x4.toNatClampNeg) + (1 : Int32)) I L r hf).1, frx_t frx_r (frc_253_4 n _ hK0 x1 x2 x3 x4 ((I 105 x4.toNatClampNeg) + (1 : Int32)) I L r hf).2⟩
                · obtain ⟨q2, hq2, hf⟩ := Option.bind_eq_some_iff.mp hf
                  rcases ite_some hf with ⟨hc, hf⟩ | ⟨hc, hf⟩
                  · exact ⟨frx_t frx_r (frc_253_4 n _ hK0 x1 x2 x3 x4 ((I 105 x4.toNatClampNeg) + (1 : Int32)) I L r hf).1, frx_t frx_r (frc_253_4 n _ hK0 x1 x2 x3 x4 ((I 105 x4.toNatClampNeg) + (1 : Int32)) I L r hf).2⟩
                  · exact ⟨frx_t frx_r (frc_253_4 n _ hK0 x1 x2 x3 x4 (I 105 x4.toNatClampNeg) I L r hf).1, frx_t frx_r (frc_253_4 n _ hK0 x1 x2 x3 x4 (I 105 x4.toNatClampNeg) I L r hf).2⟩
            · exact ⟨frx_t frx_r (frc_253_1 n _ hK0 x1 x2 x3 x4 (I 105 x4.toNatClampNeg) q1 I L r hf).1, frx_t frx_r (frc_253_1 n _ hK0 x1 x2 x3 x4 (I 105 x4.toNatClampNeg) q1 I L r hf).2⟩
        · exact ⟨frx_t frx_r (frc_253_6 n _ hK0 x1 x2 x3 x4 I L r hf).1, frx_t frx_r (frc_253_6 n _ hK0 x1 x2 x3 x4 I L r hf).2⟩
      · cases hf
theorem fr_253 (n : Nat) (x1 : Int32) (x2 : Int32) (x3 : Int32) (I : FI) (L : FL) (r : FI × FL) (hf : f_253 n x1 x2 x3 I L = some r) : Fr SI_253 I r.1 ∧ Fr SL_253 L r.2 := by
  unfold f_253 at hf
  exact ⟨frx_t frx_r (frc_253_0 n n x1 x2 x3 (0 : Int32) I L r hf).1, frx_t frx_r (frc_253_0 n n x1 x2 x3 (0 : Int32) I L r hf).2⟩
def SI_255 : List Nat := [103]
def SL_255 : List Nat := []
theorem frc_255_1 (n : Nat) (K0 : Int32 → Int32 → Int32 → Int32 → FI → FL → Option (Int32 × FI × FL)) (hK0 : ∀ (x1 : Int32) (x2 : Int32) (x3 : Int32) (x4 : Int32) (I : FI) (L : FL) (r : Int32 × FI × FL), K0 x1 x2 x3 x4 I L = some r → Fr SI_255 I r.2.1 ∧ Fr SL_255 L r.2.2) (x1 : Int32) (x2 : Int32) (x3 : Int32) (x4 : Int32) (I : FI) (L : FL) (r : Int32 × FI × FL) (hf : c_255_1 n K0 x1 x2 x3 x4 I L = some r) : Fr SI_255 I r.2.1 ∧ Fr SL_255 L r.2.2 := by
  unfold c_255_1 at hf
  exact ⟨frx_t frx_r (hK0 x1 x2 x3 (x4 + (1 : Int32)) I L r hf).1, frx_t frx_r (hK0 x1 x2 x3 (x4 + (1 : Int32)) I L r hf).2⟩
theorem frc_255_0 (n : Nat) : ∀ (m : Nat) (x1 : Int32) (x2 : Int32) (x3 : Int32) (x4 : Int32) (I : FI) (L : FL) (r : Int32 × FI × FL), c_255_0 n m x1 x2 x3 x4 I L = some r → Fr SI_255 I r.2.1 ∧ Fr SL_255 L r.2.2
  | 0, x1, x2, x3, x4, I, L, r, hf => by cases hf
  | m + 1, x1, x2, x3, x4, I, L, r, hf => by
    unfold c_255_0 b_255_0 at hf
    have hK0 := frc_255_0 n m
    obtain ⟨q2, hq2, hf⟩ := Option.bind_eq_some_iff.mp hf
    rcases ite_some hf with ⟨hc, hf⟩ | ⟨hc, hf⟩
    · cases hf; exact ⟨frx_r, frx_r⟩
    · obtain ⟨q3, hq3, hf⟩ := Option.bind_eq_some_iff.mp hf
      rcases ite_some hf with ⟨hc, hf⟩ | ⟨hc, hf⟩
      · exact ⟨frx_t frx_r (frc_255_1 n _ hK0 x1 x2 x3 x4 I L r hf).1, frx_t frx_r (frc_255_1 n _ hK0 x1 x2 x3 x4 I L r hf).2⟩
      · obtain ⟨q4, hq4, hf⟩ := Option.bind_eq_some_iff.mp hf
        have hIq4 : Fr SI_255 I q4.2.1 := frx_t frx_r (frx_m (fr_251 _ _ _ _ _ q4 hq4).1 (by decide))
        have hLq4 : Fr SL_255 L q4.2.2 := frx_t frx_r (frx_m (fr_251 _ _ _ _ _ q4 hq4).2 (by decide))
        rcases ite_some hf with ⟨hc, hf⟩ | ⟨hc, hf⟩
        · exact ⟨frx_t hIq4 (frc_255_1 n _ hK0 x1 x2 x3 x4 q4.2.1 q4.2.2 r hf).1, frx_t hLq4 (frc_255_1 n _ hK0 x1 x2 x3 x4 q4.2.1 q4.2.2 r hf).2⟩
        · cases hf; exact ⟨hIq4, hLq4⟩
theorem fr_255 (n : Nat) (x1 : Int32) (x2 : Int32) (I : FI) (L : FL) (r : Int32 × FI × FL) (hf : f_255 n x1 x2 I L = some r) : Fr SI_255 I r.2.1 ∧ Fr SL_255 L r.2.2 := by
  unfold f_255 at hf
  rcases ite_some hf with ⟨hc, hf⟩ | ⟨hc, hf⟩
  · cases hf; exact ⟨frx_r, frx_r⟩
  · rcases ite_some hf with ⟨hc, hf⟩ | ⟨hc, hf⟩
    · cases hf; exact ⟨frx_r, frx_r⟩
    · obtain ⟨q0, hq0, hf⟩ := Option.bind_eq_some_iff.mp hf
      have hIq0 : Fr SI_255 I q0.2.1 := frx_t frx_r (frx_m (fr_251 _ _ _ _ _ q0 hq0).1 (by decide))
      have hLq0 : Fr SL_255 L q0.2.2 := frx_t frx_r (frx_m (fr_251 _ _ _ _ _ q0 hq0).2 (by decide))
      rcases ite_some hf with ⟨hc, hf⟩ | ⟨hc, hf⟩
      · obtain ⟨q1, hq1, hf⟩ := Option.bind_eq_some_iff.mp hf
        have hIq1 : Fr SI_255 I q1.2.1 := frx_t hIq0 (frx_m (fr_251 _ _ _ _ _ q1 hq1).1 (by decide))
        have hLq1 : Fr SL_255 L q1.2.2 := frx_t hLq0 (frx_m (fr_251 _ _ _ _ _ q1 hq1).2 (by decide))
        exact ⟨frx_t hIq1 (frc_255_0 n n x1 x2 q1.1 (0 : Int32) q1.2.1 q1.2.2 r hf).1, frx_t hLq1 (frc_255_0 n n x1 x2 q1.1 (0 : Int32) q1.2.1 q1.2.2 r hf).2⟩
      · cases hf; exact ⟨hIq0, hLq0⟩
def SI_257 : List Nat := [103]
def SL_257 : List Nat := []
theorem fr_257 (n : Nat) (x1 : Int32) (x2 : Int32) (x3 : Int32) (I : FI) (L : FL) (r : Int32 × FI × FL) (hf : f_257 n x1 x2 x3 I L = some r) : Fr SI_257 I r.2.1 ∧ Fr SL_257 L r.2.2 := by
  unfold f_257 at hf
  obtain ⟨q0, hq0, hf⟩ := Option.bind_eq_some_iff.mp hf
  rcases ite_some hf with ⟨hc, hf⟩ | ⟨hc, hf⟩
  · rcases ite_some hf with ⟨hc, hf⟩ | ⟨hc, hf⟩
    · rcases ite_some hf with ⟨hc, hf⟩ | ⟨hc, hf⟩
      · rcases ite_some hf with ⟨hc, hf⟩ | ⟨hc, hf⟩
        · cases hf
        · rcases ite_some hf with ⟨hc, hf⟩ | ⟨hc, hf⟩
          · obtain ⟨q1, hq1, hf⟩ := Option.bind_eq_some_iff.mp hf
            rcases ite_some hf with ⟨hc, hf⟩ | ⟨hc, hf⟩
            · cases hf; exact ⟨frx_r, frx_r⟩
            · cases hf; exact ⟨frx_r, frx_r⟩
          · cases hf
      · cases hf; exact ⟨frx_r, frx_r⟩
    · obtain ⟨q2, hq2, hf⟩ := Option.bind_eq_some_iff.mp hf
      obtain ⟨q3, hq3, hf⟩ := Option.bind_eq_some_iff.mp hf
      have hIq3 : Fr SI_257 I q3.2.1 := frx_t frx_r (frx_m (fr_255 _ _ _ _ _ q3 hq3).1 (by decide))
      have hLq3 : Fr SL_257 L q3.2.2 := frx_t frx_r (frx_m (fr_255 _ _ _ _ _ q3 hq3).2 (by decide))
      cases hf; exact ⟨hIq3, hLq3⟩
  · cases hf; exact ⟨frx_r, frx_r⟩
def SI_260 : List Nat := [103, 105, 106, 107, 108]
def SL_260 : List Nat := []
theorem frc_260_6 (n : Nat) (K1 : Int32 → Int32 → Int32 → Int32 → FI → FL → Option (FI × FL)) (hK1 : ∀ (x1 : Int32) (x2 : Int32) (x3 : Int32) (x4 : Int32) (I : FI) (L : FL) (r : FI × FL), K1 x1 x2 x3 x4 I L = some r → Fr SI_260 I r.1 ∧ Fr SL_260 L r.2) : ∀ (m : Nat) (x1 : Int32) (x2 : Int32) (x3 : Int32) (x4 : Int32) (x7 : Int32) (I : FI) (L : FL) (r : FI × FL), c_260_6 n K1 m x1 x2 x3 x4 x7 I L = some r → Fr SI_260 I r.1 ∧ Fr SL_260 L r.2
  | 0, x1, x2, x3, x4, x7, I, L, r, hf => by cases hf
  | m + 1, x1, x2, x3, x4, x7, I, L, r, hf => by
    unfold c_260_6 b_260_6 at hf
    have hK6 := frc_260_6 n K1 hK1 m
    obtain ⟨q6, hq6, hf⟩ := Option.bind_eq_some_iff.mp hf
    rcases ite_some hf with ⟨hc, hf⟩ | ⟨hc, hf⟩
    · exact ⟨frx_t frx_r (hK1 x1 x2 x3 (x4 + (1 : Int32)) I L r hf).1, frx_t frx_r (hK1 x1 x2 x3 (x4 + (1 : Int32)) I L r hf).2⟩
    · rcases ite_some hf with ⟨hc, hf⟩ | ⟨hc, hf⟩
      · rcases ite_some hf with ⟨hc, hf⟩ | ⟨hc, hf⟩
        · exact ⟨frx_t (frx_u frx_r (by decide) (by decide)) (hK6 x1 x2 x3 x4 (x7 + (1 : Int32)) (u2 I 106 ((((4 : Int32) * x4) + x7).toNatClampNeg) (I 105 x7.toNatClampNeg)) L r hf).1, frx_t frx_r (hK6 x1 x2 x3 x4 (x7 + (1 : Int32)) (u2 I 106 ((((4 : Int32) * x4) + x7).toNatClampNeg) (I 105 x7.toNatClampNeg)) L r hf).2⟩
        · cases hf
      · cases hf
theorem frc_260_5 (n : Nat) (K1 : Int32 → Int32 → Int32 → Int32 → FI → FL → Option (FI × FL)) (hK1 : ∀ (x1 : Int32) (x2 : Int32) (x3 : Int32) (x4 : Int32) (I : FI) (L : FL) (r : FI × FL), K1 x1 x2 x3 x4 I L = some r → Fr SI_260 I r.1 ∧ Fr SL_260 L r.2) (x1 : Int32) (x2 : Int32) (x3 : Int32) (x4 : Int32) (s0 : Int32) (s1 : Int32) (s2 : Int32) (I : FI) (L : FL) (r : FI × FL) (hf : c_260_5 n K1 x1 x2 x3 x4 s0 s1 s2 I L = some r) : Fr SI_260 I r.1 ∧ Fr SL_260 L r.2 := by
  unfold c_260_5 at hf
  rcases ite_some hf with ⟨hc, hf⟩ | ⟨hc, hf⟩
  · exact ⟨frx_t (frx_u frx_r (by decide) (by decide)) (frc_260_6 n _ hK1 n x1 x2 x3 x4 (0 : Int32) (u2 I 108 s2.toNatClampNeg (s1 ||| s0)) L r hf).1, frx_t frx_r (frc_260_6 n _ hK1 n x1 x2 x3 x4 (0 : Int32) (u2 I 108 s2.toNatClampNeg (s1 ||| s0)) L r hf).2⟩
  · cases hf
theorem frc_260_4 (n : Nat) (K1 : Int32 → Int32 → Int32 → Int32 → FI → FL → Option (FI × FL)) (hK1 : ∀ (x1 : Int32) (x2 : Int32) (x3 : Int32) (x4 : Int32) (I : FI) (L : FL) (r : FI × FL), K1 x1 x2 x3 x4 I L = some r → Fr SI_260 I r.1 ∧ Fr SL_260 L r.2) (x1 : Int32) (x2 : Int32) (x4 : Int32) (x5 : Int32) (x6 : Int32) (s0 : Int32) (s1 : Int32) (I : FI) (L : FL) (r : FI × FL) (hf : c_260_4 n K1 x1 x2 x4 x5 x6 s0 s1 I L = some r) : Fr SI_260 I r.1 ∧ Fr SL_260 L r.2 := by
  unfold c_260_4 at hf
  obtain ⟨q5, hq5, hf⟩ := Option.bind_eq_some_iff.mp hf
  have hIq5 : Fr SI_260 I q5.1 := frx_t frx_r (frx_m (fr_253 _ _ _ _ _ _ q5 hq5).1 (by decide))
  have hLq5 : Fr SL_260 L q5.2 := frx_t frx_r (frx_m (fr_253 _ _ _ _ _ _ q5 hq5).2 (by decide))
  rcases ite_some hf with ⟨hc, hf⟩ | ⟨hc, hf⟩
  · rcases ite_some hf with ⟨hc, hf⟩ | ⟨hc, hf⟩
    · exact ⟨frx_t (frx_u hIq5 (by decide) (by decide)) (frc_260_5 n _ hK1 x1 x2 x5 x4 ((1 : Int32) <<< (x5 &&& 31)) x6 x4 (u2 q5.1 107 x4.toNatClampNeg x2) q5.2 r hf).1, frx_t hLq5 (frc_260_5 n _ hK1 x1 x2 x5 x4 ((1 : Int32) <<< (x5 &&& 31)) x6 x4 (u2 q5.1 107 x4.toNatClampNeg x2) q5.2 r hf).2⟩
    · exact ⟨frx_t (frx_u hIq5 (by decide) (by decide)) (frc_260_5 n _ hK1 x1 x2 x5 x4 (0 : Int32) x6 x4 (u2 q5.1 107 x4.toNatClampNeg x2) q5.2 r hf).1, frx_t hLq5 (frc_260_5 n _ hK1 x1 x2 x5 x4 (0 : Int32) x6 x4 (u2 q5.1 107 x4.toNatClampNeg x2) q5.2 r hf).2⟩
  · cases hf
theorem frc_260_3 (n : Nat) (K1 : Int32 → Int32 → Int32 → Int32 → FI → FL → Option (FI × FL)) (hK1 : ∀ (x1 : Int32) (x2 : Int32) (x3 : Int32) (x4 : Int32) (I : FI) (L : FL) (r : FI × FL), K1 x1 x2 x3 x4 I L = some r → Fr SI_260 I r.1 ∧ Fr SL_260 L r.2) (x1 : Int32) (x2 : Int32) (x3 : Int32) (x4 : Int32) (s0 : Int32) (I : FI) (L : FL) (r : FI × FL) (hf : c_260_3 n K1 x1 x2 x3 x4 s0 I L = some r) : Fr SI_260 I r.1 ∧ Fr SL_260 L r.2 := by
  unfold c_260_3 at hf
  obtain ⟨q4, hq4, hf⟩ := Option.bind_eq_some_iff.mp hf
  rcases ite_some hf with ⟨hc, hf⟩ | ⟨hc, hf⟩
  · exact ⟨frx_t frx_r (frc_260_4 n _ hK1 x1 x2 x4 s0 q4 x3 s0 I L r hf).1, frx_t frx_r (frc_260_4 n _ hK1 x1 x2 x4 s0 q4 x3 s0 I L r hf).2⟩
  · exact ⟨frx_t frx_r (frc_260_4 n _ hK1 x1 x2 x4 s0 q4 s0 s0 I L r hf).1, frx_t frx_r (frc_260_4 n _ hK1 x1 x2 x4 s0 q4 s0 s0 I L r hf).2⟩
theorem frc_260_2 (n : Nat) (K1 : Int32 → Int32 → Int32 → Int32 → FI → FL → Option (FI × FL)) (hK1 : ∀ (x1 : Int32) (x2 : Int32) (x3 : Int32) (x4 : Int32) (I : FI) (L : FL) (r : FI × FL), K1 x1 x2 x3 x4 I L = some r → Fr SI_260 I r.1 ∧ Fr SL_260 L r.2) (x1 : Int32) (x2 : Int32) (x3 : Int32) (x4 : Int32) (I : FI) (L : FL) (r : FI × FL) (hf : c_260_2 n K1 x1 x2 x3 x4 I L = some r) : Fr SI_260 I r.1 ∧ Fr SL_260 L r.2 := by
  unfold c_260_2 at hf
  obtain ⟨q3, hq3, hf⟩ := Option.bind_eq_some_iff.mp hf
  rcases ite_some hf with ⟨hc, hf⟩ | ⟨hc, hf⟩
  · exact ⟨frx_t frx_r (frc_260_3 n _ hK1 x1 x2 x3 x4 x2 I L r hf).1, frx_t frx_r (frc_260_3 n _ hK1 x1 x2 x3 x4 x2 I L r hf).2⟩
  · exact ⟨frx_t frx_r (frc_260_3 n _ hK1 x1 x2 x3 x4 (-1 : Int32) I L r hf).1, frx_t frx_r (frc_260_3 n _ hK1 x1 x2 x3 x4 (-1 : Int32) I L r hf).2⟩
theorem frc_260_1 (n : Nat) : ∀ (m : Nat) (x1 : Int32) (x2 : Int32) (x3 : Int32) (x4 : Int32) (I : FI) (L : FL) (r : FI × FL), c_260_1 n m x1 x2 x3 x4 I L = some r → Fr SI_260 I r.1 ∧ Fr SL_260 L r.2
  | 0, x1, x2, x3, x4, I, L, r, hf => by cases hf
  | m + 1, x1, x2, x3, x4, I, L, r, hf => by
    unfold c_260_1 b_260_1 at hf
    have hK1 := frc_260_1 n m
    obtain ⟨q2, hq2, hf⟩ := Option.bind_eq_some_iff.mp hf
    rcases ite_some hf with ⟨hc, hf⟩ | ⟨hc, hf⟩
    · cases hf; exact ⟨frx_r, frx_r⟩
    · rcases ite_some hf with ⟨hc, hf⟩ | ⟨hc, hf⟩
      · exact ⟨frx_t frx_r (frc_260_2 n _ hK1 x1 x2 x3 x4 I L r hf).1, frx_t frx_r (frc_260_2 n _ hK1 x1 x2 x3 x4 I L r hf).2⟩
      · obtain ⟨q7, hq7, hf⟩ := Option.bind_eq_some_iff.mp hf
        have hIq7 : Fr SI_260 I q7.2.1 := frx_t frx_r (frx_m (fr_257 _ _ _ _ _ _ q7 hq7).1 (by decide))
        have hLq7 : Fr SL_260 L q7.2.2 := frx_t frx_r (frx_m (fr_257 _ _ _ _ _ _ q7 hq7).2 (by decide))
        exact ⟨frx_t hIq7 (frc_260_2 n _ hK1 x1 q7.1 x3 x4 q7.2.1 q7.2.2 r hf).1, frx_t hLq7 (frc_260_2 n _ hK1 x1 q7.1 x3 x4 q7.2.1 q7.2.2 r hf).2⟩
theorem frc_260_0 (n : Nat) : ∀ (m : Nat) (x1 : Int32) (x2 : Int32) (I : FI) (L : FL) (r : FI × FL), c_260_0 n m x1 x2 I L = some r → Fr SI_260 I r.1 ∧ Fr SL_260 L r.2
  | 0, x1, x2, I, L, r, hf => by cases hf
  | m + 1, x1, x2, I, L, r, hf => by
    unfold c_260_0 b_260_0 at hf
    have hK0 := frc_260_0 n m
    obtain ⟨q0, hq0, hf⟩ := Option.bind_eq_some_iff.mp hf
    rcases ite_some hf with ⟨hc, hf⟩ | ⟨hc, hf⟩
    · obtain ⟨q1, hq1, hf⟩ := Option.bind_eq_some_iff.mp hf
      exact ⟨frx_t frx_r (frc_260_1 n n x1 q1 (-1 : Int32) (0 : Int32) I L r hf).1, frx_t frx_r (frc_260_1 n n x1 q1 (-1 : Int32) (0 : Int32) I L r hf).2⟩
    · rcases ite_some hf with ⟨hc, hf⟩ | ⟨hc, hf⟩
      · exact ⟨frx_t (frx_u frx_r (by decide) (by decide)) (hK0 x1 (x2 + (1 : Int32)) (u2 I 105 x2.toNatClampNeg (0 : Int32)) L r hf).1, frx_t frx_r (hK0 x1 (x2 + (1 : Int32)) (u2 I 105 x2.toNatClampNeg (0 : Int32)) L r hf).2⟩
      · cases hf
theorem fr_260 (n : Nat) (x1 : Int32) (I : FI) (L : FL) (r : FI × FL) (hf : f_260 n x1 I L = some r) : Fr SI_260 I r.1 ∧ Fr SL_260 L r.2 := by
  unfold f_260 at hf
  exact ⟨frx_t frx_r (frc_260_0 n n x1 (0 : Int32) I L r hf).1, frx_t frx_r (frc_260_0 n n x1 (0 : Int32) I L r hf).2⟩
def SI_261 : List Nat := [103, 104, 105, 106, 107, 108, 1025, 1026, 1027, 1028]
def SL_261 : List Nat := []
theorem fr_261 (n : Nat) (x1 : Int32) (I : FI) (L : FL) (r : FI × FL) (hf : f_261 n x1 I L = some r) : Fr SI_261 I r.1 ∧ Fr SL_261 L r.2 := by
  unfold f_261 at hf
  obtain ⟨q0, hq0, hf⟩ := Option.bind_eq_some_iff.mp hf
  have hIq0 : Fr SI_261 I q0.1 := frx_t frx_r (frx_m (fr_252 _ _ _ q0 hq0).1 (by decide))
  have hLq0 : Fr SL_261 L q0.2 := frx_t frx_r (frx_m (fr_252 _ _ _ q0 hq0).2 (by decide))
  obtain ⟨q1, hq1, hf⟩ := Option.bind_eq_some_iff.mp hf
  have hIq1 : Fr SI_261 I q1.1 := frx_t hIq0 (frx_m (fr_260 _ _ _ _ q1 hq1).1 (by decide))
  have hLq1 : Fr SL_261 L q1.2 := frx_t hLq0 (frx_m (fr_260 _ _ _ _ q1 hq1).2 (by decide))
  cases hf; exact ⟨hIq1, hLq1⟩
def SI_266 : List Nat := [1000]
def SL_266 : List Nat := []
theorem fr_266 (x1 : Int32) (x2 : Int32) (I : FI) (L : FL) (r : Int32 × FI × FL) (hf : f_266 x1 x2 I L = some r) : Fr SI_266 I r.2.1 ∧ Fr SL_266 L r.2.2 := by
  unfold f_266 at hf
  obtain ⟨q0, hq0, hf⟩ := Option.bind_eq_some_iff.mp hf
  rcases ite_some hf with ⟨hc, hf⟩ | ⟨hc, hf⟩
  · cases hf; exact ⟨(frx_v frx_r (by decide)), frx_r⟩
  · obtain ⟨q1, hq1, hf⟩ := Option.bind_eq_some_iff.mp hf
    rcases ite_some hf with ⟨hc, hf⟩ | ⟨hc, hf⟩
    · cases hf; exact ⟨(frx_v frx_r (by decide)), frx_r⟩
    · rcases ite_some hf with ⟨hc, hf⟩ | ⟨hc, hf⟩
      · cases hf; exact ⟨(frx_v frx_r (by decide)), frx_r⟩
      · cases hf
def SI_267 : List Nat := [1000]
def SL_267 : List Nat := []
theorem frc_267_1 (n : Nat) (K0 : Int32 → Int32 → Int32 → FI → FL → Option (Int32 × FI × FL)) (hK0 : ∀ (x1 : Int32) (x2 : Int32) (x3 : Int32) (I : FI) (L : FL) (r : Int32 × FI × FL), K0 x1 x2 x3 I L = some r → Fr SI_267 I r.2.1 ∧ Fr SL_267 L r.2.2) (x1 : Int32) (x3 : Int32) (s0 : Int32) (s1 : Int32) (I : FI) (L : FL) (r : Int32 × FI × FL) (hf : c_267_1 n K0 x1 x3 s0 s1 I L = some r) : Fr SI_267 I r.2.1 ∧ Fr SL_267 L r.2.2 := by
  unfold c_267_1 at hf
  exact ⟨frx_t frx_r (hK0 x1 (s1 ||| s0) (x3 + (1 : Int32)) I L r hf).1, frx_t frx_r (hK0 x1 (s1 ||| s0) (x3 + (1 : Int32)) I L r hf).2⟩
theorem frc_267_0 (n : Nat) : ∀ (m : Nat) (x1 : Int32) (x2 : Int32) (x3 : Int32) (I : FI) (L : FL) (r : Int32 × FI × FL), c_267_0 n m x1 x2 x3 I L = some r → Fr SI_267 I r.2.1 ∧ Fr SL_267 L r.2.2
  | 0, x1, x2, x3, I, L, r, hf => by cases hf
  | m + 1, x1, x2, x3, I, L, r, hf => by
    unfold c_267_0 b_267_0 at hf
    have hK0 := frc_267_0 n m
    obtain ⟨q1, hq1, hf⟩ := Option.bind_eq_some_iff.mp hf
    rcases ite_some hf with ⟨hc, hf⟩ | ⟨hc, hf⟩
    · cases hf; exact ⟨frx_r, frx_r⟩
    · obtain ⟨q2, hq2, hf⟩ := Option.bind_eq_some_iff.mp hf
      rcases ite_some hf with ⟨hc, hf⟩ | ⟨hc, hf⟩
      · exact ⟨frx_t frx_r (frc_267_1 n _ hK0 x1 x3 (0 : Int32) x2 I L r hf).1, frx_t frx_r (frc_267_1 n _ hK0 x1 x3 (0 : Int32) x2 I L r hf).2⟩
      · exact ⟨frx_t frx_r (frc_267_1 n _ hK0 x1 x3 ((1 : Int32) <<< (x3 &&& 31)) x2 I L r hf).1, frx_t frx_r (frc_267_1 n _ hK0 x1 x3 ((1 : Int32) <<< (x3 &&& 31)) x2 I L r hf).2⟩
theorem fr_267 (n : Nat) (x1 : Int32) (I : FI) (L : FL) (r : Int32 × FI × FL) (hf : f_267 n x1 I L = some r) : Fr SI_267 I r.2.1 ∧ Fr SL_267 L r.2.2 := by
  unfold f_267 at hf
  obtain ⟨q0, hq0, hf⟩ := Option.bind_eq_some_iff.mp hf
  rcases ite_some hf with ⟨hc, hf⟩ | ⟨hc, hf⟩
  · exact ⟨frx_t (frx_v frx_r (by decide)) (frc_267_0 n n x1 (0 : Int32) (0 : Int32) (u2 I 89 0 (0 : Int32)) L r hf).1, frx_t frx_r (frc_267_0 n n x1 (0 : Int32) (0 : Int32) (u2 I 89 0 (0 : Int32)) L r hf).2⟩
  · cases hf; exact ⟨(frx_v frx_r (by decide)), frx_r⟩
def SI_268 : List Nat := [103, 1000]
def SL_268 : List Nat := []
theorem fr_268 (n : Nat) (x1 : Int32) (x2 : Int32) (I : FI) (L : FL) (r : Int32 × FI × FL) (hf : f_268 n x1 x2 I L = some r) : Fr SI_268 I r.2.1 ∧ Fr SL_268 L r.2.2 := by
  unfold f_268 at hf
  obtain ⟨q0, hq0, hf⟩ := Option.bind_eq_some_iff.mp hf
  rcases ite_some hf with ⟨hc, hf⟩ | ⟨hc, hf⟩
  · cases hf; exact ⟨(frx_v frx_r (by decide)), frx_r⟩
  · obtain ⟨q1, hq1, hf⟩ := Option.bind_eq_some_iff.mp hf
    rcases ite_some hf with ⟨hc, hf⟩ | ⟨hc, hf⟩
    · obtain ⟨q2, hq2, hf⟩ := Option.bind_eq_some_iff.mp hf
      have hIq2 : Fr SI_268 I q2.2.1 := frx_t (frx_v frx_r (by decide)) (frx_m (fr_251 _ _ _ _ _ q2 hq2).1 (by decide))
      have hLq2 : Fr SL_268 L q2.2.2 := frx_t frx_r (frx_m (fr_251 _ _ _ _ _ q2 hq2).2 (by decide))
      rcases ite_some hf with ⟨hc, hf⟩ | ⟨hc, hf⟩
      · obtain ⟨q3, hq3, hf⟩ := Option.bind_eq_some_iff.mp hf
        have hIq3 : Fr SI_268 I q3.2.1 := frx_t hIq2 (frx_m (fr_251 _ _ _ _ _ q3 hq3).1 (by decide))
        have hLq3 : Fr SL_268 L q3.2.2 := frx_t hLq2 (frx_m (fr_251 _ _ _ _ _ q3 hq3).2 (by decide))
        cases hf; exact ⟨hIq3, hLq3⟩
      · cases hf; exact ⟨hIq2, hLq2⟩
    · cases hf; exact ⟨(frx_v frx_r (by decide)), frx_r⟩
def SI_269 : List Nat := [1000]
def SL_269 : List Nat := []
theorem fr_269 (x1 : Int32) (I : FI) (L : FL) (r : Int32 × FI × FL) (hf : f_269 x1 I L = some r) : Fr SI_269 I r.2.1 ∧ Fr SL_269 L r.2.2 := by
  unfold f_269 at hf
  obtain ⟨q0, hq0, hf⟩ := Option.bind_eq_some_iff.mp hf
  rcases ite_some hf with ⟨hc, hf⟩ | ⟨hc, hf⟩
  · cases hf; exact ⟨(frx_v frx_r (by decide)), frx_r⟩
  · rcases ite_some hf with ⟨hc, hf⟩ | ⟨hc, hf⟩
    · rcases ite_some hf with ⟨hc, hf⟩ | ⟨hc, hf⟩
      · cases hf; exact ⟨(frx_v frx_r (by decide)), frx_r⟩
      · rcases ite_some hf with ⟨hc, hf⟩ | ⟨hc, hf⟩
        · cases hf; exact ⟨(frx_v frx_r (by decide)), frx_r⟩
        · cases hf
    · cases hf; exact ⟨(frx_v frx_r (by decide)), frx_r⟩
def SI_270 : List Nat := [103, 104, 105, 106, 107, 108, 1000, 1025, 1026, 1027, 1028]
def SL_270 : List Nat := []
theorem fr_270 (n : Nat) (x1 : Int32) (x2 : Int32) (I : FI) (L : FL) (r : Int32 × FI × FL) (hf : f_270 n x1 x2 I L = some r) : Fr SI_270 I r.2.1 ∧ Fr SL_270 L r.2.2 := by
  unfold f_270 at hf
  obtain ⟨q0, hq0, hf⟩ := Option.bind_eq_some_iff.mp hf
  rcases ite_some hf with ⟨hc, hf⟩ | ⟨hc, hf⟩
  · obtain ⟨q1, hq1, hf⟩ := Option.bind_eq_some_iff.mp hf
    have hIq1 : Fr SI_270 I q1.1 := frx_t (frx_v frx_r (by decide)) (frx_m (fr_261 _ _ _ _ q1 hq1).1 (by decide))
    have hLq1 : Fr SL_270 L q1.2 := frx_t frx_r (frx_m (fr_261 _ _ _ _ q1 hq1).2 (by decide))
    rcases ite_some hf with ⟨hc, hf⟩ | ⟨hc, hf⟩
    · cases hf; exact ⟨hIq1, hLq1⟩
    · cases hf
  · cases hf; exact ⟨(frx_v frx_r (by decide)), frx_r⟩
def SI_271 : List Nat := [103, 104, 105, 106, 107, 108, 1000, 1025, 1026, 1027, 1028]
def SL_271 : List Nat := []
theorem fr_271 (n : Nat) (x1 : Int32) (x2 : Int32) (x3 : Int32) (I : FI) (L : FL) (r : Int32 × FI × FL) (hf : f_271 n x1 x2 x3 I L = some r) : Fr SI_271 I r.2.1 ∧ Fr SL_271 L r.2.2 := by
  unfold f_271 at hf
  obtain ⟨q0, hq0, hf⟩ := Option.bind_eq_some_iff.mp hf
  rcases ite_some hf with ⟨hc, hf⟩ | ⟨hc, hf⟩
  · cases hf; exact ⟨(frx_v frx_r (by decide)), frx_r⟩
  · obtain ⟨q1, hq1, hf⟩ := Option.bind_eq_some_iff.mp hf
    rcases ite_some hf with ⟨hc, hf⟩ | ⟨hc, hf⟩
    · obtain ⟨q2, hq2, hf⟩ := Option.bind_eq_some_iff.mp hf
      have hIq2 : Fr SI_271 I q2.1 := frx_t (frx_v frx_r (by decide)) (frx_m (fr_261 _ _ _ _ q2 hq2).1 (by decide))
      have hLq2 : Fr SL_271 L q2.2 := frx_t frx_r (frx_m (fr_261 _ _ _ _ q2 hq2).2 (by decide))
      rcases ite_some hf with ⟨hc, hf⟩ | ⟨hc, hf⟩
      · cases hf; exact ⟨hIq2, hLq2⟩
      · cases hf
    · cases hf; exact ⟨(frx_v frx_r (by decide)), frx_r⟩
def SI_272 : List Nat := [103, 104, 105, 106, 107, 108, 1000, 1025, 1026, 1027, 1028]
def SL_272 : List Nat := []
theorem fr_272 (n : Nat) (x1 : Int32) (x2 : Int32) (x3 : Int32) (I : FI) (L : FL) (r : Int32 × FI × FL) (hf : f_272 n x1 x2 x3 I L = some r) : Fr SI_272 I r.2.1 ∧ Fr SL_272 L r.2.2 := by
  unfold f_272 at hf
  obtain ⟨q0, hq0, hf⟩ := Option.bind_eq_some_iff.mp hf
  rcases ite_some hf with ⟨hc, hf⟩ | ⟨hc, hf⟩
  · cases hf; exact ⟨(frx_v frx_r (by decide)), frx_r⟩
  · obtain ⟨q1, hq1, hf⟩ := Option.bind_eq_some_iff.mp hf
    rcases ite_some hf with ⟨hc, hf⟩ | ⟨hc, hf⟩
    · obtain ⟨q2, hq2, hf⟩ := Option.bind_eq_some_iff.mp hf
      have hIq2 : Fr SI_272 I q2.1 := frx_t (frx_v frx_r (by decide)) (frx_m (fr_261 _ _ _ _ q2 hq2).1 (by decide))
      have hLq2 : Fr SL_272 L q2.2 := frx_t frx_r (frx_m (fr_261 _ _ _ _ q2 hq2).2 (by decide))
      rcases ite_some hf with ⟨hc, hf⟩ | ⟨hc, hf⟩
      · rcases ite_some hf with ⟨hc, hf⟩ | ⟨hc, hf⟩
        · rcases ite_some hf with ⟨hc, hf⟩ | ⟨hc, hf⟩
          · rcases ite_some hf with ⟨hc, hf⟩ | ⟨hc, hf⟩
            · cases hf; exact ⟨hIq2, hLq2⟩
            · cases hf
          · cases hf
        · cases hf; exact ⟨hIq2, hLq2⟩
      · cases hf
    · cases hf; exact ⟨(frx_v frx_r (by decide)), frx_r⟩
def SI_273 : List Nat := [103, 104, 105, 106, 107, 108, 1000, 1025, 1026, 1027, 1028]
def SL_273 : List Nat := []
theorem fr_273 (n : Nat) (x1 : Int32) (x2 : Int32) (I : FI) (L : FL) (r : Int32 × FI × FL) (hf : f_273 n x1 x2 I L = some r) : Fr SI_273 I r.2.1 ∧ Fr SL_273 L r.2.2 := by
  unfold f_273 at hf
  obtain ⟨q0, hq0, hf⟩ := Option.bind_eq_some_iff.mp hf
  rcases ite_some hf with ⟨hc, hf⟩ | ⟨hc, hf⟩
  · obtain ⟨q1, hq1, hf⟩ := Option.bind_eq_some_iff.mp hf
    have hIq1 : Fr SI_273 I q1.1 := frx_t (frx_v frx_r (by decide)) (frx_m (fr_261 _ _ _ _ q1 hq1).1 (by decide))
    have hLq1 : Fr SL_273 L q1.2 := frx_t frx_r (frx_m (fr_261 _ _ _ _ q1 hq1).2 (by decide))
    obtain ⟨q2, hq2, hf⟩ := Option.bind_eq_some_iff.mp hf
    cases hf; exact ⟨hIq1, hLq1⟩
  · cases hf; exact ⟨(frx_v frx_r (by decide)), frx_r⟩
def SI_274 : List Nat := [103, 104, 105, 106, 107, 108, 1000, 1025, 1026, 1027, 1028]
def SL_274 : List Nat := []
theorem fr_274 (n : Nat) (x1 : Int32) (x2 : Int32) (I : FI) (L : FL) (r : Int32 × FI × FL) (hf : f_274 n x1 x2 I L = some r) : Fr SI_274 I r.2.1 ∧ Fr SL_274 L r.2.2 := by
  unfold f_274 at hf
  obtain ⟨q0, hq0, hf⟩ := Option.bind_eq_some_iff.mp hf
  rcases ite_some hf with ⟨hc, hf⟩ | ⟨hc, hf⟩
  · obtain ⟨q1, hq1, hf⟩ := Option.bind_eq_some_iff.mp hf
    have hIq1 : Fr SI_274 I q1.1 := frx_t (frx_v frx_r (by decide)) (frx_m (fr_261 _ _ _ _ q1 hq1).1 (by decide))
    have hLq1 : Fr SL_274 L q1.2 := frx_t frx_r (frx_m (fr_261 _ _ _ _ q1 hq1).2 (by decide))
    obtain ⟨q2, hq2, hf⟩ := Option.bind_eq_some_iff.mp hf
    obtain ⟨q3, hq3, hf⟩ := Option.bind_eq_some_iff.mp hf
    cases hf; exact ⟨hIq1, hLq1⟩
  · cases hf; exact ⟨(frx_v frx_r (by decide)), frx_r⟩
def SI_275 : List Nat := [103, 104, 105, 106, 107, 108, 1000, 1025, 1026, 1027, 1028]
def SL_275 : List Nat := []
theorem fr_275 (n : Nat) (x1 : Int32) (I : FI) (L : FL) (r : Int32 × FI × FL) (hf : f_275 n x1 I L = some r) : Fr SI_275 I r.2.1 ∧ Fr SL_275 L r.2.2 := by
  unfold f_275 at hf
  obtain ⟨q0, hq0, hf⟩ := Option.bind_eq_some_iff.mp hf
  rcases ite_some hf with ⟨hc, hf⟩ | ⟨hc, hf⟩
  · obtain ⟨q1, hq1, hf⟩ := Option.bind_eq_some_iff.mp hf
    have hIq1 : Fr SI_275 I q1.1 := frx_t (frx_v frx_r (by decide)) (frx_m (fr_261 _ _ _ _ q1 hq1).1 (by decide))
    have hLq1 : Fr SL_275 L q1.2 := frx_t frx_r (frx_m (fr_261 _ _ _ _ q1 hq1).2 (by decide))
    obtain ⟨q2, hq2, hf⟩ := Option.bind_eq_some_iff.mp hf
    obtain ⟨q3, hq3, hf⟩ := Option.bind_eq_some_iff.mp hf
    cases hf; exact ⟨hIq1, hLq1⟩
  · cases hf; exact ⟨(frx_v frx_r (by decide)), frx_r⟩
def SI_276 : List Nat := [103, 104, 105, 106, 107, 108, 1000, 1025, 1026, 1027, 1028]
def SL_276 : List Nat := []
theorem frc_276_0 (n : Nat) : ∀ (m : Nat) (x2 : Int32) (x3 : Int32) (I : FI) (L : FL) (r : Int32 × FI × FL), c_276_0 n m x2 x3 I L = some r → Fr SI_276 I r.2.1 ∧ Fr SL_276 L r.2.2
  | 0, x2, x3, I, L, r, hf => by cases hf
  | m + 1, x2, x3, I, L, r, hf => by
    unfold c_276_0 b_276_0 at hf
    have hK0 := frc_276_0 n m
    obtain ⟨q3, hq3, hf⟩ := Option.bind_eq_some_iff.mp hf
    rcases ite_some hf with ⟨hc, hf⟩ | ⟨hc, hf⟩
    · cases hf; exact ⟨frx_r, frx_r⟩
    · obtain ⟨q4, hq4, hf⟩ := Option.bind_eq_some_iff.mp hf
      rcases ite_some hf with ⟨hc, hf⟩ | ⟨hc, hf⟩
      · cases hf; exact ⟨frx_r, frx_r⟩
      · obtain ⟨q5, hq5, hf⟩ := Option.bind_eq_some_iff.mp hf
        rcases ite_some hf with ⟨hc, hf⟩ | ⟨hc, hf⟩
        · exact ⟨frx_t frx_r (hK0 x2 (x3 + (1 : Int32)) I L r hf).1, frx_t frx_r (hK0 x2 (x3 + (1 : Int32)) I L r hf).2⟩
        · cases hf; exact ⟨frx_r, frx_r⟩
theorem fr_276 (n : Nat) (x1 : Int32) (I : FI) (L : FL) (r : Int32 × FI × FL) (hf : f_276 n x1 I L = some r) : Fr SI_276 I r.2.1 ∧ Fr SL_276 L r.2.2 := by
  unfold f_276 at hf
  obtain ⟨q0, hq0, hf⟩ := Option.bind_eq_some_iff.mp hf
  rcases ite_some hf with ⟨hc, hf⟩ | ⟨hc, hf⟩
  · obtain ⟨q1, hq1, hf⟩ := Option.bind_eq_some_iff.mp hf
    have hIq1 : Fr SI_276 I q1.1 := frx_t (frx_v frx_r (by decide)) (frx_m (fr_261 _ _ _ _ q1 hq1).1 (by decide))
    have hLq1 : Fr SL_276 L q1.2 := frx_t frx_r (frx_m (fr_261 _ _ _ _ q1 hq1).2 (by decide))
    obtain ⟨q2, hq2, hf⟩ := Option.bind_eq_some_iff.mp hf
    exact ⟨frx_t hIq1 (frc_276_0 n n q2 (0 : Int32) q1.1 q1.2 r hf).1, frx_t hLq1 (frc_276_0 n n q2 (0 : Int32) q1.1 q1.2 r hf).2⟩
  · cases hf; exact ⟨(frx_v frx_r (by decide)), frx_r⟩
def SI_278 : List Nat := [103, 104, 105, 106, 107, 108, 1000, 1025, 1026, 1027, 1028]
def SL_278 : List Nat := []
theorem fr_278 (n : Nat) (x1 : Int32) (x2 : Int32) (I : FI) (L : FL) (r : Int32 × FI × FL) (hf : f_278 n x1 x2 I L = some r) : Fr SI_278 I r.2.1 ∧ Fr SL_278 L r.2.2 := by
  unfold f_278 at hf
  obtain ⟨q0, hq0, hf⟩ := Option.bind_eq_some_iff.mp hf
  rcases ite_some hf with ⟨hc, hf⟩ | ⟨hc, hf⟩
  · obtain ⟨q1, hq1, hf⟩ := Option.bind_eq_some_iff.mp hf
    have hIq1 : Fr SI_278 I q1.1 := frx_t (frx_v frx_r (by decide)) (frx_m (fr_261 _ _ _ _ q1 hq1).1 (by decide))
    have hLq1 : Fr SL_278 L q1.2 := frx_t frx_r (frx_m (fr_261 _ _ _ _ q1 hq1).2 (by decide))
    obtain ⟨q2, hq2, hf⟩ := Option.bind_eq_some_iff.mp hf
    cases hf; exact ⟨hIq1, hLq1⟩
  · cases hf; exact ⟨(frx_v frx_r (by decide)), frx_r⟩
def SI_279 : List Nat := [103, 104, 105, 106, 107, 108, 1000, 1025, 1026, 1027, 1028]
def SL_279 : List Nat := []
theorem frc_279_1 (n : Nat) (K0 : Int32 → Int32 → Int32 → FI → FL → Option (Int32 × FI × FL)) (hK0 : ∀ (x2 : Int32) (x3 : Int32) (x4 : Int32) (I : FI) (L : FL) (r : Int32 × FI × FL), K0 x2 x3 x4 I L = some r → Fr SI_279 I r.2.1 ∧ Fr SL_279 L r.2.2) (x2 : Int32) (x4 : Int32) (s0 : Int32) (I : FI) (L : FL) (r : Int32 × FI × FL) (hf : c_279_1 n K0 x2 x4 s0 I L = some r) : Fr SI_279 I r.2.1 ∧ Fr SL_279 L r.2.2 := by
  unfold c_279_1 at hf
  exact ⟨frx_t frx_r (hK0 x2 s0 (x4 + (1 : Int32)) I L r hf).1, frx_t frx_r (hK0 x2 s0 (x4 + (1 : Int32)) I L r hf).2⟩
theorem frc_279_0 (n : Nat) : ∀ (m : Nat) (x2 : Int32) (x3 : Int32) (x4 : Int32) (I : FI) (L : FL) (r : Int32 × FI × FL), c_279_0 n m x2 x3 x4 I L = some r → Fr SI_279 I r.2.1 ∧ Fr SL_279 L r.2.2
  | 0, x2, x3, x4, I, L, r, hf => by cases hf
  | m + 1, x2, x3, x4, I, L, r, hf => by
    unfold c_279_0 b_279_0 at hf
    have hK0 := frc_279_0 n m
    obtain ⟨q2, hq2, hf⟩ := Option.bind_eq_some_iff.mp hf
    rcases ite_some hf with ⟨hc, hf⟩ | ⟨hc, hf⟩
    · cases hf; exact ⟨frx_r, frx_r⟩
    · rcases ite_some hf with ⟨hc, hf⟩ | ⟨hc, hf⟩
      · rcases ite_some hf with ⟨hc, hf⟩ | ⟨hc, hf⟩
        · exact ⟨frx_t frx_r (frc_279_1 n _ hK0 x2 x4 x3 I L r hf).1, frx_t frx_r (frc_279_1 n _ hK0 x2 x4 x3 I L r hf).2⟩
        · rcases ite_some hf with ⟨hc, hf⟩ | ⟨hc, hf⟩
          · exact ⟨frx_t frx_r (frc_279_1 n _ hK0 x2 x4 (I 106 ((((4 : Int32) * x4) + x2).toNatClampNeg)) I L r hf).1, frx_t frx_r (frc_279_1 n _ hK0 x2 x4 (I 106 ((((4 : Int32) * x4) + x2).toNatClampNeg)) I L r hf).2⟩
          · cases hf
      · cases hf
theorem fr_279 (n : Nat) (x1 : Int32) (x2 : Int32) (I : FI) (L : FL) (r : Int32 × FI × FL) (hf : f_279 n x1 x2 I L = some r) : Fr SI_279 I r.2.1 ∧ Fr SL_279 L r.2.2 := by
  unfold f_279 at hf
  obtain ⟨q0, hq0, hf⟩ := Option.bind_eq_some_iff.mp hf
  rcases ite_some hf with ⟨hc, hf⟩ | ⟨hc, hf⟩
  · obtain ⟨q1, hq1, hf⟩ := Option.bind_eq_some_iff.mp hf
    have hIq1 : Fr SI_279 I q1.1 := frx_t (frx_v frx_r (by decide)) (frx_m (fr_261 _ _ _ _ q1 hq1).1 (by decide))
    have hLq1 : Fr SL_279 L q1.2 := frx_t frx_r (frx_m (fr_261 _ _ _ _ q1 hq1).2 (by decide))
    exact ⟨frx_t hIq1 (frc_279_0 n n x2 (0 : Int32) (0 : Int32) q1.1 q1.2 r hf).1, frx_t hLq1 (frc_279_0 n n x2 (0 : Int32) (0 : Int32) q1.1 q1.2 r hf).2⟩
  · cases hf; exact ⟨(frx_v frx_r (by decide)), frx_r⟩
def SI_281 : List Nat := [103, 104, 105, 106, 107, 108, 1000, 1025, 1026, 1027, 1028]
def SL_281 : List Nat := []
theorem fr_281 (n : Nat) (x1 : Int32) (x2 : Int32) (I : FI) (L : FL) (r : Int32 × FI × FL) (hf : f_281 n x1 x2 I L = some r) : Fr SI_281 I r.2.1 ∧ Fr SL_281 L r.2.2 := by
  unfold f_281 at hf
  obtain ⟨q0, hq0, hf⟩ := Option.bind_eq_some_iff.mp hf
  rcases ite_some hf with ⟨hc, hf⟩ | ⟨hc, hf⟩
  · obtain ⟨q1, hq1, hf⟩ := Option.bind_eq_some_iff.mp hf
    have hIq1 : Fr SI_281 I q1.1 := frx_t (frx_v frx_r (by decide)) (frx_m (fr_261 _ _ _ _ q1 hq1).1 (by decide))
    have hLq1 : Fr SL_281 L q1.2 := frx_t frx_r (frx_m (fr_261 _ _ _ _ q1 hq1).2 (by decide))
    obtain ⟨q2, hq2, hf⟩ := Option.bind_eq_some_iff.mp hf
    obtain ⟨q3, hq3, hf⟩ := Option.bind_eq_some_iff.mp hf
    cases hf; exact ⟨hIq1, hLq1⟩
  · cases hf; exact ⟨(frx_v frx_r (by decide)), frx_r⟩
def SI_282 : List Nat := [103, 104, 105, 106, 107, 108, 1000, 1025, 1026, 1027, 1028]
def SL_282 : List Nat := []
theorem frc_282_1 (n : Nat) (K0 : Int32 → Int32 → FI → FL → Option (Int32 × FI × FL)) (hK0 : ∀ (x2 : Int32) (x3 : Int32) (I : FI) (L : FL) (r : Int32 × FI × FL), K0 x2 x3 I L = some r → Fr SI_282 I r.2.1 ∧ Fr SL_282 L r.2.2) (x3 : Int32) (s0 : Int32) (s1 : Int32) (I : FI) (L : FL) (r : Int32 × FI × FL) (hf : c_282_1 n K0 x3 s0 s1 I L = some r) : Fr SI_282 I r.2.1 ∧ Fr SL_282 L r.2.2 := by
  unfold c_282_1 at hf
  exact ⟨frx_t frx_r (hK0 (s1 + s0) (x3 + (1 : Int32)) I L r hf).1, frx_t frx_r (hK0 (s1 + s0) (x3 + (1 : Int32)) I L r hf).2⟩
theorem frc_282_0 (n : Nat) : ∀ (m : Nat) (x2 : Int32) (x3 : Int32) (I : FI) (L : FL) (r : Int32 × FI × FL), c_282_0 n m x2 x3 I L = some r → Fr SI_282 I r.2.1 ∧ Fr SL_282 L r.2.2
  | 0, x2, x3, I, L, r, hf => by cases hf
  | m + 1, x2, x3, I, L, r, hf => by
    unfold c_282_0 b_282_0 at hf
    have hK0 := frc_282_0 n m
    obtain ⟨q2, hq2, hf⟩ := Option.bind_eq_some_iff.mp hf
    rcases ite_some hf with ⟨hc, hf⟩ | ⟨hc, hf⟩
    · cases hf; exact ⟨frx_r, frx_r⟩
    · rcases ite_some hf with ⟨hc, hf⟩ | ⟨hc, hf⟩
      · rcases ite_some hf with ⟨hc, hf⟩ | ⟨hc, hf⟩
        · rcases ite_some hf with ⟨hc, hf⟩ | ⟨hc, hf⟩
          · exact ⟨frx_t frx_r (frc_282_1 n _ hK0 x3 (0 : Int32) x2 I L r hf).1, frx_t frx_r (frc_282_1 n _ hK0 x3 (0 : Int32) x2 I L r hf).2⟩
          · exact ⟨frx_t frx_r (frc_282_1 n _ hK0 x3 (1 : Int32) x2 I L r hf).1, frx_t frx_r (frc_282_1 n _ hK0 x3 (1 : Int32) x2 I L r hf).2⟩
        · cases hf
      · cases hf
theorem fr_282 (n : Nat) (x1 : Int32) (I : FI) (L : FL) (r : Int32 × FI × FL) (hf : f_282 n x1 I L = some r) : Fr SI_282 I r.2.1 ∧ Fr SL_282 L r.2.2 := by
  unfold f_282 at hf
  obtain ⟨q0, hq0, hf⟩ := Option.bind_eq_some_iff.mp hf
  rcases ite_some hf with ⟨hc, hf⟩ | ⟨hc, hf⟩
  · obtain ⟨q1, hq1, hf⟩ := Option.bind_eq_some_iff.mp hf
    have hIq1 : Fr SI_282 I q1.1 := frx_t (frx_v frx_r (by decide)) (frx_m (fr_261 _ _ _ _ q1 hq1).1 (by decide))
    have hLq1 : Fr SL_282 L q1.2 := frx_t frx_r (frx_m (fr_261 _ _ _ _ q1 hq1).2 (by decide))
    exact ⟨frx_t hIq1 (frc_282_0 n n (0 : Int32) (1 : Int32) q1.1 q1.2 r hf).1, frx_t hLq1 (frc_282_0 n n (0 : Int32) (1 : Int32) q1.1 q1.2 r hf).2⟩
  · cases hf; exact ⟨(frx_v frx_r (by decide)), frx_r⟩
def SI_283 : List Nat := [103, 104, 105, 106, 107, 108, 1000, 1025, 1026, 1027, 1028]
def SL_283 : List Nat := []
theorem frc_283_0 (n : Nat) : ∀ (m : Nat) (x2 : Int32) (x3 : Int32) (I : FI) (L : FL) (r : Int32 × FI × FL), c_283_0 n m x2 x3 I L = some r → Fr SI_283 I r.2.1 ∧ Fr SL_283 L r.2.2
  | 0, x2, x3, I, L, r, hf => by cases hf
  | m + 1, x2, x3, I, L, r, hf => by
    unfold c_283_0 b_283_0 at hf
    have hK0 := frc_283_0 n m
    obtain ⟨q2, hq2, hf⟩ := Option.bind_eq_some_iff.mp hf
    rcases ite_some hf with ⟨hc, hf⟩ | ⟨hc, hf⟩
    · obtain ⟨q3, hq3, hf⟩ := Option.bind_eq_some_iff.mp hf
      cases hf; exact ⟨frx_r, frx_r⟩
    · rcases ite_some hf with ⟨hc, hf⟩ | ⟨hc, hf⟩
      · rcases ite_some hf with ⟨hc, hf⟩ | ⟨hc, hf⟩
        · exact ⟨frx_t (frx_u frx_r (by decide) (by decide)) (hK0 x2 (x3 + (1 : Int32)) (u2 I 105 x3.toNatClampNeg (I 106 ((((4 : Int32) * x2) + x3).toNatClampNeg))) L r hf).1, frx_t frx_r (hK0 x2 (x3 + (1 : Int32)) (u2 I 105 x3.toNatClampNeg (I 106 ((((4 : Int32) * x2) + x3).toNatClampNeg))) L r hf).2⟩
        · cases hf
      · cases hf
theorem fr_283 (n : Nat) (x1 : Int32) (x2 : Int32) (I : FI) (L : FL) (r : Int32 × FI × FL) (hf : f_283 n x1 x2 I L = some r) : Fr SI_283 I r.2.1 ∧ Fr SL_283 L r.2.2 := by
  unfold f_283 at hf
  obtain ⟨q0, hq0, hf⟩ := Option.bind_eq_some_iff.mp hf
  rcases ite_some hf with ⟨hc, hf⟩ | ⟨hc, hf⟩
  · obtain ⟨q1, hq1, hf⟩ := Option.bind_eq_some_iff.mp hf
    have hIq1 : Fr SI_283 I q1.1 := frx_t (frx_v frx_r (by decide)) (frx_m (fr_261 _ _ _ _ q1 hq1).1 (by decide))
    have hLq1 : Fr SL_283 L q1.2 := frx_t frx_r (frx_m (fr_261 _ _ _ _ q1 hq1).2 (by decide))
    exact ⟨frx_t hIq1 (frc_283_0 n n x2 (0 : Int32) q1.1 q1.2 r hf).1, frx_t hLq1 (frc_283_0 n n x2 (0 : Int32) q1.1 q1.2 r hf).2⟩
  · cases hf; exact ⟨(frx_v frx_r (by decide)), frx_r⟩
def SI_284 : List Nat := [103, 104, 105, 106, 107, 108, 1000, 1025, 1026, 1027, 1028]
def SL_284 : List Nat := []
theorem frc_284_0 (n : Nat) : ∀ (m : Nat) (x2 : Int32) (x3 : Int32) (I : FI) (L : FL) (r : Int32 × FI × FL), c_284_0 n m x2 x3 I L = some r → Fr SI_284 I r.2.1 ∧ Fr SL_284 L r.2.2
  | 0, x2, x3, I, L, r, hf => by cases hf
  | m + 1, x2, x3, I, L, r, hf => by
    unfold c_284_0 b_284_0 at hf
    have hK0 := frc_284_0 n m
    obtain ⟨q2, hq2, hf⟩ := Option.bind_eq_some_iff.mp hf
    rcases ite_some hf with ⟨hc, hf⟩ | ⟨hc, hf⟩
    · cases hf; exact ⟨frx_r, frx_r⟩
    · obtain ⟨q3, hq3, hf⟩ := Option.bind_eq_some_iff.mp hf
      rcases ite_some hf with ⟨hc, hf⟩ | ⟨hc, hf⟩
      · cases hf; exact ⟨frx_r, frx_r⟩
      · rcases ite_some hf with ⟨hc, hf⟩ | ⟨hc, hf⟩
        · exact ⟨frx_t frx_r (hK0 (x2 ||| ((1 : Int32) <<< ((I 107 x3.toNatClampNeg) &&& 31))) (x3 + (1 : Int32)) I L r hf).1, frx_t frx_r (hK0 (x2 ||| ((1 : Int32) <<< ((I 107 x3.toNatClampNeg) &&& 31))) (x3 + (1 : Int32)) I L r hf).2⟩
        · cases hf
theorem fr_284 (n : Nat) (x1 : Int32) (I : FI) (L : FL) (r : Int32 × FI × FL) (hf : f_284 n x1 I L = some r) : Fr SI_284 I r.2.1 ∧ Fr SL_284 L r.2.2 := by
  unfold f_284 at hf
  obtain ⟨q0, hq0, hf⟩ := Option.bind_eq_some_iff.mp hf
  rcases ite_some hf with ⟨hc, hf⟩ | ⟨hc, hf⟩
  · obtain ⟨q1, hq1, hf⟩ := Option.bind_eq_some_iff.mp hf
    have hIq1 : Fr SI_284 I q1.1 := frx_t (frx_v frx_r (by decide)) (frx_m (fr_261 _ _ _ _ q1 hq1).1 (by decide))
    have hLq1 : Fr SL_284 L q1.2 := frx_t frx_r (frx_m (fr_261 _ _ _ _ q1 hq1).2 (by decide))
    exact ⟨frx_t hIq1 (frc_284_0 n n (0 : Int32) (0 : Int32) q1.1 q1.2 r hf).1, frx_t hLq1 (frc_284_0 n n (0 : Int32) (0 : Int32) q1.1 q1.2 r hf).2⟩
  · cases hf; exact ⟨(frx_v frx_r (by decide)), frx_r⟩
def SI_285 : List Nat := [103, 104, 105, 106, 107, 108, 1000, 1025, 1026, 1027, 1028]
def SL_285 : List Nat := []
theorem frc_285_1 (n : Nat) (K0 : Int32 → Int32 → FI → FL → Option (Int32 × FI × FL)) (hK0 : ∀ (x2 : Int32) (x3 : Int32) (I : FI) (L : FL) (r : Int32 × FI × FL), K0 x2 x3 I L = some r → Fr SI_285 I r.2.1 ∧ Fr SL_285 L r.2.2) (x3 : Int32) (s0 : Int32) (s1 : Int32) (I : FI) (L : FL) (r : Int32 × FI × FL) (hf : c_285_1 n K0 x3 s0 s1 I L = some r) : Fr SI_285 I r.2.1 ∧ Fr SL_285 L r.2.2 := by
  unfold c_285_1 at hf
  exact ⟨frx_t frx_r (hK0 (s1 ||| s0) (x3 + (1 : Int32)) I L r hf).1, frx_t frx_r (hK0 (s1 ||| s0) (x3 + (1 : Int32)) I L r hf).2⟩
theorem frc_285_0 (n : Nat) : ∀ (m : Nat) (x2 : Int32) (x3 : Int32) (I : FI) (L : FL) (r : Int32 × FI × FL), c_285_0 n m x2 x3 I L = some r → Fr SI_285 I r.2.1 ∧ Fr SL_285 L r.2.2
  | 0, x2, x3, I, L, r, hf => by cases hf
  | m + 1, x2, x3, I, L, r, hf => by
    unfold c_285_0 b_285_0 at hf
    have hK0 := frc_285_0 n m
    obtain ⟨q2, hq2, hf⟩ := Option.bind_eq_some_iff.mp hf
    rcases ite_some hf with ⟨hc, hf⟩ | ⟨hc, hf⟩
    · cases hf; exact ⟨frx_r, frx_r⟩
    · obtain ⟨q3, hq3, hf⟩ := Option.bind_eq_some_iff.mp hf
      obtain ⟨q4, hq4, hf⟩ := Option.bind_eq_some_iff.mp hf
      rcases ite_some hf with ⟨hc, hf⟩ | ⟨hc, hf⟩
      · exact ⟨frx_t frx_r (frc_285_1 n _ hK0 x3 (0 : Int32) x2 I L r hf).1, frx_t frx_r (frc_285_1 n _ hK0 x3 (0 : Int32) x2 I L r hf).2⟩
      · exact ⟨frx_t frx_r (frc_285_1 n _ hK0 x3 ((1 : Int32) <<< (x3 &&& 31)) x2 I L r hf).1, frx_t frx_r (frc_285_1 n _ hK0 x3 ((1 : Int32) <<< (x3 &&& 31)) x2 I L r hf).2⟩
theorem fr_285 (n : Nat) (x1 : Int32) (I : FI) (L : FL) (r : Int32 × FI × FL) (hf : f_285 n x1 I L = some r) : Fr SI_285 I r.2.1 ∧ Fr SL_285 L r.2.2 := by
  unfold f_285 at hf
  obtain ⟨q0, hq0, hf⟩ := Option.bind_eq_some_iff.mp hf
  rcases ite_some hf with ⟨hc, hf⟩ | ⟨hc, hf⟩
  · obtain ⟨q1, hq1, hf⟩ := Option.bind_eq_some_iff.mp hf
    have hIq1 : Fr SI_285 I q1.1 := frx_t (frx_v frx_r (by decide)) (frx_m (fr_261 _ _ _ _ q1 hq1).1 (by decide))
    have hLq1 : Fr SL_285 L q1.2 := frx_t frx_r (frx_m (fr_261 _ _ _ _ q1 hq1).2 (by decide))
    exact ⟨frx_t hIq1 (frc_285_0 n n (0 : Int32) (0 : Int32) q1.1 q1.2 r hf).1, frx_t hLq1 (frc_285_0 n n (0 : Int32) (0 : Int32) q1.1 q1.2 r hf).2⟩
  · cases hf; exact ⟨(frx_v frx_r (by decide)), frx_r⟩
def SI_286 : List Nat := [103, 104, 105, 106, 107, 108, 1000, 1025, 1026, 1027, 1028]
def SL_286 : List Nat := []
theorem frc_286_2 (n : Nat) (K0 : Int32 → Int32 → Int32 → FI → FL → Option (Int32 × FI × FL)) (hK0 : ∀ (x2 : Int32) (x3 : Int32) (x4 : Int32) (I : FI) (L : FL) (r : Int32 × FI × FL), K0 x2 x3 x4 I L = some r → Fr SI_286 I r.2.1 ∧ Fr SL_286 L r.2.2) (x2 : Int32) (x4 : Int32) (s0 : Int32) (I : FI) (L : FL) (r : Int32 × FI × FL) (hf : c_286_2 n K0 x2 x4 s0 I L = some r) : Fr SI_286 I r.2.1 ∧ Fr SL_286 L r.2.2 := by
  unfold c_286_2 at hf
  exact ⟨frx_t frx_r (hK0 x2 s0 (x4 + (1 : Int32)) I L r hf).1, frx_t frx_r (hK0 x2 s0 (x4 + (1 : Int32)) I L r hf).2⟩
theorem frc_286_1 (n : Nat) (K0 : Int32 → Int32 → Int32 → FI → FL → Option (Int32 × FI × FL)) (hK0 : ∀ (x2 : Int32) (x3 : Int32) (x4 : Int32) (I : FI) (L : FL) (r : Int32 × FI × FL), K0 x2 x3 x4 I L = some r → Fr SI_286 I r.2.1 ∧ Fr SL_286 L r.2.2) (x2 : Int32) (x3 : Int32) (x4 : Int32) (I : FI) (L : FL) (r : Int32 × FI × FL) (hf : c_286_1 n K0 x2 x3 x4 I L = some r) : Fr SI_286 I r.2.1 ∧ Fr SL_286 L r.2.2 := by
  unfold c_286_1 at hf
  exact ⟨frx_t frx_r (frc_286_2 n _ hK0 x2 x4 x3 I L r hf).1, frx_t frx_r (frc_286_2 n _ hK0 x2 x4 x3 I L r hf).2⟩
theorem frc_286_0 (n : Nat) : ∀ (m : Nat) (x2 : Int32) (x3 : Int32) (x4 : Int32) (I : FI) (L : FL) (r : Int32 × FI × FL), c_286_0 n m x2 x3 x4 I L = some r → Fr SI_286 I r.2.1 ∧ Fr SL_286 L r.2.2
  | 0, x2, x3, x4, I, L, r, hf => by cases hf
  | m + 1, x2, x3, x4, I, L, r, hf => by
    unfold c_286_0 b_286_0 at hf
    have hK0 := frc_286_0 n m
    obtain ⟨q2, hq2, hf⟩ := Option.bind_eq_some_iff.mp hf
    rcases ite_some hf with ⟨hc, hf⟩ | ⟨hc, hf⟩
    · cases hf; exact ⟨frx_r, frx_r⟩
    · rcases ite_some hf with ⟨hc, hf⟩ | ⟨hc, hf⟩
      · rcases ite_some hf with ⟨hc, hf⟩ | ⟨hc, hf⟩
        · exact ⟨frx_t frx_r (frc_286_1 n _ hK0 x2 x3 x4 I L r hf).1, frx_t frx_r (frc_286_1 n _ hK0 x2 x3 x4 I L r hf).2⟩
        · rcases ite_some hf with ⟨hc, hf⟩ | ⟨hc, hf⟩
          · rcases ite_some hf with ⟨hc, hf⟩ | ⟨hc, hf⟩
            · rcases ite_some hf with ⟨hc, hf⟩ | ⟨hc, hf⟩
              · exact ⟨frx_t frx_r (frc_286_1 n _ hK0 x2 x3 x4 I L r hf).1, frx_t frx_r (frc_286_1 n _ hK0 x2 x3 x4 I L r hf).2⟩
              · rcases ite_some hf with ⟨hc, hf⟩ | ⟨hc, hf⟩
                · rcases ite_some hf with ⟨hc, hf⟩ | ⟨hc, hf⟩
                  · exact ⟨frx_t frx_r (frc_286_2 n _ hK0 x2 x4 ((I 104 x2.toNatClampNeg) - (I 106 ((((4 : Int32) * x4) + x2).toNatClampNeg))) I L r hf).1, frx_t frx_r (frc_286_2 n _ hK0 x2 x4 ((I 104 x2.toNatClampNeg) - (I 106 ((((4 : Int32) * x4) + x2).toNatClampNeg))) I L r hf).2⟩
                  · cases hf
                · cases hf
            · cases hf
          · cases hf
      · cases hf
theorem fr_286 (n : Nat) (x1 : Int32) (x2 : Int32) (I : FI) (L : FL) (r : Int32 × FI × FL) (hf : f_286 n x1 x2 I L = some r) : Fr SI_286 I r.2.1 ∧ Fr SL_286 L r.2.2 := by
  unfold f_286 at hf
  obtain ⟨q0, hq0, hf⟩ := Option.bind_eq_some_iff.mp hf
  rcases ite_some hf with ⟨hc, hf⟩ | ⟨hc, hf⟩
  · obtain ⟨q1, hq1, hf⟩ := Option.bind_eq_some_iff.mp hf
    have hIq1 : Fr SI_286 I q1.1 := frx_t (frx_v frx_r (by decide)) (frx_m (fr_261 _ _ _ _ q1 hq1).1 (by decide))
    have hLq1 : Fr SL_286 L q1.2 := frx_t frx_r (frx_m (fr_261 _ _ _ _ q1 hq1).2 (by decide))
    exact ⟨frx_t hIq1 (frc_286_0 n n x2 (100000 : Int32) (0 : Int32) q1.1 q1.2 r hf).1, frx_t hLq1 (frc_286_0 n n x2 (100000 : Int32) (0 : Int32) q1.1 q1.2 r hf).2⟩
  · cases hf; exact ⟨(frx_v frx_r (by decide)), frx_r⟩
def SI_288 : List Nat := [105]
def SL_288 : List Nat := []
theorem frc_288_0 (n : Nat) : ∀ (m : Nat) (x2 : Int32) (x3 : Int32) (I : FI) (L : FL) (r : FI × FL), c_288_0 n m x2 x3 I L = some r → Fr SI_288 I r.1 ∧ Fr SL_288 L r.2
  | 0, x2, x3, I, L, r, hf => by cases hf
  | m + 1, x2, x3, I, L, r, hf => by
    unfold c_288_0 b_288_0 at hf
    have hK0 := frc_288_0 n m
    rcases ite_some hf with ⟨hc, hf⟩ | ⟨hc, hf⟩
    · cases hf; exact ⟨frx_r, frx_r⟩
    · rcases ite_some hf with ⟨hc, hf⟩ | ⟨hc, hf⟩
      · exact ⟨frx_t (frx_u frx_r (by decide) (by decide)) (hK0 (x2 / (8 : Int32)) (x3 + (-1 : Int32)) (u2 I 105 x3.toNatClampNeg (x2 - x2 / (8 : Int32) * (8 : Int32))) L r hf).1, frx_t frx_r (hK0 (x2 / (8 : Int32)) (x3 + (-1 : Int32)) (u2 I 105 x3.toNatClampNeg (x2 - x2 / (8 : Int32) * (8 : Int32))) L r hf).2⟩
      · cases hf
theorem fr_288 (n : Nat) (x1 : Int32) (I : FI) (L : FL) (r : FI × FL) (hf : f_288 n x1 I L = some r) : Fr SI_288 I r.1 ∧ Fr SL_288 L r.2 := by
  unfold f_288 at hf
  obtain ⟨q0, hq0, hf⟩ := Option.bind_eq_some_iff.mp hf
  exact ⟨frx_t frx_r (frc_288_0 n n x1 (q0 - (1 : Int32)) I L r hf).1, frx_t frx_r (frc_288_0 n n x1 (q0 - (1 : Int32)) I L r hf).2⟩
def SI_291 : List Nat := [105]
def SL_291 : List Nat := []
theorem fr_291 (n : Nat) (x1 : Int32) (x2 : Int32) (x3 : Int32) (I : FI) (L : FL) (r : Int32 × FI × FL) (hf : f_291 n x1 x2 x3 I L = some r) : Fr SI_291 I r.2.1 ∧ Fr SL_291 L r.2.2 := by
  unfold f_291 at hf
  obtain ⟨q0, hq0, hf⟩ := Option.bind_eq_some_iff.mp hf
  obtain ⟨q1, hq1, hf⟩ := Option.bind_eq_some_iff.mp hf
  rcases ite_some hf with ⟨hc, hf⟩ | ⟨hc, hf⟩
  · obtain ⟨q2, hq2, hf⟩ := Option.bind_eq_some_iff.mp hf
    have hIq2 : Fr SI_291 I q2.1 := frx_t frx_r (frx_m (fr_288 _ _ _ _ q2 hq2).1 (by decide))
    have hLq2 : Fr SL_291 L q2.2 := frx_t frx_r (frx_m (fr_288 _ _ _ _ q2 hq2).2 (by decide))
    obtain ⟨q3, hq3, hf⟩ := Option.bind_eq_some_iff.mp hf
    have hIq3 : Fr SI_291 I q3.1 := frx_t hIq2 (frx_m (fr_253 _ _ _ _ _ _ q3 hq3).1 (by decide))
    have hLq3 : Fr SL_291 L q3.2 := frx_t hLq2 (frx_m (fr_253 _ _ _ _ _ _ q3 hq3).2 (by decide))
    obtain ⟨q4, hq4, hf⟩ := Option.bind_eq_some_iff.mp hf
    rcases ite_some hf with ⟨hc, hf⟩ | ⟨hc, hf⟩
    · cases hf; exact ⟨hIq3, hLq3⟩
    · obtain ⟨q5, hq5, hf⟩ := Option.bind_eq_some_iff.mp hf
      rcases ite_some hf with ⟨hc, hf⟩ | ⟨hc, hf⟩
      · rcases ite_some hf with ⟨hc, hf⟩ | ⟨hc, hf⟩
        · cases hf; exact ⟨hIq3, hLq3⟩
        · cases hf; exact ⟨hIq3, hLq3⟩
      · cases hf
  · cases hf; exact ⟨frx_r, frx_r⟩
def SI_292 : List Nat := [105]
def SL_292 : List Nat := []
theorem frc_292_0 (n : Nat) : ∀ (m : Nat) (x1 : Int32) (x2 : Int32) (x3 : Int32) (I : FI) (L : FL) (r : Int32 × FI × FL), c_292_0 n m x1 x2 x3 I L = some r → Fr SI_292 I r.2.1 ∧ Fr SL_292 L r.2.2
  | 0, x1, x2, x3, I, L, r, hf => by cases hf
  | m + 1, x1, x2, x3, I, L, r, hf => by
    unfold c_292_0 b_292_0 at hf
    have hK0 := frc_292_0 n m
    obtain ⟨q0, hq0, hf⟩ := Option.bind_eq_some_iff.mp hf
    rcases ite_some hf with ⟨hc, hf⟩ | ⟨hc, hf⟩
    · cases hf; exact ⟨frx_r, frx_r⟩
    · obtain ⟨q1, hq1, hf⟩ := Option.bind_eq_some_iff.mp hf
      have hIq1 : Fr SI_292 I q1.2.1 := frx_t frx_r (frx_m (fr_291 _ _ _ _ _ _ q1 hq1).1 (by decide))
      have hLq1 : Fr SL_292 L q1.2.2 := frx_t frx_r (frx_m (fr_291 _ _ _ _ _ _ q1 hq1).2 (by decide))
      rcases ite_some hf with ⟨hc, hf⟩ | ⟨hc, hf⟩
      · exact ⟨frx_t hIq1 (hK0 x1 x2 (x3 + (1 : Int32)) q1.2.1 q1.2.2 r hf).1, frx_t hLq1 (hK0 x1 x2 (x3 + (1 : Int32)) q1.2.1 q1.2.2 r hf).2⟩
      · cases hf; exact ⟨hIq1, hLq1⟩
theorem fr_292 (n : Nat) (x1 : Int32) (x2 : Int32) (I : FI) (L : FL) (r : Int32 × FI × FL) (hf : f_292 n x1 x2 I L = some r) : Fr SI_292 I r.2.1 ∧ Fr SL_292 L r.2.2 := by
  unfold f_292 at hf
  exact ⟨frx_t frx_r (frc_292_0 n n x1 x2 (0 : Int32) I L r hf).1, frx_t frx_r (frc_292_0 n n x1 x2 (0 : Int32) I L r hf).2⟩
def SI_294 : List Nat := [105]
def SL_294 : List Nat := []
theorem frc_294_1 (n : Nat) (K0 : Int32 → Int32 → FI → FL → Option (Int32 × FI × FL)) (hK0 : ∀ (x2 : Int32) (x3 : Int32) (I : FI) (L : FL) (r : Int32 × FI × FL), K0 x2 x3 I L = some r → Fr SI_294 I r.2.1 ∧ Fr SL_294 L r.2.2) (x2 : Int32) (x3 : Int32) (s0 : Int32) (s1 : Int32) (I : FI) (L : FL) (r : Int32 × FI × FL) (hf : c_294_1 n K0 x2 x3 s0 s1 I L = some r) : Fr SI_294 I r.2.1 ∧ Fr SL_294 L r.2.2 := by
  unfold c_294_1 at hf
  rcases ite_some hf with ⟨hc, hf⟩ | ⟨hc, hf⟩
  · exact ⟨frx_t frx_r (hK0 x2 (x3 + (1 : Int32)) I L r hf).1, frx_t frx_r (hK0 x2 (x3 + (1 : Int32)) I L r hf).2⟩
  · cases hf; exact ⟨frx_r, frx_r⟩
theorem frc_294_0 (n : Nat) : ∀ (m : Nat) (x2 : Int32) (x3 : Int32) (I : FI) (L : FL) (r : Int32 × FI × FL), c_294_0 n m x2 x3 I L = some r → Fr SI_294 I r.2.1 ∧ Fr SL_294 L r.2.2
  | 0, x2, x3, I, L, r, hf => by cases hf
  | m + 1, x2, x3, I, L, r, hf => by
    unfold c_294_0 b_294_0 at hf
    have hK0 := frc_294_0 n m
    obtain ⟨q1, hq1, hf⟩ := Option.bind_eq_some_iff.mp hf
    rcases ite_some hf with ⟨hc, hf⟩ | ⟨hc, hf⟩
    · cases hf; exact ⟨frx_r, frx_r⟩
    · rcases ite_some hf with ⟨hc, hf⟩ | ⟨hc, hf⟩
      · obtain ⟨q2, hq2, hf⟩ := Option.bind_eq_some_iff.mp hf
        rcases ite_some hf with ⟨hc, hf⟩ | ⟨hc, hf⟩
        · exact ⟨frx_t frx_r (frc_294_1 n _ hK0 x2 x3 (0 : Int32) (I 105 x3.toNatClampNeg) I L r hf).1, frx_t frx_r (frc_294_1 n _ hK0 x2 x3 (0 : Int32) (I 105 x3.toNatClampNeg) I L r hf).2⟩
        · rcases ite_some hf with ⟨hc, hf⟩ | ⟨hc, hf⟩
          · exact ⟨frx_t frx_r (frc_294_1 n _ hK0 x2 x3 (I 104 x3.toNatClampNeg) (I 105 x3.toNatClampNeg) I L r hf).1, frx_t frx_r (frc_294_1 n _ hK0 x2 x3 (I 104 x3.toNatClampNeg) (I 105 x3.toNatClampNeg) I L r hf).2⟩
          · cases hf
      · cases hf
theorem fr_294 (n : Nat) (x1 : Int32) (x2 : Int32) (I : FI) (L : FL) (r : Int32 × FI × FL) (hf : f_294 n x1 x2 I L = some r) : Fr SI_294 I r.2.1 ∧ Fr SL_294 L r.2.2 := by
  unfold f_294 at hf
  obtain ⟨q0, hq0, hf⟩ := Option.bind_eq_some_iff.mp hf
  have hIq0 : Fr SI_294 I q0.1 := frx_t frx_r (frx_m (fr_288 _ _ _ _ q0 hq0).1 (by decide))
  have hLq0 : Fr SL_294 L q0.2 := frx_t frx_r (frx_m (fr_288 _ _ _ _ q0 hq0).2 (by decide))
  exact ⟨frx_t hIq0 (frc_294_0 n n x2 (0 : Int32) q0.1 q0.2 r hf).1, frx_t hLq0 (frc_294_0 n n x2 (0 : Int32) q0.1 q0.2 r hf).2⟩
def SI_295 : List Nat := [105, 109]
def SL_295 : List Nat := []
theorem frc_295_3 (n : Nat) (K1 : Int32 → Int32 → FI → FL → Option (FI × FL)) (K2 : Int32 → Int32 → Int32 → FI → FL → Option (FI × FL)) (hK1 : ∀ (x1 : Int32) (x2 : Int32) (I : FI) (L : FL) (r : FI × FL), K1 x1 x2 I L = some r → Fr SI_295 I r.1 ∧ Fr SL_295 L r.2) (hK2 : ∀ (x1 : Int32) (x2 : Int32) (x3 : Int32) (I : FI) (L : FL) (r : FI × FL), K2 x1 x2 x3 I L = some r → Fr SI_295 I r.1 ∧ Fr SL_295 L r.2) (x1 : Int32) (x2 : Int32) (x3 : Int32) (I : FI) (L : FL) (r : FI × FL) (hf : c_295_3 n K1 K2 x1 x2 x3 I L = some r) : Fr SI_295 I r.1 ∧ Fr SL_295 L r.2 := by
  unfold c_295_3 at hf
  exact ⟨frx_t frx_r (hK2 x1 x2 (x3 + (1 : Int32)) I L r hf).1, frx_t frx_r (hK2 x1 x2 (x3 + (1 : Int32)) I L r hf).2⟩
theorem frc_295_2 (n : Nat) (K1 : Int32 → Int32 → FI → FL → Option (FI × FL)) (hK1 : ∀ (x1 : Int32) (x2 : Int32) (I : FI) (L : FL) (r : FI × FL), K1 x1 x2 I L = some r → Fr SI_295 I r.1 ∧ Fr SL_295 L r.2) : ∀ (m : Nat) (x1 : Int32) (x2 : Int32) (x3 : Int32) (I : FI) (L : FL) (r : FI × FL), c_295_2 n K1 m x1 x2 x3 I L = some r → Fr SI_295 I r.1 ∧ Fr SL_295 L r.2
  | 0, x1, x2, x3, I, L, r, hf => by cases hf
  | m + 1, x1, x2, x3, I, L, r, hf => by
    unfold c_295_2 b_295_2 at hf
    have hK2 := frc_295_2 n K1 hK1 m
    obtain ⟨q1, hq1, hf⟩ := Option.bind_eq_some_iff.mp hf
    rcases ite_some hf with ⟨hc, hf⟩ | ⟨hc, hf⟩
    · exact ⟨frx_t frx_r (hK1 x1 x2 I L r hf).1, frx_t frx_r (hK1 x1 x2 I L r hf).2⟩
    · rcases ite_some hf with ⟨hc, hf⟩ | ⟨hc, hf⟩
      · rcases ite_some hf with ⟨hc, hf⟩ | ⟨hc, hf⟩
        · exact ⟨frx_t frx_r (frc_295_3 n _ _ hK1 hK2 x1 x2 x3 I L r hf).1, frx_t frx_r (frc_295_3 n _ _ hK1 hK2 x1 x2 x3 I L r hf).2⟩
        · obtain ⟨q2, hq2, hf⟩ := Option.bind_eq_some_iff.mp hf
          have hIq2 : Fr SI_295 I q2.2.1 := frx_t frx_r (frx_m (fr_292 _ _ _ _ _ q2 hq2).1 (by decide))
          have hLq2 : Fr SL_295 L q2.2.2 := frx_t frx_r (frx_m (fr_292 _ _ _ _ _ q2 hq2).2 (by decide))
          rcases ite_some hf with ⟨hc, hf⟩ | ⟨hc, hf⟩
          · rcases ite_some hf with ⟨hc, hf⟩ | ⟨hc, hf⟩
            · exact ⟨frx_t (frx_u hIq2 (by decide) (by decide)) (frc_295_3 n _ _ hK1 hK2 x1 (1 : Int32) x3 (u2 q2.2.1 109 x3.toNatClampNeg (vp_nar .boolean (0 : Int32))) q2.2.2 r hf).1, frx_t hLq2 (frc_295_3 n _ _ hK1 hK2 x1 (1 : Int32) x3 (u2 q2.2.1 109 x3.toNatClampNeg (vp_nar .boolean (0 : Int32))) q2.2.2 r hf).2⟩
            · cases hf
          · exact ⟨frx_t hIq2 (frc_295_3 n _ _ hK1 hK2 x1 x2 x3 q2.2.1 q2.2.2 r hf).1, frx_t hLq2 (frc_295_3 n _ _ hK1 hK2 x1 x2 x3 q2.2.1 q2.2.2 r hf).2⟩
      · cases hf
theorem frc_295_1 (n : Nat) : ∀ (m : Nat) (x1 : Int32) (x2 : Int32) (I : FI) (L : FL) (r : FI × FL), c_295_1 n m x1 x2 I L = some r → Fr SI_295 I r.1 ∧ Fr SL_295 L r.2
  | 0, x1, x2, I, L, r, hf => by cases hf
  | m + 1, x1, x2, I, L, r, hf => by
    unfold c_295_1 b_295_1 at hf
    have hK1 := frc_295_1 n m
    rcases ite_some hf with ⟨hc, hf⟩ | ⟨hc, hf⟩
    · cases hf; exact ⟨frx_r, frx_r⟩
    · exact ⟨frx_t frx_r (frc_295_2 n _ hK1 n x1 (0 : Int32) (0 : Int32) I L r hf).1, frx_t frx_r (frc_295_2 n _ hK1 n x1 (0 : Int32) (0 : Int32) I L r hf).2⟩
theorem frc_295_0 (n : Nat) : ∀ (m : Nat) (x1 : Int32) (x2 : Int32) (I : FI) (L : FL) (r : FI × FL), c_295_0 n m x1 x2 I L = some r → Fr SI_295 I r.1 ∧ Fr SL_295 L r.2
  | 0, x1, x2, I, L, r, hf => by cases hf
  | m + 1, x1, x2, I, L, r, hf => by
    unfold c_295_0 b_295_0 at hf
    have hK0 := frc_295_0 n m
    obtain ⟨q0, hq0, hf⟩ := Option.bind_eq_some_iff.mp hf
    rcases ite_some hf with ⟨hc, hf⟩ | ⟨hc, hf⟩
    · exact ⟨frx_t frx_r (frc_295_1 n n x1 (1 : Int32) I L r hf).1, frx_t frx_r (frc_295_1 n n x1 (1 : Int32) I L r hf).2⟩
    · obtain ⟨q3, hq3, hf⟩ := Option.bind_eq_some_iff.mp hf
      have hIq3 : Fr SI_295 I q3.2.1 := frx_t frx_r (frx_m (fr_294 _ _ _ _ _ q3 hq3).1 (by decide))
      have hLq3 : Fr SL_295 L q3.2.2 := frx_t frx_r (frx_m (fr_294 _ _ _ _ _ q3 hq3).2 (by decide))
      rcases ite_some hf with ⟨hc, hf⟩ | ⟨hc, hf⟩
      · exact ⟨frx_t (frx_u hIq3 (by decide) (by decide)) (hK0 x1 (x2 + (1 : Int32)) (u2 q3.2.1 109 x2.toNatClampNeg (vp_nar .boolean q3.1)) q3.2.2 r hf).1, frx_t hLq3 (hK0 x1 (x2 + (1 : Int32)) (u2 q3.2.1 109 x2.toNatClampNeg (vp_nar .boolean q3.1)) q3.2.2 r hf).2⟩
      · cases hf
theorem fr_295 (n : Nat) (x1 : Int32) (I : FI) (L : FL) (r : FI × FL) (hf : f_295 n x1 I L = some r) : Fr SI_295 I r.1 ∧ Fr SL_295 L r.2 := by
  unfold f_295 at hf
  exact ⟨frx_t frx_r (frc_295_0 n n x1 (0 : Int32) I L r hf).1, frx_t frx_r (frc_295_0 n n x1 (0 : Int32) I L r hf).2⟩
def SI_296 : List Nat := [105]
def SL_296 : List Nat := []
theorem frc_296_0 (n : Nat) : ∀ (m : Nat) (x1 : Int32) (x2 : Int32) (x3 : Int32) (I : FI) (L : FL) (r : Int32 × FI × FL), c_296_0 n m x1 x2 x3 I L = some r → Fr SI_296 I r.2.1 ∧ Fr SL_296 L r.2.2
  | 0, x1, x2, x3, I, L, r, hf => by cases hf
  | m + 1, x1, x2, x3, I, L, r, hf => by
    unfold c_296_0 b_296_0 at hf
    have hK0 := frc_296_0 n m
    obtain ⟨q0, hq0, hf⟩ := Option.bind_eq_some_iff.mp hf
    rcases ite_some hf with ⟨hc, hf⟩ | ⟨hc, hf⟩
    · obtain ⟨q1, hq1, hf⟩ := Option.bind_eq_some_iff.mp hf
      have hIq1 : Fr SI_296 I q1.1 := frx_t frx_r (frx_m (fr_253 _ _ _ _ _ _ q1 hq1).1 (by decide))
      have hLq1 : Fr SL_296 L q1.2 := frx_t frx_r (frx_m (fr_253 _ _ _ _ _ _ q1 hq1).2 (by decide))
      obtain ⟨q2, hq2, hf⟩ := Option.bind_eq_some_iff.mp hf
      cases hf; exact ⟨hIq1, hLq1⟩
    · rcases ite_some hf with ⟨hc, hf⟩ | ⟨hc, hf⟩
      · exact ⟨frx_t (frx_u frx_r (by decide) (by decide)) (hK0 x1 x2 (x3 + (1 : Int32)) (u2 I 105 x3.toNatClampNeg (0 : Int32)) L r hf).1, frx_t frx_r (hK0 x1 x2 (x3 + (1 : Int32)) (u2 I 105 x3.toNatClampNeg (0 : Int32)) L r hf).2⟩
      · cases hf
theorem fr_296 (n : Nat) (x1 : Int32) (x2 : Int32) (I : FI) (L : FL) (r : Int32 × FI × FL) (hf : f_296 n x1 x2 I L = some r) : Fr SI_296 I r.2.1 ∧ Fr SL_296 L r.2.2 := by
  unfold f_296 at hf
  exact ⟨frx_t frx_r (frc_296_0 n n x1 x2 (0 : Int32) I L r hf).1, frx_t frx_r (frc_296_0 n n x1 x2 (0 : Int32) I L r hf).2⟩
def SI_297 : List Nat := [105, 109]
def SL_297 : List Nat := []
theorem fr_297 (n : Nat) (x1 : Int32) (x2 : Int32) (I : FI) (L : FL) (r : Int32 × FI × FL) (hf : f_297 n x1 x2 I L = some r) : Fr SI_297 I r.2.1 ∧ Fr SL_297 L r.2.2 := by
  unfold f_297 at hf
  obtain ⟨q0, hq0, hf⟩ := Option.bind_eq_some_iff.mp hf
  rcases ite_some hf with ⟨hc, hf⟩ | ⟨hc, hf⟩
  · obtain ⟨q1, hq1, hf⟩ := Option.bind_eq_some_iff.mp hf
    have hIq1 : Fr SI_297 I q1.1 := frx_t frx_r (frx_m (fr_295 _ _ _ _ q1 hq1).1 (by decide))
    have hLq1 : Fr SL_297 L q1.2 := frx_t frx_r (frx_m (fr_295 _ _ _ _ q1 hq1).2 (by decide))
    obtain ⟨q2, hq2, hf⟩ := Option.bind_eq_some_iff.mp hf
    have hIq2 : Fr SI_297 I q2.2.1 := frx_t hIq1 (frx_m (fr_296 _ _ _ _ _ q2 hq2).1 (by decide))
    have hLq2 : Fr SL_297 L q2.2.2 := frx_t hLq1 (frx_m (fr_296 _ _ _ _ _ q2 hq2).2 (by decide))
    rcases ite_some hf with ⟨hc, hf⟩ | ⟨hc, hf⟩
    · rcases ite_some hf with ⟨hc, hf⟩ | ⟨hc, hf⟩
      · cases hf; exact ⟨hIq2, hLq2⟩
      · cases hf
    · cases hf
  · cases hf; exact ⟨frx_r, frx_r⟩
def SI_299 : List Nat := [104, 105, 109, 1000, 1025, 1026, 1027, 1028]
def SL_299 : List Nat := []
theorem fr_299 (n : Nat) (x1 : Int32) (I : FI) (L : FL) (r : Int32 × FI × FL) (hf : f_299 n x1 I L = some r) : Fr SI_299 I r.2.1 ∧ Fr SL_299 L r.2.2 := by
  unfold f_299 at hf
  obtain ⟨q0, hq0, hf⟩ := Option.bind_eq_some_iff.mp hf
  rcases ite_some hf with ⟨hc, hf⟩ | ⟨hc, hf⟩
  · obtain ⟨q1, hq1, hf⟩ := Option.bind_eq_some_iff.mp hf
    have hIq1 : Fr SI_299 I q1.1 := frx_t (frx_v frx_r (by decide)) (frx_m (fr_252 _ _ _ q1 hq1).1 (by decide))
    have hLq1 : Fr SL_299 L q1.2 := frx_t frx_r (frx_m (fr_252 _ _ _ q1 hq1).2 (by decide))
    obtain ⟨q2, hq2, hf⟩ := Option.bind_eq_some_iff.mp hf
    obtain ⟨q3, hq3, hf⟩ := Option.bind_eq_some_iff.mp hf
    have hIq3 : Fr SI_299 I q3.2.1 := frx_t hIq1 (frx_m (fr_297 _ _ _ _ _ q3 hq3).1 (by decide))
    have hLq3 : Fr SL_299 L q3.2.2 := frx_t hLq1 (frx_m (fr_297 _ _ _ _ _ q3 hq3).2 (by decide))
    rcases ite_some hf with ⟨hc, hf⟩ | ⟨hc, hf⟩
    · cases hf; exact ⟨hIq3, hLq3⟩
    · cases hf; exact ⟨hIq3, hLq3⟩
  · cases hf; exact ⟨(frx_v frx_r (by decide)), frx_r⟩
def SI_300 : List Nat := [104, 105, 109, 1000, 1025, 1026, 1027, 1028]
def SL_300 : List Nat := []
theorem frc_300_1 (n : Nat) (K0 : Int32 → Int32 → FI → FL → Option (Int32 × FI × FL)) (hK0 : ∀ (x1 : Int32) (x2 : Int32) (I : FI) (L : FL) (r : Int32 × FI × FL), K0 x1 x2 I L = some r → Fr SI_300 I r.2.1 ∧ Fr SL_300 L r.2.2) (x2 : Int32) (s0 : Int32) (s1 : Int32) (I : FI) (L : FL) (r : Int32 × FI × FL) (hf : c_300_1 n K0 x2 s0 s1 I L = some r) : Fr SI_300 I r.2.1 ∧ Fr SL_300 L r.2.2 := by
  unfold c_300_1 at hf
  exact ⟨frx_t frx_r (hK0 (s1 + s0) (x2 + (1 : Int32)) I L r hf).1, frx_t frx_r (hK0 (s1 + s0) (x2 + (1 : Int32)) I L r hf).2⟩
theorem frc_300_0 (n : Nat) : ∀ (m : Nat) (x1 : Int32) (x2 : Int32) (I : FI) (L : FL) (r : Int32 × FI × FL), c_300_0 n m x1 x2 I L = some r → Fr SI_300 I r.2.1 ∧ Fr SL_300 L r.2.2
  | 0, x1, x2, I, L, r, hf => by cases hf
  | m + 1, x1, x2, I, L, r, hf => by
    unfold c_300_0 b_300_0 at hf
    have hK0 := frc_300_0 n m
    obtain ⟨q5, hq5, hf⟩ := Option.bind_eq_some_iff.mp hf
    rcases ite_some hf with ⟨hc, hf⟩ | ⟨hc, hf⟩
    · cases hf; exact ⟨frx_r, frx_r⟩
    · rcases ite_some hf with ⟨hc, hf⟩ | ⟨hc, hf⟩
      · rcases ite_some hf with ⟨hc, hf⟩ | ⟨hc, hf⟩
        · exact ⟨frx_t frx_r (frc_300_1 n _ hK0 x2 (0 : Int32) x1 I L r hf).1, frx_t frx_r (frc_300_1 n _ hK0 x2 (0 : Int32) x1 I L r hf).2⟩
        · exact ⟨frx_t frx_r (frc_300_1 n _ hK0 x2 (1 : Int32) x1 I L r hf).1, frx_t frx_r (frc_300_1 n _ hK0 x2 (1 : Int32) x1 I L r hf).2⟩
      · cases hf
theorem fr_300 (n : Nat) (I : FI) (L : FL) (r : Int32 × FI × FL) (hf : f_300 n I L = some r) : Fr SI_300 I r.2.1 ∧ Fr SL_300 L r.2.2 := by
  unfold f_300 at hf
  obtain ⟨q0, hq0, hf⟩ := Option.bind_eq_some_iff.mp hf
  rcases ite_some hf with ⟨hc, hf⟩ | ⟨hc, hf⟩
  · obtain ⟨q1, hq1, hf⟩ := Option.bind_eq_some_iff.mp hf
    rcases ite_some hf with ⟨hc, hf⟩ | ⟨hc, hf⟩
    · obtain ⟨q2, hq2, hf⟩ := Option.bind_eq_some_iff.mp hf
      have hIq2 : Fr SI_300 I q2.1 := frx_t (frx_v frx_r (by decide)) (frx_m (fr_252 _ _ _ q2 hq2).1 (by decide))
      have hLq2 : Fr SL_300 L q2.2 := frx_t frx_r (frx_m (fr_252 _ _ _ q2 hq2).2 (by decide))
      obtain ⟨q3, hq3, hf⟩ := Option.bind_eq_some_iff.mp hf
      obtain ⟨q4, hq4, hf⟩ := Option.bind_eq_some_iff.mp hf
      have hIq4 : Fr SI_300 I q4.1 := frx_t hIq2 (frx_m (fr_295 _ _ _ _ q4 hq4).1 (by decide))
      have hLq4 : Fr SL_300 L q4.2 := frx_t hLq2 (frx_m (fr_295 _ _ _ _ q4 hq4).2 (by decide))
      exact ⟨frx_t hIq4 (frc_300_0 n n (0 : Int32) (0 : Int32) q4.1 q4.2 r hf).1, frx_t hLq4 (frc_300_0 n n (0 : Int32) (0 : Int32) q4.1 q4.2 r hf).2⟩
    · cases hf; exact ⟨(frx_v frx_r (by decide)), frx_r⟩
  · cases hf; exact ⟨(frx_v frx_r (by decide)), frx_r⟩
def SI_301 : List Nat := [104, 105, 109, 1000, 1025, 1026, 1027, 1028]
def SL_301 : List Nat := []
theorem frc_301_0 (n : Nat) : ∀ (m : Nat) (x1 : Int32) (x2 : Int32) (I : FI) (L : FL) (r : Int32 × FI × FL), c_301_0 n m x1 x2 I L = some r → Fr SI_301 I r.2.1 ∧ Fr SL_301 L r.2.2
  | 0, x1, x2, I, L, r, hf => by cases hf
  | m + 1, x1, x2, I, L, r, hf => by
    unfold c_301_0 b_301_0 at hf
    have hK0 := frc_301_0 n m
    obtain ⟨q8, hq8, hf⟩ := Option.bind_eq_some_iff.mp hf
    rcases ite_some hf with ⟨hc, hf⟩ | ⟨hc, hf⟩
    · cases hf; exact ⟨frx_r, frx_r⟩
    · obtain ⟨q9, hq9, hf⟩ := Option.bind_eq_some_iff.mp hf
      obtain ⟨q10, hq10, hf⟩ := Option.bind_eq_some_iff.mp hf
      have hIq10 : Fr SI_301 I q10.2.1 := frx_t frx_r (frx_m (fr_291 _ _ _ _ _ _ q10 hq10).1 (by decide))
      have hLq10 : Fr SL_301 L q10.2.2 := frx_t frx_r (frx_m (fr_291 _ _ _ _ _ _ q10 hq10).2 (by decide))
      rcases ite_some hf with ⟨hc, hf⟩ | ⟨hc, hf⟩
      · exact ⟨frx_t hIq10 (hK0 x1 (x2 + (1 : Int32)) q10.2.1 q10.2.2 r hf).1, frx_t hLq10 (hK0 x1 (x2 + (1 : Int32)) q10.2.1 q10.2.2 r hf).2⟩
      · cases hf; exact ⟨hIq10, hLq10⟩
theorem fr_301 (n : Nat) (I : FI) (L : FL) (r : Int32 × FI × FL) (hf : f_301 n I L = some r) : Fr SI_301 I r.2.1 ∧ Fr SL_301 L r.2.2 := by
  unfold f_301 at hf
  obtain ⟨q0, hq0, hf⟩ := Option.bind_eq_some_iff.mp hf
  rcases ite_some hf with ⟨hc, hf⟩ | ⟨hc, hf⟩
  · obtain ⟨q1, hq1, hf⟩ := Option.bind_eq_some_iff.mp hf
    have hIq1 : Fr SI_301 I q1.1 := frx_t (frx_v frx_r (by decide)) (frx_m (fr_252 _ _ _ q1 hq1).1 (by decide))
    have hLq1 : Fr SL_301 L q1.2 := frx_t frx_r (frx_m (fr_252 _ _ _ q1 hq1).2 (by decide))
    obtain ⟨q2, hq2, hf⟩ := Option.bind_eq_some_iff.mp hf
    rcases ite_some hf with ⟨hc, hf⟩ | ⟨hc, hf⟩
    · obtain ⟨q3, hq3, hf⟩ := Option.bind_eq_some_iff.mp hf
      obtain ⟨q4, hq4, hf⟩ := Option.bind_eq_some_iff.mp hf
      have hIq4 : Fr SI_301 I q4.1 := frx_t hIq1 (frx_m (fr_295 _ _ _ _ q4 hq4).1 (by decide))
      have hLq4 : Fr SL_301 L q4.2 := frx_t hLq1 (frx_m (fr_295 _ _ _ _ q4 hq4).2 (by decide))
      obtain ⟨q5, hq5, hf⟩ := Option.bind_eq_some_iff.mp hf
      obtain ⟨q6, hq6, hf⟩ := Option.bind_eq_some_iff.mp hf
      obtain ⟨q7, hq7, hf⟩ := Option.bind_eq_some_iff.mp hf
      have hIq7 : Fr SI_301 I q7.2.1 := frx_t hIq4 (frx_m (fr_296 _ _ _ _ _ q7 hq7).1 (by decide))
      have hLq7 : Fr SL_301 L q7.2.2 := frx_t hLq4 (frx_m (fr_296 _ _ _ _ _ q7 hq7).2 (by decide))
      exact ⟨frx_t hIq7 (frc_301_0 n n q7.1 (0 : Int32) q7.2.1 q7.2.2 r hf).1, frx_t hLq7 (frc_301_0 n n q7.1 (0 : Int32) q7.2.1 q7.2.2 r hf).2⟩
    · cases hf; exact ⟨hIq1, hLq1⟩
  · cases hf; exact ⟨(frx_v frx_r (by decide)), frx_r⟩
def SI_303 : List Nat := [105, 109, 110]
def SL_303 : List Nat := []
theorem frc_303_2 (n : Nat) : ∀ (m : Nat) (x1 : Int32) (x2 : Int32) (I : FI) (L : FL) (r : Int32 × FI × FL), c_303_2 n m x1 x2 I L = some r → Fr SI_303 I r.2.1 ∧ Fr SL_303 L r.2.2
  | 0, x1, x2, I, L, r, hf => by cases hf
  | m + 1, x1, x2, I, L, r, hf => by
    unfold c_303_2 b_303_2 at hf
    have hK2 := frc_303_2 n m
    obtain ⟨q2, hq2, hf⟩ := Option.bind_eq_some_iff.mp hf
    rcases ite_some hf with ⟨hc, hf⟩ | ⟨hc, hf⟩
    · rcases ite_some hf with ⟨hc, hf⟩ | ⟨hc, hf⟩
      · cases hf; exact ⟨frx_r, frx_r⟩
      · cases hf
    · rcases ite_some hf with ⟨hc, hf⟩ | ⟨hc, hf⟩
      · rcases ite_some hf with ⟨hc, hf⟩ | ⟨hc, hf⟩
        · exact ⟨frx_t (frx_u frx_r (by decide) (by decide)) (hK2 x1 (x2 + (1 : Int32)) (u2 I 109 x2.toNatClampNeg (vp_nar .boolean (I 110 x2.toNatClampNeg))) L r hf).1, frx_t frx_r (hK2 x1 (x2 + (1 : Int32)) (u2 I 109 x2.toNatClampNeg (vp_nar .boolean (I 110 x2.toNatClampNeg))) L r hf).2⟩
        · cases hf
      · cases hf
theorem frc_303_4 (n : Nat) (K1 : Int32 → Int32 → FI → FL → Option (Int32 × FI × FL)) (hK1 : ∀ (x1 : Int32) (x2 : Int32) (I : FI) (L : FL) (r : Int32 × FI × FL), K1 x1 x2 I L = some r → Fr SI_303 I r.2.1 ∧ Fr SL_303 L r.2.2) (x1 : Int32) (x2 : Int32) (I : FI) (L : FL) (r : Int32 × FI × FL) (hf : c_303_4 n K1 x1 x2 I L = some r) : Fr SI_303 I r.2.1 ∧ Fr SL_303 L r.2.2 := by
  unfold c_303_4 at hf
  exact ⟨frx_t frx_r (hK1 x1 (x2 + (1 : Int32)) I L r hf).1, frx_t frx_r (hK1 x1 (x2 + (1 : Int32)) I L r hf).2⟩
theorem frc_303_5 (n : Nat) (K1 : Int32 → Int32 → FI → FL → Option (Int32 × FI × FL)) (K3 : Int32 → Int32 → Int32 → FI → FL → Option (Int32 × FI × FL)) (hK1 : ∀ (x1 : Int32) (x2 : Int32) (I : FI) (L : FL) (r : Int32 × FI × FL), K1 x1 x2 I L = some r → Fr SI_303 I r.2.1 ∧ Fr SL_303 L r.2.2) (hK3 : ∀ (x1 : Int32) (x2 : Int32) (x3 : Int32) (I : FI) (L : FL) (r : Int32 × FI × FL), K3 x1 x2 x3 I L = some r → Fr SI_303 I r.2.1 ∧ Fr SL_303 L r.2.2) (x1 : Int32) (x2 : Int32) (x3 : Int32) (I : FI) (L : FL) (r : Int32 × FI × FL) (hf : c_303_5 n K1 K3 x1 x2 x3 I L = some r) : Fr SI_303 I r.2.1 ∧ Fr SL_303 L r.2.2 := by
  unfold c_303_5 at hf
  exact ⟨frx_t frx_r (hK3 x1 x2 (x3 + (1 : Int32)) I L r hf).1, frx_t frx_r (hK3 x1 x2 (x3 + (1 : Int32)) I L r hf).2⟩
theorem frc_303_3 (n : Nat) (K1 : Int32 → Int32 → FI → FL → Option (Int32 × FI × FL)) (hK1 : ∀ (x1 : Int32) (x2 : Int32) (I : FI) (L : FL) (r : Int32 × FI × FL), K1 x1 x2 I L = some r → Fr SI_303 I r.2.1 ∧ Fr SL_303 L r.2.2) : ∀ (m : Nat) (x1 : Int32) (x2 : Int32) (x3 : Int32) (I : FI) (L : FL) (r : Int32 × FI × FL), c_303_3 n K1 m x1 x2 x3 I L = some r → Fr SI_303 I r.2.1 ∧ Fr SL_303 L r.2.2
  | 0, x1, x2, x3, I, L, r, hf => by cases hf
  | m + 1, x1, x2, x3, I, L, r, hf => by
    unfold c_303_3 b_303_3 at hf
    have hK3 := frc_303_3 n K1 hK1 m
    obtain ⟨q3, hq3, hf⟩ := Option.bind_eq_some_iff.mp hf
    rcases ite_some hf with ⟨hc, hf⟩ | ⟨hc, hf⟩
    · exact ⟨frx_t frx_r (frc_303_4 n _ hK1 x1 x2 I L r hf).1, frx_t frx_r (frc_303_4 n _ hK1 x1 x2 I L r hf).2⟩
    · rcases ite_some hf with ⟨hc, hf⟩ | ⟨hc, hf⟩
      · rcases ite_some hf with ⟨hc, hf⟩ | ⟨hc, hf⟩
        · exact ⟨frx_t frx_r (frc_303_4 n _ hK1 x1 x2 I L r hf).1, frx_t frx_r (frc_303_4 n _ hK1 x1 x2 I L r hf).2⟩
        · obtain ⟨q4, hq4, hf⟩ := Option.bind_eq_some_iff.mp hf
          obtain ⟨q5, hq5, hf⟩ := Option.bind_eq_some_iff.mp hf
          rcases ite_some hf with ⟨hc, hf⟩ | ⟨hc, hf⟩
          · obtain ⟨q6, hq6, hf⟩ := Option.bind_eq_some_iff.mp hf
            have hIq6 : Fr SI_303 I q6.1 := frx_t frx_r (frx_m (fr_288 _ _ _ _ q6 hq6).1 (by decide))
            have hLq6 : Fr SL_303 L q6.2 := frx_t frx_r (frx_m (fr_288 _ _ _ _ q6 hq6).2 (by decide))
            obtain ⟨q7, hq7, hf⟩ := Option.bind_eq_some_iff.mp hf
            obtain ⟨q8, hq8, hf⟩ := Option.bind_eq_some_iff.mp hf
            have hIq8 : Fr SI_303 I q8.1 := frx_t hIq6 (frx_m (fr_253 _ _ _ _ _ _ q8 hq8).1 (by decide))
            have hLq8 : Fr SL_303 L q8.2 := frx_t hLq6 (frx_m (fr_253 _ _ _ _ _ _ q8 hq8).2 (by decide))
            obtain ⟨q9, hq9, hf⟩ := Option.bind_eq_some_iff.mp hf
            obtain ⟨q10, hq10, hf⟩ := Option.bind_eq_some_iff.mp hf
            rcases ite_some hf with ⟨hc, hf⟩ | ⟨hc, hf⟩
            · obtain ⟨q11, hq11, hf⟩ := Option.bind_eq_some_iff.mp hf
              obtain ⟨q12, hq12, hf⟩ := Option.bind_eq_some_iff.mp hf
              rcases ite_some hf with ⟨hc, hf⟩ | ⟨hc, hf⟩
              · exact ⟨frx_t (frx_u hIq8 (by decide) (by decide)) (frc_303_5 n _ _ hK1 hK3 (1 : Int32) x2 x3 (u2 q8.1 110 q12.toNatClampNeg (vp_nar .boolean (1 : Int32))) q8.2 r hf).1, frx_t hLq8 (frc_303_5 n _ _ hK1 hK3 (1 : Int32) x2 x3 (u2 q8.1 110 q12.toNatClampNeg (vp_nar .boolean (1 : Int32))) q8.2 r hf).2⟩
              · cases hf
            · exact ⟨frx_t hIq8 (frc_303_5 n _ _ hK1 hK3 x1 x2 x3 q8.1 q8.2 r hf).1, frx_t hLq8 (frc_303_5 n _ _ hK1 hK3 x1 x2 x3 q8.1 q8.2 r hf).2⟩
          · exact ⟨frx_t frx_r (frc_303_5 n _ _ hK1 hK3 x1 x2 x3 I L r hf).1, frx_t frx_r (frc_303_5 n _ _ hK1 hK3 x1 x2 x3 I L r hf).2⟩
      · cases hf
theorem frc_303_1 (n : Nat) : ∀ (m : Nat) (x1 : Int32) (x2 : Int32) (I : FI) (L : FL) (r : Int32 × FI × FL), c_303_1 n m x1 x2 I L = some r → Fr SI_303 I r.2.1 ∧ Fr SL_303 L r.2.2
  | 0, x1, x2, I, L, r, hf => by cases hf
  | m + 1, x1, x2, I, L, r, hf => by
    unfold c_303_1 b_303_1 at hf
    have hK1 := frc_303_1 n m
    obtain ⟨q1, hq1, hf⟩ := Option.bind_eq_some_iff.mp hf
    rcases ite_some hf with ⟨hc, hf⟩ | ⟨hc, hf⟩
    · exact ⟨frx_t frx_r (frc_303_2 n n x1 (0 : Int32) I L r hf).1, frx_t frx_r (frc_303_2 n n x1 (0 : Int32) I L r hf).2⟩
    · exact ⟨frx_t frx_r (frc_303_3 n _ hK1 n x1 x2 (0 : Int32) I L r hf).1, frx_t frx_r (frc_303_3 n _ hK1 n x1 x2 (0 : Int32) I L r hf).2⟩
theorem frc_303_0 (n : Nat) : ∀ (m : Nat) (x1 : Int32) (x2 : Int32) (I : FI) (L : FL) (r : Int32 × FI × FL), c_303_0 n m x1 x2 I L = some r → Fr SI_303 I r.2.1 ∧ Fr SL_303 L r.2.2
  | 0, x1, x2, I, L, r, hf => by cases hf
  | m + 1, x1, x2, I, L, r, hf => by
    unfold c_303_0 b_303_0 at hf
    have hK0 := frc_303_0 n m
    obtain ⟨q0, hq0, hf⟩ := Option.bind_eq_some_iff.mp hf
    rcases ite_some hf with ⟨hc, hf⟩ | ⟨hc, hf⟩
    · exact ⟨frx_t frx_r (frc_303_1 n n x1 (0 : Int32) I L r hf).1, frx_t frx_r (frc_303_1 n n x1 (0 : Int32) I L r hf).2⟩
    · rcases ite_some hf with ⟨hc, hf⟩ | ⟨hc, hf⟩
      · exact ⟨frx_t (frx_u frx_r (by decide) (by decide)) (hK0 x1 (x2 + (1 : Int32)) (u2 I 110 x2.toNatClampNeg (vp_nar .boolean (0 : Int32))) L r hf).1, frx_t frx_r (hK0 x1 (x2 + (1 : Int32)) (u2 I 110 x2.toNatClampNeg (vp_nar .boolean (0 : Int32))) L r hf).2⟩
      · cases hf
theorem fr_303 (n : Nat) (I : FI) (L : FL) (r : Int32 × FI × FL) (hf : f_303 n I L = some r) : Fr SI_303 I r.2.1 ∧ Fr SL_303 L r.2.2 := by
  unfold f_303 at hf
  exact ⟨frx_t frx_r (frc_303_0 n n (0 : Int32) (0 : Int32) I L r hf).1, frx_t frx_r (frc_303_0 n n (0 : Int32) (0 : Int32) I L r hf).2⟩
def SI_302 : List Nat := [104, 105, 109, 110, 1000, 1025, 1026, 1027, 1028]
def SL_302 : List Nat := []
theorem frc_302_1 (n : Nat) : ∀ (m : Nat) (x1 : Int32) (I : FI) (L : FL) (r : Int32 × FI × FL), c_302_1 n m x1 I L = some r → Fr SI_302 I r.2.1 ∧ Fr SL_302 L r.2.2
  | 0, x1, I, L, r, hf => by cases hf
  | m + 1, x1, I, L, r, hf => by
    unfold c_302_1 b_302_1 at hf
    have hK1 := frc_302_1 n m
    rcases ite_some hf with ⟨hc, hf⟩ | ⟨hc, hf⟩
    · cases hf; exact ⟨frx_r, frx_r⟩
    · obtain ⟨q7, hq7, hf⟩ := Option.bind_eq_some_iff.mp hf
      have hIq7 : Fr SI_302 I q7.2.1 := frx_t frx_r (frx_m (fr_303 _ _ _ q7 hq7).1 (by decide))
      have hLq7 : Fr SL_302 L q7.2.2 := frx_t frx_r (frx_m (fr_303 _ _ _ q7 hq7).2 (by decide))
      rcases ite_some hf with ⟨hc, hf⟩ | ⟨hc, hf⟩
      · cases hf; exact ⟨hIq7, hLq7⟩
      · exact ⟨frx_t hIq7 (hK1 (x1 + (1 : Int32)) q7.2.1 q7.2.2 r hf).1, frx_t hLq7 (hK1 (x1 + (1 : Int32)) q7.2.1 q7.2.2 r hf).2⟩
theorem frc_302_0 (n : Nat) : ∀ (m : Nat) (x1 : Int32) (I : FI) (L : FL) (r : Int32 × FI × FL), c_302_0 n m x1 I L = some r → Fr SI_302 I r.2.1 ∧ Fr SL_302 L r.2.2
  | 0, x1, I, L, r, hf => by cases hf
  | m + 1, x1, I, L, r, hf => by
    unfold c_302_0 b_302_0 at hf
    have hK0 := frc_302_0 n m
    obtain ⟨q3, hq3, hf⟩ := Option.bind_eq_some_iff.mp hf
    rcases ite_some hf with ⟨hc, hf⟩ | ⟨hc, hf⟩
    · obtain ⟨q4, hq4, hf⟩ := Option.bind_eq_some_iff.mp hf
      obtain ⟨q5, hq5, hf⟩ := Option.bind_eq_some_iff.mp hf
      obtain ⟨q6, hq6, hf⟩ := Option.bind_eq_some_iff.mp hf
      have hIq6 : Fr SI_302 I q6.2.1 := frx_t frx_r (frx_m (fr_296 _ _ _ _ _ q6 hq6).1 (by decide))
      have hLq6 : Fr SL_302 L q6.2.2 := frx_t frx_r (frx_m (fr_296 _ _ _ _ _ q6 hq6).2 (by decide))
      rcases ite_some hf with ⟨hc, hf⟩ | ⟨hc, hf⟩
      · exact ⟨frx_t (frx_u hIq6 (by decide) (by decide)) (frc_302_1 n n (1 : Int32) (u2 q6.2.1 109 q6.1.toNatClampNeg (vp_nar .boolean (1 : Int32))) q6.2.2 r hf).1, frx_t hLq6 (frc_302_1 n n (1 : Int32) (u2 q6.2.1 109 q6.1.toNatClampNeg (vp_nar .boolean (1 : Int32))) q6.2.2 r hf).2⟩
      · cases hf
    · rcases ite_some hf with ⟨hc, hf⟩ | ⟨hc, hf⟩
      · exact ⟨frx_t (frx_u frx_r (by decide) (by decide)) (hK0 (x1 + (1 : Int32)) (u2 I 109 x1.toNatClampNeg (vp_nar .boolean (0 : Int32))) L r hf).1, frx_t frx_r (hK0 (x1 + (1 : Int32)) (u2 I 109 x1.toNatClampNeg (vp_nar .boolean (0 : Int32))) L r hf).2⟩
      · cases hf
theorem fr_302 (n : Nat) (I : FI) (L : FL) (r : Int32 × FI × FL) (hf : f_302 n I L = some r) : Fr SI_302 I r.2.1 ∧ Fr SL_302 L r.2.2 := by
  unfold f_302 at hf
  obtain ⟨q0, hq0, hf⟩ := Option.bind_eq_some_iff.mp hf
  rcases ite_some hf with ⟨hc, hf⟩ | ⟨hc, hf⟩
  · obtain ⟨q1, hq1, hf⟩ := Option.bind_eq_some_iff.mp hf
    have hIq1 : Fr SI_302 I q1.1 := frx_t (frx_v frx_r (by decide)) (frx_m (fr_252 _ _ _ q1 hq1).1 (by decide))
    have hLq1 : Fr SL_302 L q1.2 := frx_t frx_r (frx_m (fr_252 _ _ _ q1 hq1).2 (by decide))
    obtain ⟨q2, hq2, hf⟩ := Option.bind_eq_some_iff.mp hf
    rcases ite_some hf with ⟨hc, hf⟩ | ⟨hc, hf⟩
    · exact ⟨frx_t hIq1 (frc_302_0 n n (0 : Int32) q1.1 q1.2 r hf).1, frx_t hLq1 (frc_302_0 n n (0 : Int32) q1.1 q1.2 r hf).2⟩
    · cases hf; exact ⟨hIq1, hLq1⟩
  · cases hf; exact ⟨(frx_v frx_r (by decide)), frx_r⟩
def SI_304 : List Nat := [105]
def SL_304 : List Nat := []
theorem frc_304_0 (n : Nat) : ∀ (m : Nat) (x1 : Int32) (x3 : Int32) (x4 : Int32) (I : FI) (L : FL) (r : Int32 × FI × FL), c_304_0 n m x1 x3 x4 I L = some r → Fr SI_304 I r.2.1 ∧ Fr SL_304 L r.2.2
  | 0, x1, x3, x4, I, L, r, hf => by cases hf
  | m + 1, x1, x3, x4, I, L, r, hf => by
    unfold c_304_0 b_304_0 at hf
    have hK0 := frc_304_0 n m
    rcases ite_some hf with ⟨hc, hf⟩ | ⟨hc, hf⟩
    · cases hf; exact ⟨frx_r, frx_r⟩
    · rcases ite_some hf with ⟨hc, hf⟩ | ⟨hc, hf⟩
      · obtain ⟨q0, hq0, hf⟩ := Option.bind_eq_some_iff.mp hf
        have hIq0 : Fr SI_304 I q0.1 := frx_t frx_r (frx_m (fr_253 _ _ _ _ _ _ q0 hq0).1 (by decide))
        have hLq0 : Fr SL_304 L q0.2 := frx_t frx_r (frx_m (fr_253 _ _ _ _ _ _ q0 hq0).2 (by decide))
        obtain ⟨q1, hq1, hf⟩ := Option.bind_eq_some_iff.mp hf
        obtain ⟨q2, hq2, hf⟩ := Option.bind_eq_some_iff.mp hf
        rcases ite_some hf with ⟨hc, hf⟩ | ⟨hc, hf⟩
        · rcases ite_some hf with ⟨hc, hf⟩ | ⟨hc, hf⟩
          · exact ⟨frx_t hIq0 (hK0 x1 (q0.1 111 x4.toNatClampNeg) (x4 + (1 : Int32)) q0.1 q0.2 r hf).1, frx_t hLq0 (hK0 x1 (q0.1 111 x4.toNatClampNeg) (x4 + (1 : Int32)) q0.1 q0.2 r hf).2⟩
          · cases hf
        · cases hf; exact ⟨hIq0, hLq0⟩
      · cases hf
theorem fr_304 (n : Nat) (x1 : Int32) (x2 : Int32) (I : FI) (L : FL) (r : Int32 × FI × FL) (hf : f_304 n x1 x2 I L = some r) : Fr SI_304 I r.2.1 ∧ Fr SL_304 L r.2.2 := by
  unfold f_304 at hf
  exact ⟨frx_t frx_r (frc_304_0 n n x1 x2 (0 : Int32) I L r hf).1, frx_t frx_r (frc_304_0 n n x1 x2 (0 : Int32) I L r hf).2⟩
def SI_305 : List Nat := [105]
def SL_305 : List Nat := []
theorem frc_305_2 (n : Nat) : ∀ (m : Nat) (x1 : Int32) (x2 : Int32) (x3 : Int32) (I : FI) (L : FL) (r : Int32 × FI × FL), c_305_2 n m x1 x2 x3 I L = some r → Fr SI_305 I r.2.1 ∧ Fr SL_305 L r.2.2
  | 0, x1, x2, x3, I, L, r, hf => by cases hf
  | m + 1, x1, x2, x3, I, L, r, hf => by
    unfold c_305_2 b_305_2 at hf
    have hK2 := frc_305_2 n m
    rcases ite_some hf with ⟨hc, hf⟩ | ⟨hc, hf⟩
    · cases hf; exact ⟨frx_r, frx_r⟩
    · rcases ite_some hf with ⟨hc, hf⟩ | ⟨hc, hf⟩
      · obtain ⟨q4, hq4, hf⟩ := Option.bind_eq_some_iff.mp hf
        have hIq4 : Fr SI_305 I q4.2.1 := frx_t frx_r (frx_m (fr_304 _ _ _ _ _ q4 hq4).1 (by decide))
        have hLq4 : Fr SL_305 L q4.2.2 := frx_t frx_r (frx_m (fr_304 _ _ _ _ _ q4 hq4).2 (by decide))
        rcases ite_some hf with ⟨hc, hf⟩ | ⟨hc, hf⟩
        · obtain ⟨q5, hq5, hf⟩ := Option.bind_eq_some_iff.mp hf
          obtain ⟨q6, hq6, hf⟩ := Option.bind_eq_some_iff.mp hf
          exact ⟨frx_t hIq4 (hK2 x1 x3 q6 q4.2.1 q4.2.2 r hf).1, frx_t hLq4 (hK2 x1 x3 q6 q4.2.1 q4.2.2 r hf).2⟩
        · cases hf; exact ⟨hIq4, hLq4⟩
      · cases hf
theorem frc_305_1 (n : Nat) : ∀ (m : Nat) (x1 : Int32) (x2 : Int32) (I : FI) (L : FL) (r : Int32 × FI × FL), c_305_1 n m x1 x2 I L = some r → Fr SI_305 I r.2.1 ∧ Fr SL_305 L r.2.2
  | 0, x1, x2, I, L, r, hf => by cases hf
  | m + 1, x1, x2, I, L, r, hf => by
    unfold c_305_1 b_305_1 at hf
    have hK1 := frc_305_1 n m
    obtain ⟨q0, hq0, hf⟩ := Option.bind_eq_some_iff.mp hf
    rcases ite_some hf with ⟨hc, hf⟩ | ⟨hc, hf⟩
    · obtain ⟨q1, hq1, hf⟩ := Option.bind_eq_some_iff.mp hf
      have hIq1 : Fr SI_305 I q1.2.1 := frx_t frx_r (frx_m (fr_304 _ _ _ _ _ q1 hq1).1 (by decide))
      have hLq1 : Fr SL_305 L q1.2.2 := frx_t frx_r (frx_m (fr_304 _ _ _ _ _ q1 hq1).2 (by decide))
      rcases ite_some hf with ⟨hc, hf⟩ | ⟨hc, hf⟩
      · obtain ⟨q2, hq2, hf⟩ := Option.bind_eq_some_iff.mp hf
        obtain ⟨q3, hq3, hf⟩ := Option.bind_eq_some_iff.mp hf
        exact ⟨frx_t hIq1 (frc_305_2 n n x1 (-1 : Int32) q3 q1.2.1 q1.2.2 r hf).1, frx_t hLq1 (frc_305_2 n n x1 (-1 : Int32) q3 q1.2.1 q1.2.2 r hf).2⟩
      · cases hf; exact ⟨hIq1, hLq1⟩
    · rcases ite_some hf with ⟨hc, hf⟩ | ⟨hc, hf⟩
      · exact ⟨frx_t (frx_u frx_r (by decide) (by decide)) (hK1 x1 (x2 + (1 : Int32)) (u2 I 105 x2.toNatClampNeg (0 : Int32)) L r hf).1, frx_t frx_r (hK1 x1 (x2 + (1 : Int32)) (u2 I 105 x2.toNatClampNeg (0 : Int32)) L r hf).2⟩
      · cases hf
theorem frc_305_0 (n : Nat) : ∀ (m : Nat) (x1 : Int32) (x2 : Int32) (I : FI) (L : FL) (r : Int32 × FI × FL), c_305_0 n m x1 x2 I L = some r → Fr SI_305 I r.2.1 ∧ Fr SL_305 L r.2.2
  | 0, x1, x2, I, L, r, hf => by cases hf
  | m + 1, x1, x2, I, L, r, hf => by
    unfold c_305_0 b_305_0 at hf
    have hK0 := frc_305_0 n m
    rcases ite_some hf with ⟨hc, hf⟩ | ⟨hc, hf⟩
    · exact ⟨frx_t frx_r (frc_305_1 n n x1 (0 : Int32) I L r hf).1, frx_t frx_r (frc_305_1 n n x1 (0 : Int32) I L r hf).2⟩
    · rcases ite_some hf with ⟨hc, hf⟩ | ⟨hc, hf⟩
      · rcases ite_some hf with ⟨hc, hf⟩ | ⟨hc, hf⟩
        · cases hf
        · rcases ite_some hf with ⟨hc, hf⟩ | ⟨hc, hf⟩
          · obtain ⟨q7, hq7, hf⟩ := Option.bind_eq_some_iff.mp hf
            rcases ite_some hf with ⟨hc, hf⟩ | ⟨hc, hf⟩
            · exact ⟨frx_t frx_r (hK0 x1 (x2 + (1 : Int32)) I L r hf).1, frx_t frx_r (hK0 x1 (x2 + (1 : Int32)) I L r hf).2⟩
            · cases hf; exact ⟨frx_r, frx_r⟩
          · cases hf
      · cases hf
theorem fr_305 (n : Nat) (x1 : Int32) (I : FI) (L : FL) (r : Int32 × FI × FL) (hf : f_305 n x1 I L = some r) : Fr SI_305 I r.2.1 ∧ Fr SL_305 L r.2.2 := by
  unfold f_305 at hf
  exact ⟨frx_t frx_r (frc_305_0 n n x1 (0 : Int32) I L r hf).1, frx_t frx_r (frc_305_0 n n x1 (0 : Int32) I L r hf).2⟩
def SI_306 : List Nat := [105, 111, 112, 1039]
def SL_306 : List Nat := []
theorem frc_306_3 (n : Nat) (F : Int32 → Int32 → FI → FL → Option (FI × FL)) (K0 : Int32 → Int32 → Int32 → FI → FL → Option (FI × FL)) (hF : ∀ (x1 : Int32) (x2 : Int32) (I : FI) (L : FL) (r : FI × FL), F x1 x2 I L = some r → Fr SI_306 I r.1 ∧ Fr SL_306 L r.2) (hK0 : ∀ (x1 : Int32) (x2 : Int32) (x3 : Int32) (I : FI) (L : FL) (r : FI × FL), K0 x1 x2 x3 I L = some r → Fr SI_306 I r.1 ∧ Fr SL_306 L r.2) (x1 : Int32) (x2 : Int32) (x3 : Int32) (I : FI) (L : FL) (r : FI × FL) (hf : c_306_3 n F K0 x1 x2 x3 I L = some r) : Fr SI_306 I r.1 ∧ Fr SL_306 L r.2 := by
  unfold c_306_3 at hf
  exact ⟨frx_t frx_r (hK0 x1 x2 (x3 + (1 : Int32)) I L r hf).1, frx_t frx_r (hK0 x1 x2 (x3 + (1 : Int32)) I L r hf).2⟩
theorem frc_306_2 (n : Nat) (F : Int32 → Int32 → FI → FL → Option (FI × FL)) (K0 : Int32 → Int32 → Int32 → FI → FL → Option (FI × FL)) (hF : ∀ (x1 : Int32) (x2 : Int32) (I : FI) (L : FL) (r : FI × FL), F x1 x2 I L = some r → Fr SI_306 I r.1 ∧ Fr SL_306 L r.2) (hK0 : ∀ (x1 : Int32) (x2 : Int32) (x3 : Int32) (I : FI) (L : FL) (r : FI × FL), K0 x1 x2 x3 I L = some r → Fr SI_306 I r.1 ∧ Fr SL_306 L r.2) : ∀ (m : Nat) (x1 : Int32) (x2 : Int32) (x3 : Int32) (x4 : Int32) (I : FI) (L : FL) (r : FI × FL), c_306_2 n F K0 m x1 x2 x3 x4 I L = some r → Fr SI_306 I r.1 ∧ Fr SL_306 L r.2
  | 0, x1, x2, x3, x4, I, L, r, hf => by cases hf
  | m + 1, x1, x2, x3, x4, I, L, r, hf => by
    unfold c_306_2 b_306_2 at hf
    have hK2 := frc_306_2 n F K0 hF hK0 m
    obtain ⟨q1, hq1, hf⟩ := Option.bind_eq_some_iff.mp hf
    rcases ite_some hf with ⟨hc, hf⟩ | ⟨hc, hf⟩
    · obtain ⟨q2, hq2, hf⟩ := Option.bind_eq_some_iff.mp hf
      have hIq2 : Fr SI_306 I q2.2.1 := frx_t frx_r (frx_m (fr_304 _ _ _ _ _ q2 hq2).1 (by decide))
      have hLq2 : Fr SL_306 L q2.2.2 := frx_t frx_r (frx_m (fr_304 _ _ _ _ _ q2 hq2).2 (by decide))
      rcases ite_some hf with ⟨hc, hf⟩ | ⟨hc, hf⟩
      · exact ⟨frx_t hIq2 (frc_306_3 n _ _ hF hK0 x1 x2 x3 q2.2.1 q2.2.2 r hf).1, frx_t hLq2 (frc_306_3 n _ _ hF hK0 x1 x2 x3 q2.2.1 q2.2.2 r hf).2⟩
      · obtain ⟨q3, hq3, hf⟩ := Option.bind_eq_some_iff.mp hf
        have hIq3 : Fr SI_306 I q3.1 := frx_t hIq2 (frx_m (hF (x1 + (1 : Int32)) x2 q2.2.1 q2.2.2 q3 hq3).1 (by decide))
        have hLq3 : Fr SL_306 L q3.2 := frx_t hLq2 (frx_m (hF (x1 + (1 : Int32)) x2 q2.2.1 q2.2.2 q3 hq3).2 (by decide))
        exact ⟨frx_t hIq3 (frc_306_3 n _ _ hF hK0 x1 x2 x3 q3.1 q3.2 r hf).1, frx_t hLq3 (frc_306_3 n _ _ hF hK0 x1 x2 x3 q3.1 q3.2 r hf).2⟩
    · rcases ite_some hf with ⟨hc, hf⟩ | ⟨hc, hf⟩
      · exact ⟨frx_t (frx_u frx_r (by decide) (by decide)) (hK2 x1 x2 x3 (x4 + (1 : Int32)) (u2 I 105 x4.toNatClampNeg (0 : Int32)) L r hf).1, frx_t frx_r (hK2 x1 x2 x3 (x4 + (1 : Int32)) (u2 I 105 x4.toNatClampNeg (0 : Int32)) L r hf).2⟩
      · cases hf
theorem frc_306_1 (n : Nat) (F : Int32 → Int32 → FI → FL → Option (FI × FL)) (K0 : Int32 → Int32 → Int32 → FI → FL → Option (FI × FL)) (hF : ∀ (x1 : Int32) (x2 : Int32) (I : FI) (L : FL) (r : FI × FL), F x1 x2 I L = some r → Fr SI_306 I r.1 ∧ Fr SL_306 L r.2) (hK0 : ∀ (x1 : Int32) (x2 : Int32) (x3 : Int32) (I : FI) (L : FL) (r : FI × FL), K0 x1 x2 x3 I L = some r → Fr SI_306 I r.1 ∧ Fr SL_306 L r.2) (x1 : Int32) (x2 : Int32) (x3 : Int32) (I : FI) (L : FL) (r : FI × FL) (hf : c_306_1 n F K0 x1 x2 x3 I L = some r) : Fr SI_306 I r.1 ∧ Fr SL_306 L r.2 := by
  unfold c_306_1 at hf
  rcases ite_some hf with ⟨hc, hf⟩ | ⟨hc, hf⟩
  · exact ⟨frx_t (frx_u frx_r (by decide) (by decide)) (frc_306_2 n _ _ hF hK0 n x1 x2 x3 (0 : Int32) (u2 I 111 x1.toNatClampNeg x3) L r hf).1, frx_t frx_r (frc_306_2 n _ _ hF hK0 n x1 x2 x3 (0 : Int32) (u2 I 111 x1.toNatClampNeg x3) L r hf).2⟩
  · cases hf
theorem frc_306_0 (n : Nat) (F : Int32 → Int32 → FI → FL → Option (FI × FL)) (hF : ∀ (x1 : Int32) (x2 : Int32) (I : FI) (L : FL) (r : FI × FL), F x1 x2 I L = some r → Fr SI_306 I r.1 ∧ Fr SL_306 L r.2) : ∀ (m : Nat) (x1 : Int32) (x2 : Int32) (x3 : Int32) (I : FI) (L : FL) (r : FI × FL), c_306_0 n F m x1 x2 x3 I L = some r → Fr SI_306 I r.1 ∧ Fr SL_306 L r.2
  | 0, x1, x2, x3, I, L, r, hf => by cases hf
  | m + 1, x1, x2, x3, I, L, r, hf => by
    unfold c_306_0 b_306_0 at hf
    have hK0 := frc_306_0 n F hF m
    obtain ⟨q0, hq0, hf⟩ := Option.bind_eq_some_iff.mp hf
    rcases ite_some hf with ⟨hc, hf⟩ | ⟨hc, hf⟩
    · cases hf; exact ⟨frx_r, frx_r⟩
    · rcases ite_some hf with ⟨hc, hf⟩ | ⟨hc, hf⟩
      · exact ⟨frx_t frx_r (frc_306_1 n _ _ hF hK0 x1 x2 x3 I L r hf).1, frx_t frx_r (frc_306_1 n _ _ hF hK0 x1 x2 x3 I L r hf).2⟩
      · rcases ite_some hf with ⟨hc, hf⟩ | ⟨hc, hf⟩
        · obtain ⟨q4, hq4, hf⟩ := Option.bind_eq_some_iff.mp hf
          rcases ite_some hf with ⟨hc, hf⟩ | ⟨hc, hf⟩
          · exact ⟨frx_t frx_r (frc_306_1 n _ _ hF hK0 x1 x2 x3 I L r hf).1, frx_t frx_r (frc_306_1 n _ _ hF hK0 x1 x2 x3 I L r hf).2⟩
          · exact ⟨frx_t frx_r (frc_306_3 n _ _ hF hK0 x1 x2 x3 I L r hf).1, frx_t frx_r (frc_306_3 n _ _ hF hK0 x1 x2 x3 I L r hf).2⟩
        · cases hf
theorem frc_306_4 (n : Nat) (F : Int32 → Int32 → FI → FL → Option (FI × FL)) (hF : ∀ (x1 : Int32) (x2 : Int32) (I : FI) (L : FL) (r : FI × FL), F x1 x2 I L = some r → Fr SI_306 I r.1 ∧ Fr SL_306 L r.2) : ∀ (m : Nat) (x2 : Int32) (x3 : Int32) (I : FI) (L : FL) (r : FI × FL), c_306_4 n F m x2 x3 I L = some r → Fr SI_306 I r.1 ∧ Fr SL_306 L r.2
  | 0, x2, x3, I, L, r, hf => by cases hf
  | m + 1, x2, x3, I, L, r, hf => by
    unfold c_306_4 b_306_4 at hf
    have hK4 := frc_306_4 n F hF m
    rcases ite_some hf with ⟨hc, hf⟩ | ⟨hc, hf⟩
    · cases hf; exact ⟨(frx_v frx_r (by decide)), frx_r⟩
    · rcases ite_some hf with ⟨hc, hf⟩ | ⟨hc, hf⟩
      · cases hf; exact ⟨(frx_v frx_r (by decide)), frx_r⟩
      · rcases ite_some hf with ⟨hc, hf⟩ | ⟨hc, hf⟩
        · rcases ite_some hf with ⟨hc, hf⟩ | ⟨hc, hf⟩
          · exact ⟨frx_t (frx_u frx_r (by decide) (by decide)) (hK4 x2 (x3 + (1 : Int32)) (u2 I 112 x3.toNatClampNeg (I 111 x3.toNatClampNeg)) L r hf).1, frx_t frx_r (hK4 x2 (x3 + (1 : Int32)) (u2 I 112 x3.toNatClampNeg (I 111 x3.toNatClampNeg)) L r hf).2⟩
          · cases hf
        · cases hf
theorem fr_306 (n : Nat) : ∀ (m : Nat) (x1 : Int32) (x2 : Int32) (I : FI) (L : FL) (r : FI × FL), f_306 n m x1 x2 I L = some r → Fr SI_306 I r.1 ∧ Fr SL_306 L r.2
  | 0, x1, x2, I, L, r, hf => by cases hf
  | m + 1, x1, x2, I, L, r, hf => by
    have hF := fr_306 n m
    unfold f_306 g_306 at hf
    rcases ite_some hf with ⟨hc, hf⟩ | ⟨hc, hf⟩
    · exact ⟨frx_t frx_r (frc_306_0 n _ hF n x1 x2 (0 : Int32) I L r hf).1, frx_t frx_r (frc_306_0 n _ hF n x1 x2 (0 : Int32) I L r hf).2⟩
    · obtain ⟨q5, hq5, hf⟩ := Option.bind_eq_some_iff.mp hf
      have hIq5 : Fr SI_306 I q5.2.1 := frx_t frx_r (frx_m (fr_305 _ _ _ _ q5 hq5).1 (by decide))
      have hLq5 : Fr SL_306 L q5.2.2 := frx_t frx_r (frx_m (fr_305 _ _ _ _ q5 hq5).2 (by decide))
      rcases ite_some hf with ⟨hc, hf⟩ | ⟨hc, hf⟩
      · exact ⟨frx_t hIq5 (frc_306_4 n _ hF n x2 (0 : Int32) q5.2.1 q5.2.2 r hf).1, frx_t hLq5 (frc_306_4 n _ hF n x2 (0 : Int32) q5.2.1 q5.2.2 r hf).2⟩
      · cases hf; exact ⟨hIq5, hLq5⟩
def SI_307 : List Nat := [104, 105, 111, 112, 1025, 1026, 1027, 1028, 1039]
def SL_307 : List Nat := []
theorem fr_307 (n : Nat) (x1 : Int32) (I : FI) (L : FL) (r : Int32 × FI × FL) (hf : f_307 n x1 I L = some r) : Fr SI_307 I r.2.1 ∧ Fr SL_307 L r.2.2 := by
  unfold f_307 at hf
  obtain ⟨q0, hq0, hf⟩ := Option.bind_eq_some_iff.mp hf
  have hIq0 : Fr SI_307 I q0.1 := frx_t frx_r (frx_m (fr_252 _ _ _ q0 hq0).1 (by decide))
  have hLq0 : Fr SL_307 L q0.2 := frx_t frx_r (frx_m (fr_252 _ _ _ q0 hq0).2 (by decide))
  obtain ⟨q1, hq1, hf⟩ := Option.bind_eq_some_iff.mp hf
  rcases ite_some hf with ⟨hc, hf⟩ | ⟨hc, hf⟩
  · cases hf; exact ⟨(frx_v hIq0 (by decide)), hLq0⟩
  · obtain ⟨q2, hq2, hf⟩ := Option.bind_eq_some_iff.mp hf
    have hIq2 : Fr SI_307 I q2.1 := frx_t (frx_v hIq0 (by decide)) (frx_m (fr_306 _ _ _ _ _ _ q2 hq2).1 (by decide))
    have hLq2 : Fr SL_307 L q2.2 := frx_t hLq0 (frx_m (fr_306 _ _ _ _ _ _ q2 hq2).2 (by decide))
    cases hf; exact ⟨hIq2, hLq2⟩
def SI_308 : List Nat := [104, 105, 111, 112, 1025, 1026, 1027, 1028, 1039]
def SL_308 : List Nat := []
theorem frc_308_0 (n : Nat) : ∀ (m : Nat) (x1 : Int32) (I : FI) (L : FL) (r : Int32 × FI × FL), c_308_0 n m x1 I L = some r → Fr SI_308 I r.2.1 ∧ Fr SL_308 L r.2.2
  | 0, x1, I, L, r, hf => by cases hf
  | m + 1, x1, I, L, r, hf => by
    unfold c_308_0 b_308_0 at hf
    have hK0 := frc_308_0 n m
    rcases ite_some hf with ⟨hc, hf⟩ | ⟨hc, hf⟩
    · cases hf; exact ⟨frx_r, frx_r⟩
    · obtain ⟨q0, hq0, hf⟩ := Option.bind_eq_some_iff.mp hf
      have hIq0 : Fr SI_308 I q0.2.1 := frx_t frx_r (frx_m (fr_307 _ _ _ _ q0 hq0).1 (by decide))
      have hLq0 : Fr SL_308 L q0.2.2 := frx_t frx_r (frx_m (fr_307 _ _ _ _ q0 hq0).2 (by decide))
      rcases ite_some hf with ⟨hc, hf⟩ | ⟨hc, hf⟩
      · exact ⟨frx_t hIq0 (hK0 (x1 + (1 : Int32)) q0.2.1 q0.2.2 r hf).1, frx_t hLq0 (hK0 (x1 + (1 : Int32)) q0.2.1 q0.2.2 r hf).2⟩
      · cases hf; exact ⟨hIq0, hLq0⟩
theorem fr_308 (n : Nat) (I : FI) (L : FL) (r : Int32 × FI × FL) (hf : f_308 n I L = some r) : Fr SI_308 I r.2.1 ∧ Fr SL_308 L r.2.2 := by
  unfold f_308 at hf
  exact ⟨frx_t frx_r (frc_308_0 n n (1 : Int32) I L r hf).1, frx_t frx_r (frc_308_0 n n (1 : Int32) I L r hf).2⟩
def SI_309 : List Nat := [104, 105, 111, 112, 1000, 1025, 1026, 1027, 1028, 1039]
def SL_309 : List Nat := []
theorem fr_309 (n : Nat) (I : FI) (L : FL) (r : Int32 × FI × FL) (hf : f_309 n I L = some r) : Fr SI_309 I r.2.1 ∧ Fr SL_309 L r.2.2 := by
  unfold f_309 at hf
  obtain ⟨q0, hq0, hf⟩ := Option.bind_eq_some_iff.mp hf
  rcases ite_some hf with ⟨hc, hf⟩ | ⟨hc, hf⟩
  · cases hf; exact ⟨(frx_v frx_r (by decide)), frx_r⟩
  · obtain ⟨q1, hq1, hf⟩ := Option.bind_eq_some_iff.mp hf
    have hIq1 : Fr SI_309 I q1.2.1 := frx_t (frx_v frx_r (by decide)) (frx_m (fr_308 _ _ _ q1 hq1).1 (by decide))
    have hLq1 : Fr SL_309 L q1.2.2 := frx_t frx_r (frx_m (fr_308 _ _ _ q1 hq1).2 (by decide))
    cases hf; exact ⟨hIq1, hLq1⟩
def SI_310 : List Nat := [104, 105, 111, 112, 1000, 1025, 1026, 1027, 1028, 1039]
def SL_310 : List Nat := []
theorem fr_310 (n : Nat) (x1 : Int32) (I : FI) (L : FL) (r : Int32 × FI × FL) (hf : f_310 n x1 I L = some r) : Fr SI_310 I r.2.1 ∧ Fr SL_310 L r.2.2 := by
  unfold f_310 at hf
  obtain ⟨q0, hq0, hf⟩ := Option.bind_eq_some_iff.mp hf
  rcases ite_some hf with ⟨hc, hf⟩ | ⟨hc, hf⟩
  · cases hf; exact ⟨(frx_v frx_r (by decide)), frx_r⟩
  · rcases ite_some hf with ⟨hc, hf⟩ | ⟨hc, hf⟩
    · obtain ⟨q1, hq1, hf⟩ := Option.bind_eq_some_iff.mp hf
      have hIq1 : Fr SI_310 I q1.2.1 := frx_t (frx_v frx_r (by decide)) (frx_m (fr_308 _ _ _ q1 hq1).1 (by decide))
      have hLq1 : Fr SL_310 L q1.2.2 := frx_t frx_r (frx_m (fr_308 _ _ _ q1 hq1).2 (by decide))
      rcases ite_some hf with ⟨hc, hf⟩ | ⟨hc, hf⟩
      · cases hf; exact ⟨hIq1, hLq1⟩
      · rcases ite_some hf with ⟨hc, hf⟩ | ⟨hc, hf⟩
        · cases hf; exact ⟨hIq1, hLq1⟩
        · cases hf
    · cases hf; exact ⟨(frx_v frx_r (by decide)), frx_r⟩
def SI_311 : List Nat := [104, 105, 111, 112, 1000, 1025, 1026, 1027, 1028, 1039]
def SL_311 : List Nat := []
theorem fr_311 (n : Nat) (x1 : Int32) (I : FI) (L : FL) (r : Int32 × FI × FL) (hf : f_311 n x1 I L = some r) : Fr SI_311 I r.2.1 ∧ Fr SL_311 L r.2.2 := by
  unfold f_311 at hf
  obtain ⟨q0, hq0, hf⟩ := Option.bind_eq_some_iff.mp hf
  rcases ite_some hf with ⟨hc, hf⟩ | ⟨hc, hf⟩
  · cases hf; exact ⟨(frx_v frx_r (by decide)), frx_r⟩
  · obtain ⟨q1, hq1, hf⟩ := Option.bind_eq_some_iff.mp hf
    rcases ite_some hf with ⟨hc, hf⟩ | ⟨hc, hf⟩
    · cases hf; exact ⟨(frx_v frx_r (by decide)), frx_r⟩
    · obtain ⟨q2, hq2, hf⟩ := Option.bind_eq_some_iff.mp hf
      have hIq2 : Fr SI_311 I q2.2.1 := frx_t (frx_v frx_r (by decide)) (frx_m (fr_307 _ _ _ _ q2 hq2).1 (by decide))
      have hLq2 : Fr SL_311 L q2.2.2 := frx_t frx_r (frx_m (fr_307 _ _ _ _ q2 hq2).2 (by decide))
      cases hf; exact ⟨hIq2, hLq2⟩
def SI_312 : List Nat := [104, 105, 111, 1000, 1025, 1026, 1027, 1028]
def SL_312 : List Nat := []
theorem frc_312_0 (n : Nat) : ∀ (m : Nat) (x1 : Int32) (I : FI) (L : FL) (r : Int32 × FI × FL), c_312_0 n m x1 I L = some r → Fr SI_312 I r.2.1 ∧ Fr SL_312 L r.2.2
  | 0, x1, I, L, r, hf => by cases hf
  | m + 1, x1, I, L, r, hf => by
    unfold c_312_0 b_312_0 at hf
    have hK0 := frc_312_0 n m
    rcases ite_some hf with ⟨hc, hf⟩ | ⟨hc, hf⟩
    · rcases ite_some hf with ⟨hc, hf⟩ | ⟨hc, hf⟩
      · cases hf; exact ⟨frx_r, frx_r⟩
      · obtain ⟨q2, hq2, hf⟩ := Option.bind_eq_some_iff.mp hf
        have hIq2 : Fr SI_312 I q2.2.1 := frx_t frx_r (frx_m (fr_305 _ _ _ _ q2 hq2).1 (by decide))
        have hLq2 : Fr SL_312 L q2.2.2 := frx_t frx_r (frx_m (fr_305 _ _ _ _ q2 hq2).2 (by decide))
        rcases ite_some hf with ⟨hc, hf⟩ | ⟨hc, hf⟩
        · cases hf; exact ⟨hIq2, hLq2⟩
        · cases hf; exact ⟨hIq2, hLq2⟩
    · rcases ite_some hf with ⟨hc, hf⟩ | ⟨hc, hf⟩
      · rcases ite_some hf with ⟨hc, hf⟩ | ⟨hc, hf⟩
        · exact ⟨frx_t (frx_u frx_r (by decide) (by decide)) (hK0 (x1 + (1 : Int32)) (u2 I 111 x1.toNatClampNeg (I 100 x1.toNatClampNeg)) L r hf).1, frx_t frx_r (hK0 (x1 + (1 : Int32)) (u2 I 111 x1.toNatClampNeg (I 100 x1.toNatClampNeg)) L r hf).2⟩
        · cases hf
      · cases hf
theorem fr_312 (n : Nat) (I : FI) (L : FL) (r : Int32 × FI × FL) (hf : f_312 n I L = some r) : Fr SI_312 I r.2.1 ∧ Fr SL_312 L r.2.2 := by
  unfold f_312 at hf
  obtain ⟨q0, hq0, hf⟩ := Option.bind_eq_some_iff.mp hf
  rcases ite_some hf with ⟨hc, hf⟩ | ⟨hc, hf⟩
  · obtain ⟨q1, hq1, hf⟩ := Option.bind_eq_some_iff.mp hf
    have hIq1 : Fr SI_312 I q1.1 := frx_t (frx_v frx_r (by decide)) (frx_m (fr_252 _ _ _ q1 hq1).1 (by decide))
    have hLq1 : Fr SL_312 L q1.2 := frx_t frx_r (frx_m (fr_252 _ _ _ q1 hq1).2 (by decide))
    exact ⟨frx_t hIq1 (frc_312_0 n n (0 : Int32) q1.1 q1.2 r hf).1, frx_t hLq1 (frc_312_0 n n (0 : Int32) q1.1 q1.2 r hf).2⟩
  · cases hf; exact ⟨(frx_v frx_r (by decide)), frx_r⟩
def SI_313 : List Nat := [104, 105, 109, 1025, 1026, 1027, 1028]
def SL_313 : List Nat := []
theorem frc_313_1 (n : Nat) (K0 : Int32 → Int32 → FI → FL → Option (Int32 × FI × FL)) (hK0 : ∀ (x1 : Int32) (x2 : Int32) (I : FI) (L : FL) (r : Int32 × FI × FL), K0 x1 x2 I L = some r → Fr SI_313 I r.2.1 ∧ Fr SL_313 L r.2.2) (x1 : Int32) (x2 : Int32) (I : FI) (L : FL) (r : Int32 × FI × FL) (hf : c_313_1 n K0 x1 x2 I L = some r) : Fr SI_313 I r.2.1 ∧ Fr SL_313 L r.2.2 := by
  unfold c_313_1 at hf
  exact ⟨frx_t frx_r (hK0 x1 (x2 + (1 : Int32)) I L r hf).1, frx_t frx_r (hK0 x1 (x2 + (1 : Int32)) I L r hf).2⟩
theorem frc_313_0 (n : Nat) : ∀ (m : Nat) (x1 : Int32) (x2 : Int32) (I : FI) (L : FL) (r : Int32 × FI × FL), c_313_0 n m x1 x2 I L = some r → Fr SI_313 I r.2.1 ∧ Fr SL_313 L r.2.2
  | 0, x1, x2, I, L, r, hf => by cases hf
  | m + 1, x1, x2, I, L, r, hf => by
    unfold c_313_0 b_313_0 at hf
    have hK0 := frc_313_0 n m
    obtain ⟨q1, hq1, hf⟩ := Option.bind_eq_some_iff.mp hf
    rcases ite_some hf with ⟨hc, hf⟩ | ⟨hc, hf⟩
    · cases hf; exact ⟨frx_r, frx_r⟩
    · obtain ⟨q2, hq2, hf⟩ := Option.bind_eq_some_iff.mp hf
      obtain ⟨q3, hq3, hf⟩ := Option.bind_eq_some_iff.mp hf
      rcases ite_some hf with ⟨hc, hf⟩ | ⟨hc, hf⟩
      · exact ⟨frx_t frx_r (frc_313_1 n _ hK0 x1 x2 I L r hf).1, frx_t frx_r (frc_313_1 n _ hK0 x1 x2 I L r hf).2⟩
      · obtain ⟨q4, hq4, hf⟩ := Option.bind_eq_some_iff.mp hf
        obtain ⟨q5, hq5, hf⟩ := Option.bind_eq_some_iff.mp hf
        have hIq5 : Fr SI_313 I q5.2.1 := frx_t frx_r (frx_m (fr_297 _ _ _ _ _ q5 hq5).1 (by decide))
        have hLq5 : Fr SL_313 L q5.2.2 := frx_t frx_r (frx_m (fr_297 _ _ _ _ _ q5 hq5).2 (by decide))
        rcases ite_some hf with ⟨hc, hf⟩ | ⟨hc, hf⟩
        · exact ⟨frx_t hIq5 (frc_313_1 n _ hK0 x1 x2 q5.2.1 q5.2.2 r hf).1, frx_t hLq5 (frc_313_1 n _ hK0 x1 x2 q5.2.1 q5.2.2 r hf).2⟩
        · exact ⟨frx_t hIq5 (frc_313_1 n _ hK0 x2 x2 q5.2.1 q5.2.2 r hf).1, frx_t hLq5 (frc_313_1 n _ hK0 x2 x2 q5.2.1 q5.2.2 r hf).2⟩
theorem fr_313 (n : Nat) (I : FI) (L : FL) (r : Int32 × FI × FL) (hf : f_313 n I L = some r) : Fr SI_313 I r.2.1 ∧ Fr SL_313 L r.2.2 := by
  unfold f_313 at hf
  obtain ⟨q0, hq0, hf⟩ := Option.bind_eq_some_iff.mp hf
  have hIq0 : Fr SI_313 I q0.1 := frx_t frx_r (frx_m (fr_252 _ _ _ q0 hq0).1 (by decide))
  have hLq0 : Fr SL_313 L q0.2 := frx_t frx_r (frx_m (fr_252 _ _ _ q0 hq0).2 (by decide))
  exact ⟨frx_t hIq0 (frc_313_0 n n (0 : Int32) (1 : Int32) q0.1 q0.2 r hf).1, frx_t hLq0 (frc_313_0 n n (0 : Int32) (1 : Int32) q0.1 q0.2 r hf).2⟩
def SI_314 : List Nat := [104, 105, 109, 1000, 1025, 1026, 1027, 1028]
def SL_314 : List Nat := []
theorem fr_314 (n : Nat) (I : FI) (L : FL) (r : Int32 × FI × FL) (hf : f_314 n I L = some r) : Fr SI_314 I r.2.1 ∧ Fr SL_314 L r.2.2 := by
  unfold f_314 at hf
  obtain ⟨q0, hq0, hf⟩ := Option.bind_eq_some_iff.mp hf
  rcases ite_some hf with ⟨hc, hf⟩ | ⟨hc, hf⟩
  · cases hf; exact ⟨(frx_v frx_r (by decide)), frx_r⟩
  · obtain ⟨q1, hq1, hf⟩ := Option.bind_eq_some_iff.mp hf
    have hIq1 : Fr SI_314 I q1.2.1 := frx_t (frx_v frx_r (by decide)) (frx_m (fr_313 _ _ _ q1 hq1).1 (by decide))
    have hLq1 : Fr SL_314 L q1.2.2 := frx_t frx_r (frx_m (fr_313 _ _ _ q1 hq1).2 (by decide))
    obtain ⟨q2, hq2, hf⟩ := Option.bind_eq_some_iff.mp hf
    cases hf; exact ⟨hIq1, hLq1⟩
def SI_315 : List Nat := [104, 105, 109, 1000, 1025, 1026, 1027, 1028]
def SL_315 : List Nat := []
theorem fr_315 (n : Nat) (I : FI) (L : FL) (r : Int32 × FI × FL) (hf : f_315 n I L = some r) : Fr SI_315 I r.2.1 ∧ Fr SL_315 L r.2.2 := by
  unfold f_315 at hf
  obtain ⟨q0, hq0, hf⟩ := Option.bind_eq_some_iff.mp hf
  rcases ite_some hf with ⟨hc, hf⟩ | ⟨hc, hf⟩
  · cases hf; exact ⟨(frx_v frx_r (by decide)), frx_r⟩
  · obtain ⟨q1, hq1, hf⟩ := Option.bind_eq_some_iff.mp hf
    have hIq1 : Fr SI_315 I q1.2.1 := frx_t (frx_v frx_r (by decide)) (frx_m (fr_313 _ _ _ q1 hq1).1 (by decide))
    have hLq1 : Fr SL_315 L q1.2.2 := frx_t frx_r (frx_m (fr_313 _ _ _ q1 hq1).2 (by decide))
    cases hf; exact ⟨hIq1, hLq1⟩
def SI_316 : List Nat := [104, 105, 109, 1000, 1025, 1026, 1027, 1028]
def SL_316 : List Nat := []
theorem frc_316_1 (n : Nat) (K0 : Int32 → Int32 → FI → FL → Option (Int32 × FI × FL)) (hK0 : ∀ (x1 : Int32) (x2 : Int32) (I : FI) (L : FL) (r : Int32 × FI × FL), K0 x1 x2 I L = some r → Fr SI_316 I r.2.1 ∧ Fr SL_316 L r.2.2) (x1 : Int32) (x2 : Int32) (I : FI) (L : FL) (r : Int32 × FI × FL) (hf : c_316_1 n K0 x1 x2 I L = some r) : Fr SI_316 I r.2.1 ∧ Fr SL_316 L r.2.2 := by
  unfold c_316_1 at hf
  exact ⟨frx_t frx_r (hK0 x1 (x2 + (1 : Int32)) I L r hf).1, frx_t frx_r (hK0 x1 (x2 + (1 : Int32)) I L r hf).2⟩
theorem frc_316_0 (n : Nat) : ∀ (m : Nat) (x1 : Int32) (x2 : Int32) (I : FI) (L : FL) (r : Int32 × FI × FL), c_316_0 n m x1 x2 I L = some r → Fr SI_316 I r.2.1 ∧ Fr SL_316 L r.2.2
  | 0, x1, x2, I, L, r, hf => by cases hf
  | m + 1, x1, x2, I, L, r, hf => by
    unfold c_316_0 b_316_0 at hf
    have hK0 := frc_316_0 n m
    obtain ⟨q3, hq3, hf⟩ := Option.bind_eq_some_iff.mp hf
    rcases ite_some hf with ⟨hc, hf⟩ | ⟨hc, hf⟩
    · cases hf; exact ⟨frx_r, frx_r⟩
    · obtain ⟨q4, hq4, hf⟩ := Option.bind_eq_some_iff.mp hf
      obtain ⟨q5, hq5, hf⟩ := Option.bind_eq_some_iff.mp hf
      rcases ite_some hf with ⟨hc, hf⟩ | ⟨hc, hf⟩
      · exact ⟨frx_t frx_r (frc_316_1 n _ hK0 x1 x2 I L r hf).1, frx_t frx_r (frc_316_1 n _ hK0 x1 x2 I L r hf).2⟩
      · obtain ⟨q6, hq6, hf⟩ := Option.bind_eq_some_iff.mp hf
        obtain ⟨q7, hq7, hf⟩ := Option.bind_eq_some_iff.mp hf
        obtain ⟨q8, hq8, hf⟩ := Option.bind_eq_some_iff.mp hf
        have hIq8 : Fr SI_316 I q8.2.1 := frx_t frx_r (frx_m (fr_297 _ _ _ _ _ q8 hq8).1 (by decide))
        have hLq8 : Fr SL_316 L q8.2.2 := frx_t frx_r (frx_m (fr_297 _ _ _ _ _ q8 hq8).2 (by decide))
        rcases ite_some hf with ⟨hc, hf⟩ | ⟨hc, hf⟩
        · exact ⟨frx_t hIq8 (frc_316_1 n _ hK0 x1 x2 q8.2.1 q8.2.2 r hf).1, frx_t hLq8 (frc_316_1 n _ hK0 x1 x2 q8.2.1 q8.2.2 r hf).2⟩
        · exact ⟨frx_t hIq8 (frc_316_1 n _ hK0 x2 x2 q8.2.1 q8.2.2 r hf).1, frx_t hLq8 (frc_316_1 n _ hK0 x2 x2 q8.2.1 q8.2.2 r hf).2⟩
theorem fr_316 (n : Nat) (I : FI) (L : FL) (r : Int32 × FI × FL) (hf : f_316 n I L = some r) : Fr SI_316 I r.2.1 ∧ Fr SL_316 L r.2.2 := by
  unfold f_316 at hf
  obtain ⟨q0, hq0, hf⟩ := Option.bind_eq_some_iff.mp hf
  rcases ite_some hf with ⟨hc, hf⟩ | ⟨hc, hf⟩
  · obtain ⟨q1, hq1, hf⟩ := Option.bind_eq_some_iff.mp hf
    have hIq1 : Fr SI_316 I q1.1 := frx_t (frx_v frx_r (by decide)) (frx_m (fr_252 _ _ _ q1 hq1).1 (by decide))
    have hLq1 : Fr SL_316 L q1.2 := frx_t frx_r (frx_m (fr_252 _ _ _ q1 hq1).2 (by decide))
    obtain ⟨q2, hq2, hf⟩ := Option.bind_eq_some_iff.mp hf
    exact ⟨frx_t hIq1 (frc_316_0 n n q2 (0 : Int32) q1.1 q1.2 r hf).1, frx_t hLq1 (frc_316_0 n n q2 (0 : Int32) q1.1 q1.2 r hf).2⟩
  · cases hf; exact ⟨(frx_v frx_r (by decide)), frx_r⟩
def SI_317 : List Nat := [104, 105, 109, 1000, 1025, 1026, 1027, 1028]
def SL_317 : List Nat := []
theorem frc_317_0 (n : Nat) : ∀ (m : Nat) (x1 : Int32) (x2 : Int32) (I : FI) (L : FL) (r : Int32 × FI × FL), c_317_0 n m x1 x2 I L = some r → Fr SI_317 I r.2.1 ∧ Fr SL_317 L r.2.2
  | 0, x1, x2, I, L, r, hf => by cases hf
  | m + 1, x1, x2, I, L, r, hf => by
    unfold c_317_0 b_317_0 at hf
    have hK0 := frc_317_0 n m
    rcases ite_some hf with ⟨hc, hf⟩ | ⟨hc, hf⟩
    · rcases ite_some hf with ⟨hc, hf⟩ | ⟨hc, hf⟩
      · cases hf; exact ⟨frx_r, frx_r⟩
      · rcases ite_some hf with ⟨hc, hf⟩ | ⟨hc, hf⟩
        · rcases ite_some hf with ⟨hc, hf⟩ | ⟨hc, hf⟩
          · obtain ⟨q2, hq2, hf⟩ := Option.bind_eq_some_iff.mp hf
            obtain ⟨q3, hq3, hf⟩ := Option.bind_eq_some_iff.mp hf
            obtain ⟨q4, hq4, hf⟩ := Option.bind_eq_some_iff.mp hf
            have hIq4 : Fr SI_317 I q4.2.1 := frx_t (frx_u frx_r (by decide) (by decide)) (frx_m (fr_297 _ _ _ _ _ q4 hq4).1 (by decide))
            have hLq4 : Fr SL_317 L q4.2.2 := frx_t frx_r (frx_m (fr_297 _ _ _ _ _ q4 hq4).2 (by decide))
            rcases ite_some hf with ⟨hc, hf⟩ | ⟨hc, hf⟩
            · exact ⟨frx_t hIq4 (hK0 x1 (x2 + (1 : Int32)) q4.2.1 q4.2.2 r hf).1, frx_t hLq4 (hK0 x1 (x2 + (1 : Int32)) q4.2.1 q4.2.2 r hf).2⟩
            · cases hf; exact ⟨hIq4, hLq4⟩
          · cases hf
        · cases hf
    · cases hf
theorem fr_317 (n : Nat) (x1 : Int32) (I : FI) (L : FL) (r : Int32 × FI × FL) (hf : f_317 n x1 I L = some r) : Fr SI_317 I r.2.1 ∧ Fr SL_317 L r.2.2 := by
  unfold f_317 at hf
  obtain ⟨q0, hq0, hf⟩ := Option.bind_eq_some_iff.mp hf
  rcases ite_some hf with ⟨hc, hf⟩ | ⟨hc, hf⟩
  · obtain ⟨q1, hq1, hf⟩ := Option.bind_eq_some_iff.mp hf
    have hIq1 : Fr SI_317 I q1.1 := frx_t (frx_v frx_r (by decide)) (frx_m (fr_252 _ _ _ q1 hq1).1 (by decide))
    have hLq1 : Fr SL_317 L q1.2 := frx_t frx_r (frx_m (fr_252 _ _ _ q1 hq1).2 (by decide))
    exact ⟨frx_t hIq1 (frc_317_0 n n x1 (0 : Int32) q1.1 q1.2 r hf).1, frx_t hLq1 (frc_317_0 n n x1 (0 : Int32) q1.1 q1.2 r hf).2⟩
  · cases hf; exact ⟨(frx_v frx_r (by decide)), frx_r⟩
def SI_320 : List Nat := [1000]
def SL_320 : List Nat := []
theorem frc_320_0 (n : Nat) : ∀ (m : Nat) (x1 : Int32) (x2 : Int32) (x3 : Int32) (I : FI) (L : FL) (r : Int32 × FI × FL), c_320_0 n m x1 x2 x3 I L = some r → Fr SI_320 I r.2.1 ∧ Fr SL_320 L r.2.2
  | 0, x1, x2, x3, I, L, r, hf => by cases hf
  | m + 1, x1, x2, x3, I, L, r, hf => by
    unfold c_320_0 b_320_0 at hf
    have hK0 := frc_320_0 n m
    obtain ⟨q2, hq2, hf⟩ := Option.bind_eq_some_iff.mp hf
    rcases ite_some hf with ⟨hc, hf⟩ | ⟨hc, hf⟩
    · obtain ⟨q3, hq3, hf⟩ := Option.bind_eq_some_iff.mp hf
      cases hf; exact ⟨frx_r, frx_r⟩
    · rcases ite_some hf with ⟨hc, hf⟩ | ⟨hc, hf⟩
      · rcases ite_some hf with ⟨hc, hf⟩ | ⟨hc, hf⟩
        · cases hf
        · exact ⟨frx_t frx_r (hK0 x1 (x2 + ((840 : Int32) / ((I 97 (((2 : Int32) * x3).toNatClampNeg)) + (1 : Int32)))) (x3 + (1 : Int32)) I L r hf).1, frx_t frx_r (hK0 x1 (x2 + ((840 : Int32) / ((I 97 (((2 : Int32) * x3).toNatClampNeg)) + (1 : Int32)))) (x3 + (1 : Int32)) I L r hf).2⟩
      · cases hf
theorem fr_320 (n : Nat) (x1 : Int32) (I : FI) (L : FL) (r : Int32 × FI × FL) (hf : f_320 n x1 I L = some r) : Fr SI_320 I r.2.1 ∧ Fr SL_320 L r.2.2 := by
  unfold f_320 at hf
  obtain ⟨q0, hq0, hf⟩ := Option.bind_eq_some_iff.mp hf
  rcases ite_some hf with ⟨hc, hf⟩ | ⟨hc, hf⟩
  · cases hf; exact ⟨(frx_v frx_r (by decide)), frx_r⟩
  · obtain ⟨q1, hq1, hf⟩ := Option.bind_eq_some_iff.mp hf
    rcases ite_some hf with ⟨hc, hf⟩ | ⟨hc, hf⟩
    · exact ⟨frx_t (frx_v frx_r (by decide)) (frc_320_0 n n x1 (0 : Int32) (0 : Int32) (u2 I 89 0 (0 : Int32)) L r hf).1, frx_t frx_r (frc_320_0 n n x1 (0 : Int32) (0 : Int32) (u2 I 89 0 (0 : Int32)) L r hf).2⟩
    · cases hf; exact ⟨(frx_v frx_r (by decide)), frx_r⟩
def SI_321 : List Nat := [1000]
def SL_321 : List Nat := []
theorem frc_321_2 (n : Nat) (K0 : Int32 → FI → FL → Option (Int32 × FI × FL)) (K1 : Int32 → Int32 → FI → FL → Option (Int32 × FI × FL)) (hK0 : ∀ (x1 : Int32) (I : FI) (L : FL) (r : Int32 × FI × FL), K0 x1 I L = some r → Fr SI_321 I r.2.1 ∧ Fr SL_321 L r.2.2) (hK1 : ∀ (x1 : Int32) (x2 : Int32) (I : FI) (L : FL) (r : Int32 × FI × FL), K1 x1 x2 I L = some r → Fr SI_321 I r.2.1 ∧ Fr SL_321 L r.2.2) (x1 : Int32) (x2 : Int32) (I : FI) (L : FL) (r : Int32 × FI × FL) (hf : c_321_2 n K0 K1 x1 x2 I L = some r) : Fr SI_321 I r.2.1 ∧ Fr SL_321 L r.2.2 := by
  unfold c_321_2 at hf
  exact ⟨frx_t frx_r (hK1 x1 (x2 + (1 : Int32)) I L r hf).1, frx_t frx_r (hK1 x1 (x2 + (1 : Int32)) I L r hf).2⟩
theorem frc_321_1 (n : Nat) (K0 : Int32 → FI → FL → Option (Int32 × FI × FL)) (hK0 : ∀ (x1 : Int32) (I : FI) (L : FL) (r : Int32 × FI × FL), K0 x1 I L = some r → Fr SI_321 I r.2.1 ∧ Fr SL_321 L r.2.2) : ∀ (m : Nat) (x1 : Int32) (x2 : Int32) (I : FI) (L : FL) (r : Int32 × FI × FL), c_321_1 n K0 m x1 x2 I L = some r → Fr SI_321 I r.2.1 ∧ Fr SL_321 L r.2.2
  | 0, x1, x2, I, L, r, hf => by cases hf
  | m + 1, x1, x2, I, L, r, hf => by
    unfold c_321_1 b_321_1 at hf
    have hK1 := frc_321_1 n K0 hK0 m
    obtain ⟨q2, hq2, hf⟩ := Option.bind_eq_some_iff.mp hf
    rcases ite_some hf with ⟨hc, hf⟩ | ⟨hc, hf⟩
    · exact ⟨frx_t frx_r (hK0 (x1 + (1 : Int32)) I L r hf).1, frx_t frx_r (hK0 (x1 + (1 : Int32)) I L r hf).2⟩
    · rcases ite_some hf with ⟨hc, hf⟩ | ⟨hc, hf⟩
      · rcases ite_some hf with ⟨hc, hf⟩ | ⟨hc, hf⟩
        · rcases ite_some hf with ⟨hc, hf⟩ | ⟨hc, hf⟩
          · exact ⟨frx_t frx_r (frc_321_2 n _ _ hK0 hK1 x1 x2 I L r hf).1, frx_t frx_r (frc_321_2 n _ _ hK0 hK1 x1 x2 I L r hf).2⟩
          · rcases ite_some hf with ⟨hc, hf⟩ | ⟨hc, hf⟩
            · rcases ite_some hf with ⟨hc, hf⟩ | ⟨hc, hf⟩
              · rcases ite_some hf with ⟨hc, hf⟩ | ⟨hc, hf⟩
                · cases hf
                · rcases ite_some hf with ⟨hc, hf⟩ | ⟨hc, hf⟩
                  · exact ⟨frx_t frx_r (frc_321_2 n _ _ hK0 hK1 x1 x2 I L r hf).1, frx_t frx_r (frc_321_2 n _ _ hK0 hK1 x1 x2 I L r hf).2⟩
                  · cases hf; exact ⟨frx_r, frx_r⟩
              · cases hf
            · cases hf
        · cases hf
      · cases hf
theorem frc_321_0 (n : Nat) : ∀ (m : Nat) (x1 : Int32) (I : FI) (L : FL) (r : Int32 × FI × FL), c_321_0 n m x1 I L = some r → Fr SI_321 I r.2.1 ∧ Fr SL_321 L r.2.2
  | 0, x1, I, L, r, hf => by cases hf
  | m + 1, x1, I, L, r, hf => by
    unfold c_321_0 b_321_0 at hf
    have hK0 := frc_321_0 n m
    obtain ⟨q1, hq1, hf⟩ := Option.bind_eq_some_iff.mp hf
    rcases ite_some hf with ⟨hc, hf⟩ | ⟨hc, hf⟩
    · cases hf; exact ⟨frx_r, frx_r⟩
    · exact ⟨frx_t frx_r (frc_321_1 n _ hK0 n x1 (0 : Int32) I L r hf).1, frx_t frx_r (frc_321_1 n _ hK0 n x1 (0 : Int32) I L r hf).2⟩
theorem fr_321 (n : Nat) (I : FI) (L : FL) (r : Int32 × FI × FL) (hf : f_321 n I L = some r) : Fr SI_321 I r.2.1 ∧ Fr SL_321 L r.2.2 := by
  unfold f_321 at hf
  obtain ⟨q0, hq0, hf⟩ := Option.bind_eq_some_iff.mp hf
  rcases ite_some hf with ⟨hc, hf⟩ | ⟨hc, hf⟩
  · exact ⟨frx_t (frx_v frx_r (by decide)) (frc_321_0 n n (0 : Int32) (u2 I 89 0 (0 : Int32)) L r hf).1, frx_t frx_r (frc_321_0 n n (0 : Int32) (u2 I 89 0 (0 : Int32)) L r hf).2⟩
  · cases hf; exact ⟨(frx_v frx_r (by decide)), frx_r⟩
def SI_322 : List Nat := [104, 105, 109, 1025, 1026, 1027, 1028]
def SL_322 : List Nat := []
theorem frc_322_1 (n : Nat) (K0 : Int32 → Int32 → FI → FL → Option (Int32 × FI × FL)) (hK0 : ∀ (x1 : Int32) (x2 : Int32) (I : FI) (L : FL) (r : Int32 × FI × FL), K0 x1 x2 I L = some r → Fr SI_322 I r.2.1 ∧ Fr SL_322 L r.2.2) (x1 : Int32) (x2 : Int32) (I : FI) (L : FL) (r : Int32 × FI × FL) (hf : c_322_1 n K0 x1 x2 I L = some r) : Fr SI_322 I r.2.1 ∧ Fr SL_322 L r.2.2 := by
  unfold c_322_1 at hf
  exact ⟨frx_t frx_r (hK0 x1 (x2 + (1 : Int32)) I L r hf).1, frx_t frx_r (hK0 x1 (x2 + (1 : Int32)) I L r hf).2⟩
theorem frc_322_0 (n : Nat) : ∀ (m : Nat) (x1 : Int32) (x2 : Int32) (I : FI) (L : FL) (r : Int32 × FI × FL), c_322_0 n m x1 x2 I L = some r → Fr SI_322 I r.2.1 ∧ Fr SL_322 L r.2.2
  | 0, x1, x2, I, L, r, hf => by cases hf
  | m + 1, x1, x2, I, L, r, hf => by
    unfold c_322_0 b_322_0 at hf
    have hK0 := frc_322_0 n m
    obtain ⟨q1, hq1, hf⟩ := Option.bind_eq_some_iff.mp hf
    rcases ite_some hf with ⟨hc, hf⟩ | ⟨hc, hf⟩
    · cases hf; exact ⟨frx_r, frx_r⟩
    · obtain ⟨q2, hq2, hf⟩ := Option.bind_eq_some_iff.mp hf
      obtain ⟨q3, hq3, hf⟩ := Option.bind_eq_some_iff.mp hf
      have hIq3 : Fr SI_322 I q3.2.1 := frx_t frx_r (frx_m (fr_297 _ _ _ _ _ q3 hq3).1 (by decide))
      have hLq3 : Fr SL_322 L q3.2.2 := frx_t frx_r (frx_m (fr_297 _ _ _ _ _ q3 hq3).2 (by decide))
      rcases ite_some hf with ⟨hc, hf⟩ | ⟨hc, hf⟩
      · exact ⟨frx_t hIq3 (frc_322_1 n _ hK0 x1 x2 q3.2.1 q3.2.2 r hf).1, frx_t hLq3 (frc_322_1 n _ hK0 x1 x2 q3.2.1 q3.2.2 r hf).2⟩
      · obtain ⟨q4, hq4, hf⟩ := Option.bind_eq_some_iff.mp hf
        obtain ⟨q5, hq5, hf⟩ := Option.bind_eq_some_iff.mp hf
        have hIq5 : Fr SI_322 I q5.2.1 := frx_t hIq3 (frx_m (fr_297 _ _ _ _ _ q5 hq5).1 (by decide))
        have hLq5 : Fr SL_322 L q5.2.2 := frx_t hLq3 (frx_m (fr_297 _ _ _ _ _ q5 hq5).2 (by decide))
        rcases ite_some hf with ⟨hc, hf⟩ | ⟨hc, hf⟩
        · exact ⟨frx_t hIq5 (frc_322_1 n _ hK0 x1 x2 q5.2.1 q5.2.2 r hf).1, frx_t hLq5 (frc_322_1 n _ hK0 x1 x2 q5.2.1 q5.2.2 r hf).2⟩
        · cases hf; exact ⟨hIq5, hLq5⟩
theorem fr_322 (n : Nat) (x1 : Int32) (I : FI) (L : FL) (r : Int32 × FI × FL) (hf : f_322 n x1 I L = some r) : Fr SI_322 I r.2.1 ∧ Fr SL_322 L r.2.2 := by
  unfold f_322 at hf
  obtain ⟨q0, hq0, hf⟩ := Option.bind_eq_some_iff.mp hf
  have hIq0 : Fr SI_322 I q0.1 := frx_t frx_r (frx_m (fr_252 _ _ _ q0 hq0).1 (by decide))
  have hLq0 : Fr SL_322 L q0.2 := frx_t frx_r (frx_m (fr_252 _ _ _ q0 hq0).2 (by decide))
  exact ⟨frx_t hIq0 (frc_322_0 n n x1 (0 : Int32) q0.1 q0.2 r hf).1, frx_t hLq0 (frc_322_0 n n x1 (0 : Int32) q0.1 q0.2 r hf).2⟩
def SI_323 : List Nat := [104, 105, 109, 1000, 1025, 1026, 1027, 1028]
def SL_323 : List Nat := []
theorem fr_323 (n : Nat) (x1 : Int32) (I : FI) (L : FL) (r : Int32 × FI × FL) (hf : f_323 n x1 I L = some r) : Fr SI_323 I r.2.1 ∧ Fr SL_323 L r.2.2 := by
  unfold f_323 at hf
  obtain ⟨q0, hq0, hf⟩ := Option.bind_eq_some_iff.mp hf
  rcases ite_some hf with ⟨hc, hf⟩ | ⟨hc, hf⟩
  · cases hf; exact ⟨(frx_v frx_r (by decide)), frx_r⟩
  · obtain ⟨q1, hq1, hf⟩ := Option.bind_eq_some_iff.mp hf
    have hIq1 : Fr SI_323 I q1.2.1 := frx_t (frx_v frx_r (by decide)) (frx_m (fr_322 _ _ _ _ q1 hq1).1 (by decide))
    have hLq1 : Fr SL_323 L q1.2.2 := frx_t frx_r (frx_m (fr_322 _ _ _ _ q1 hq1).2 (by decide))
    cases hf; exact ⟨hIq1, hLq1⟩
def SI_324 : List Nat := [104, 105, 109, 1000, 1025, 1026, 1027, 1028]
def SL_324 : List Nat := []
theorem frc_324_0 (n : Nat) : ∀ (m : Nat) (x1 : Int32) (I : FI) (L : FL) (r : Int32 × FI × FL), c_324_0 n m x1 I L = some r → Fr SI_324 I r.2.1 ∧ Fr SL_324 L r.2.2
  | 0, x1, I, L, r, hf => by cases hf
  | m + 1, x1, I, L, r, hf => by
    unfold c_324_0 b_324_0 at hf
    have hK0 := frc_324_0 n m
    obtain ⟨q1, hq1, hf⟩ := Option.bind_eq_some_iff.mp hf
    rcases ite_some hf with ⟨hc, hf⟩ | ⟨hc, hf⟩
    · cases hf; exact ⟨frx_r, frx_r⟩
    · obtain ⟨q2, hq2, hf⟩ := Option.bind_eq_some_iff.mp hf
      have hIq2 : Fr SI_324 I q2.2.1 := frx_t frx_r (frx_m (fr_322 _ _ _ _ q2 hq2).1 (by decide))
      have hLq2 : Fr SL_324 L q2.2.2 := frx_t frx_r (frx_m (fr_322 _ _ _ _ q2 hq2).2 (by decide))
      rcases ite_some hf with ⟨hc, hf⟩ | ⟨hc, hf⟩
      · exact ⟨frx_t hIq2 (hK0 (x1 + (1 : Int32)) q2.2.1 q2.2.2 r hf).1, frx_t hLq2 (hK0 (x1 + (1 : Int32)) q2.2.1 q2.2.2 r hf).2⟩
      · cases hf; exact ⟨hIq2, hLq2⟩
theorem fr_324 (n : Nat) (I : FI) (L : FL) (r : Int32 × FI × FL) (hf : f_324 n I L = some r) : Fr SI_324 I r.2.1 ∧ Fr SL_324 L r.2.2 := by
  unfold f_324 at hf
  obtain ⟨q0, hq0, hf⟩ := Option.bind_eq_some_iff.mp hf
  rcases ite_some hf with ⟨hc, hf⟩ | ⟨hc, hf⟩
  · exact ⟨frx_t (frx_v frx_r (by decide)) (frc_324_0 n n (0 : Int32) (u2 I 89 0 (0 : Int32)) L r hf).1, frx_t frx_r (frc_324_0 n n (0 : Int32) (u2 I 89 0 (0 : Int32)) L r hf).2⟩
  · cases hf; exact ⟨(frx_v frx_r (by decide)), frx_r⟩
def SI_327 : List Nat := [103, 104, 105, 106, 107, 108, 113, 1025, 1026, 1027, 1028, 1040, 1041, 1042, 1043]
def SL_327 : List Nat := []
theorem frc_327_5 (n : Nat) (K2 : Int32 → FI → FL → Option (FI × FL)) (K3 : Int32 → Int32 → FI → FL → Option (FI × FL)) (hK2 : ∀ (x2 : Int32) (I : FI) (L : FL) (r : FI × FL), K2 x2 I L = some r → Fr SI_327 I r.1 ∧ Fr SL_327 L r.2) (hK3 : ∀ (x2 : Int32) (x3 : Int32) (I : FI) (L : FL) (r : FI × FL), K3 x2 x3 I L = some r → Fr SI_327 I r.1 ∧ Fr SL_327 L r.2) (x2 : Int32) (x3 : Int32) (I : FI) (L : FL) (r : FI × FL) (hf : c_327_5 n K2 K3 x2 x3 I L = some r) : Fr SI_327 I r.1 ∧ Fr SL_327 L r.2 := by
  unfold c_327_5 at hf
  exact ⟨frx_t frx_r (hK3 x2 (x3 + (1 : Int32)) I L r hf).1, frx_t frx_r (hK3 x2 (x3 + (1 : Int32)) I L r hf).2⟩
theorem frc_327_6 (n : Nat) (K2 : Int32 → FI → FL → Option (FI × FL)) (K3 : Int32 → Int32 → FI → FL → Option (FI × FL)) (K4 : Int32 → Int32 → Int32 → Int32 → FI → FL → Option (FI × FL)) (hK2 : ∀ (x2 : Int32) (I : FI) (L : FL) (r : FI × FL), K2 x2 I L = some r → Fr SI_327 I r.1 ∧ Fr SL_327 L r.2) (hK3 : ∀ (x2 : Int32) (x3 : Int32) (I : FI) (L : FL) (r : FI × FL), K3 x2 x3 I L = some r → Fr SI_327 I r.1 ∧ Fr SL_327 L r.2) (hK4 : ∀ (x2 : Int32) (x3 : Int32) (x4 : Int32) (x5 : Int32) (I : FI) (L : FL) (r : FI × FL), K4 x2 x3 x4 x5 I L = some r → Fr SI_327 I r.1 ∧ Fr SL_327 L r.2) (x2 : Int32) (x3 : Int32) (x5 : Int32) (s0 : Int32) (I : FI) (L : FL) (r : FI × FL) (hf : c_327_6 n K2 K3 K4 x2 x3 x5 s0 I L = some r) : Fr SI_327 I r.1 ∧ Fr SL_327 L r.2 := by
  unfold c_327_6 at hf
  exact ⟨frx_t frx_r (hK4 x2 x3 s0 (x5 + (1 : Int32)) I L r hf).1, frx_t frx_r (hK4 x2 x3 s0 (x5 + (1 : Int32)) I L r hf).2⟩
theorem frc_327_4 (n : Nat) (K2 : Int32 → FI → FL → Option (FI × FL)) (K3 : Int32 → Int32 → FI → FL → Option (FI × FL)) (hK2 : ∀ (x2 : Int32) (I : FI) (L : FL) (r : FI × FL), K2 x2 I L = some r → Fr SI_327 I r.1 ∧ Fr SL_327 L r.2) (hK3 : ∀ (x2 : Int32) (x3 : Int32) (I : FI) (L : FL) (r : FI × FL), K3 x2 x3 I L = some r → Fr SI_327 I r.1 ∧ Fr SL_327 L r.2) : ∀ (m : Nat) (x2 : Int32) (x3 : Int32) (x4 : Int32) (x5 : Int32) (I : FI) (L : FL) (r : FI × FL), c_327_4 n K2 K3 m x2 x3 x4 x5 I L = some r → Fr SI_327 I r.1 ∧ Fr SL_327 L r.2
  | 0, x2, x3, x4, x5, I, L, r, hf => by cases hf
  | m + 1, x2, x3, x4, x5, I, L, r, hf => by
    unfold c_327_4 b_327_4 at hf
    have hK4 := frc_327_4 n K2 K3 hK2 hK3 m
    rcases ite_some hf with ⟨hc, hf⟩ | ⟨hc, hf⟩
    · rcases ite_some hf with ⟨hc, hf⟩ | ⟨hc, hf⟩
      · exact ⟨frx_t (frx_v (frx_v frx_r (by decide)) (by decide)) (frc_327_5 n _ _ hK2 hK3 x2 x3 (u2 (u2 I 89 42 (((100 : Int32) * x2) + x3)) 89 43 x4) L r hf).1, frx_t frx_r (frc_327_5 n _ _ hK2 hK3 x2 x3 (u2 (u2 I 89 42 (((100 : Int32) * x2) + x3)) 89 43 x4) L r hf).2⟩
      · exact ⟨frx_t frx_r (frc_327_5 n _ _ hK2 hK3 x2 x3 I L r hf).1, frx_t frx_r (frc_327_5 n _ _ hK2 hK3 x2 x3 I L r hf).2⟩
    · rcases ite_some hf with ⟨hc, hf⟩ | ⟨hc, hf⟩
      · rcases ite_some hf with ⟨hc, hf⟩ | ⟨hc, hf⟩
        · exact ⟨frx_t frx_r (frc_327_6 n _ _ _ hK2 hK3 hK4 x2 x3 x5 x4 I L r hf).1, frx_t frx_r (frc_327_6 n _ _ _ hK2 hK3 hK4 x2 x3 x5 x4 I L r hf).2⟩
        · rcases ite_some hf with ⟨hc, hf⟩ | ⟨hc, hf⟩
          · exact ⟨frx_t frx_r (frc_327_6 n _ _ _ hK2 hK3 hK4 x2 x3 x5 (I 113 ((((10 : Int32) * (((4 : Int32) * x3) + x2)) + x5).toNatClampNeg)) I L r hf).1, frx_t frx_r (frc_327_6 n _ _ _ hK2 hK3 hK4 x2 x3 x5 (I 113 ((((10 : Int32) * (((4 : Int32) * x3) + x2)) + x5).toNatClampNeg)) I L r hf).2⟩
          · cases hf
      · cases hf
theorem frc_327_3 (n : Nat) (K2 : Int32 → FI → FL → Option (FI × FL)) (hK2 : ∀ (x2 : Int32) (I : FI) (L : FL) (r : FI × FL), K2 x2 I L = some r → Fr SI_327 I r.1 ∧ Fr SL_327 L r.2) : ∀ (m : Nat) (x2 : Int32) (x3 : Int32) (I : FI) (L : FL) (r : FI × FL), c_327_3 n K2 m x2 x3 I L = some r → Fr SI_327 I r.1 ∧ Fr SL_327 L r.2
  | 0, x2, x3, I, L, r, hf => by cases hf
  | m + 1, x2, x3, I, L, r, hf => by
    unfold c_327_3 b_327_3 at hf
    have hK3 := frc_327_3 n K2 hK2 m
    obtain ⟨q1, hq1, hf⟩ := Option.bind_eq_some_iff.mp hf
    rcases ite_some hf with ⟨hc, hf⟩ | ⟨hc, hf⟩
    · exact ⟨frx_t frx_r (hK2 (x2 + (1 : Int32)) I L r hf).1, frx_t frx_r (hK2 (x2 + (1 : Int32)) I L r hf).2⟩
    · exact ⟨frx_t frx_r (frc_327_4 n _ _ hK2 hK3 n x2 x3 (0 : Int32) (0 : Int32) I L r hf).1, frx_t frx_r (frc_327_4 n _ _ hK2 hK3 n x2 x3 (0 : Int32) (0 : Int32) I L r hf).2⟩
theorem frc_327_2 (n : Nat) : ∀ (m : Nat) (x2 : Int32) (I : FI) (L : FL) (r : FI × FL), c_327_2 n m x2 I L = some r → Fr SI_327 I r.1 ∧ Fr SL_327 L r.2
  | 0, x2, I, L, r, hf => by cases hf
  | m + 1, x2, I, L, r, hf => by
    unfold c_327_2 b_327_2 at hf
    have hK2 := frc_327_2 n m
    obtain ⟨q0, hq0, hf⟩ := Option.bind_eq_some_iff.mp hf
    rcases ite_some hf with ⟨hc, hf⟩ | ⟨hc, hf⟩
    · cases hf; exact ⟨frx_r, frx_r⟩
    · exact ⟨frx_t frx_r (frc_327_3 n _ hK2 n x2 (0 : Int32) I L r hf).1, frx_t frx_r (frc_327_3 n _ hK2 n x2 (0 : Int32) I L r hf).2⟩
theorem frc_327_9 (n : Nat) (K1 : Int32 → Int32 → FI → FL → Option (FI × FL)) (hK1 : ∀ (x1 : Int32) (x2 : Int32) (I : FI) (L : FL) (r : FI × FL), K1 x1 x2 I L = some r → Fr SI_327 I r.1 ∧ Fr SL_327 L r.2) (x1 : Int32) (x2 : Int32) (I : FI) (L : FL) (r : FI × FL) (hf : c_327_9 n K1 x1 x2 I L = some r) : Fr SI_327 I r.1 ∧ Fr SL_327 L r.2 := by
  unfold c_327_9 at hf
  exact ⟨frx_t frx_r (hK1 x1 (x2 + (1 : Int32)) I L r hf).1, frx_t frx_r (hK1 x1 (x2 + (1 : Int32)) I L r hf).2⟩
theorem frc_327_11 (n : Nat) (K1 : Int32 → Int32 → FI → FL → Option (FI × FL)) (K8 : Int32 → Int32 → Int32 → FI → FL → Option (FI × FL)) (K10 : Int32 → Int32 → Int32 → Int32 → FI → FL → Option (FI × FL)) (hK1 : ∀ (x1 : Int32) (x2 : Int32) (I : FI) (L : FL) (r : FI × FL), K1 x1 x2 I L = some r → Fr SI_327 I r.1 ∧ Fr SL_327 L r.2) (hK8 : ∀ (x1 : Int32) (x2 : Int32) (x3 : Int32) (I : FI) (L : FL) (r : FI × FL), K8 x1 x2 x3 I L = some r → Fr SI_327 I r.1 ∧ Fr SL_327 L r.2) (hK10 : ∀ (x1 : Int32) (x2 : Int32) (x3 : Int32) (x4 : Int32) (I : FI) (L : FL) (r : FI × FL), K10 x1 x2 x3 x4 I L = some r → Fr SI_327 I r.1 ∧ Fr SL_327 L r.2) (x1 : Int32) (x2 : Int32) (x3 : Int32) (x4 : Int32) (s0 : Int32) (s1 : Int32) (I : FI) (L : FL) (r : FI × FL) (hf : c_327_11 n K1 K8 K10 x1 x2 x3 x4 s0 s1 I L = some r) : Fr SI_327 I r.1 ∧ Fr SL_327 L r.2 := by
  unfold c_327_11 at hf
  rcases ite_some hf with ⟨hc, hf⟩ | ⟨hc, hf⟩
  · rcases ite_some hf with ⟨hc, hf⟩ | ⟨hc, hf⟩
    · exact ⟨frx_t (frx_u frx_r (by decide) (by decide)) (hK10 x1 x2 x3 (x4 + (1 : Int32)) (u2 I 113 ((s1 + s0).toNatClampNeg) ((I 113 ((s1 + s0).toNatClampNeg)) + (1 : Int32))) L r hf).1, frx_t frx_r (hK10 x1 x2 x3 (x4 + (1 : Int32)) (u2 I 113 ((s1 + s0).toNatClampNeg) ((I 113 ((s1 + s0).toNatClampNeg)) + (1 : Int32))) L r hf).2⟩
    · cases hf
  · cases hf
theorem frc_327_10 (n : Nat) (K1 : Int32 → Int32 → FI → FL → Option (FI × FL)) (K8 : Int32 → Int32 → Int32 → FI → FL → Option (FI × FL)) (hK1 : ∀ (x1 : Int32) (x2 : Int32) (I : FI) (L : FL) (r : FI × FL), K1 x1 x2 I L = some r → Fr SI_327 I r.1 ∧ Fr SL_327 L r.2) (hK8 : ∀ (x1 : Int32) (x2 : Int32) (x3 : Int32) (I : FI) (L : FL) (r : FI × FL), K8 x1 x2 x3 I L = some r → Fr SI_327 I r.1 ∧ Fr SL_327 L r.2) : ∀ (m : Nat) (x1 : Int32) (x2 : Int32) (x3 : Int32) (x4 : Int32) (I : FI) (L : FL) (r : FI × FL), c_327_10 n K1 K8 m x1 x2 x3 x4 I L = some r → Fr SI_327 I r.1 ∧ Fr SL_327 L r.2
  | 0, x1, x2, x3, x4, I, L, r, hf => by cases hf
  | m + 1, x1, x2, x3, x4, I, L, r, hf => by
    unfold c_327_10 b_327_10 at hf
    have hK10 := frc_327_10 n K1 K8 hK1 hK8 m
    obtain ⟨q6, hq6, hf⟩ := Option.bind_eq_some_iff.mp hf
    rcases ite_some hf with ⟨hc, hf⟩ | ⟨hc, hf⟩
    · exact ⟨frx_t frx_r (hK8 x1 x2 (x3 + (1 : Int32)) I L r hf).1, frx_t frx_r (hK8 x1 x2 (x3 + (1 : Int32)) I L r hf).2⟩
    · rcases ite_some hf with ⟨hc, hf⟩ | ⟨hc, hf⟩
      · rcases ite_some hf with ⟨hc, hf⟩ | ⟨hc, hf⟩
        · rcases ite_some hf with ⟨hc, hf⟩ | ⟨hc, hf⟩
          · exact ⟨frx_t frx_r (frc_327_11 n _ _ _ hK1 hK8 hK10 x1 x2 x3 x4 (I 106 ((((4 : Int32) * x3) + x4).toNatClampNeg)) ((10 : Int32) * (((4 : Int32) * x3) + x4)) I L r hf).1, frx_t frx_r (frc_327_11 n _ _ _ hK1 hK8 hK10 x1 x2 x3 x4 (I 106 ((((4 : Int32) * x3) + x4).toNatClampNeg)) ((10 : Int32) * (((4 : Int32) * x3) + x4)) I L r hf).2⟩
          · cases hf
        · exact ⟨frx_t frx_r (frc_327_11 n _ _ _ hK1 hK8 hK10 x1 x2 x3 x4 (9 : Int32) ((10 : Int32) * (((4 : Int32) * x3) + x4)) I L r hf).1, frx_t frx_r (frc_327_11 n _ _ _ hK1 hK8 hK10 x1 x2 x3 x4 (9 : Int32) ((10 : Int32) * (((4 : Int32) * x3) + x4)) I L r hf).2⟩
      · cases hf
theorem frc_327_8 (n : Nat) (K1 : Int32 → Int32 → FI → FL → Option (FI × FL)) (hK1 : ∀ (x1 : Int32) (x2 : Int32) (I : FI) (L : FL) (r : FI × FL), K1 x1 x2 I L = some r → Fr SI_327 I r.1 ∧ Fr SL_327 L r.2) : ∀ (m : Nat) (x1 : Int32) (x2 : Int32) (x3 : Int32) (I : FI) (L : FL) (r : FI × FL), c_327_8 n K1 m x1 x2 x3 I L = some r → Fr SI_327 I r.1 ∧ Fr SL_327 L r.2
  | 0, x1, x2, x3, I, L, r, hf => by cases hf
  | m + 1, x1, x2, x3, I, L, r, hf => by
    unfold c_327_8 b_327_8 at hf
    have hK8 := frc_327_8 n K1 hK1 m
    obtain ⟨q5, hq5, hf⟩ := Option.bind_eq_some_iff.mp hf
    rcases ite_some hf with ⟨hc, hf⟩ | ⟨hc, hf⟩
    · exact ⟨frx_t frx_r (frc_327_9 n _ hK1 x1 x2 I L r hf).1, frx_t frx_r (frc_327_9 n _ hK1 x1 x2 I L r hf).2⟩
    · exact ⟨frx_t frx_r (frc_327_10 n _ _ hK1 hK8 n x1 x2 x3 (0 : Int32) I L r hf).1, frx_t frx_r (frc_327_10 n _ _ hK1 hK8 n x1 x2 x3 (0 : Int32) I L r hf).2⟩
theorem frc_327_7 (n : Nat) (K1 : Int32 → Int32 → FI → FL → Option (FI × FL)) (hK1 : ∀ (x1 : Int32) (x2 : Int32) (I : FI) (L : FL) (r : FI × FL), K1 x1 x2 I L = some r → Fr SI_327 I r.1 ∧ Fr SL_327 L r.2) (x1 : Int32) (x2 : Int32) (s0 : Int32) (I : FI) (L : FL) (r : FI × FL) (hf : c_327_7 n K1 x1 x2 s0 I L = some r) : Fr SI_327 I r.1 ∧ Fr SL_327 L r.2 := by
  unfold c_327_7 at hf
  exact ⟨frx_t (frx_v (frx_v frx_r (by decide)) (by decide)) (frc_327_8 n _ hK1 n x1 x2 (0 : Int32) (u2 (u2 I 89 41 s0) 89 40 ((I 89 40) + (1 : Int32))) L r hf).1, frx_t frx_r (frc_327_8 n _ hK1 n x1 x2 (0 : Int32) (u2 (u2 I 89 41 s0) 89 40 ((I 89 40) + (1 : Int32))) L r hf).2⟩
theorem frc_327_1 (n : Nat) : ∀ (m : Nat) (x1 : Int32) (x2 : Int32) (I : FI) (L : FL) (r : FI × FL), c_327_1 n m x1 x2 I L = some r → Fr SI_327 I r.1 ∧ Fr SL_327 L r.2
  | 0, x1, x2, I, L, r, hf => by cases hf
  | m + 1, x1, x2, I, L, r, hf => by
    unfold c_327_1 b_327_1 at hf
    have hK1 := frc_327_1 n m
    rcases ite_some hf with ⟨hc, hf⟩ | ⟨hc, hf⟩
    · exact ⟨frx_t (frx_v (frx_v frx_r (by decide)) (by decide)) (frc_327_2 n n (0 : Int32) (u2 (u2 I 89 42 (-1 : Int32)) 89 43 (I 89 40)) L r hf).1, frx_t frx_r (frc_327_2 n n (0 : Int32) (u2 (u2 I 89 42 (-1 : Int32)) 89 43 (I 89 40)) L r hf).2⟩
    · obtain ⟨q2, hq2, hf⟩ := Option.bind_eq_some_iff.mp hf
      have hIq2 : Fr SI_327 I q2.1 := frx_t frx_r (frx_m (fr_252 _ _ _ q2 hq2).1 (by decide))
      have hLq2 : Fr SL_327 L q2.2 := frx_t frx_r (frx_m (fr_252 _ _ _ q2 hq2).2 (by decide))
      obtain ⟨q3, hq3, hf⟩ := Option.bind_eq_some_iff.mp hf
      have hIq3 : Fr SI_327 I q3.1 := frx_t (frx_v hIq2 (by decide)) (frx_m (fr_260 _ _ _ _ q3 hq3).1 (by decide))
      have hLq3 : Fr SL_327 L q3.2 := frx_t hLq2 (frx_m (fr_260 _ _ _ _ q3 hq3).2 (by decide))
      obtain ⟨q4, hq4, hf⟩ := Option.bind_eq_some_iff.mp hf
      rcases ite_some hf with ⟨hc, hf⟩ | ⟨hc, hf⟩
      · rcases ite_some hf with ⟨hc, hf⟩ | ⟨hc, hf⟩
        · exact ⟨frx_t hIq3 (frc_327_7 n _ hK1 x1 x2 (q3.1 89 41) q3.1 q3.2 r hf).1, frx_t hLq3 (frc_327_7 n _ hK1 x1 x2 (q3.1 89 41) q3.1 q3.2 r hf).2⟩
        · exact ⟨frx_t hIq3 (frc_327_7 n _ hK1 x1 x2 x2 q3.1 q3.2 r hf).1, frx_t hLq3 (frc_327_7 n _ hK1 x1 x2 x2 q3.1 q3.2 r hf).2⟩
      · exact ⟨frx_t hIq3 (frc_327_9 n _ hK1 x1 x2 q3.1 q3.2 r hf).1, frx_t hLq3 (frc_327_9 n _ hK1 x1 x2 q3.1 q3.2 r hf).2⟩
theorem frc_327_0 (n : Nat) : ∀ (m : Nat) (x1 : Int32) (x2 : Int32) (I : FI) (L : FL) (r : FI × FL), c_327_0 n m x1 x2 I L = some r → Fr SI_327 I r.1 ∧ Fr SL_327 L r.2
  | 0, x1, x2, I, L, r, hf => by cases hf
  | m + 1, x1, x2, I, L, r, hf => by
    unfold c_327_0 b_327_0 at hf
    have hK0 := frc_327_0 n m
    rcases ite_some hf with ⟨hc, hf⟩ | ⟨hc, hf⟩
    · exact ⟨frx_t frx_r (frc_327_1 n n x1 (0 : Int32) I L r hf).1, frx_t frx_r (frc_327_1 n n x1 (0 : Int32) I L r hf).2⟩
    · rcases ite_some hf with ⟨hc, hf⟩ | ⟨hc, hf⟩
      · exact ⟨frx_t (frx_u frx_r (by decide) (by decide)) (hK0 x1 (x2 + (1 : Int32)) (u2 I 113 x2.toNatClampNeg (0 : Int32)) L r hf).1, frx_t frx_r (hK0 x1 (x2 + (1 : Int32)) (u2 I 113 x2.toNatClampNeg (0 : Int32)) L r hf).2⟩
      · cases hf
theorem fr_327 (n : Nat) (x1 : Int32) (I : FI) (L : FL) (r : FI × FL) (hf : f_327 n x1 I L = some r) : Fr SI_327 I r.1 ∧ Fr SL_327 L r.2 := by
  unfold f_327 at hf
  exact ⟨frx_t (frx_v (frx_v frx_r (by decide)) (by decide)) (frc_327_0 n n x1 (0 : Int32) (u2 (u2 I 89 40 (0 : Int32)) 89 41 (-1 : Int32)) L r hf).1, frx_t frx_r (frc_327_0 n n x1 (0 : Int32) (u2 (u2 I 89 40 (0 : Int32)) 89 41 (-1 : Int32)) L r hf).2⟩
def SI_328 : List Nat := [103, 104, 105, 106, 107, 108, 113, 1000, 1025, 1026, 1027, 1028, 1040, 1041, 1042, 1043]
def SL_328 : List Nat := []
theorem fr_328 (n : Nat) (x1 : Int32) (I : FI) (L : FL) (r : Int32 × FI × FL) (hf : f_328 n x1 I L = some r) : Fr SI_328 I r.2.1 ∧ Fr SL_328 L r.2.2 := by
  unfold f_328 at hf
  obtain ⟨q0, hq0, hf⟩ := Option.bind_eq_some_iff.mp hf
  rcases ite_some hf with ⟨hc, hf⟩ | ⟨hc, hf⟩
  · obtain ⟨q1, hq1, hf⟩ := Option.bind_eq_some_iff.mp hf
    have hIq1 : Fr SI_328 I q1.1 := frx_t (frx_v frx_r (by decide)) (frx_m (fr_327 _ _ _ _ q1 hq1).1 (by decide))
    have hLq1 : Fr SL_328 L q1.2 := frx_t frx_r (frx_m (fr_327 _ _ _ _ q1 hq1).2 (by decide))
    cases hf; exact ⟨hIq1, hLq1⟩
  · cases hf; exact ⟨(frx_v frx_r (by decide)), frx_r⟩
def SI_329 : List Nat := [103, 104, 105, 106, 107, 108, 113, 1000, 1025, 1026, 1027, 1028, 1040, 1041, 1042, 1043]
def SL_329 : List Nat := []
theorem fr_329 (n : Nat) (x1 : Int32) (I : FI) (L : FL) (r : Int32 × FI × FL) (hf : f_329 n x1 I L = some r) : Fr SI_329 I r.2.1 ∧ Fr SL_329 L r.2.2 := by
  unfold f_329 at hf
  obtain ⟨q0, hq0, hf⟩ := Option.bind_eq_some_iff.mp hf
  rcases ite_some hf with ⟨hc, hf⟩ | ⟨hc, hf⟩
  · obtain ⟨q1, hq1, hf⟩ := Option.bind_eq_some_iff.mp hf
    have hIq1 : Fr SI_329 I q1.1 := frx_t (frx_v frx_r (by decide)) (frx_m (fr_327 _ _ _ _ q1 hq1).1 (by decide))
    have hLq1 : Fr SL_329 L q1.2 := frx_t frx_r (frx_m (fr_327 _ _ _ _ q1 hq1).2 (by decide))
    cases hf; exact ⟨hIq1, hLq1⟩
  · cases hf; exact ⟨(frx_v frx_r (by decide)), frx_r⟩
def SI_330 : List Nat := [103, 104, 105, 106, 107, 108, 113, 1000, 1025, 1026, 1027, 1028, 1040, 1041, 1042, 1043]
def SL_330 : List Nat := []
theorem fr_330 (n : Nat) (x1 : Int32) (I : FI) (L : FL) (r : Int32 × FI × FL) (hf : f_330 n x1 I L = some r) : Fr SI_330 I r.2.1 ∧ Fr SL_330 L r.2.2 := by
  unfold f_330 at hf
  obtain ⟨q0, hq0, hf⟩ := Option.bind_eq_some_iff.mp hf
  rcases ite_some hf with ⟨hc, hf⟩ | ⟨hc, hf⟩
  · obtain ⟨q1, hq1, hf⟩ := Option.bind_eq_some_iff.mp hf
    have hIq1 : Fr SI_330 I q1.1 := frx_t (frx_v frx_r (by decide)) (frx_m (fr_327 _ _ _ _ q1 hq1).1 (by decide))
    have hLq1 : Fr SL_330 L q1.2 := frx_t frx_r (frx_m (fr_327 _ _ _ _ q1 hq1).2 (by decide))
    cases hf; exact ⟨hIq1, hLq1⟩
  · cases hf; exact ⟨(frx_v frx_r (by decide)), frx_r⟩
def SI_331 : List Nat := [103, 104, 105, 106, 107, 108, 113, 1000, 1025, 1026, 1027, 1028, 1040, 1041, 1042, 1043]
def SL_331 : List Nat := []
theorem fr_331 (n : Nat) (x1 : Int32) (I : FI) (L : FL) (r : Int32 × FI × FL) (hf : f_331 n x1 I L = some r) : Fr SI_331 I r.2.1 ∧ Fr SL_331 L r.2.2 := by
  unfold f_331 at hf
  obtain ⟨q0, hq0, hf⟩ := Option.bind_eq_some_iff.mp hf
  rcases ite_some hf with ⟨hc, hf⟩ | ⟨hc, hf⟩
  · obtain ⟨q1, hq1, hf⟩ := Option.bind_eq_some_iff.mp hf
    have hIq1 : Fr SI_331 I q1.1 := frx_t (frx_v frx_r (by decide)) (frx_m (fr_327 _ _ _ _ q1 hq1).1 (by decide))
    have hLq1 : Fr SL_331 L q1.2 := frx_t frx_r (frx_m (fr_327 _ _ _ _ q1 hq1).2 (by decide))
    cases hf; exact ⟨hIq1, hLq1⟩
  · cases hf; exact ⟨(frx_v frx_r (by decide)), frx_r⟩
def SI_332 : List Nat := [103, 104, 105, 106, 107, 108, 1025, 1026, 1027, 1028]
def SL_332 : List Nat := []
theorem fr_332 (n : Nat) (x1 : Int32) (I : FI) (L : FL) (r : Int32 × FI × FL) (hf : f_332 n x1 I L = some r) : Fr SI_332 I r.2.1 ∧ Fr SL_332 L r.2.2 := by
  unfold f_332 at hf
  obtain ⟨q0, hq0, hf⟩ := Option.bind_eq_some_iff.mp hf
  have hIq0 : Fr SI_332 I q0.1 := frx_t frx_r (frx_m (fr_252 _ _ _ q0 hq0).1 (by decide))
  have hLq0 : Fr SL_332 L q0.2 := frx_t frx_r (frx_m (fr_252 _ _ _ q0 hq0).2 (by decide))
  obtain ⟨q1, hq1, hf⟩ := Option.bind_eq_some_iff.mp hf
  have hIq1 : Fr SI_332 I q1.1 := frx_t (frx_v hIq0 (by decide)) (frx_m (fr_260 _ _ _ _ q1 hq1).1 (by decide))
  have hLq1 : Fr SL_332 L q1.2 := frx_t hLq0 (frx_m (fr_260 _ _ _ _ q1 hq1).2 (by decide))
  obtain ⟨q2, hq2, hf⟩ := Option.bind_eq_some_iff.mp hf
  cases hf; exact ⟨hIq1, hLq1⟩
def SI_333 : List Nat := [103, 104, 105, 106, 107, 108, 1000, 1025, 1026, 1027, 1028]
def SL_333 : List Nat := []
theorem frc_333_1 (n : Nat) (K0 : Int32 → Int32 → Int32 → FI → FL → Option (Int32 × FI × FL)) (hK0 : ∀ (x1 : Int32) (x3 : Int32) (x4 : Int32) (I : FI) (L : FL) (r : Int32 × FI × FL), K0 x1 x3 x4 I L = some r → Fr SI_333 I r.2.1 ∧ Fr SL_333 L r.2.2) (x1 : Int32) (x4 : Int32) (s0 : Int32) (s1 : Int32) (I : FI) (L : FL) (r : Int32 × FI × FL) (hf : c_333_1 n K0 x1 x4 s0 s1 I L = some r) : Fr SI_333 I r.2.1 ∧ Fr SL_333 L r.2.2 := by
  unfold c_333_1 at hf
  exact ⟨frx_t frx_r (hK0 x1 (s1 ||| s0) (x4 + (1 : Int32)) I L r hf).1, frx_t frx_r (hK0 x1 (s1 ||| s0) (x4 + (1 : Int32)) I L r hf).2⟩
theorem frc_333_0 (n : Nat) : ∀ (m : Nat) (x1 : Int32) (x3 : Int32) (x4 : Int32) (I : FI) (L : FL) (r : Int32 × FI × FL), c_333_0 n m x1 x3 x4 I L = some r → Fr SI_333 I r.2.1 ∧ Fr SL_333 L r.2.2
  | 0, x1, x3, x4, I, L, r, hf => by cases hf
  | m + 1, x1, x3, x4, I, L, r, hf => by
    unfold c_333_0 b_333_0 at hf
    have hK0 := frc_333_0 n m
    rcases ite_some hf with ⟨hc, hf⟩ | ⟨hc, hf⟩
    · cases hf; exact ⟨frx_r, frx_r⟩
    · obtain ⟨q1, hq1, hf⟩ := Option.bind_eq_some_iff.mp hf
      have hIq1 : Fr SI_333 I q1.2.1 := frx_t frx_r (frx_m (fr_332 _ _ _ _ q1 hq1).1 (by decide))
      have hLq1 : Fr SL_333 L q1.2.2 := frx_t frx_r (frx_m (fr_332 _ _ _ _ q1 hq1).2 (by decide))
      obtain ⟨q2, hq2, hf⟩ := Option.bind_eq_some_iff.mp hf
      rcases ite_some hf with ⟨hc, hf⟩ | ⟨hc, hf⟩
      · exact ⟨frx_t hIq1 (frc_333_1 n _ hK0 x1 x4 (0 : Int32) x3 q1.2.1 q1.2.2 r hf).1, frx_t hLq1 (frc_333_1 n _ hK0 x1 x4 (0 : Int32) x3 q1.2.1 q1.2.2 r hf).2⟩
      · exact ⟨frx_t hIq1 (frc_333_1 n _ hK0 x1 x4 ((1 : Int32) <<< (x4 &&& 31)) x3 q1.2.1 q1.2.2 r hf).1, frx_t hLq1 (frc_333_1 n _ hK0 x1 x4 ((1 : Int32) <<< (x4 &&& 31)) x3 q1.2.1 q1.2.2 r hf).2⟩
theorem fr_333 (n : Nat) (x1 : Int32) (I : FI) (L : FL) (r : Int32 × FI × FL) (hf : f_333 n x1 I L = some r) : Fr SI_333 I r.2.1 ∧ Fr SL_333 L r.2.2 := by
  unfold f_333 at hf
  obtain ⟨q0, hq0, hf⟩ := Option.bind_eq_some_iff.mp hf
  rcases ite_some hf with ⟨hc, hf⟩ | ⟨hc, hf⟩
  · exact ⟨frx_t (frx_v frx_r (by decide)) (frc_333_0 n n x1 (0 : Int32) (0 : Int32) (u2 I 89 0 (0 : Int32)) L r hf).1, frx_t frx_r (frc_333_0 n n x1 (0 : Int32) (0 : Int32) (u2 I 89 0 (0 : Int32)) L r hf).2⟩
  · cases hf; exact ⟨(frx_v frx_r (by decide)), frx_r⟩
def SI_334 : List Nat := [103, 104, 105, 106, 107, 108, 1000, 1025, 1026, 1027, 1028]
def SL_334 : List Nat := []
theorem fr_334 (n : Nat) (x1 : Int32) (I : FI) (L : FL) (r : Int32 × FI × FL) (hf : f_334 n x1 I L = some r) : Fr SI_334 I r.2.1 ∧ Fr SL_334 L r.2.2 := by
  unfold f_334 at hf
  obtain ⟨q0, hq0, hf⟩ := Option.bind_eq_some_iff.mp hf
  rcases ite_some hf with ⟨hc, hf⟩ | ⟨hc, hf⟩
  · cases hf; exact ⟨(frx_v frx_r (by decide)), frx_r⟩
  · obtain ⟨q1, hq1, hf⟩ := Option.bind_eq_some_iff.mp hf
    rcases ite_some hf with ⟨hc, hf⟩ | ⟨hc, hf⟩
    · cases hf; exact ⟨(frx_v frx_r (by decide)), frx_r⟩
    · obtain ⟨q2, hq2, hf⟩ := Option.bind_eq_some_iff.mp hf
      have hIq2 : Fr SI_334 I q2.2.1 := frx_t (frx_v frx_r (by decide)) (frx_m (fr_332 _ _ _ _ q2 hq2).1 (by decide))
      have hLq2 : Fr SL_334 L q2.2.2 := frx_t frx_r (frx_m (fr_332 _ _ _ _ q2 hq2).2 (by decide))
      obtain ⟨q3, hq3, hf⟩ := Option.bind_eq_some_iff.mp hf
      cases hf; exact ⟨hIq2, hLq2⟩
def SI_335 : List Nat := [103, 104, 105, 106, 107, 108, 1000, 1025, 1026, 1027, 1028]
def SL_335 : List Nat := []
theorem frc_335_1 (n : Nat) (K0 : Int32 → Int32 → FI → FL → Option (Int32 × FI × FL)) (hK0 : ∀ (x1 : Int32) (x2 : Int32) (I : FI) (L : FL) (r : Int32 × FI × FL), K0 x1 x2 I L = some r → Fr SI_335 I r.2.1 ∧ Fr SL_335 L r.2.2) (x1 : Int32) (x2 : Int32) (I : FI) (L : FL) (r : Int32 × FI × FL) (hf : c_335_1 n K0 x1 x2 I L = some r) : Fr SI_335 I r.2.1 ∧ Fr SL_335 L r.2.2 := by
  unfold c_335_1 at hf
  exact ⟨frx_t frx_r (hK0 x1 (x2 + (1 : Int32)) I L r hf).1, frx_t frx_r (hK0 x1 (x2 + (1 : Int32)) I L r hf).2⟩
theorem frc_335_0 (n : Nat) : ∀ (m : Nat) (x1 : Int32) (x2 : Int32) (I : FI) (L : FL) (r : Int32 × FI × FL), c_335_0 n m x1 x2 I L = some r → Fr SI_335 I r.2.1 ∧ Fr SL_335 L r.2.2
  | 0, x1, x2, I, L, r, hf => by cases hf
  | m + 1, x1, x2, I, L, r, hf => by
    unfold c_335_0 b_335_0 at hf
    have hK0 := frc_335_0 n m
    rcases ite_some hf with ⟨hc, hf⟩ | ⟨hc, hf⟩
    · cases hf; exact ⟨frx_r, frx_r⟩
    · obtain ⟨q1, hq1, hf⟩ := Option.bind_eq_some_iff.mp hf
      have hIq1 : Fr SI_335 I q1.2.1 := frx_t frx_r (frx_m (fr_332 _ _ _ _ q1 hq1).1 (by decide))
      have hLq1 : Fr SL_335 L q1.2.2 := frx_t frx_r (frx_m (fr_332 _ _ _ _ q1 hq1).2 (by decide))
      obtain ⟨q2, hq2, hf⟩ := Option.bind_eq_some_iff.mp hf
      have hIq2 : Fr SI_335 I q2.2.1 := frx_t hIq1 (frx_m (fr_332 _ _ _ _ q2 hq2).1 (by decide))
      have hLq2 : Fr SL_335 L q2.2.2 := frx_t hLq1 (frx_m (fr_332 _ _ _ _ q2 hq2).2 (by decide))
      rcases ite_some hf with ⟨hc, hf⟩ | ⟨hc, hf⟩
      · exact ⟨frx_t hIq2 (frc_335_1 n _ hK0 x1 x2 q2.2.1 q2.2.2 r hf).1, frx_t hLq2 (frc_335_1 n _ hK0 x1 x2 q2.2.1 q2.2.2 r hf).2⟩
      · exact ⟨frx_t hIq2 (frc_335_1 n _ hK0 x2 x2 q2.2.1 q2.2.2 r hf).1, frx_t hLq2 (frc_335_1 n _ hK0 x2 x2 q2.2.1 q2.2.2 r hf).2⟩
theorem fr_335 (n : Nat) (I : FI) (L : FL) (r : Int32 × FI × FL) (hf : f_335 n I L = some r) : Fr SI_335 I r.2.1 ∧ Fr SL_335 L r.2.2 := by
  unfold f_335 at hf
  obtain ⟨q0, hq0, hf⟩ := Option.bind_eq_some_iff.mp hf
  rcases ite_some hf with ⟨hc, hf⟩ | ⟨hc, hf⟩
  · exact ⟨frx_t (frx_v frx_r (by decide)) (frc_335_0 n n (0 : Int32) (1 : Int32) (u2 I 89 0 (0 : Int32)) L r hf).1, frx_t frx_r (frc_335_0 n n (0 : Int32) (1 : Int32) (u2 I 89 0 (0 : Int32)) L r hf).2⟩
  · cases hf; exact ⟨(frx_v frx_r (by decide)), frx_r⟩
def SI_337 : List Nat := [103, 104, 105, 106, 107, 108, 1025, 1026, 1027, 1028]
def SL_337 : List Nat := []
theorem fr_337 (n : Nat) (x1 : Int32) (x2 : Int32) (x3 : Int32) (x4 : Int32) (x5 : Int32) (I : FI) (L : FL) (r : Int32 × FI × FL) (hf : f_337 n x1 x2 x3 x4 x5 I L = some r) : Fr SI_337 I r.2.1 ∧ Fr SL_337 L r.2.2 := by
  unfold f_337 at hf
  obtain ⟨q0, hq0, hf⟩ := Option.bind_eq_some_iff.mp hf
  have hIq0 : Fr SI_337 I q0.1 := frx_t frx_r (frx_m (fr_252 _ _ _ q0 hq0).1 (by decide))
  have hLq0 : Fr SL_337 L q0.2 := frx_t frx_r (frx_m (fr_252 _ _ _ q0 hq0).2 (by decide))
  obtain ⟨q1, hq1, hf⟩ := Option.bind_eq_some_iff.mp hf
  rcases ite_some hf with ⟨hc, hf⟩ | ⟨hc, hf⟩
  · obtain ⟨q2, hq2, hf⟩ := Option.bind_eq_some_iff.mp hf
    rcases ite_some hf with ⟨hc, hf⟩ | ⟨hc, hf⟩
    · obtain ⟨q3, hq3, hf⟩ := Option.bind_eq_some_iff.mp hf
      have hIq3 : Fr SI_337 I q3.1 := frx_t (frx_u (frx_u hIq0 (by decide) (by decide)) (by decide) (by decide)) (frx_m (fr_260 _ _ _ _ q3 hq3).1 (by decide))
      have hLq3 : Fr SL_337 L q3.2 := frx_t hLq0 (frx_m (fr_260 _ _ _ _ q3 hq3).2 (by decide))
      obtain ⟨q4, hq4, hf⟩ := Option.bind_eq_some_iff.mp hf
      rcases ite_some hf with ⟨hc, hf⟩ | ⟨hc, hf⟩
      · cases hf; exact ⟨hIq3, hLq3⟩
      · cases hf; exact ⟨hIq3, hLq3⟩
    · cases hf
  · cases hf
def SI_338 : List Nat := [103, 104, 105, 106, 107, 108, 1000, 1025, 1026, 1027, 1028]
def SL_338 : List Nat := []
theorem frc_338_3 (n : Nat) (K0 : Int32 → Int32 → Int32 → Int32 → FI → FL → Option (Int32 × FI × FL)) (hK0 : ∀ (x1 : Int32) (x2 : Int32) (x3 : Int32) (x4 : Int32) (I : FI) (L : FL) (r : Int32 × FI × FL), K0 x1 x2 x3 x4 I L = some r → Fr SI_338 I r.2.1 ∧ Fr SL_338 L r.2.2) (x1 : Int32) (x2 : Int32) (x4 : Int32) (s0 : Int32) (s1 : Int32) (I : FI) (L : FL) (r : Int32 × FI × FL) (hf : c_338_3 n K0 x1 x2 x4 s0 s1 I L = some r) : Fr SI_338 I r.2.1 ∧ Fr SL_338 L r.2.2 := by
  unfold c_338_3 at hf
  exact ⟨frx_t frx_r (hK0 x1 x2 (s1 ||| s0) (x4 + (1 : Int32)) I L r hf).1, frx_t frx_r (hK0 x1 x2 (s1 ||| s0) (x4 + (1 : Int32)) I L r hf).2⟩
theorem frc_338_2 (n : Nat) (K0 : Int32 → Int32 → Int32 → Int32 → FI → FL → Option (Int32 × FI × FL)) (hK0 : ∀ (x1 : Int32) (x2 : Int32) (x3 : Int32) (x4 : Int32) (I : FI) (L : FL) (r : Int32 × FI × FL), K0 x1 x2 x3 x4 I L = some r → Fr SI_338 I r.2.1 ∧ Fr SL_338 L r.2.2) (x1 : Int32) (x2 : Int32) (x3 : Int32) (x4 : Int32) (s0 : Int32) (I : FI) (L : FL) (r : Int32 × FI × FL) (hf : c_338_2 n K0 x1 x2 x3 x4 s0 I L = some r) : Fr SI_338 I r.2.1 ∧ Fr SL_338 L r.2.2 := by
  unfold c_338_2 at hf
  rcases ite_some hf with ⟨hc, hf⟩ | ⟨hc, hf⟩
  · exact ⟨frx_t frx_r (frc_338_3 n _ hK0 x1 x2 x4 (0 : Int32) x3 I L r hf).1, frx_t frx_r (frc_338_3 n _ hK0 x1 x2 x4 (0 : Int32) x3 I L r hf).2⟩
  · exact ⟨frx_t frx_r (frc_338_3 n _ hK0 x1 x2 x4 ((1 : Int32) <<< (x4 &&& 31)) x3 I L r hf).1, frx_t frx_r (frc_338_3 n _ hK0 x1 x2 x4 ((1 : Int32) <<< (x4 &&& 31)) x3 I L r hf).2⟩
theorem frc_338_1 (n : Nat) (K0 : Int32 → Int32 → Int32 → Int32 → FI → FL → Option (Int32 × FI × FL)) (hK0 : ∀ (x1 : Int32) (x2 : Int32) (x3 : Int32) (x4 : Int32) (I : FI) (L : FL) (r : Int32 × FI × FL), K0 x1 x2 x3 x4 I L = some r → Fr SI_338 I r.2.1 ∧ Fr SL_338 L r.2.2) (x1 : Int32) (x2 : Int32) (x3 : Int32) (x4 : Int32) (I : FI) (L : FL) (r : Int32 × FI × FL) (hf : c_338_1 n K0 x1 x2 x3 x4 I L = some r) : Fr SI_338 I r.2.1 ∧ Fr SL_338 L r.2.2 := by
  unfold c_338_1 at hf
  exact ⟨frx_t frx_r (frc_338_2 n _ hK0 x1 x2 x3 x4 (0 : Int32) I L r hf).1, frx_t frx_r (frc_338_2 n _ hK0 x1 x2 x3 x4 (0 : Int32) I L r hf).2⟩
theorem frc_338_0 (n : Nat) : ∀ (m : Nat) (x1 : Int32) (x2 : Int32) (x3 : Int32) (x4 : Int32) (I : FI) (L : FL) (r : Int32 × FI × FL), c_338_0 n m x1 x2 x3 x4 I L = some r → Fr SI_338 I r.2.1 ∧ Fr SL_338 L r.2.2
  | 0, x1, x2, x3, x4, I, L, r, hf => by cases hf
  | m + 1, x1, x2, x3, x4, I, L, r, hf => by
    unfold c_338_0 b_338_0 at hf
    have hK0 := frc_338_0 n m
    rcases ite_some hf with ⟨hc, hf⟩ | ⟨hc, hf⟩
    · cases hf; exact ⟨frx_r, frx_r⟩
    · obtain ⟨q1, hq1, hf⟩ := Option.bind_eq_some_iff.mp hf
      have hIq1 : Fr SI_338 I q1.2.1 := frx_t frx_r (frx_m (fr_337 _ _ _ _ _ _ _ _ q1 hq1).1 (by decide))
      have hLq1 : Fr SL_338 L q1.2.2 := frx_t frx_r (frx_m (fr_337 _ _ _ _ _ _ _ _ q1 hq1).2 (by decide))
      obtain ⟨q2, hq2, hf⟩ := Option.bind_eq_some_iff.mp hf
      have hIq2 : Fr SI_338 I q2.2.1 := frx_t hIq1 (frx_m (fr_337 _ _ _ _ _ _ _ _ q2 hq2).1 (by decide))
      have hLq2 : Fr SL_338 L q2.2.2 := frx_t hLq1 (frx_m (fr_337 _ _ _ _ _ _ _ _ q2 hq2).2 (by decide))
      rcases ite_some hf with ⟨hc, hf⟩ | ⟨hc, hf⟩
      · exact ⟨frx_t hIq2 (frc_338_1 n _ hK0 x1 x2 x3 x4 q2.2.1 q2.2.2 r hf).1, frx_t hLq2 (frc_338_1 n _ hK0 x1 x2 x3 x4 q2.2.1 q2.2.2 r hf).2⟩
      · obtain ⟨q3, hq3, hf⟩ := Option.bind_eq_some_iff.mp hf
        have hIq3 : Fr SI_338 I q3.2.1 := frx_t hIq2 (frx_m (fr_337 _ _ _ _ _ _ _ _ q3 hq3).1 (by decide))
        have hLq3 : Fr SL_338 L q3.2.2 := frx_t hLq2 (frx_m (fr_337 _ _ _ _ _ _ _ _ q3 hq3).2 (by decide))
        obtain ⟨q4, hq4, hf⟩ := Option.bind_eq_some_iff.mp hf
        have hIq4 : Fr SI_338 I q4.2.1 := frx_t hIq3 (frx_m (fr_337 _ _ _ _ _ _ _ _ q4 hq4).1 (by decide))
        have hLq4 : Fr SL_338 L q4.2.2 := frx_t hLq3 (frx_m (fr_337 _ _ _ _ _ _ _ _ q4 hq4).2 (by decide))
        rcases ite_some hf with ⟨hc, hf⟩ | ⟨hc, hf⟩
        · exact ⟨frx_t hIq4 (frc_338_1 n _ hK0 x1 x2 x3 x4 q4.2.1 q4.2.2 r hf).1, frx_t hLq4 (frc_338_1 n _ hK0 x1 x2 x3 x4 q4.2.1 q4.2.2 r hf).2⟩
        · exact ⟨frx_t hIq4 (frc_338_2 n _ hK0 x1 x2 x3 x4 (1 : Int32) q4.2.1 q4.2.2 r hf).1, frx_t hLq4 (frc_338_2 n _ hK0 x1 x2 x3 x4 (1 : Int32) q4.2.1 q4.2.2 r hf).2⟩
theorem fr_338 (n : Nat) (x1 : Int32) (x2 : Int32) (I : FI) (L : FL) (r : Int32 × FI × FL) (hf : f_338 n x1 x2 I L = some r) : Fr SI_338 I r.2.1 ∧ Fr SL_338 L r.2.2 := by
  unfold f_338 at hf
  obtain ⟨q0, hq0, hf⟩ := Option.bind_eq_some_iff.mp hf
  rcases ite_some hf with ⟨hc, hf⟩ | ⟨hc, hf⟩
  · exact ⟨frx_t (frx_v frx_r (by decide)) (frc_338_0 n n x1 x2 (0 : Int32) (0 : Int32) (u2 I 89 0 (0 : Int32)) L r hf).1, frx_t frx_r (frc_338_0 n n x1 x2 (0 : Int32) (0 : Int32) (u2 I 89 0 (0 : Int32)) L r hf).2⟩
  · cases hf; exact ⟨(frx_v frx_r (by decide)), frx_r⟩
def SI_339 : List Nat := [103, 104, 105, 106, 107, 108, 1000, 1025, 1026, 1027, 1028]
def SL_339 : List Nat := []
theorem fr_339 (n : Nat) (x1 : Int32) (x2 : Int32) (x3 : Int32) (x4 : Int32) (I : FI) (L : FL) (r : Int32 × FI × FL) (hf : f_339 n x1 x2 x3 x4 I L = some r) : Fr SI_339 I r.2.1 ∧ Fr SL_339 L r.2.2 := by
  unfold f_339 at hf
  obtain ⟨q0, hq0, hf⟩ := Option.bind_eq_some_iff.mp hf
  rcases ite_some hf with ⟨hc, hf⟩ | ⟨hc, hf⟩
  · cases hf; exact ⟨(frx_v frx_r (by decide)), frx_r⟩
  · obtain ⟨q1, hq1, hf⟩ := Option.bind_eq_some_iff.mp hf
    rcases ite_some hf with ⟨hc, hf⟩ | ⟨hc, hf⟩
    · cases hf; exact ⟨(frx_v frx_r (by decide)), frx_r⟩
    · obtain ⟨q2, hq2, hf⟩ := Option.bind_eq_some_iff.mp hf
      rcases ite_some hf with ⟨hc, hf⟩ | ⟨hc, hf⟩
      · cases hf; exact ⟨(frx_v frx_r (by decide)), frx_r⟩
      · obtain ⟨q3, hq3, hf⟩ := Option.bind_eq_some_iff.mp hf
        have hIq3 : Fr SI_339 I q3.2.1 := frx_t (frx_v frx_r (by decide)) (frx_m (fr_337 _ _ _ _ _ _ _ _ q3 hq3).1 (by decide))
        have hLq3 : Fr SL_339 L q3.2.2 := frx_t frx_r (frx_m (fr_337 _ _ _ _ _ _ _ _ q3 hq3).2 (by decide))
        cases hf; exact ⟨hIq3, hLq3⟩
def SI_341 : List Nat := [103, 104, 105, 106, 107, 108, 1025, 1026, 1027, 1028]
def SL_341 : List Nat := []
theorem frc_341_3 (n : Nat) (K0 : Int32 → Int32 → Int32 → Int32 → FI → FL → Option (Int32 × FI × FL)) (hK0 : ∀ (x1 : Int32) (x2 : Int32) (x3 : Int32) (x4 : Int32) (I : FI) (L : FL) (r : Int32 × FI × FL), K0 x1 x2 x3 x4 I L = some r → Fr SI_341 I r.2.1 ∧ Fr SL_341 L r.2.2) (x1 : Int32) (x2 : Int32) (x3 : Int32) (x4 : Int32) (I : FI) (L : FL) (r : Int32 × FI × FL) (hf : c_341_3 n K0 x1 x2 x3 x4 I L = some r) : Fr SI_341 I r.2.1 ∧ Fr SL_341 L r.2.2 := by
  unfold c_341_3 at hf
  exact ⟨frx_t frx_r (hK0 x1 x2 x3 (x4 + (1 : Int32)) I L r hf).1, frx_t frx_r (hK0 x1 x2 x3 (x4 + (1 : Int32)) I L r hf).2⟩
theorem frc_341_2 (n : Nat) (K0 : Int32 → Int32 → Int32 → Int32 → FI → FL → Option (Int32 × FI × FL)) (hK0 : ∀ (x1 : Int32) (x2 : Int32) (x3 : Int32) (x4 : Int32) (I : FI) (L : FL) (r : Int32 × FI × FL), K0 x1 x2 x3 x4 I L = some r → Fr SI_341 I r.2.1 ∧ Fr SL_341 L r.2.2) (x1 : Int32) (x2 : Int32) (x4 : Int32) (s0 : Int32) (s1 : Int32) (s2 : Int32) (I : FI) (L : FL) (r : Int32 × FI × FL) (hf : c_341_2 n K0 x1 x2 x4 s0 s1 s2 I L = some r) : Fr SI_341 I r.2.1 ∧ Fr SL_341 L r.2.2 := by
  unfold c_341_2 at hf
  exact ⟨frx_t frx_r (frc_341_3 n _ hK0 x1 x2 (s2 + (s1 * s0)) x4 I L r hf).1, frx_t frx_r (frc_341_3 n _ hK0 x1 x2 (s2 + (s1 * s0)) x4 I L r hf).2⟩
theorem frc_341_4 (n : Nat) (K0 : Int32 → Int32 → Int32 → Int32 → FI → FL → Option (Int32 × FI × FL)) (K1 : Int32 → Int32 → Int32 → Int32 → Int32 → Int32 → FI → FL → Option (Int32 × FI × FL)) (hK0 : ∀ (x1 : Int32) (x2 : Int32) (x3 : Int32) (x4 : Int32) (I : FI) (L : FL) (r : Int32 × FI × FL), K0 x1 x2 x3 x4 I L = some r → Fr SI_341 I r.2.1 ∧ Fr SL_341 L r.2.2) (hK1 : ∀ (x1 : Int32) (x2 : Int32) (x3 : Int32) (x4 : Int32) (x5 : Int32) (x6 : Int32) (I : FI) (L : FL) (r : Int32 × FI × FL), K1 x1 x2 x3 x4 x5 x6 I L = some r → Fr SI_341 I r.2.1 ∧ Fr SL_341 L r.2.2) (x1 : Int32) (x2 : Int32) (x3 : Int32) (x4 : Int32) (x6 : Int32) (s0 : Int32) (s1 : Int32) (I : FI) (L : FL) (r : Int32 × FI × FL) (hf : c_341_4 n K0 K1 x1 x2 x3 x4 x6 s0 s1 I L = some r) : Fr SI_341 I r.2.1 ∧ Fr SL_341 L r.2.2 := by
  unfold c_341_4 at hf
  exact ⟨frx_t frx_r (hK1 x1 x2 x3 x4 (s1 * s0) (x6 + (1 : Int32)) I L r hf).1, frx_t frx_r (hK1 x1 x2 x3 x4 (s1 * s0) (x6 + (1 : Int32)) I L r hf).2⟩
theorem frc_341_1 (n : Nat) (K0 : Int32 → Int32 → Int32 → Int32 → FI → FL → Option (Int32 × FI × FL)) (hK0 : ∀ (x1 : Int32) (x2 : Int32) (x3 : Int32) (x4 : Int32) (I : FI) (L : FL) (r : Int32 × FI × FL), K0 x1 x2 x3 x4 I L = some r → Fr SI_341 I r.2.1 ∧ Fr SL_341 L r.2.2) : ∀ (m : Nat) (x1 : Int32) (x2 : Int32) (x3 : Int32) (x4 : Int32) (x5 : Int32) (x6 : Int32) (I : FI) (L : FL) (r : Int32 × FI × FL), c_341_1 n K0 m x1 x2 x3 x4 x5 x6 I L = some r → Fr SI_341 I r.2.1 ∧ Fr SL_341 L r.2.2
  | 0, x1, x2, x3, x4, x5, x6, I, L, r, hf => by cases hf
  | m + 1, x1, x2, x3, x4, x5, x6, I, L, r, hf => by
    unfold c_341_1 b_341_1 at hf
    have hK1 := frc_341_1 n K0 hK0 m
    rcases ite_some hf with ⟨hc, hf⟩ | ⟨hc, hf⟩
    · rcases ite_some hf with ⟨hc, hf⟩ | ⟨hc, hf⟩
      · obtain ⟨q1, hq1, hf⟩ := Option.bind_eq_some_iff.mp hf
        have hIq1 : Fr SI_341 I q1.1 := frx_t (frx_v frx_r (by decide)) (frx_m (fr_260 _ _ _ _ q1 hq1).1 (by decide))
        have hLq1 : Fr SL_341 L q1.2 := frx_t frx_r (frx_m (fr_260 _ _ _ _ q1 hq1).2 (by decide))
        obtain ⟨q2, hq2, hf⟩ := Option.bind_eq_some_iff.mp hf
        rcases ite_some hf with ⟨hc, hf⟩ | ⟨hc, hf⟩
        · obtain ⟨q3, hq3, hf⟩ := Option.bind_eq_some_iff.mp hf
          rcases ite_some hf with ⟨hc, hf⟩ | ⟨hc, hf⟩
          · exact ⟨frx_t hIq1 (frc_341_2 n _ hK0 x1 x2 x4 (0 : Int32) x5 x3 q1.1 q1.2 r hf).1, frx_t hLq1 (frc_341_2 n _ hK0 x1 x2 x4 (0 : Int32) x5 x3 q1.1 q1.2 r hf).2⟩
          · exact ⟨frx_t hIq1 (frc_341_2 n _ hK0 x1 x2 x4 (1 : Int32) x5 x3 q1.1 q1.2 r hf).1, frx_t hLq1 (frc_341_2 n _ hK0 x1 x2 x4 (1 : Int32) x5 x3 q1.1 q1.2 r hf).2⟩
        · obtain ⟨q4, hq4, hf⟩ := Option.bind_eq_some_iff.mp hf
          exact ⟨frx_t hIq1 (frc_341_2 n _ hK0 x1 x2 x4 q4 x5 x3 q1.1 q1.2 r hf).1, frx_t hLq1 (frc_341_2 n _ hK0 x1 x2 x4 q4 x5 x3 q1.1 q1.2 r hf).2⟩
      · exact ⟨frx_t frx_r (frc_341_3 n _ hK0 x1 x2 x3 x4 I L r hf).1, frx_t frx_r (frc_341_3 n _ hK0 x1 x2 x3 x4 I L r hf).2⟩
    · obtain ⟨q5, hq5, hf⟩ := Option.bind_eq_some_iff.mp hf
      rcases ite_some hf with ⟨hc, hf⟩ | ⟨hc, hf⟩
      · exact ⟨frx_t frx_r (frc_341_4 n _ _ hK0 hK1 x1 x2 x3 x4 x6 (I 96 1) x5 I L r hf).1, frx_t frx_r (frc_341_4 n _ _ hK0 hK1 x1 x2 x3 x4 x6 (I 96 1) x5 I L r hf).2⟩
      · exact ⟨frx_t frx_r (frc_341_4 n _ _ hK0 hK1 x1 x2 x3 x4 x6 ((10 : Int32) - (I 96 1)) x5 I L r hf).1, frx_t frx_r (frc_341_4 n _ _ hK0 hK1 x1 x2 x3 x4 x6 ((10 : Int32) - (I 96 1)) x5 I L r hf).2⟩
theorem frc_341_0 (n : Nat) : ∀ (m : Nat) (x1 : Int32) (x2 : Int32) (x3 : Int32) (x4 : Int32) (I : FI) (L : FL) (r : Int32 × FI × FL), c_341_0 n m x1 x2 x3 x4 I L = some r → Fr SI_341 I r.2.1 ∧ Fr SL_341 L r.2.2
  | 0, x1, x2, x3, x4, I, L, r, hf => by cases hf
  | m + 1, x1, x2, x3, x4, I, L, r, hf => by
    unfold c_341_0 b_341_0 at hf
    have hK0 := frc_341_0 n m
    rcases ite_some hf with ⟨hc, hf⟩ | ⟨hc, hf⟩
    · cases hf; exact ⟨frx_r, frx_r⟩
    · exact ⟨frx_t frx_r (frc_341_1 n _ hK0 n x1 x2 x3 x4 (1 : Int32) (0 : Int32) I L r hf).1, frx_t frx_r (frc_341_1 n _ hK0 n x1 x2 x3 x4 (1 : Int32) (0 : Int32) I L r hf).2⟩
theorem fr_341 (n : Nat) (x1 : Int32) (x2 : Int32) (I : FI) (L : FL) (r : Int32 × FI × FL) (hf : f_341 n x1 x2 I L = some r) : Fr SI_341 I r.2.1 ∧ Fr SL_341 L r.2.2 := by
  unfold f_341 at hf
  obtain ⟨q0, hq0, hf⟩ := Option.bind_eq_some_iff.mp hf
  have hIq0 : Fr SI_341 I q0.1 := frx_t frx_r (frx_m (fr_252 _ _ _ q0 hq0).1 (by decide))
  have hLq0 : Fr SL_341 L q0.2 := frx_t frx_r (frx_m (fr_252 _ _ _ q0 hq0).2 (by decide))
  exact ⟨frx_t hIq0 (frc_341_0 n n x1 x2 (0 : Int32) (0 : Int32) q0.1 q0.2 r hf).1, frx_t hLq0 (frc_341_0 n n x1 x2 (0 : Int32) (0 : Int32) q0.1 q0.2 r hf).2⟩
def SI_342 : List Nat := [103, 104, 105, 106, 107, 108, 1000, 1025, 1026, 1027, 1028]
def SL_342 : List Nat := []
theorem fr_342 (n : Nat) (x1 : Int32) (x2 : Int32) (I : FI) (L : FL) (r : Int32 × FI × FL) (hf : f_342 n x1 x2 I L = some r) : Fr SI_342 I r.2.1 ∧ Fr SL_342 L r.2.2 := by
  unfold f_342 at hf
  obtain ⟨q0, hq0, hf⟩ := Option.bind_eq_some_iff.mp hf
  rcases ite_some hf with ⟨hc, hf⟩ | ⟨hc, hf⟩
  · cases hf; exact ⟨(frx_v frx_r (by decide)), frx_r⟩
  · obtain ⟨q1, hq1, hf⟩ := Option.bind_eq_some_iff.mp hf
    rcases ite_some hf with ⟨hc, hf⟩ | ⟨hc, hf⟩
    · cases hf; exact ⟨(frx_v frx_r (by decide)), frx_r⟩
    · obtain ⟨q2, hq2, hf⟩ := Option.bind_eq_some_iff.mp hf
      have hIq2 : Fr SI_342 I q2.2.1 := frx_t (frx_v frx_r (by decide)) (frx_m (fr_341 _ _ _ _ _ q2 hq2).1 (by decide))
      have hLq2 : Fr SL_342 L q2.2.2 := frx_t frx_r (frx_m (fr_341 _ _ _ _ _ q2 hq2).2 (by decide))
      obtain ⟨q3, hq3, hf⟩ := Option.bind_eq_some_iff.mp hf
      obtain ⟨q4, hq4, hf⟩ := Option.bind_eq_some_iff.mp hf
      cases hf; exact ⟨hIq2, hLq2⟩
def SI_343 : List Nat := [103, 104, 105, 106, 107, 108, 1000, 1025, 1026, 1027, 1028]
def SL_343 : List Nat := []
theorem fr_343 (n : Nat) (x1 : Int32) (x2 : Int32) (I : FI) (L : FL) (r : Int32 × FI × FL) (hf : f_343 n x1 x2 I L = some r) : Fr SI_343 I r.2.1 ∧ Fr SL_343 L r.2.2 := by
  unfold f_343 at hf
  obtain ⟨q0, hq0, hf⟩ := Option.bind_eq_some_iff.mp hf
  rcases ite_some hf with ⟨hc, hf⟩ | ⟨hc, hf⟩
  · cases hf; exact ⟨(frx_v frx_r (by decide)), frx_r⟩
  · obtain ⟨q1, hq1, hf⟩ := Option.bind_eq_some_iff.mp hf
    rcases ite_some hf with ⟨hc, hf⟩ | ⟨hc, hf⟩
    · cases hf; exact ⟨(frx_v frx_r (by decide)), frx_r⟩
    · obtain ⟨q2, hq2, hf⟩ := Option.bind_eq_some_iff.mp hf
      have hIq2 : Fr SI_343 I q2.2.1 := frx_t (frx_v frx_r (by decide)) (frx_m (fr_341 _ _ _ _ _ q2 hq2).1 (by decide))
      have hLq2 : Fr SL_343 L q2.2.2 := frx_t frx_r (frx_m (fr_341 _ _ _ _ _ q2 hq2).2 (by decide))
      obtain ⟨q3, hq3, hf⟩ := Option.bind_eq_some_iff.mp hf
      obtain ⟨q4, hq4, hf⟩ := Option.bind_eq_some_iff.mp hf
      cases hf; exact ⟨hIq2, hLq2⟩
def SI_344 : List Nat := [103, 104, 105, 106, 107, 108, 1000, 1025, 1026, 1027, 1028, 1029]
def SL_344 : List Nat := []
theorem frc_344_2 (n : Nat) (K0 : Int32 → Int32 → Int32 → FI → FL → Option (Int32 × FI × FL)) (K1 : Int32 → Int32 → Int32 → Int32 → FI → FL → Option (Int32 × FI × FL)) (hK0 : ∀ (x1 : Int32) (x2 : Int32) (x3 : Int32) (I : FI) (L : FL) (r : Int32 × FI × FL), K0 x1 x2 x3 I L = some r → Fr SI_344 I r.2.1 ∧ Fr SL_344 L r.2.2) (hK1 : ∀ (x1 : Int32) (x2 : Int32) (x3 : Int32) (x4 : Int32) (I : FI) (L : FL) (r : Int32 × FI × FL), K1 x1 x2 x3 x4 I L = some r → Fr SI_344 I r.2.1 ∧ Fr SL_344 L r.2.2) (x1 : Int32) (x2 : Int32) (x3 : Int32) (x4 : Int32) (I : FI) (L : FL) (r : Int32 × FI × FL) (hf : c_344_2 n K0 K1 x1 x2 x3 x4 I L = some r) : Fr SI_344 I r.2.1 ∧ Fr SL_344 L r.2.2 := by
  unfold c_344_2 at hf
  exact ⟨frx_t frx_r (hK1 x1 x2 x3 (x4 + (1 : Int32)) I L r hf).1, frx_t frx_r (hK1 x1 x2 x3 (x4 + (1 : Int32)) I L r hf).2⟩
theorem frc_344_1 (n : Nat) (K0 : Int32 → Int32 → Int32 → FI → FL → Option (Int32 × FI × FL)) (hK0 : ∀ (x1 : Int32) (x2 : Int32) (x3 : Int32) (I : FI) (L : FL) (r : Int32 × FI × FL), K0 x1 x2 x3 I L = some r → Fr SI_344 I r.2.1 ∧ Fr SL_344 L r.2.2) : ∀ (m : Nat) (x1 : Int32) (x2 : Int32) (x3 : Int32) (x4 : Int32) (I : FI) (L : FL) (r : Int32 × FI × FL), c_344_1 n K0 m x1 x2 x3 x4 I L = some r → Fr SI_344 I r.2.1 ∧ Fr SL_344 L r.2.2
  | 0, x1, x2, x3, x4, I, L, r, hf => by cases hf
  | m + 1, x1, x2, x3, x4, I, L, r, hf => by
    unfold c_344_1 b_344_1 at hf
    have hK1 := frc_344_1 n K0 hK0 m
    obtain ⟨q4, hq4, hf⟩ := Option.bind_eq_some_iff.mp hf
    rcases ite_some hf with ⟨hc, hf⟩ | ⟨hc, hf⟩
    · exact ⟨frx_t frx_r (hK0 x1 x2 (x3 + (1 : Int32)) I L r hf).1, frx_t frx_r (hK0 x1 x2 (x3 + (1 : Int32)) I L r hf).2⟩
    · obtain ⟨q5, hq5, hf⟩ := Option.bind_eq_some_iff.mp hf
      have hIq5 : Fr SI_344 I q5.1 := frx_t frx_r (frx_m (fr_252 _ _ _ q5 hq5).1 (by decide))
      have hLq5 : Fr SL_344 L q5.2 := frx_t frx_r (frx_m (fr_252 _ _ _ q5 hq5).2 (by decide))
      obtain ⟨q6, hq6, hf⟩ := Option.bind_eq_some_iff.mp hf
      have hIq6 : Fr SI_344 I q6.1 := frx_t (frx_v (frx_v hIq5 (by decide)) (by decide)) (frx_m (fr_260 _ _ _ _ q6 hq6).1 (by decide))
      have hLq6 : Fr SL_344 L q6.2 := frx_t hLq5 (frx_m (fr_260 _ _ _ _ q6 hq6).2 (by decide))
      obtain ⟨q7, hq7, hf⟩ := Option.bind_eq_some_iff.mp hf
      rcases ite_some hf with ⟨hc, hf⟩ | ⟨hc, hf⟩
      · obtain ⟨q8, hq8, hf⟩ := Option.bind_eq_some_iff.mp hf
        exact ⟨frx_t hIq6 (frc_344_2 n _ _ hK0 hK1 (((100 : Int32) * x3) + x4) q8 x3 x4 q6.1 q6.2 r hf).1, frx_t hLq6 (frc_344_2 n _ _ hK0 hK1 (((100 : Int32) * x3) + x4) q8 x3 x4 q6.1 q6.2 r hf).2⟩
      · exact ⟨frx_t hIq6 (frc_344_2 n _ _ hK0 hK1 x1 x2 x3 x4 q6.1 q6.2 r hf).1, frx_t hLq6 (frc_344_2 n _ _ hK0 hK1 x1 x2 x3 x4 q6.1 q6.2 r hf).2⟩
theorem frc_344_0 (n : Nat) : ∀ (m : Nat) (x1 : Int32) (x2 : Int32) (x3 : Int32) (I : FI) (L : FL) (r : Int32 × FI × FL), c_344_0 n m x1 x2 x3 I L = some r → Fr SI_344 I r.2.1 ∧ Fr SL_344 L r.2.2
  | 0, x1, x2, x3, I, L, r, hf => by cases hf
  | m + 1, x1, x2, x3, I, L, r, hf => by
    unfold c_344_0 b_344_0 at hf
    have hK0 := frc_344_0 n m
    obtain ⟨q3, hq3, hf⟩ := Option.bind_eq_some_iff.mp hf
    rcases ite_some hf with ⟨hc, hf⟩ | ⟨hc, hf⟩
    · cases hf; exact ⟨frx_r, frx_r⟩
    · exact ⟨frx_t frx_r (frc_344_1 n _ hK0 n x1 x2 x3 (0 : Int32) I L r hf).1, frx_t frx_r (frc_344_1 n _ hK0 n x1 x2 x3 (0 : Int32) I L r hf).2⟩
theorem fr_344 (n : Nat) (I : FI) (L : FL) (r : Int32 × FI × FL) (hf : f_344 n I L = some r) : Fr SI_344 I r.2.1 ∧ Fr SL_344 L r.2.2 := by
  unfold f_344 at hf
  obtain ⟨q0, hq0, hf⟩ := Option.bind_eq_some_iff.mp hf
  rcases ite_some hf with ⟨hc, hf⟩ | ⟨hc, hf⟩
  · obtain ⟨q1, hq1, hf⟩ := Option.bind_eq_some_iff.mp hf
    have hIq1 : Fr SI_344 I q1.1 := frx_t (frx_v frx_r (by decide)) (frx_m (fr_261 _ _ _ _ q1 hq1).1 (by decide))
    have hLq1 : Fr SL_344 L q1.2 := frx_t frx_r (frx_m (fr_261 _ _ _ _ q1 hq1).2 (by decide))
    obtain ⟨q2, hq2, hf⟩ := Option.bind_eq_some_iff.mp hf
    exact ⟨frx_t hIq1 (frc_344_0 n n (-1 : Int32) q2 (0 : Int32) q1.1 q1.2 r hf).1, frx_t hLq1 (frc_344_0 n n (-1 : Int32) q2 (0 : Int32) q1.1 q1.2 r hf).2⟩
  · cases hf; exact ⟨(frx_v frx_r (by decide)), frx_r⟩
def SI_345 : List Nat := [103, 104, 105, 106, 107, 108, 1025, 1026, 1027, 1028]
def SL_345 : List Nat := []
theorem frc_345_1 (n : Nat) (K0 : Int64 → Int32 → FI → FL → Option (FI × FL)) (hK0 : ∀ (y3 : Int64) (x5 : Int32) (I : FI) (L : FL) (r : FI × FL), K0 y3 x5 I L = some r → Fr SI_345 I r.1 ∧ Fr SL_345 L r.2) (y3 : Int64) (x5 : Int32) (s0 : Int32) (s1 : Int32) (I : FI) (L : FL) (r : FI × FL) (hf : c_345_1 n K0 y3 x5 s0 s1 I L = some r) : Fr SI_345 I r.1 ∧ Fr SL_345 L r.2 := by
  unfold c_345_1 at hf
  exact ⟨frx_t (frx_v frx_r (by decide)) (hK0 y3 (x5 + (1 : Int32)) (u2 I 89 26 (s1 ||| s0)) L r hf).1, frx_t frx_r (hK0 y3 (x5 + (1 : Int32)) (u2 I 89 26 (s1 ||| s0)) L r hf).2⟩
theorem frc_345_0 (n : Nat) : ∀ (m : Nat) (y3 : Int64) (x5 : Int32) (I : FI) (L : FL) (r : FI × FL), c_345_0 n m y3 x5 I L = some r → Fr SI_345 I r.1 ∧ Fr SL_345 L r.2
  | 0, y3, x5, I, L, r, hf => by cases hf
  | m + 1, y3, x5, I, L, r, hf => by
    unfold c_345_0 b_345_0 at hf
    have hK0 := frc_345_0 n m
    rcases ite_some hf with ⟨hc, hf⟩ | ⟨hc, hf⟩
    · obtain ⟨q1, hq1, hf⟩ := Option.bind_eq_some_iff.mp hf
      have hIq1 : Fr SI_345 I q1.1 := frx_t frx_r (frx_m (fr_260 _ _ _ _ q1 hq1).1 (by decide))
      have hLq1 : Fr SL_345 L q1.2 := frx_t frx_r (frx_m (fr_260 _ _ _ _ q1 hq1).2 (by decide))
      cases hf; exact ⟨hIq1, hLq1⟩
    · rcases ite_some hf with ⟨hc, hf⟩ | ⟨hc, hf⟩
      · exact ⟨frx_t frx_r (frc_345_1 n _ hK0 ((((1103515245 : Int64) * y3) + (12345 : Int64)) - (((1103515245 : Int64) * y3) + (12345 : Int64)) / (2147483648 : Int64) * (2147483648 : Int64)) x5 ((1 : Int32) <<< (x5 &&& 31)) (I 89 26) I L r hf).1, frx_t frx_r (frc_345_1 n _ hK0 ((((1103515245 : Int64) * y3) + (12345 : Int64)) - (((1103515245 : Int64) * y3) + (12345 : Int64)) / (2147483648 : Int64) * (2147483648 : Int64)) x5 ((1 : Int32) <<< (x5 &&& 31)) (I 89 26) I L r hf).2⟩
      · exact ⟨frx_t frx_r (frc_345_1 n _ hK0 ((((1103515245 : Int64) * y3) + (12345 : Int64)) - (((1103515245 : Int64) * y3) + (12345 : Int64)) / (2147483648 : Int64) * (2147483648 : Int64)) x5 (0 : Int32) (I 89 26) I L r hf).1, frx_t frx_r (frc_345_1 n _ hK0 ((((1103515245 : Int64) * y3) + (12345 : Int64)) - (((1103515245 : Int64) * y3) + (12345 : Int64)) / (2147483648 : Int64) * (2147483648 : Int64)) x5 (0 : Int32) (I 89 26) I L r hf).2⟩
theorem fr_345 (n : Nat) (y1 : Int64) (I : FI) (L : FL) (r : FI × FL) (hf : f_345 n y1 I L = some r) : Fr SI_345 I r.1 ∧ Fr SL_345 L r.2 := by
  unfold f_345 at hf
  obtain ⟨q0, hq0, hf⟩ := Option.bind_eq_some_iff.mp hf
  have hIq0 : Fr SI_345 I q0.1 := frx_t frx_r (frx_m (fr_252 _ _ _ q0 hq0).1 (by decide))
  have hLq0 : Fr SL_345 L q0.2 := frx_t frx_r (frx_m (fr_252 _ _ _ q0 hq0).2 (by decide))
  exact ⟨frx_t hIq0 (frc_345_0 n n y1 (0 : Int32) q0.1 q0.2 r hf).1, frx_t hLq0 (frc_345_0 n n y1 (0 : Int32) q0.1 q0.2 r hf).2⟩
def SI_347 : List Nat := [103, 104, 105, 106, 107, 108, 1000, 1025, 1026, 1027, 1028]
def SL_347 : List Nat := []
theorem fr_347 (n : Nat) (x1 : Int32) (x2 : Int32) (I : FI) (L : FL) (r : Int32 × FI × FL) (hf : f_347 n x1 x2 I L = some r) : Fr SI_347 I r.2.1 ∧ Fr SL_347 L r.2.2 := by
  unfold f_347 at hf
  obtain ⟨q0, hq0, hf⟩ := Option.bind_eq_some_iff.mp hf
  rcases ite_some hf with ⟨hc, hf⟩ | ⟨hc, hf⟩
  · cases hf; exact ⟨(frx_v frx_r (by decide)), frx_r⟩
  · obtain ⟨q1, hq1, hf⟩ := Option.bind_eq_some_iff.mp hf
    rcases ite_some hf with ⟨hc, hf⟩ | ⟨hc, hf⟩
    · cases hf; exact ⟨(frx_v frx_r (by decide)), frx_r⟩
    · obtain ⟨q2, hq2, hf⟩ := Option.bind_eq_some_iff.mp hf
      rcases ite_some hf with ⟨hc, hf⟩ | ⟨hc, hf⟩
      · obtain ⟨q3, hq3, hf⟩ := Option.bind_eq_some_iff.mp hf
        have hIq3 : Fr SI_347 I q3.1 := frx_t (frx_v frx_r (by decide)) (frx_m (fr_345 _ _ _ _ q3 hq3).1 (by decide))
        have hLq3 : Fr SL_347 L q3.2 := frx_t frx_r (frx_m (fr_345 _ _ _ _ q3 hq3).2 (by decide))
        rcases ite_some hf with ⟨hc, hf⟩ | ⟨hc, hf⟩
        · obtain ⟨q4, hq4, hf⟩ := Option.bind_eq_some_iff.mp hf
          obtain ⟨q5, hq5, hf⟩ := Option.bind_eq_some_iff.mp hf
          cases hf; exact ⟨hIq3, hLq3⟩
        · cases hf; exact ⟨hIq3, hLq3⟩
      · cases hf; exact ⟨(frx_v frx_r (by decide)), frx_r⟩
def SI_348 : List Nat := [103, 104, 105, 106, 107, 108, 1000, 1025, 1026, 1027, 1028]
def SL_348 : List Nat := []
theorem frc_348_1 (n : Nat) (K0 : Int32 → Int32 → Int32 → Int32 → Int32 → FI → FL → Option (Int32 × FI × FL)) (hK0 : ∀ (x1 : Int32) (x2 : Int32) (x3 : Int32) (x4 : Int32) (x5 : Int32) (I : FI) (L : FL) (r : Int32 × FI × FL), K0 x1 x2 x3 x4 x5 I L = some r → Fr SI_348 I r.2.1 ∧ Fr SL_348 L r.2.2) (x1 : Int32) (x2 : Int32) (x3 : Int32) (x5 : Int32) (s0 : Int32) (s1 : Int32) (I : FI) (L : FL) (r : Int32 × FI × FL) (hf : c_348_1 n K0 x1 x2 x3 x5 s0 s1 I L = some r) : Fr SI_348 I r.2.1 ∧ Fr SL_348 L r.2.2 := by
  unfold c_348_1 at hf
  exact ⟨frx_t frx_r (hK0 x1 x2 x3 (s1 + s0) (x5 + (1 : Int32)) I L r hf).1, frx_t frx_r (hK0 x1 x2 x3 (s1 + s0) (x5 + (1 : Int32)) I L r hf).2⟩
theorem frc_348_0 (n : Nat) : ∀ (m : Nat) (x1 : Int32) (x2 : Int32) (x3 : Int32) (x4 : Int32) (x5 : Int32) (I : FI) (L : FL) (r : Int32 × FI × FL), c_348_0 n m x1 x2 x3 x4 x5 I L = some r → Fr SI_348 I r.2.1 ∧ Fr SL_348 L r.2.2
  | 0, x1, x2, x3, x4, x5, I, L, r, hf => by cases hf
  | m + 1, x1, x2, x3, x4, x5, I, L, r, hf => by
    unfold c_348_0 b_348_0 at hf
    have hK0 := frc_348_0 n m
    rcases ite_some hf with ⟨hc, hf⟩ | ⟨hc, hf⟩
    · cases hf; exact ⟨frx_r, frx_r⟩
    · obtain ⟨q3, hq3, hf⟩ := Option.bind_eq_some_iff.mp hf
      have hIq3 : Fr SI_348 I q3.1 := frx_t frx_r (frx_m (fr_345 _ _ _ _ q3 hq3).1 (by decide))
      have hLq3 : Fr SL_348 L q3.2 := frx_t frx_r (frx_m (fr_345 _ _ _ _ q3 hq3).2 (by decide))
      obtain ⟨q4, hq4, hf⟩ := Option.bind_eq_some_iff.mp hf
      obtain ⟨q5, hq5, hf⟩ := Option.bind_eq_some_iff.mp hf
      rcases ite_some hf with ⟨hc, hf⟩ | ⟨hc, hf⟩
      · exact ⟨frx_t hIq3 (frc_348_1 n _ hK0 x1 x2 x3 x5 (0 : Int32) x4 q3.1 q3.2 r hf).1, frx_t hLq3 (frc_348_1 n _ hK0 x1 x2 x3 x5 (0 : Int32) x4 q3.1 q3.2 r hf).2⟩
      · exact ⟨frx_t hIq3 (frc_348_1 n _ hK0 x1 x2 x3 x5 (1 : Int32) x4 q3.1 q3.2 r hf).1, frx_t hLq3 (frc_348_1 n _ hK0 x1 x2 x3 x5 (1 : Int32) x4 q3.1 q3.2 r hf).2⟩
theorem fr_348 (n : Nat) (x1 : Int32) (x2 : Int32) (x3 : Int32) (I : FI) (L : FL) (r : Int32 × FI × FL) (hf : f_348 n x1 x2 x3 I L = some r) : Fr SI_348 I r.2.1 ∧ Fr SL_348 L r.2.2 := by
  unfold f_348 at hf
  obtain ⟨q0, hq0, hf⟩ := Option.bind_eq_some_iff.mp hf
  rcases ite_some hf with ⟨hc, hf⟩ | ⟨hc, hf⟩
  · cases hf; exact ⟨(frx_v frx_r (by decide)), frx_r⟩
  · obtain ⟨q1, hq1, hf⟩ := Option.bind_eq_some_iff.mp hf
    rcases ite_some hf with ⟨hc, hf⟩ | ⟨hc, hf⟩
    · cases hf; exact ⟨(frx_v frx_r (by decide)), frx_r⟩
    · obtain ⟨q2, hq2, hf⟩ := Option.bind_eq_some_iff.mp hf
      rcases ite_some hf with ⟨hc, hf⟩ | ⟨hc, hf⟩
      · exact ⟨frx_t (frx_v frx_r (by decide)) (frc_348_0 n n x1 x2 x3 (0 : Int32) (0 : Int32) (u2 I 89 0 (0 : Int32)) L r hf).1, frx_t frx_r (frc_348_0 n n x1 x2 x3 (0 : Int32) (0 : Int32) (u2 I 89 0 (0 : Int32)) L r hf).2⟩
      · cases hf; exact ⟨(frx_v frx_r (by decide)), frx_r⟩
def SI_349 : List Nat := [96, 101, 103, 104, 105, 106, 107, 108, 1025, 1026, 1027, 1028]
def SL_349 : List Nat := []
theorem fr_349 (n : Nat) (x1 : Int32) (x2 : Int32) (I : FI) (L : FL) (r : FI × FL) (hf : f_349 n x1 x2 I L = some r) : Fr SI_349 I r.1 ∧ Fr SL_349 L r.2 := by
  unfold f_349 at hf
  rcases ite_some hf with ⟨hc, hf⟩ | ⟨hc, hf⟩
  · rcases ite_some hf with ⟨hc, hf⟩ | ⟨hc, hf⟩
    · obtain ⟨q0, hq0, hf⟩ := Option.bind_eq_some_iff.mp hf
      have hIq0 : Fr SI_349 I q0.1 := frx_t (frx_u (frx_u (frx_u frx_r (by decide) (by decide)) (by decide) (by decide)) (by decide) (by decide)) (frx_m (fr_261 _ _ _ _ q0 hq0).1 (by decide))
      have hLq0 : Fr SL_349 L q0.2 := frx_t frx_r (frx_m (fr_261 _ _ _ _ q0 hq0).2 (by decide))
      cases hf; exact ⟨hIq0, hLq0⟩
    · cases hf
  · cases hf
def SI_350 : List Nat := [96, 101, 103, 104, 105, 106, 107, 108, 1000, 1025, 1026, 1027, 1028]
def SL_350 : List Nat := []
theorem fr_350 (n : Nat) (x1 : Int32) (x2 : Int32) (I : FI) (L : FL) (r : Int32 × FI × FL) (hf : f_350 n x1 x2 I L = some r) : Fr SI_350 I r.2.1 ∧ Fr SL_350 L r.2.2 := by
  unfold f_350 at hf
  obtain ⟨q0, hq0, hf⟩ := Option.bind_eq_some_iff.mp hf
  rcases ite_some hf with ⟨hc, hf⟩ | ⟨hc, hf⟩
  · cases hf; exact ⟨(frx_v frx_r (by decide)), frx_r⟩
  · obtain ⟨q1, hq1, hf⟩ := Option.bind_eq_some_iff.mp hf
    rcases ite_some hf with ⟨hc, hf⟩ | ⟨hc, hf⟩
    · rcases ite_some hf with ⟨hc, hf⟩ | ⟨hc, hf⟩
      · obtain ⟨q2, hq2, hf⟩ := Option.bind_eq_some_iff.mp hf
        have hIq2 : Fr SI_350 I q2.1 := frx_t (frx_v frx_r (by decide)) (frx_m (fr_349 _ _ _ _ _ q2 hq2).1 (by decide))
        have hLq2 : Fr SL_350 L q2.2 := frx_t frx_r (frx_m (fr_349 _ _ _ _ _ q2 hq2).2 (by decide))
        rcases ite_some hf with ⟨hc, hf⟩ | ⟨hc, hf⟩
        · cases hf; exact ⟨hIq2, hLq2⟩
        · cases hf
      · cases hf; exact ⟨(frx_v frx_r (by decide)), frx_r⟩
    · cases hf; exact ⟨(frx_v frx_r (by decide)), frx_r⟩
def SI_351 : List Nat := [96, 101, 103, 104, 105, 106, 107, 108, 1000, 1025, 1026, 1027, 1028]
def SL_351 : List Nat := []
theorem fr_351 (n : Nat) (x1 : Int32) (I : FI) (L : FL) (r : Int32 × FI × FL) (hf : f_351 n x1 I L = some r) : Fr SI_351 I r.2.1 ∧ Fr SL_351 L r.2.2 := by
  unfold f_351 at hf
  obtain ⟨q0, hq0, hf⟩ := Option.bind_eq_some_iff.mp hf
  rcases ite_some hf with ⟨hc, hf⟩ | ⟨hc, hf⟩
  · rcases ite_some hf with ⟨hc, hf⟩ | ⟨hc, hf⟩
    · obtain ⟨q1, hq1, hf⟩ := Option.bind_eq_some_iff.mp hf
      have hIq1 : Fr SI_351 I q1.1 := frx_t (frx_v frx_r (by decide)) (frx_m (fr_349 _ _ _ _ _ q1 hq1).1 (by decide))
      have hLq1 : Fr SL_351 L q1.2 := frx_t frx_r (frx_m (fr_349 _ _ _ _ _ q1 hq1).2 (by decide))
      obtain ⟨q2, hq2, hf⟩ := Option.bind_eq_some_iff.mp hf
      cases hf; exact ⟨hIq1, hLq1⟩
    · cases hf; exact ⟨(frx_v frx_r (by decide)), frx_r⟩
  · cases hf; exact ⟨(frx_v frx_r (by decide)), frx_r⟩
def SI_352 : List Nat := [96, 1000]
def SL_352 : List Nat := []
theorem fr_352 (I : FI) (L : FL) (r : Int32 × FI × FL) (hf : f_352 I L = some r) : Fr SI_352 I r.2.1 ∧ Fr SL_352 L r.2.2 := by
  unfold f_352 at hf
  obtain ⟨q0, hq0, hf⟩ := Option.bind_eq_some_iff.mp hf
  rcases ite_some hf with ⟨hc, hf⟩ | ⟨hc, hf⟩
  · rcases ite_some hf with ⟨hc, hf⟩ | ⟨hc, hf⟩
    · cases hf; exact ⟨(frx_u (frx_v frx_r (by decide)) (by decide) (by decide)), frx_r⟩
    · cases hf; exact ⟨(frx_v frx_r (by decide)), frx_r⟩
  · cases hf; exact ⟨(frx_v frx_r (by decide)), frx_r⟩
def SI_353 : List Nat := [96, 1000]
def SL_353 : List Nat := []
theorem fr_353 (I : FI) (L : FL) (r : Int32 × FI × FL) (hf : f_353 I L = some r) : Fr SI_353 I r.2.1 ∧ Fr SL_353 L r.2.2 := by
  unfold f_353 at hf
  obtain ⟨q0, hq0, hf⟩ := Option.bind_eq_some_iff.mp hf
  rcases ite_some hf with ⟨hc, hf⟩ | ⟨hc, hf⟩
  · cases hf; exact ⟨(frx_u (frx_v frx_r (by decide)) (by decide) (by decide)), frx_r⟩
  · cases hf; exact ⟨(frx_v frx_r (by decide)), frx_r⟩
def SI_354 : List Nat := [97, 1000]
def SL_354 : List Nat := []
theorem fr_354 (x1 : Int32) (x2 : Int32) (I : FI) (L : FL) (r : Int32 × FI × FL) (hf : f_354 x1 x2 I L = some r) : Fr SI_354 I r.2.1 ∧ Fr SL_354 L r.2.2 := by
  unfold f_354 at hf
  obtain ⟨q0, hq0, hf⟩ := Option.bind_eq_some_iff.mp hf
  rcases ite_some hf with ⟨hc, hf⟩ | ⟨hc, hf⟩
  · cases hf; exact ⟨(frx_v frx_r (by decide)), frx_r⟩
  · obtain ⟨q1, hq1, hf⟩ := Option.bind_eq_some_iff.mp hf
    rcases ite_some hf with ⟨hc, hf⟩ | ⟨hc, hf⟩
    · rcases ite_some hf with ⟨hc, hf⟩ | ⟨hc, hf⟩
      · rcases ite_some hf with ⟨hc, hf⟩ | ⟨hc, hf⟩
        · rcases ite_some hf with ⟨hc, hf⟩ | ⟨hc, hf⟩
          · cases hf; exact ⟨(frx_u (frx_v frx_r (by decide)) (by decide) (by decide)), frx_r⟩
          · cases hf
        · cases hf
      · cases hf; exact ⟨(frx_v frx_r (by decide)), frx_r⟩
    · cases hf; exact ⟨(frx_v frx_r (by decide)), frx_r⟩
def SI_355 : List Nat := [1000]
def SL_355 : List Nat := []
theorem frc_355_1 (n : Nat) (K0 : Int32 → Int32 → FI → FL → Option (Int32 × FI × FL)) (hK0 : ∀ (x2 : Int32) (x3 : Int32) (I : FI) (L : FL) (r : Int32 × FI × FL), K0 x2 x3 I L = some r → Fr SI_355 I r.2.1 ∧ Fr SL_355 L r.2.2) (x3 : Int32) (s0 : Int32) (s1 : Int32) (I : FI) (L : FL) (r : Int32 × FI × FL) (hf : c_355_1 n K0 x3 s0 s1 I L = some r) : Fr SI_355 I r.2.1 ∧ Fr SL_355 L r.2.2 := by
  unfold c_355_1 at hf
  exact ⟨frx_t frx_r (hK0 (s1 + s0) (x3 + (1 : Int32)) I L r hf).1, frx_t frx_r (hK0 (s1 + s0) (x3 + (1 : Int32)) I L r hf).2⟩
theorem frc_355_0 (n : Nat) : ∀ (m : Nat) (x2 : Int32) (x3 : Int32) (I : FI) (L : FL) (r : Int32 × FI × FL), c_355_0 n m x2 x3 I L = some r → Fr SI_355 I r.2.1 ∧ Fr SL_355 L r.2.2
  | 0, x2, x3, I, L, r, hf => by cases hf
  | m + 1, x2, x3, I, L, r, hf => by
    unfold c_355_0 b_355_0 at hf
    have hK0 := frc_355_0 n m
    rcases ite_some hf with ⟨hc, hf⟩ | ⟨hc, hf⟩
    · cases hf; exact ⟨frx_r, frx_r⟩
    · rcases ite_some hf with ⟨hc, hf⟩ | ⟨hc, hf⟩
      · rcases ite_some hf with ⟨hc, hf⟩ | ⟨hc, hf⟩
        · exact ⟨frx_t frx_r (frc_355_1 n _ hK0 x3 (1 : Int32) x2 I L r hf).1, frx_t frx_r (frc_355_1 n _ hK0 x3 (1 : Int32) x2 I L r hf).2⟩
        · exact ⟨frx_t frx_r (frc_355_1 n _ hK0 x3 (0 : Int32) x2 I L r hf).1, frx_t frx_r (frc_355_1 n _ hK0 x3 (0 : Int32) x2 I L r hf).2⟩
      · cases hf
theorem fr_355 (n : Nat) (x1 : Int32) (I : FI) (L : FL) (r : Int32 × FI × FL) (hf : f_355 n x1 I L = some r) : Fr SI_355 I r.2.1 ∧ Fr SL_355 L r.2.2 := by
  unfold f_355 at hf
  obtain ⟨q0, hq0, hf⟩ := Option.bind_eq_some_iff.mp hf
  rcases ite_some hf with ⟨hc, hf⟩ | ⟨hc, hf⟩
  · rcases ite_some hf with ⟨hc, hf⟩ | ⟨hc, hf⟩
    · cases hf; exact ⟨(frx_v frx_r (by decide)), frx_r⟩
    rcases ite_some hf with ⟨hc, hf⟩ | ⟨hc, hf⟩
    · cases hf; exact ⟨(frx_v frx_r (by decide)), frx_r⟩
    rcases ite_some hf with ⟨hc, hf⟩ | ⟨hc, hf⟩
    · cases hf; exact ⟨(frx_v frx_r (by decide)), frx_r⟩
    rcases ite_some hf with ⟨hc, hf⟩ | ⟨hc, hf⟩
    · exact ⟨frx_t (frx_v frx_r (by decide)) (frc_355_0 n n (0 : Int32) (0 : Int32) (u2 I 89 0 (0 : Int32)) L r hf).1, frx_t frx_r (frc_355_0 n n (0 : Int32) (0 : Int32) (u2 I 89 0 (0 : Int32)) L r hf).2⟩
    cases hf
  · rcases ite_some hf with ⟨hc, hf⟩ | ⟨hc, hf⟩
    · cases hf; exact ⟨(frx_v frx_r (by decide)), frx_r⟩
    · cases hf
def SI_356 : List Nat := [95, 96, 97, 98, 99, 100, 101, 102, 1000]
def SL_356 : List Nat := []
theorem fr_356 (n : Nat) (x1 : Int32) (I : FI) (L : FL) (r : Int32 × FI × FL) (hf : f_356 n x1 I L = some r) : Fr SI_356 I r.2.1 ∧ Fr SL_356 L r.2.2 := by
  unfold f_356 at hf
  obtain ⟨q0, hq0, hf⟩ := Option.bind_eq_some_iff.mp hf
  rcases ite_some hf with ⟨hc, hf⟩ | ⟨hc, hf⟩
  · obtain ⟨q1, hq1, hf⟩ := Option.bind_eq_some_iff.mp hf
    have hIq1 : Fr SI_356 I q1.1 := frx_t (frx_v frx_r (by decide)) (frx_m (fr_235 _ _ _ _ _ q1 hq1).1 (by decide))
    have hLq1 : Fr SL_356 L q1.2 := frx_t frx_r (frx_m (fr_235 _ _ _ _ _ q1 hq1).2 (by decide))
    rcases ite_some hf with ⟨hc, hf⟩ | ⟨hc, hf⟩
    · cases hf; exact ⟨(frx_u hIq1 (by decide) (by decide)), hLq1⟩
    · cases hf
  · cases hf; exact ⟨(frx_v frx_r (by decide)), frx_r⟩
def SI_357 : List Nat := [95, 96, 97, 98, 99, 100, 101, 1000]
def SL_357 : List Nat := []
theorem fr_357 (n : Nat) (x1 : Int32) (I : FI) (L : FL) (r : Int32 × FI × FL) (hf : f_357 n x1 I L = some r) : Fr SI_357 I r.2.1 ∧ Fr SL_357 L r.2.2 := by
  unfold f_357 at hf
  obtain ⟨q0, hq0, hf⟩ := Option.bind_eq_some_iff.mp hf
  rcases ite_some hf with ⟨hc, hf⟩ | ⟨hc, hf⟩
  · rcases ite_some hf with ⟨hc, hf⟩ | ⟨hc, hf⟩
    · rcases ite_some hf with ⟨hc, hf⟩ | ⟨hc, hf⟩
      · obtain ⟨q1, hq1, hf⟩ := Option.bind_eq_some_iff.mp hf
        have hIq1 : Fr SI_357 I q1.1 := frx_t (frx_v frx_r (by decide)) (frx_m (fr_235 _ _ _ _ _ q1 hq1).1 (by decide))
        have hLq1 : Fr SL_357 L q1.2 := frx_t frx_r (frx_m (fr_235 _ _ _ _ _ q1 hq1).2 (by decide))
        cases hf; exact ⟨hIq1, hLq1⟩
      · cases hf; exact ⟨(frx_v frx_r (by decide)), frx_r⟩
    · cases hf
  · cases hf; exact ⟨(frx_v frx_r (by decide)), frx_r⟩
