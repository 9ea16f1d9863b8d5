/-! LAYER 3: rings: rows that may be least among their rotations; the first row of a kind -/
def PN (w : Nat → Nat) (m : Nat) : Prop := ∀ q i, q + i < m → (∀ j, j < i → w (q + j) = w j) → w i ≤ w (q + i)
def PE (w : Nat → Nat) (m p : Nat) : Prop := ∀ i, p + i < m → w (p + i) = w i
def LPX (w : Nat → Nat) (m p : Nat) : Prop := 1 ≤ p ∧ (p ≤ m ∨ p = 1) ∧ PE w m p ∧ ∀ q, 1 ≤ q → q < p → ¬ PE w m q
section PNS
variable {w v : Nat → Nat} {m p : Nat}
theorem PN_cg (e : ∀ i, i < m → w i = v i) (h : PN w m) : PN v m := fun q i hi hj => by
  rw [← e i (by omega), ← e (q + i) hi]
  exact h q i hi (fun j hj2 => by rw [e (q + j) (by omega), e j (by omega)]; exact hj j hj2)
theorem PE_cg (e : ∀ i, i < m → w i = v i) (h : PE w m p) : PE v m p := fun i hi => by
  rw [← e i (by omega), ← e (p + i) hi]; exact h i hi
theorem LP_cg (e : ∀ i, i < m → w i = v i) (h : LPX w m p) : LPX v m p := ⟨h.1, h.2.1, PE_cg e h.2.2.1, fun q a b c => h.2.2.2 q a b (PE_cg (fun i hi => (e i hi).symm) c)⟩
theorem PN_lo (h : PN w m) {k : Nat} (hk : k ≤ m) : PN w k := fun q i hi hj => h q i (by omega) hj
theorem LP_0 : LPX w 0 1 := ⟨Nat.le_refl _, Or.inr rfl, fun i hi => absurd hi (by omega), fun q a b => by omega⟩
theorem LP_1 : LPX w 1 1 := ⟨Nat.le_refl _, Or.inr rfl, fun i hi => absurd hi (by omega), fun q a b => by omega⟩
theorem PN_1 : PN w 1 := fun q i hi _ => by
  rw [show i = 0 by omega, show q = 0 by omega]; exact Nat.le_refl _
theorem PN_0 : PN w 0 := fun q i hi _ => absurd hi (by omega)
theorem PN_ge (h : PN w (m + 1)) (hp : LPX w m p) (hm : 1 ≤ m) : w (m - p) ≤ w m := by
  have hpm : p ≤ m := by have := hp.2.1; omega
  have := h p (m - p) (by omega) (fun j hj => hp.2.2.1 j (by omega))
  rwa [show p + (m - p) = m by omega] at this
theorem PN_le (h : PN w m) (hp : LPX w m p) {q : Nat} (h1 : p ≤ q) (h2 : q ≤ m) (hq : PE w m q) : w (m - q) ≤ w (m - p) := by
  have hp1 := hp.1
  by_cases e : q = p
  · rw [e]; exact Nat.le_refl _
  · have := h (q - p) (m - q) (by omega) (fun j hj => by
      have a := hp.2.2.1 (q - p + j) (by omega)
      rw [show p + (q - p + j) = q + j by omega] at a
      rw [← a]; exact hq j (by omega))
    rwa [show q - p + (m - q) = m - p by omega] at this
/-- a letter more -/
theorem PN_st (h : PN w m) (hp : LPX w m p) (hm : 1 ≤ m) (hge : w (m - p) ≤ w m) : PN w (m + 1) := by
  intro q i hi hj
  by_cases e : q + i < m
  · exact h q i e hj
  · have hqi : q + i = m := by omega
    by_cases hq : q = 0
    · subst hq; rw [Nat.zero_add]; exact Nat.le_refl _
    · have hpe : PE w m q := fun j hj2 => hj j (by omega)
      have hpq : p ≤ q := Nat.le_of_not_lt (fun a => hp.2.2.2 q (by omega) a hpe)
      have := PN_le h hp hpq (by omega) hpe
      rw [hqi, show i = m - q by omega]
      omega
theorem LP_eq (hp : LPX w m p) (hm : 1 ≤ m) (he : w m = w (m - p)) : LPX w (m + 1) p := by
  have hpm : p ≤ m := by have := hp.2.1; omega
  refine ⟨hp.1, Or.inl (by omega), fun i hi => ?_, fun q a b c => hp.2.2.2 q a b (fun i hi => c i (by omega))⟩
  by_cases e : p + i < m
  · exact hp.2.2.1 i e
  · rw [show p + i = m by omega, he, show m - p = i by omega]
theorem LP_ne (h : PN w m) (hp : LPX w m p) (hm : 1 ≤ m) (he : w (m - p) < w m) : LPX w (m + 1) (m + 1) := by
  refine ⟨by omega, Or.inl (Nat.le_refl _), fun i hi => absurd hi (by omega), fun q a b c => ?_⟩
  have hpe : PE w m q := fun i hi => c i (by omega)
  have hpq : p ≤ q := Nat.le_of_not_lt (fun x => hp.2.2.2 q a x hpe)
  have := PN_le h hp hpq (by omega) hpe
  have c2 := c (m - q) (by omega)
  rw [show q + (m - q) = m by omega] at c2
  omega
end PNS
section NKS
variable {x : List Nat} {n p : Nat}
theorem NK_PN (h : NK (xt n x)) : PN (wf x) n := fun q i hi hj => by
  have := h q i (fun j hj2 => by
    show xt n x j = xt n x (j + q)
    rw [xt_l (by omega), xt_l (by omega), Nat.add_comm j q]; exact (hj j hj2).symm)
  rw [xt_l (by omega)] at this
  (try dsimp only at this)
  rw [xt_l (by omega), Nat.add_comm i q] at this
  exact this
theorem NK_dv (hn : 1 ≤ n) (h : NK (xt n x)) (hp : LPX (wf x) n p) : p ∣ n := by
  apply Classical.byContradiction
  intro q
  have hp1 := hp.1
  have hs : 1 ≤ n % p := Nat.pos_of_ne_zero (fun e => q (Nat.dvd_of_mod_eq_zero e))
  have hsl : n % p < p := Nat.mod_lt _ (by omega)
  have hdm := Nat.div_add_mod n p
  have hpd := xt_p (n := n) (x := x)
  -- the head comes back at every period
  have hc : ∀ c i, p * c + i < n → wf x (p * c + i) = wf x i := fun c => by
    induction c with
    | zero => intro i _; rw [Nat.mul_zero, Nat.zero_add]
    | succ c ih =>
      intro i hi
      rw [Nat.mul_succ] at hi ⊢
      rw [show p * c + p + i = p + (p * c + i) by omega, hp.2.2.1 _ (by omega)]
      exact ih i (by omega)
  have a1 : LX (xt n x) (fun i => xt n x (i + n % p)) := h (n % p)
  have a2 : LX (fun i => xt n x (i + n % p)) (xt n x) := by
    intro i hi
    have b := h (p * (n / p)) (i + n % p) (fun j hj => by
      show xt n x j = xt n x (j + p * (n / p))
      by_cases e : j < n % p
      · rw [xt_l (by omega), xt_l (by omega), Nat.add_comm j, hc _ _ (by omega)]
      · have c1 := hi (j - n % p) (by omega)
        (try dsimp only at c1)
        rw [show j - n % p + n % p = j by omega] at c1
        rw [c1, show j + p * (n / p) = j - n % p + n by omega, hpd])
    (try dsimp only at b)
    rw [show i + n % p + p * (n / p) = i + n by omega, hpd] at b
    exact b
  have e := LX_an a1 a2
  exact hp.2.2.2 (n % p) hs hsl (fun i hi => by
    have := e i
    (try dsimp only at this)
    rw [xt_l (by omega), xt_l (by omega), Nat.add_comm] at this
    exact this.symm)
theorem PN_NK (hn : 1 ≤ n) (h : PN (wf x) n) (hp : LPX (wf x) n p) (hd : p ∣ n) : NK (xt n x) ∧ plp (xt n x) = p := by
  have hp1 := hp.1
  obtain ⟨c, hc⟩ := hd
  have hpn : p ≤ n := Nat.le_of_dvd hn ⟨c, hc⟩
  have hw : ∀ k, k < n → wf x k = wf x (k % p) := fun k => by
    induction k using Nat.strongRecOn with
    | _ k ih =>
      intro hk
      by_cases e : k < p
      · rw [Nat.mod_eq_of_lt e]
      · have := hp.2.2.1 (k - p) (by omega)
        rw [show p + (k - p) = k by omega] at this
        rw [this, ih (k - p) (by omega) (by omega), ← Nat.mod_eq_sub_mod (by omega)]
  have hx : ∀ i, xt n x i = wf x (i % p) := fun i => by
    unfold xt
    rw [hw _ (Nat.mod_lt _ (by omega)), Nat.mod_mod_of_dvd _ ⟨c, hc⟩]
  have hpd : PD (xt n x) p := fun i => by rw [hx, hx, Nat.add_mod_right]
  have hpl : PLS (xt n x) p := ⟨hp1, hpd, fun d a b e => hp.2.2.2 d a b (fun i hi => by
    have := e i
    rw [xt_l (by omega), xt_l (by omega), Nat.add_comm] at this
    exact this)⟩
  refine ⟨fun q => ?_, plp_e hpl⟩
  have hq : (fun i => xt n x (i + q)) = fun i => xt n x (i + q % p) := by
    funext i
    rw [hx, hx, Nat.add_mod, Nat.add_mod i (q % p), Nat.mod_mod]
  rw [hq]
  have hlt : q % p < p := Nat.mod_lt _ (by omega)
  by_cases hz : q % p = 0
  · rw [hz]; exact fun i _ => Nat.le_refl _
  · intro i hi
    (try dsimp only at hi ⊢)
    by_cases e : q % p + i < n
    · rw [xt_l (by omega), xt_l (by omega), Nat.add_comm]
      exact h (q % p) i e (fun j hj => by
        have := hi j hj
        rw [xt_l (by omega), xt_l (by omega), Nat.add_comm] at this
        exact this.symm)
    · exact absurd (fun j hj => by
        have := hi j (by omega)
        rw [xt_l (by omega), xt_l (by omega), Nat.add_comm] at this
        exact this.symm) (hp.2.2.2 (q % p) (by omega) hlt)
end NKS
/-! the first -/
def frs {α : Type} (F : Nat → Option α) : Nat → Option α
  | 0 => none
  | k + 1 => (frs F k).or (F k)
section FRS
variable {α : Type} {F G : Nat → Option α}
theorem frs_n : ∀ {k : Nat}, (∀ r, r < k → F r = none) → frs F k = none
  | 0, _ => rfl
  | k + 1, h => by
    show (frs F k).or (F k) = none
    rw [frs_n (fun r hr => h r (by omega)), h k (by omega)]; rfl
theorem frs_e {k : Nat} (h : frs F k = none) : ∀ q, q < k → F q = none := by
  induction k with
  | zero => intro q hq; omega
  | succ k ih =>
    have h' : (frs F k).or (F k) = none := h
    cases e : frs F k with
    | some b => rw [e] at h'; cases h'
    | none =>
      rw [e] at h'
      intro q hq
      by_cases c : q < k
      · exact ih e q c
      · rw [show q = k by omega]; exact h'
theorem frs_s {a : α} : ∀ {k : Nat}, frs F k = some a → ∃ r, r < k ∧ F r = some a ∧ ∀ q, q < r → F q = none
  | 0, h => by cases h
  | k + 1, h => by
    have h' : (frs F k).or (F k) = some a := h
    cases e : frs F k with
    | some b =>
      rw [e] at h'
      obtain ⟨r, r1, r2, r3⟩ := frs_s (k := k) (a := a) (by rw [e]; exact h')
      exact ⟨r, by omega, r2, r3⟩
    | none =>
      rw [e] at h'
      refine ⟨k, by omega, h', fun q hq => ?_⟩
      exact frs_e e q hq
theorem frs_k {a : α} {k N : Nat} (h : frs F k = some a) (hk : k ≤ N) : frs F N = some a := by
  obtain ⟨d, rfl⟩ : ∃ d, N = k + d := ⟨N - k, by omega⟩
  induction d with
  | zero => exact h
  | succ d ih =>
    show (frs F (k + d)).or (F (k + d)) = some a
    rw [ih (by omega)]; rfl
theorem frs_cg : ∀ {k : Nat}, (∀ r, r < k → F r = G r) → frs F k = frs G k
  | 0, _ => rfl
  | k + 1, h => by
    show (frs F k).or (F k) = (frs G k).or (G k)
    rw [frs_cg (fun r hr => h r (by omega)), h k (by omega)]
end FRS
noncomputable def fsw (R : Nat) : Nat → (List Nat → Prop) → Option (List Nat)
  | 0, P => @ite (Option (List Nat)) (P []) (Classical.propDecidable _) (some []) none
  | n + 1, P => frs (fun r => (fsw R n (fun l => P (r :: l))).map (fun l => r :: l)) R
theorem fsw_n {R : Nat} : ∀ {n : Nat} {P : List Nat → Prop}, fsw R n P = none → ∀ y, Wd R n y → ¬ P y
  | 0, P, h, y, hy => fun q => by
    have : y = [] := List.length_eq_zero_iff.mp hy.1
    subst this
    unfold fsw at h
    rw [if_pos q] at h
    cases h
  | n + 1, P, h, y, hy => by
    cases y with
    | nil => exact absurd hy.1 (by simp)
    | cons r l =>
      have h1 := frs_e h r (Wd_c.mp hy).1
      exact fsw_n (P := fun l => P (r :: l)) (Option.map_eq_none_iff.mp h1) l (Wd_c.mp hy).2
theorem fsw_0 {R : Nat} : ∀ {n : Nat} {P : List Nat → Prop}, (∀ y, Wd R n y → ¬ P y) → fsw R n P = none
  | 0, P, h => by
    unfold fsw
    exact if_neg (h [] ⟨rfl, fun k hk => absurd hk (by omega)⟩)
  | n + 1, P, h => frs_n (fun r hr => by
      rw [fsw_0 (P := fun l => P (r :: l)) (fun y hy => h (r :: y) (Wd_c.mpr ⟨hr, hy⟩))]; rfl)
theorem fsw_s {R : Nat} : ∀ {n : Nat} {P : List Nat → Prop} {x : List Nat}, fsw R n P = some x → Wd R n x ∧ P x ∧ ∀ y, Wd R n y → P y → LX (wf x) (wf y)
  | 0, P, x, h => by
    unfold fsw at h
    by_cases q : P []
    · rw [if_pos q] at h
      cases h
      refine ⟨⟨rfl, fun k hk => absurd hk (by omega)⟩, q, fun y hy _ => ?_⟩
      rw [List.length_eq_zero_iff.mp hy.1]
      exact fun i _ => Nat.le_refl _
    · rw [if_neg q] at h; cases h
  | n + 1, P, x, h => by
    obtain ⟨r, r1, r2, r3⟩ := frs_s h
    obtain ⟨l, l1, l2⟩ := Option.map_eq_some_iff.mp r2
    subst l2
    obtain ⟨a, b, c⟩ := fsw_s l1
    refine ⟨Wd_c.mpr ⟨r1, a⟩, b, fun y hy hP => ?_⟩
    cases y with
    | nil => exact absurd hy.1 (by simp)
    | cons s m =>
      obtain ⟨y1, y2⟩ := Wd_c.mp hy
      rcases Nat.lt_trichotomy r s with q | q | q
      · intro i hi
        cases i with
        | zero => exact Nat.le_of_lt q
        | succ i => exact absurd (hi 0 (by omega)) (by show ¬ r = s; omega)
      · subst q
        intro i hi
        cases i with
        | zero => exact Nat.le_refl _
        | succ i => exact c m y2 hP i (fun j hj => hi (j + 1) (by omega))
      · exact absurd hP (fsw_n (P := fun l => P (s :: l)) (Option.map_eq_none_iff.mp (r3 s q)) m y2)
/-- the first row of a kind that rotations keep is the least of its rotations -/
theorem fsw_nk {R n : Nat} (hn : 1 ≤ n) {E : (Nat → Nat) → Prop} (hE : ∀ X, PD X n → (E (fun i => X (i + 1)) ↔ E X)) : fsw R n (fun x => NK (xt n x) ∧ E (xt n x)) = fsw R n (fun x => E (xt n x)) := by
  cases e : fsw R n (fun x => E (xt n x)) with
  | none => exact fsw_0 (fun y hy q => fsw_n e y hy q.2)
  | some x =>
    obtain ⟨x1, x2, x3⟩ := fsw_s e
    have hEj : ∀ j, E (xt n (rtn j x)) := fun j => by
      rw [(xt_rn hn x1).2]
      induction j with
      | zero => exact x2
      | succ j ih =>
        have h1 := hE (fun i => xt n x (i + j)) (PD_s xt_p j)
        have e : (fun i => xt n x (i + (j + 1))) = fun i => (fun i => xt n x (i + j)) (i + 1) := by
          funext i; show xt n x (i + (j + 1)) = xt n x (i + 1 + j); congr 1; omega
        rw [e, h1]; exact ih
    have hN : NK (xt n x) := fun q => by
      have h1 := x3 (rtn q x) (xt_rn hn x1).1 (hEj q)
      have h2 : ∀ i, i < n → wf (rtn q x) i = xt n x (i + q) := fun i hi => by
        rw [← xt_l (x := rtn q x) hi, (xt_rn hn x1).2]
      intro i hi
      by_cases c : i < n
      · show xt n x i ≤ xt n x (i + q)
        rw [xt_l c, ← h2 i c]
        exact h1 i (fun j hj => by rw [h2 j (by omega), ← xt_l (x := x) (show j < n by omega)]; exact hi j hj)
      · have h3 := hi (i % n) (by have := Nat.mod_lt i (show n > 0 by omega); omega)
        (try dsimp only at h3)
        show xt n x i ≤ xt n x (i + q)
        have h4 := PD_mod (xt_p (n := n) (x := x)) i
        have h5 := PD_mod (PD_s (xt_p (n := n) (x := x)) q) i
        (try dsimp only at h5)
        omega
    cases e2 : fsw R n (fun x => NK (xt n x) ∧ E (xt n x)) with
    | none => exact absurd ⟨hN, x2⟩ (fsw_n e2 x x1)
    | some y =>
      obtain ⟨y1, y2, y3⟩ := fsw_s e2
      have := LX_an (y3 x x1 ⟨hN, x2⟩) (x3 y y1 y2.2)
      rw [wf_ext y1.1 x1.1 (fun k _ => this k)]
