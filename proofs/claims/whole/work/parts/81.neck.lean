/-! LAYER 3: rings: words, the least among rotations, how many -/
def wf (u : List Nat) : Nat → Nat := fun k => u.getD k 0
theorem wf_l {u v : List Nat} {k : Nat} (h : k < u.length) : wf (u ++ v) k = wf u k := by
  unfold wf
  rw [List.getD_eq_getElem?_getD, List.getD_eq_getElem?_getD, List.getElem?_append_left h]
theorem wf_r {u v : List Nat} {k : Nat} (h : u.length ≤ k) : wf (u ++ v) k = wf v (k - u.length) := by
  unfold wf
  rw [List.getD_eq_getElem?_getD, List.getD_eq_getElem?_getD, List.getElem?_append_right h]
theorem wf_m {u v : List Nat} {j : Nat} : wf (u ++ j :: v) u.length = j := by
  rw [wf_r (Nat.le_refl _), Nat.sub_self]; rfl
theorem wf_c {u : List Nat} {j k : Nat} : wf (j :: u) (k + 1) = wf u k := rfl
theorem wf_0 {u : List Nat} {j : Nat} : wf (j :: u) 0 = j := rfl
def Wd (R n : Nat) (x : List Nat) : Prop := x.length = n ∧ ∀ k, k < n → wf x k < R
theorem Wd_c {R n j : Nat} {x : List Nat} : Wd R (n + 1) (j :: x) ↔ j < R ∧ Wd R n x := by
  constructor
  · rintro ⟨h1, h2⟩
    refine ⟨h2 0 (by omega), by simpa using h1, fun k hk => ?_⟩
    exact h2 (k + 1) (by omega)
  · rintro ⟨h1, h2, h3⟩
    refine ⟨by simp [h2], fun k hk => ?_⟩
    cases k with
    | zero => exact h1
    | succ k => exact h3 k (by omega)
theorem Wd_s {R n j : Nat} {x : List Nat} (h : Wd R n x) (hj : j < R) : Wd R (n + 1) (x ++ [j]) := by
  refine ⟨by simp [h.1], fun k hk => ?_⟩
  by_cases e : k < x.length
  · rw [wf_l e]; exact h.2 k (by have := h.1; omega)
  · have : k = x.length := by have := h.1; omega
    rw [this, wf_m]; exact hj
theorem Wd_a {R n m : Nat} {x y : List Nat} (h : Wd R n x) (hj : Wd R m y) : Wd R (n + m) (x ++ y) := by
  refine ⟨by simp [h.1, hj.1], fun k hk => ?_⟩
  by_cases e : k < x.length
  · rw [wf_l e]; exact h.2 k (by have := h.1; omega)
  · rw [wf_r (by omega)]; exact hj.2 _ (by have := h.1; omega)
theorem wf_ext {n : Nat} {x y : List Nat} (h1 : x.length = n) (h2 : y.length = n) (h : ∀ k, k < n → wf x k = wf y k) : x = y := by
  refine List.ext_getElem (by omega) (fun i a b => ?_)
  have := h i (by omega)
  unfold wf at this
  rwa [List.getD_eq_getElem?_getD, List.getD_eq_getElem?_getD, List.getElem?_eq_getElem a, List.getElem?_eq_getElem b] at this
/-! the order -/
def LX (X Y : Nat → Nat) : Prop := ∀ i, (∀ j, j < i → X j = Y j) → X i ≤ Y i
section LXS
variable {X Y Z : Nat → Nat}
theorem LX_an (h1 : LX X Y) (h2 : LX Y X) : ∀ i, X i = Y i := by
  intro i
  induction i using Nat.strongRecOn with
  | _ i ih => exact Nat.le_antisymm (h1 i ih) (h2 i (fun j hj => (ih j hj).symm))
theorem LX_tr (h1 : LX X Y) (h2 : LX Y Z) : LX X Z := by
  intro i hi
  have key : ∀ j, j ≤ i → (∀ k, k < j → X k = Y k) := by
    intro j
    induction j with
    | zero => intro _ k hk; omega
    | succ j ih =>
      intro hj k hk
      have e := ih (by omega)
      by_cases h : k < j
      · exact e k h
      · have hkj : k = j := by omega
        subst hkj
        have a := h1 k e
        have b := h2 k (fun m hm => by rw [← e m hm]; exact hi m (by omega))
        have c := hi k (by omega)
        omega
  have e := key i (Nat.le_refl _)
  exact Nat.le_trans (h1 i e) (h2 i (fun m hm => by rw [← e m hm]; exact hi m hm))
theorem LX_tot (X Y : Nat → Nat) : LX X Y ∨ LX Y X := by
  by_cases h : LX X Y
  · exact Or.inl h
  · right
    have hex : ∃ i, (∀ j, j < i → X j = Y j) ∧ Y i < X i := by
      apply Classical.byContradiction
      intro q
      apply h
      intro i hi
      apply Nat.le_of_not_lt
      intro hlt
      exact q ⟨i, hi, hlt⟩
    obtain ⟨i, h1, h2⟩ := hex
    intro k hk
    rcases Nat.lt_trichotomy k i with a | a | a
    · rw [h1 k a]; exact Nat.le_refl _
    · subst a; omega
    · have := hk i a; omega
end LXS
/-! periods of endless rows -/
def PD (X : Nat → Nat) (d : Nat) : Prop := ∀ i, X (i + d) = X i
def PLS (X : Nat → Nat) (p : Nat) : Prop := 1 ≤ p ∧ PD X p ∧ ∀ d, 1 ≤ d → d < p → ¬ PD X d
def NK (X : Nat → Nat) : Prop := ∀ q, LX X (fun i => X (i + q))
section PDS
variable {X : Nat → Nat} {p n d : Nat}
theorem PD_mul (h : PD X p) : ∀ c, PD X (p * c)
  | 0 => fun i => rfl
  | c + 1 => fun i => by rw [Nat.mul_succ, ← Nat.add_assoc, h]; exact PD_mul h c i
theorem PD_mod (h : PD X p) (i : Nat) : X (i % p) = X i := by
  have := PD_mul h (i / p) (i % p)
  rw [Nat.mod_add_div] at this
  exact this.symm
theorem PD_dvd (h : PLS X p) (hd : PD X d) : p ∣ d := by
  obtain ⟨h1, h2, h3⟩ := h
  apply Classical.byContradiction
  intro q
  have hs : 1 ≤ d % p := Nat.pos_of_ne_zero (fun e => q (Nat.dvd_of_mod_eq_zero e))
  refine h3 (d % p) hs (Nat.mod_lt _ (by omega)) (fun i => ?_)
  have := PD_mul h2 (d / p) (i + d % p)
  rw [Nat.add_assoc, Nat.mod_add_div] at this
  rw [← this]; exact hd i
theorem PLS_ex : ∀ {n : Nat}, 1 ≤ n → PD X n → ∃ p, PLS X p := by
  intro n
  induction n using Nat.strongRecOn with
  | _ n ih =>
    intro hn h
    by_cases q : ∃ d, 1 ≤ d ∧ d < n ∧ PD X d
    · obtain ⟨d, a, b, c⟩ := q
      exact ih d b a c
    · exact ⟨n, hn, h, fun d a b c => q ⟨d, a, b, c⟩⟩
theorem PLS_un {q : Nat} (h1 : PLS X p) (h2 : PLS X q) : p = q := by
  rcases Nat.lt_trichotomy p q with a | a | a
  · exact absurd h1.2.1 (h2.2.2 p h1.1 a)
  · exact a
  · exact absurd h2.2.1 (h1.2.2 q h2.1 a)
noncomputable def plp (X : Nat → Nat) : Nat := Classical.epsilon (fun p => PLS X p)
theorem plp_s (hn : 1 ≤ n) (h : PD X n) : PLS X (plp X) := Classical.epsilon_spec (p := fun p => PLS X p) (PLS_ex hn h)
theorem plp_e (h : PLS X p) : plp X = p := PLS_un (plp_s h.1 h.2.1) h
theorem PD_sh (hn : 1 ≤ n) (h : PD X n) : PD (fun i => X (i + 1)) d ↔ PD X d := by
  constructor
  · intro q i
    have := q (i + n - 1)
    (try dsimp only at this)
    rw [show i + n - 1 + d + 1 = i + d + n by omega, show i + n - 1 + 1 = i + n by omega, h, h] at this
    exact this
  · intro q i
    (try dsimp only)
    rw [show i + d + 1 = i + 1 + d by omega]; exact q (i + 1)
theorem plp_sh (hn : 1 ≤ n) (h : PD X n) : plp (fun i => X (i + 1)) = plp X := by
  have hp := plp_s hn h
  refine plp_e ⟨hp.1, (PD_sh hn h).mpr hp.2.1, fun d a b c => hp.2.2 d a b ((PD_sh hn h).mp c)⟩
theorem PD_s (h : PD X n) (j : Nat) : PD (fun i => X (i + j)) n := fun i => by
  (try dsimp only)
  rw [show i + n + j = i + j + n by omega]; exact h _
theorem NK_ex (hn : 1 ≤ n) (h : PD X n) : ∃ j, j < n ∧ NK (fun i => X (i + j)) := by
  have key : ∀ m, 1 ≤ m → ∃ j, j < m ∧ ∀ k, k < m → LX (fun i => X (i + j)) (fun i => X (i + k)) := by
    intro m hm
    induction m with
    | zero => omega
    | succ m ih =>
      by_cases hz : m = 0
      · subst hz
        exact ⟨0, by omega, fun k hk => by rw [show k = 0 by omega]; exact fun i _ => Nat.le_refl _⟩
      · obtain ⟨j, j1, j2⟩ := ih (by omega)
        rcases LX_tot (fun i => X (i + j)) (fun i => X (i + m)) with q | q
        · refine ⟨j, by omega, fun k hk => ?_⟩
          by_cases e : k < m
          · exact j2 k e
          · rw [show k = m by omega]; exact q
        · refine ⟨m, by omega, fun k hk => ?_⟩
          by_cases e : k < m
          · exact LX_tr q (j2 k e)
          · rw [show k = m by omega]; exact fun i _ => Nat.le_refl _
  obtain ⟨j, j1, j2⟩ := key n hn
  refine ⟨j, j1, fun q => ?_⟩
  have h1 := j2 ((q + j) % n) (Nat.mod_lt _ (by omega))
  have e : (fun i => X (i + (q + j) % n)) = fun i => (fun i => X (i + j)) (i + q) := by
    funext i
    have := PD_mul h ((q + j) / n) (i + (q + j) % n)
    rw [Nat.add_assoc, Nat.mod_add_div] at this
    rw [← this]
    show X (i + (q + j)) = X (i + q + j)
    rw [Nat.add_assoc]
  rwa [e] at h1
theorem NK_un (hn : 1 ≤ n) (h : PD X n) {j k : Nat} (hj : NK (fun i => X (i + j))) (hk : NK (fun i => X (i + k))) (hjk : j ≤ k) : PD X (k - j) := by
  have h1 := hj (k - j)
  have e1 : (fun i => (fun i => X (i + j)) (i + (k - j))) = fun i => X (i + k) := by
    funext i
    show X (i + (k - j) + j) = X (i + k)
    congr 1; omega
  rw [e1] at h1
  have hnk : k ≤ n * k := Nat.le_mul_of_pos_left k hn
  have h2 := hk (n * k - k + j)
  have e2 : (fun i => (fun i => X (i + k)) (i + (n * k - k + j))) = fun i => X (i + j) := by
    funext i
    show X (i + (n * k - k + j) + k) = X (i + j)
    rw [show i + (n * k - k + j) + k = i + j + n * k by omega]
    exact PD_mul h k _
  rw [e2] at h2
  have e := LX_an h1 h2
  intro i
  have hnj : j ≤ n * j := Nat.le_mul_of_pos_left j hn
  have a := e (i + n * j - j)
  (try dsimp only at a)
  rw [show i + n * j - j + j = i + n * j by omega, show i + n * j - j + k = i + (k - j) + n * j by omega, PD_mul h j, PD_mul h j] at a
  exact a.symm
noncomputable def pI (P : Prop) : Nat := @ite Nat P (Classical.propDecidable P) 1 0
theorem pI_1 {P : Prop} (h : P) : pI P = 1 := by unfold pI; exact if_pos h
theorem pI_0 {P : Prop} (h : ¬ P) : pI P = 0 := by unfold pI; exact if_neg h
theorem pI_c {P Q : Prop} (h : P ↔ Q) : pI P = pI Q := by rw [propext h]
theorem pI_le (P : Prop) : pI P ≤ 1 := by
  by_cases h : P
  · rw [pI_1 h]; omega
  · rw [pI_0 h]; omega
theorem sma_a {F : Nat → Nat} (a : Nat) : ∀ b, sma F (a + b) = sma F a + sma (fun j => F (a + j)) b
  | 0 => rfl
  | b + 1 => by
    show sma F (a + b) + F (a + b) = sma F a + (sma (fun j => F (a + j)) b + F (a + b))
    rw [sma_a a b]; omega
theorem sma_pr {F : Nat → Nat} {p : Nat} (h : ∀ j, F (j + p) = F j) : ∀ c, sma F (p * c) = c * sma F p
  | 0 => by rw [Nat.mul_zero, Nat.zero_mul]; rfl
  | c + 1 => by
    rw [Nat.mul_succ, Nat.add_comm, sma_a, show (fun j => F (p + j)) = F from funext (fun j => by rw [Nat.add_comm]; exact h j), sma_pr h c, Nat.succ_mul]; omega
theorem sma_sg {F : Nat → Nat} {j : Nat} : ∀ {N : Nat}, j < N → (∀ k, k < N → k ≠ j → F k = 0) → sma F N = F j
  | 0, h, _ => absurd h (by omega)
  | N + 1, h, h2 => by
    show sma F N + F N = F j
    by_cases e : j = N
    · subst e
      have : sma F j = 0 := by
        have := sma_b2 (F := F) (b := 0) (N := j) (fun k hk => by rw [h2 k (by omega) (by omega)]; exact Nat.le_refl _)
        omega
      omega
    · rw [sma_sg (show j < N by omega) (fun k hk hn => h2 k (by omega) hn), h2 N (by omega) (by omega)]; omega
/-- how many of the rotations are the least -/
theorem NK_cn (hn : 1 ≤ n) (h : PD X n) : plp X * sma (fun j => pI (NK (fun i => X (i + j)))) n = n := by
  have hp := plp_s hn h
  obtain ⟨c, hc⟩ := PD_dvd hp h
  obtain ⟨j, j1, j2⟩ := NK_ex hn h
  have hF : ∀ j, pI (NK (fun i => X (i + (j + plp X)))) = pI (NK (fun i => X (i + j))) := fun j => by
    rw [show (fun i => X (i + (j + plp X))) = fun i => X (i + j) from funext (fun i => by rw [← Nat.add_assoc]; exact hp.2.1 _)]
  have hj0 : NK (fun i => X (i + j % plp X)) := by
    rw [show (fun i => X (i + j % plp X)) = fun i => X (i + j) from funext (fun i => by
      have := PD_mul hp.2.1 (j / plp X) (i + j % plp X)
      rw [Nat.add_assoc, Nat.mod_add_div] at this
      exact this.symm)]
    exact j2
  have hl : j % plp X < plp X := Nat.mod_lt _ hp.1
  have h1 : sma (fun j => pI (NK (fun i => X (i + j)))) (plp X) = 1 := by
    rw [sma_sg (j := j % plp X) hl (fun k hk hne => pI_0 (fun q => ?_))]
    · exact pI_1 hj0
    · rcases Nat.lt_or_ge k (j % plp X) with a | a
      · have := PD_dvd hp (NK_un hn h q hj0 (by omega))
        have := Nat.le_of_dvd (by omega) this
        omega
      · have := PD_dvd hp (NK_un hn h hj0 q a)
        have := Nat.le_of_dvd (by omega) this
        omega
  have h2 := sma_pr (F := fun j => pI (NK (fun i => X (i + j)))) hF c
  rw [h1, ← hc] at h2
  rw [h2, Nat.mul_one]
  exact hc.symm
end PDS
/-! sums over all rows -/
def wsm (R : Nat) : Nat → (List Nat → Nat) → Nat
  | 0, F => F []
  | n + 1, F => sma (fun r => wsm R n (fun l => F (r :: l))) R
theorem wsm_cg {R : Nat} : ∀ {n : Nat} {F G : List Nat → Nat}, (∀ l, Wd R n l → F l = G l) → wsm R n F = wsm R n G
  | 0, F, G, h => h [] ⟨rfl, fun k hk => absurd hk (by omega)⟩
  | n + 1, F, G, h => sma_cg (fun r hr => wsm_cg (fun l hl => h (r :: l) (Wd_c.mpr ⟨hr, hl⟩)))
theorem sma_0 : ∀ N, sma (fun _ => 0) N = 0
  | 0 => rfl
  | N + 1 => sma_0 N
theorem wsm_0 {R : Nat} : ∀ n, wsm R n (fun _ => 0) = 0
  | 0 => rfl
  | n + 1 => by show sma (fun _ => wsm R n (fun _ => 0)) R = 0; rw [wsm_0 n]; exact sma_0 R
theorem wsm_z {R n : Nat} {F : List Nat → Nat} (h : ∀ l, Wd R n l → F l = 0) : wsm R n F = 0 := (wsm_cg h).trans (wsm_0 n)
theorem sma_ad {F G : Nat → Nat} : ∀ N, sma (fun k => F k + G k) N = sma F N + sma G N
  | 0 => rfl
  | N + 1 => by
    show sma (fun k => F k + G k) N + (F N + G N) = sma F N + F N + (sma G N + G N)
    rw [sma_ad N]; omega
theorem sma_ex {F : Nat → Nat → Nat} {M : Nat} : ∀ N, sma (fun a => sma (fun b => F a b) M) N = sma (fun b => sma (fun a => F a b) N) M
  | 0 => (sma_0 M).symm
  | N + 1 => by
    show sma (fun a => sma (fun b => F a b) M) N + sma (fun b => F N b) M = sma (fun b => sma (fun a => F a b) N + F N b) M
    rw [sma_ad, sma_ex N]
theorem wsm_ad {R : Nat} : ∀ {n : Nat} {F G : List Nat → Nat}, wsm R n (fun l => F l + G l) = wsm R n F + wsm R n G
  | 0, F, G => rfl
  | n + 1, F, G => by
    show sma (fun r => wsm R n (fun l => F (r :: l) + G (r :: l))) R = _
    rw [sma_cg (G := fun r => wsm R n (fun l => F (r :: l)) + wsm R n (fun l => G (r :: l))) (fun r _ => wsm_ad), sma_ad]; rfl
theorem wsm_sm {R n : Nat} {F : List Nat → Nat → Nat} : ∀ M, wsm R n (fun l => sma (fun j => F l j) M) = sma (fun j => wsm R n (fun l => F l j)) M
  | 0 => wsm_0 n
  | M + 1 => by
    show wsm R n (fun l => sma (fun j => F l j) M + F l M) = sma (fun j => wsm R n (fun l => F l j)) M + wsm R n (fun l => F l M)
    rw [wsm_ad, wsm_sm M]
theorem sma_cm {F : Nat → Nat} {c : Nat} : ∀ N, sma (fun k => F k * c) N = sma F N * c
  | 0 => (Nat.zero_mul c).symm
  | N + 1 => by
    show sma (fun k => F k * c) N + F N * c = (sma F N + F N) * c
    rw [sma_cm N, Nat.add_mul]
theorem wsm_cm {R c : Nat} : ∀ {n : Nat} {F : List Nat → Nat}, wsm R n (fun l => F l * c) = wsm R n F * c
  | 0, F => rfl
  | n + 1, F => by
    show sma (fun r => wsm R n (fun l => F (r :: l) * c)) R = _
    rw [sma_cg (G := fun r => wsm R n (fun l => F (r :: l)) * c) (fun r _ => wsm_cm), sma_cm]; rfl
theorem wsm_le {R b : Nat} : ∀ {n : Nat} {F : List Nat → Nat}, (∀ l, Wd R n l → F l ≤ b) → wsm R n F ≤ b * R ^ n
  | 0, F, h => by rw [Nat.pow_zero, Nat.mul_one]; exact h [] ⟨rfl, fun k hk => absurd hk (by omega)⟩
  | n + 1, F, h => by
    have := sma_b2 (F := fun r => wsm R n (fun l => F (r :: l))) (b := b * R ^ n) (N := R) (fun r hr => wsm_le (fun l hl => h (r :: l) (Wd_c.mpr ⟨hr, hl⟩)))
    rw [Nat.pow_succ, ← Nat.mul_assoc]; exact this
theorem wsm_sn {R : Nat} : ∀ {n : Nat} {F : List Nat → Nat}, wsm R (n + 1) F = sma (fun r => wsm R n (fun l => F (l ++ [r]))) R
  | 0, F => rfl
  | n + 1, F => by
    show sma (fun r => wsm R (n + 1) (fun l => F (r :: l))) R = _
    rw [sma_cg (G := fun r => sma (fun s => wsm R n (fun l => F (r :: (l ++ [s])))) R) (fun r _ => wsm_sn), sma_ex]
    rfl
def rt : List Nat → List Nat
  | [] => []
  | r :: l => l ++ [r]
theorem wsm_rt {R : Nat} : ∀ {n : Nat} {F : List Nat → Nat}, wsm R n (fun l => F (rt l)) = wsm R n F
  | 0, F => rfl
  | n + 1, F => by rw [wsm_sn (F := F)]; rfl
def rtn : Nat → List Nat → List Nat
  | 0, x => x
  | j + 1, x => rtn j (rt x)
theorem wsm_rn {R n : Nat} {F : List Nat → Nat} : ∀ j, wsm R n (fun l => F (rtn j l)) = wsm R n F
  | 0 => rfl
  | j + 1 => by
    show wsm R n (fun l => F (rtn j (rt l))) = _
    rw [wsm_rt (F := fun l => F (rtn j l)), wsm_rn j]
/-- the row without end -/
def xt (n : Nat) (x : List Nat) : Nat → Nat := fun i => wf x (i % n)
theorem xt_p {n : Nat} {x : List Nat} : PD (xt n x) n := fun i => by unfold xt; rw [Nat.add_mod_right]
theorem xt_l {n : Nat} {x : List Nat} {i : Nat} (h : i < n) : xt n x i = wf x i := by unfold xt; rw [Nat.mod_eq_of_lt h]
theorem Wd_rt {R n : Nat} {x : List Nat} (h : Wd R n x) : Wd R n (rt x) := by
  cases x with
  | nil => exact h
  | cons r l =>
    cases n with
    | zero => exact absurd h.1 (by simp)
    | succ n => exact Wd_s (Wd_c.mp h).2 (Wd_c.mp h).1
theorem xt_rt {R n : Nat} {x : List Nat} (hn : 1 ≤ n) (h : Wd R n x) : xt n (rt x) = fun i => xt n x (i + 1) := by
  cases x with
  | nil => exact absurd h.1 (by simp; omega)
  | cons r l =>
    have hl : l.length + 1 = n := by simpa using h.1
    funext i
    unfold xt
    show wf (l ++ [r]) (i % n) = wf (r :: l) ((i + 1) % n)
    have hm := Nat.mod_lt i (show n > 0 by omega)
    by_cases e : i % n + 1 < n
    · rw [wf_l (by omega), Nat.add_mod, Nat.mod_eq_of_lt (a := i % n + 1 % n) (by
        have : 1 % n = 1 := Nat.mod_eq_of_lt (by omega)
        omega), Nat.mod_eq_of_lt (show 1 < n by omega)]; rfl
    · have e2 : i % n = l.length := by omega
      have e3 : (i + 1) % n = 0 := by
        rw [Nat.add_mod, e2]
        by_cases h1 : n = 1
        · subst h1; omega
        · rw [Nat.mod_eq_of_lt (show 1 < n by omega), hl, Nat.mod_self]
      rw [e2, e3, wf_m]; rfl
theorem xt_rn {R n : Nat} (hn : 1 ≤ n) : ∀ {j : Nat} {x : List Nat}, Wd R n x → Wd R n (rtn j x) ∧ xt n (rtn j x) = fun i => xt n x (i + j)
  | 0, x, h => ⟨h, rfl⟩
  | j + 1, x, h => by
    obtain ⟨h1, h2⟩ := xt_rn hn (j := j) (Wd_rt h)
    refine ⟨h1, ?_⟩
    show xt n (rtn j (rt x)) = _
    rw [h2, xt_rt hn h]
    funext i
    show xt n x (i + j + 1) = xt n x (i + (j + 1))
    rw [Nat.add_assoc]
/-- all rows of a kind that rotations keep, counted by the least of each -/
theorem wsm_nk {R n : Nat} (hn : 1 ≤ n) {E : (Nat → Nat) → Prop} (hE : ∀ X, PD X n → (E (fun i => X (i + 1)) ↔ E X)) : wsm R n (fun x => pI (E (xt n x))) = wsm R n (fun x => pI (NK (xt n x) ∧ E (xt n x)) * plp (xt n x)) := by
  have hEj : ∀ j X, PD X n → (E (fun i => X (i + j)) ↔ E X) := fun j => by
    induction j with
    | zero => intro X _; exact Iff.rfl
    | succ j ih =>
      intro X hX
      have h1 := hE (fun i => X (i + j)) (PD_s hX j)
      have e : (fun i => X (i + (j + 1))) = fun i => (fun i => X (i + j)) (i + 1) := by
        funext i; show X (i + (j + 1)) = X (i + 1 + j); congr 1; omega
      rw [e, h1]; exact ih X hX
  have hpj : ∀ j X, PD X n → plp (fun i => X (i + j)) = plp X := fun j => by
    induction j with
    | zero => intro X _; rfl
    | succ j ih =>
      intro X hX
      have h1 := plp_sh hn (PD_s hX j)
      have e : (fun i => X (i + (j + 1))) = fun i => (fun i => X (i + j)) (i + 1) := by
        funext i; show X (i + (j + 1)) = X (i + 1 + j); congr 1; omega
      rw [e, h1]; exact ih X hX
  have h1 : wsm R n (fun x => pI (E (xt n x))) * n = wsm R n (fun x => sma (fun j => pI (NK (xt n (rtn j x)) ∧ E (xt n (rtn j x))) * plp (xt n (rtn j x))) n) := by
    rw [← wsm_cm]
    refine wsm_cg (fun x hx => ?_)
    have hc := NK_cn hn (xt_p (n := n) (x := x))
    have hj : ∀ j, pI (NK (xt n (rtn j x)) ∧ E (xt n (rtn j x))) * plp (xt n (rtn j x)) = pI (NK (fun i => xt n x (i + j))) * (pI (E (xt n x)) * plp (xt n x)) := fun j => by
      rw [(xt_rn hn hx).2, hpj j _ xt_p]
      by_cases a : NK (fun i => xt n x (i + j))
      · rw [pI_1 a, Nat.one_mul]
        congr 1
        exact pI_c ⟨fun q => (hEj j _ xt_p).mp q.2, fun q => ⟨a, (hEj j _ xt_p).mpr q⟩⟩
      · rw [pI_0 a, pI_0 (fun q => a q.1), Nat.zero_mul, Nat.zero_mul]
    rw [sma_cg (fun j _ => hj j), sma_cm, Nat.mul_left_comm, Nat.mul_comm (sma (fun j => pI (NK fun i => xt n x (i + j))) n) (plp (xt n x)), hc]
  rw [wsm_sm, sma_cg (G := fun _ => wsm R n (fun x => pI (NK (xt n x) ∧ E (xt n x)) * plp (xt n x))) (fun j _ => wsm_rn (F := fun x => pI (NK (xt n x) ∧ E (xt n x)) * plp (xt n x)) j)] at h1
  have h2 : ∀ c N, sma (fun _ => c) N = c * N := fun c N => by
    induction N with
    | zero => rfl
    | succ N ih => show sma (fun _ => c) N + c = _; rw [ih, Nat.mul_succ]
  rw [h2] at h1
  exact Nat.eq_of_mul_eq_mul_right hn h1
