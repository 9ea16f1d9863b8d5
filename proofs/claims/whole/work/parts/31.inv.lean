/-! LAYER 3: THE INVARIANT. A house is told by numbers H (H.1: 0 lines, 1 law, 2 odds, 3 minutes, 4 rooms, 5 ways, 6 visitors, 7 length; H.2: 0 waits, 1 guests' rooms, 2 guests' minutes, 3 places, 4 and 5 the ends of ways), worths W, acts A (how many; rooms and 1, 0 a nod; minutes) -/
abbrev HD : Type := (Nat → Nat) × (Nat → Nat → Nat)
abbrev AD : Type := Nat × (Nat → Nat) × (Nat → Nat)
/-- the doors of a room, by the first k ways, as bits -/
def dmk (H : HD) : Nat → Nat → Nat
  | 0, _ => 0
  | k + 1, r => if H.2 4 k = r then dmk H k r ||| 2 ^ (H.2 5 k) else if H.2 5 k = r then dmk H k r ||| 2 ^ (H.2 4 k) else dmk H k r
def dms (H : HD) (r : Nat) : Nat := dmk H (H.1 5) r
def dor (H : HD) (a b : Nat) : Bool := (dms H a).testBit b
/-- minutes from a room to another and 1; 0: there is no way -/
def dst (g : Nat → Nat → Bool) (a b : Nat) : Nat := if a = b then 1 else if g a b then 2 else if (List.range 4).any (fun c => g a c && g c b) then 3 else if (List.range 4).any (fun c => g a c && (List.range 4).any fun d => g c d && g d b) then 4 else 0
def HOK (H : HD) (W : Nat → Nat) (A : AD) : Prop :=
  (H.1 0 ≤ 1000 ∧ H.1 1 ≤ 3 ∧ H.1 2 ≤ 10 ∧ H.1 3 ≤ 30 ∧ H.1 4 ≤ 4 ∧ H.1 5 ≤ 6 ∧ H.1 6 ≤ 5 ∧ H.1 7 ≤ 12 ∧ A.1 ≤ 30) ∧
  (∀ r, r < H.1 4 → 1 ≤ H.2 0 r ∧ H.2 0 r ≤ 7 ∧ W r ≤ 99) ∧
  (∀ v, v < H.1 6 → H.2 1 v < H.1 4 ∧ H.2 2 v < 30) ∧
  (∀ i, i < H.1 7 → H.2 3 i < H.1 4) ∧
  (∀ k, k < H.1 5 → H.2 4 k < H.1 4 ∧ H.2 5 k < H.1 4 ∧ H.2 4 k ≠ H.2 5 k) ∧
  (∀ i, i < A.1 → A.2.1 i ≤ H.1 4 ∧ A.2.2 i < H.1 3) ∧
  (H.1 0 = 0 → H.1 3 = 0 ∧ H.1 4 = 0 ∧ H.1 6 = 0 ∧ H.1 7 = 0 ∧ A.1 = 0) ∧
  (0 < H.1 0 → 0 < H.1 3)
/-- a house of the class at h, its acts at a -/
def CH (I : FI) (h a : Nat) (H : HD) (W : Nat → Nat) (A : AD) : Prop :=
  (∀ j, j < 8 → I h j = nI (H.1 j)) ∧
  (∀ r, r < H.1 4 → I (h + 1) r = nI (H.2 0 r)) ∧
  (∀ r, r < H.1 4 → I (h + 2) r = nI (W r)) ∧
  (∀ r, r < 4 → I (h + 3) r = nI (dms H r)) ∧
  (∀ r q, r < H.1 4 → q < H.1 4 → I (h + 4) (4 * r + q) = oI (dst (dor H) r q)) ∧
  (∀ v, v < H.1 6 → I (h + 5) v = nI (H.2 1 v)) ∧
  (∀ v, v < H.1 6 → I (h + 6) v = nI (H.2 2 v)) ∧
  (∀ i, i < H.1 7 → I (h + 7) i = nI (H.2 3 i)) ∧
  I a 2 = nI A.1 ∧
  (∀ i, i < A.1 → I (a + 1) i = oI (A.2.1 i)) ∧
  (∀ i, i < A.1 → I (a + 2) i = nI (A.2.2 i))
/-- the model's house at place s -/
def MH (I : FI) (s : Nat) (H : HD) (W : Nat → Nat) (A : AD) : Prop :=
  I 95 s = nI (H.1 0) ∧
  (∀ j, j < 7 → I 96 (9 * s + j) = nI (H.1 (j + 1))) ∧
  I 96 (9 * s + 7) = nI A.1 ∧
  (∀ r, r < H.1 4 → I 97 (8 * s + 2 * r) = nI (H.2 0 r)) ∧
  (∀ r, r < H.1 4 → I 97 (8 * s + 2 * r + 1) = nI (W r)) ∧
  (∀ k, k < H.1 5 → I 98 (12 * s + 2 * k) = nI (H.2 4 k)) ∧
  (∀ k, k < H.1 5 → I 98 (12 * s + 2 * k + 1) = nI (H.2 5 k)) ∧
  (∀ v, v < H.1 6 → I 99 (10 * s + 2 * v) = nI (H.2 1 v)) ∧
  (∀ v, v < H.1 6 → I 99 (10 * s + 2 * v + 1) = nI (H.2 2 v)) ∧
  (∀ i, i < H.1 7 → I 100 (12 * s + i) = nI (H.2 3 i)) ∧
  (∀ i, i < A.1 → I 101 (60 * s + 2 * i) = oI (A.2.1 i)) ∧
  (∀ i, i < A.1 → I 101 (60 * s + 2 * i + 1) = nI (A.2.2 i))
/-- the text told and not read; the last fault -/
def VT (I : FI) : Prop := ∃ t, t ≤ 500 ∧ I 1 1 = nI t ∧ I 89 6 = nI t ∧ ∀ i, i < t → I 2 i = I 94 i
def VF (I : FI) : Prop := I 14 1 = I 89 14 ∧ I 14 2 = I 89 15
def VIm (I : FI) (k : Nat) : Prop := I (45 + 12 * k) 2 = I 102 k ∧ (I 102 k = 0 ∨ (I 102 k = 1 ∧ ∃ H W A, HOK H W A ∧ CH I (46 + 12 * k) (54 + 12 * k) H W A ∧ MH I (k + 1) H W A))
def VRw (I : FI) (L : FL) (k : Nat) : Prop := (I (81 + 2 * k) 3 = 0 ∧ I 90 k = -1) ∨ (I (81 + 2 * k) 3 = 1 ∧ ∃ w n, w ≤ 3 ∧ n ≤ 60 ∧ I (81 + 2 * k) 1 = nI w ∧ I 90 k = nI w ∧ I (81 + 2 * k) 2 = nI n ∧ I 91 k = nI n ∧ ∀ i, i < n → L (82 + 2 * k) i = L 92 (60 * k + i))
def VB (I : FI) (L : FL) (H : HD) (W : Nat → Nat) (A : AD) : Prop := VT I ∧ VF I ∧ HOK H W A ∧ CH I 3 11 H W A ∧ MH I 0 H W A ∧ (∀ k, k < 3 → VIm I k) ∧ (∀ k, k < 4 → VRw I L k)
def rgI (lo hi : Nat) (f : FI) : FI := fun a => if lo ≤ a ∧ a ≤ hi then f a else fun _ => 0
def rgL (lo hi : Nat) (f : FL) : FL := fun a => if lo ≤ a ∧ a ≤ hi then f a else fun _ => 0
/-- what the keeper's findings must be; what the ring search's -/
abbrev KPT : Type := HD → FI → FL → Prop
abbrev RPT : Type := HD → FI → Prop
def VWd (KP : KPT) (kp : Option Nat) (tl : List (Nat × Nat)) (rl : List (List (Option Nat))) (I : FI) (L : FL) (H : HD) : Prop := (kp = none ∧ tl = [] ∧ rl = []) ∨ (kp = some 114 ∧ tl = TK ∧ rl = RK (some 3) ∧ KP H (rgI 114 121 I) (rgL 114 121 L))
def VRg (RP : RPT) (rh : Option Nat) (I : FI) (H : HD) : Prop := 0 < H.1 0 → rh = some 3 ∧ RP H (rgI 35 42 I)
def VV (KP : KPT) (RP : RPT) : pInv := fun kp _ rh tl rl I L => ∃ H W A, VB I L H W A ∧ VRg RP rh I H ∧ VWd KP kp tl rl I L H
/-! what the invariant reads -/
def vkB (k : Nat) : Bool := (1 ≤ k && k ≤ 14) || (45 ≤ k && k ≤ 88) || k == 90 || k == 91 || (94 ≤ k && k ≤ 102) || k == 1006 || k == 1014 || k == 1015
def vlB (k : Nat) : Bool := (82 ≤ k && k ≤ 88) || k == 92
def vkR (k : Nat) : Bool := 35 ≤ k && k ≤ 42
def vkK (k : Nat) : Bool := 114 ≤ k && k ≤ 121
/-- the cells that v tells are as they were -/
def Sm {α : Type} (v : Nat → Bool) (f g : Nat → Nat → α) : Prop := ∀ a i, v (fkey a i) = true → g a i = f a i
theorem Sm_of {α : Type} {v : Nat → Bool} {S : List Nat} {f g : Nat → Nat → α} (h : Fr S f g) (hS : S.all (fun k => !v k) = true) : Sm v f g := fun a i ha => h a i (fun hm => by
  have := List.all_eq_true.mp hS _ hm
  rw [ha] at this; exact absurd this (by decide))
theorem Sm_r {α : Type} {v : Nat → Bool} {f : Nat → Nat → α} : Sm v f f := fun _ _ _ => rfl
theorem Sm_t {α : Type} {v : Nat → Bool} {f g h : Nat → Nat → α} (h1 : Sm v f g) (h2 : Sm v g h) : Sm v f h := fun a i ha => (h2 a i ha).trans (h1 a i ha)
theorem Sm_th {v : Nat → Bool} {f : FI} {x : Int32} (h : v 1000 = false) : Sm v f (u2 f 89 0 x) := fun a i ha => by
  by_cases e : a = 89
  · subst e
    by_cases e2 : i = 0
    · subst e2; rw [show fkey 89 0 = 1000 from rfl, h] at ha; exact absurd ha (by decide)
    · simp only [u2, if_neg e2, if_true]
  · rw [u2_ne e]
theorem Sm_c {α : Type} {v : Nat → Bool} {f g : Nat → Nat → α} (h : Sm v f g) {a : Nat} (ha : a ≠ 89) (hv : v a = true) (i : Nat) : g a i = f a i := h a i (by rw [fkey, if_neg ha]; exact hv)
theorem Sm_9 {α : Type} {v : Nat → Bool} {f g : Nat → Nat → α} (h : Sm v f g) {j : Nat} (hv : v (1000 + j) = true) : g 89 j = f 89 j := h 89 j (by rw [fkey, if_pos rfl]; exact hv)
theorem CH_fr {I I' : FI} {h a : Nat} {H : HD} {W : Nat → Nat} {A : AD} (hh : CH I h a H W A) (e : ∀ c, (h ≤ c ∧ c ≤ h + 7) ∨ (a ≤ c ∧ c ≤ a + 2) → ∀ i, I' c i = I c i) : CH I' h a H W A := by
  obtain ⟨h1, h2, h3, h4, h5, h6, h7, h8, h9, h10, h11⟩ := hh
  refine ⟨fun j hj => ?_, fun j hj => ?_, fun j hj => ?_, fun j hj => ?_, fun j q hj hq => ?_, fun j hj => ?_, fun j hj => ?_, fun j hj => ?_, ?_, fun j hj => ?_, fun j hj => ?_⟩
  · rw [e _ (by omega)]; exact h1 j hj
  · rw [e _ (by omega)]; exact h2 j hj
  · rw [e _ (by omega)]; exact h3 j hj
  · rw [e _ (by omega)]; exact h4 j hj
  · rw [e _ (by omega)]; exact h5 j q hj hq
  · rw [e _ (by omega)]; exact h6 j hj
  · rw [e _ (by omega)]; exact h7 j hj
  · rw [e _ (by omega)]; exact h8 j hj
  · rw [e _ (by omega)]; exact h9
  · rw [e _ (by omega)]; exact h10 j hj
  · rw [e _ (by omega)]; exact h11 j hj
/-- the model's place s is as it was -/
def MSm (s : Nat) (I I' : FI) : Prop := I' 95 s = I 95 s ∧ (∀ i, 9 * s ≤ i → i < 9 * s + 9 → I' 96 i = I 96 i) ∧ (∀ i, 8 * s ≤ i → i < 8 * s + 8 → I' 97 i = I 97 i) ∧ (∀ i, 12 * s ≤ i → i < 12 * s + 12 → I' 98 i = I 98 i) ∧ (∀ i, 10 * s ≤ i → i < 10 * s + 10 → I' 99 i = I 99 i) ∧ (∀ i, 12 * s ≤ i → i < 12 * s + 12 → I' 100 i = I 100 i) ∧ (∀ i, 60 * s ≤ i → i < 60 * s + 60 → I' 101 i = I 101 i)
theorem MSm_of {s : Nat} {I I' : FI} (e : ∀ c, 95 ≤ c ∧ c ≤ 101 → ∀ i, I' c i = I c i) : MSm s I I' := ⟨e 95 (by omega) s, fun i _ _ => e 96 (by omega) i, fun i _ _ => e 97 (by omega) i, fun i _ _ => e 98 (by omega) i, fun i _ _ => e 99 (by omega) i, fun i _ _ => e 100 (by omega) i, fun i _ _ => e 101 (by omega) i⟩
theorem MH_fs {I I' : FI} {s : Nat} {H : HD} {W : Nat → Nat} {A : AD} (ho : HOK H W A) (hh : MH I s H W A) (e : MSm s I I') : MH I' s H W A := by
  obtain ⟨h1, h2, h3, h4, h5, h6, h7, h8, h9, h10, h11, h12⟩ := hh
  obtain ⟨⟨o0, o1, o2, o3, o4, o5, o6, o7, o8⟩, _⟩ := ho
  obtain ⟨e1, e2, e3, e4, e5, e6, e7⟩ := e
  refine ⟨?_, fun j hj => ?_, ?_, fun j hj => ?_, fun j hj => ?_, fun j hj => ?_, fun j hj => ?_, fun j hj => ?_, fun j hj => ?_, fun j hj => ?_, fun j hj => ?_, fun j hj => ?_⟩
  · rw [e1]; exact h1
  · rw [e2 _ (by omega) (by omega)]; exact h2 j hj
  · rw [e2 _ (by omega) (by omega)]; exact h3
  · rw [e3 _ (by omega) (by omega)]; exact h4 j hj
  · rw [e3 _ (by omega) (by omega)]; exact h5 j hj
  · rw [e4 _ (by omega) (by omega)]; exact h6 j hj
  · rw [e4 _ (by omega) (by omega)]; exact h7 j hj
  · rw [e5 _ (by omega) (by omega)]; exact h8 j hj
  · rw [e5 _ (by omega) (by omega)]; exact h9 j hj
  · rw [e6 _ (by omega) (by omega)]; exact h10 j hj
  · rw [e7 _ (by omega) (by omega)]; exact h11 j hj
  · rw [e7 _ (by omega) (by omega)]; exact h12 j hj
theorem MH_fr {I I' : FI} {s : Nat} {H : HD} {W : Nat → Nat} {A : AD} (ho : HOK H W A) (hh : MH I s H W A) (e : ∀ c, 95 ≤ c ∧ c ≤ 101 → ∀ i, I' c i = I c i) : MH I' s H W A := MH_fs ho hh (MSm_of e)
theorem VIm_fs {I I' : FI} {k : Nat} (hk : k < 3) (hh : VIm I k) (e : ∀ c, 45 + 12 * k ≤ c ∧ c ≤ 56 + 12 * k → ∀ i, I' c i = I c i) (e2 : I' 102 k = I 102 k) (e3 : MSm (k + 1) I I') : VIm I' k := by
  obtain ⟨h1, h2⟩ := hh
  refine ⟨by rw [e _ (by omega), e2]; exact h1, ?_⟩
  rw [e2]
  rcases h2 with h2 | ⟨h2, H, W, A, h3, h4, h5⟩
  · exact Or.inl h2
  · exact Or.inr ⟨h2, H, W, A, h3, CH_fr h4 (fun c hc i => e c (by omega) i), MH_fs h3 h5 e3⟩
theorem VIm_fr {I I' : FI} {k : Nat} (hk : k < 3) (hh : VIm I k) (e : ∀ c, (45 + 12 * k ≤ c ∧ c ≤ 56 + 12 * k) ∨ (95 ≤ c ∧ c ≤ 102) → ∀ i, I' c i = I c i) : VIm I' k := by
  obtain ⟨h1, h2⟩ := hh
  refine ⟨by rw [e _ (by omega), e _ (by omega)]; exact h1, ?_⟩
  rw [e 102 (by omega)]
  rcases h2 with h2 | ⟨h2, H, W, A, h3, h4, h5⟩
  · exact Or.inl h2
  · exact Or.inr ⟨h2, H, W, A, h3, CH_fr h4 (fun c hc i => e c (by omega) i), MH_fr h3 h5 (fun c hc i => e c (by omega) i)⟩
theorem VRw_fr {I I' : FI} {L L' : FL} {k : Nat} (hh : VRw I L k) (e : ∀ c, c = 81 + 2 * k ∨ c = 90 ∨ c = 91 → ∀ i, I' c i = I c i) (e2 : ∀ c, c = 82 + 2 * k ∨ c = 92 → ∀ i, L' c i = L c i) : VRw I' L' k := by
  unfold VRw at *
  simp only [e (81 + 2 * k) (by omega), e 90 (by omega), e 91 (by omega), e2 (82 + 2 * k) (by omega), e2 92 (by omega)]
  exact hh
theorem VB_fr {I I' : FI} {L L' : FL} {H : HD} {W : Nat → Nat} {A : AD} (h : VB I L H W A) (e : Sm vkB I I') (e2 : Sm vlB L L') : VB I' L' H W A := by
  obtain ⟨⟨t, t1, t2, t3, t4⟩, ⟨f1, f2⟩, h3, h4, h5, h6, h7⟩ := h
  have ec : ∀ c, vkB c = true → c ≠ 89 → ∀ i, I' c i = I c i := fun c hc hn i => Sm_c e hn hc i
  have el : ∀ c, vlB c = true → c ≠ 89 → ∀ i, L' c i = L c i := fun c hc hn i => Sm_c e2 hn hc i
  have ev : ∀ c, (1 ≤ c ∧ c ≤ 14) ∨ (45 ≤ c ∧ c ≤ 88) ∨ c = 90 ∨ c = 91 ∨ (94 ≤ c ∧ c ≤ 102) → ∀ i, I' c i = I c i := fun c hc i => ec c (by unfold vkB; simp only [Bool.or_eq_true, Bool.and_eq_true, decide_eq_true_eq, beq_iff_eq]; omega) (by omega) i
  have ew : ∀ c, (82 ≤ c ∧ c ≤ 88) ∨ c = 92 → ∀ i, L' c i = L c i := fun c hc i => el c (by unfold vlB; simp only [Bool.or_eq_true, Bool.and_eq_true, decide_eq_true_eq, beq_iff_eq]; omega) (by omega) i
  have g6 := Sm_9 e (j := 6) rfl
  have g14 := Sm_9 e (j := 14) rfl
  have g15 := Sm_9 e (j := 15) rfl
  refine ⟨⟨t, t1, ?_, ?_, ?_⟩, ⟨?_, ?_⟩, h3, CH_fr h4 (fun c hc i => ev c (by omega) i), MH_fr h3 h5 (fun c hc i => ev c (by omega) i), fun k hk => VIm_fr hk (h6 k hk) (fun c hc i => ev c (by omega) i), fun k hk => VRw_fr (h7 k hk) (fun c hc i => ev c (by omega) i) (fun c hc i => ew c (by omega) i)⟩
  · rw [ev 1 (by omega)]; exact t2
  · rw [g6]; exact t3
  · intro i hi; rw [ev 2 (by omega), ev 94 (by omega)]; exact t4 i hi
  · rw [ev 14 (by omega), g14]; exact f1
  · rw [ev 14 (by omega), g15]; exact f2
theorem rgI_eq {lo hi : Nat} {f g : FI} (h : ∀ c, lo ≤ c ∧ c ≤ hi → ∀ i, g c i = f c i) : rgI lo hi g = rgI lo hi f := by
  funext a i
  unfold rgI
  by_cases hc : lo ≤ a ∧ a ≤ hi
  · rw [if_pos hc, if_pos hc]; exact h a hc i
  · rw [if_neg hc, if_neg hc]
theorem rgL_eq {lo hi : Nat} {f g : FL} (h : ∀ c, lo ≤ c ∧ c ≤ hi → ∀ i, g c i = f c i) : rgL lo hi g = rgL lo hi f := by
  funext a i
  unfold rgL
  by_cases hc : lo ≤ a ∧ a ≤ hi
  · rw [if_pos hc, if_pos hc]; exact h a hc i
  · rw [if_neg hc, if_neg hc]
theorem VRg_fr {RP : RPT} {rh : Option Nat} {I I' : FI} {H : HD} (h : VRg RP rh I H) (e : Sm vkR I I') : VRg RP rh I' H := by
  intro h0
  rw [rgI_eq (f := I) (fun c hc i => Sm_c e (by omega) (by unfold vkR; simp only [Bool.and_eq_true, decide_eq_true_eq]; omega) i)]
  exact h h0
theorem VWd_fr {KP : KPT} {kp : Option Nat} {tl : List (Nat × Nat)} {rl : List (List (Option Nat))} {I I' : FI} {L L' : FL} {H : HD} (h : VWd KP kp tl rl I L H) (e : Sm vkK I I') (e2 : Sm vkK L L') : VWd KP kp tl rl I' L' H := by
  unfold VWd at *
  rw [rgI_eq (f := I) (g := I') (fun c hc i => Sm_c e (by omega) (by unfold vkK; simp only [Bool.and_eq_true, decide_eq_true_eq]; omega) i), rgL_eq (f := L) (g := L') (fun c hc i => Sm_c e2 (by omega) (by unfold vkK; simp only [Bool.and_eq_true, decide_eq_true_eq]; omega) i)]
  exact h
/-- all that the invariant reads -/
def vkA (k : Nat) : Bool := vkB k || vkR k || vkK k
def vlA (k : Nat) : Bool := vlB k || vkK k
theorem Sm_le {α : Type} {v w : Nat → Bool} {f g : Nat → Nat → α} (h : Sm v f g) (hw : ∀ k, w k = true → v k = true) : Sm w f g := fun a i ha => h a i (hw _ ha)
theorem VV_fr {KP : KPT} {RP : RPT} {kp nh nh' rh : Option Nat} {tl : List (Nat × Nat)} {rl : List (List (Option Nat))} {I I' : FI} {L L' : FL} (h : VV KP RP kp nh rh tl rl I L) (e : Sm vkA I I') (e2 : Sm vlA L L') : VV KP RP kp nh' rh tl rl I' L' := by
  obtain ⟨H, W, A, h1, h2, h3⟩ := h
  refine ⟨H, W, A, VB_fr h1 (Sm_le e fun k hk => ?_) (Sm_le e2 fun k hk => ?_), VRg_fr h2 (Sm_le e fun k hk => ?_), VWd_fr h3 (Sm_le e fun k hk => ?_) (Sm_le e2 fun k hk => ?_)⟩
  · unfold vkA; rw [hk]; rfl
  · unfold vlA; rw [hk]; rfl
  · unfold vkA; rw [hk]; simp
  · unfold vkA; rw [hk]; simp
  · unfold vlA; rw [hk]; simp
/-- a call of the model that only clears its thrown -/
theorem VV_th {KP : KPT} {RP : RPT} {kp nh rh : Option Nat} {tl : List (Nat × Nat)} {rl : List (List (Option Nat))} {I : FI} {L : FL} {x : Int32} (h : VV KP RP kp nh rh tl rl I L) : VV KP RP kp nh rh tl rl (u2 I 89 0 x) L := VV_fr h (Sm_th rfl) Sm_r
