/-! LAYER 3: nights of every kind, on both sides -/
def FrC (I J : FI) : Prop := ∀ a i, a < 26 ∨ 32 < a → J a i = I a i
def FrM (I J : FI) : Prop := (∀ c i, c ≠ 89 → (c < 103 ∨ 108 < c) → J c i = I c i) ∧ ∀ i, (i < 25 ∨ 29 < i) → J 89 i = I 89 i
theorem FrC_r (I : FI) : FrC I I := fun _ _ _ => rfl
theorem FrM_r (I : FI) : FrM I I := ⟨fun _ _ _ _ => rfl, fun _ _ => rfl⟩
theorem FrC_t {I J K : FI} (h : FrC I J) (h2 : FrC J K) : FrC I K := fun a i ha => (h2 a i ha).trans (h a i ha)
theorem FrM_t {I J K : FI} (h : FrM I J) (h2 : FrM J K) : FrM I K := ⟨fun c i h1 h3 => (h2.1 c i h1 h3).trans (h.1 c i h1 h3), fun i hi => (h2.2 i hi).trans (h.2 i hi)⟩
section NIGHTS
variable {I J K : FI} {L : FL} {H : HD} {W : Nat → Nat} {A : AD} {g : NG} {n : Nat}
theorem CH_C (hC : CH I 3 11 H W A) (h : FrC I J) : CH J 3 11 H W A := CH_u hC (fun a i ha => h a i (by omega))
theorem MH_C (ho : HOK H W A) (hM : MH I 0 H W A) (h : FrC I J) : MH J 0 H W A := MH_fr ho hM (fun c hc i => h c i (by omega))
theorem MH_M (ho : HOK H W A) (hM : MH I 0 H W A) (h : FrM I J) : MH J 0 H W A := MH_fr ho hM (fun c hc i => h.1 c i (by omega) (by omega))
/-- a call of both that only goes through nights -/
theorem VV_n {KP : KPT} {RP : RPT} {kp nh nh' rh : Option Nat} {tl : List (Nat × Nat)} {rl : List (List (Option Nat))} (h : VV KP RP kp nh rh tl rl I L) (h1 : FrC I J) (h2 : FrM (u2 J 89 0 0) K) : VV KP RP kp nh' rh tl rl K L := VV_q h (fun c i hc => by rw [h2.1 c i (by omega) (by omega), u2_c (by omega), h1 c i (by omega)]) (fun i hi => by rw [h2.2 i (by omega), u2_o (by omega), h1 89 i (by omega)])
/-- the class's night by a law, with visitors cm, with one more, with other waits -/
def gL (H : HD) (A : AD) (l : Nat) : NG := ((l, 0, 0, npN A A.1), H.2 0, gst H A (fun _ => true))
def gV (H : HD) (A : AD) (cm : Nat → Bool) : NG := ((H.1 1, 0, 0, npN A A.1), H.2 0, gst H A cm)
def gG (H : HD) (A : AD) (r t : Nat) : NG := ((H.1 1, 0, 0, npN A A.1), H.2 0, fun j => gst H A (fun _ => true) j ||| (if t = j then 2 ^ r else 0))
def gH (H : HD) (A : AD) (wt : Nat → Nat) : NG := ((H.1 1, 1, 0, npN A A.1), wt, gst H A (fun _ => true))
def gT (H : HD) (A : AD) (p : Nat) : NG := ((H.1 1, 0, p, npN A A.1), H.2 0, gst H A (fun _ => true))
theorem gL_ok (ho : HOK H W A) {l : Nat} (hl : l < 4) : GOK H (gL H A l) := by
  have := gok0 ho (fun _ => true)
  exact ⟨by show l ≤ 3; omega, this.2⟩
theorem gV_ok (ho : HOK H W A) (cm : Nat → Bool) : GOK H (gV H A cm) := gok0 ho cm
theorem gG_ok (ho : HOK H W A) {r : Nat} (hr : r < 4) (t : Nat) : GOK H (gG H A r t) := by
  have := gok0 ho (fun _ => true)
  refine ⟨this.1, this.2.1, this.2.2.1, this.2.2.2.1, this.2.2.2.2.1, fun j hj => or16 (this.2.2.2.2.2 j hj) ?_⟩
  split
  · exact pw4 r hr
  · omega
theorem gH_ok (ho : HOK H W A) {wt : Nat → Nat} (hw : ∀ r, r < H.1 4 → 1 ≤ wt r ∧ wt r ≤ 7) : GOK H (gH H A wt) := by
  have := gok0 ho (fun _ => true)
  exact ⟨this.1, by show (1 : Nat) ≤ 1; omega, this.2.2.1, this.2.2.2.1, hw, this.2.2.2.2.2⟩
theorem gT_ok (ho : HOK H W A) {p : Nat} (hp : p < H.1 7) : GOK H (gT H A p) := by
  have := gok0 ho (fun _ => true)
  exact ⟨this.1, this.2.1, Or.inr hp, this.2.2.2⟩
theorem nlC (ho : HOK H W A) (hC : CH I 3 11 H W A) {l : Nat} (hl : l < 4) (hn : 1000 ≤ n) : ∃ J, f_192 n (nI l) I L = some (J, L) ∧ NDn J H (gL H A l) ∧ FrC I J := by
  obtain ⟨J, j1, j2, j3⟩ := prep31 (n := n) (L := L) ho hC hn
  have hr : NRd (u2 J 26 6 (nI l)) H (gL H A l) := NRd_u j2 (fun a i _ _ h => by
    by_cases e : a = 26
    · subst e
      rcases h with h | h
      · exact absurd rfl h
      · exact u2_o h.1
    · exact u2_c e) u2_s ((u2_o (by decide)).trans j2.2.2.2.1) ((u2_o (by decide)).trans j2.2.2.2.2.1)
  have hC1 : CH (u2 J 26 6 (nI l)) 3 11 H W A := CH_u hC (fun a i h => by rw [u2_c (by omega), j3 a i (by omega) (by omega) (by omega)])
  obtain ⟨K, k1, k2, k3⟩ := e55 (n := n) (L := L) ho hC1 (gL_ok ho hl) hr hn
  refine ⟨K, ?_, k2, fun a i h => ?_⟩
  · unfold f_192
    rw [j1, q_bs, k1, q_bs]
  · rw [k3 a i (by omega), u2_c (by omega), j3 a i (by omega) (by omega) (by omega)]
theorem f192_1 (n : Nat) (x : Int32) (I : FI) (L : FL) : f_192_1 n x I L = f_192 n x I L := by unfold f_192_1 f_192; rw [f53_1]
theorem nvC (ho : HOK H W A) (hC : CH I 3 11 H W A) {cm : Nat} (hcm : cm < 32) (hn : 1000 ≤ n) : ∃ J, f_193 n (nI cm) I L = some (J, L) ∧ NDn J H (gV H A (fun k => cm.testBit k)) ∧ FrC I J := by
  obtain ⟨J, j1, j2, j3⟩ := e53 (n := n) (L := L) ho hC hcm hn
  have hC1 : CH J 3 11 H W A := CH_u hC (fun a i h => j3 a i (by omega) (by omega) (by omega))
  obtain ⟨K, k1, k2, k3⟩ := e55 (n := n) (L := L) ho hC1 (gV_ok ho _) j2 hn
  refine ⟨K, ?_, k2, fun a i h => ?_⟩
  · unfold f_193
    rw [j1, q_bs, k1, q_bs]
  · rw [k3 a i (by omega), j3 a i (by omega) (by omega) (by omega)]
theorem f193_1 (n : Nat) (x : Int32) (I : FI) (L : FL) : f_193_1 n x I L = f_193 n x I L := by unfold f_193_1 f_193; rw [f53_1]
theorem ngC (ho : HOK H W A) (hC : CH I 3 11 H W A) {r t : Nat} (hr : r < 4) (ht : t < 30) (hn : 1000 ≤ n) : ∃ J, f_194 n (nI r) (nI t) I L = some (J, L) ∧ NDn J H (gG H A r t) ∧ FrC I J := by
  obtain ⟨J, j1, j2, j3⟩ := prep31 (n := n) (L := L) ho hC hn
  obtain ⟨r1, r2, r3, r4, r5, r6, r7, r8⟩ := j2
  have hr2 : NRd (u2 J 28 t (nI (gst H A (fun _ => true) t ||| 2 ^ r))) H (gG H A r t) := by
    refine ⟨(u2_c (by decide)).trans r1, (u2_c (by decide)).trans r2, (u2_c (by decide)).trans r3, (u2_c (by decide)).trans r4, (u2_c (by decide)).trans r5, (u2_c (by decide)).trans r6, fun q hq => (u2_c (by decide)).trans (r7 q hq), fun j hj => ?_⟩
    show _ = nI (gst H A (fun _ => true) j ||| (if t = j then 2 ^ r else 0))
    by_cases e : t = j
    · subst e; rw [u2_s, if_pos rfl]
    · rw [u2_o (Ne.symm e), if_neg e, Nat.or_zero]; exact r8 j hj
  have hC1 : CH (u2 J 28 t (nI (gst H A (fun _ => true) t ||| 2 ^ r))) 3 11 H W A := CH_u hC (fun a i h => by rw [u2_c (by omega), j3 a i (by omega) (by omega) (by omega)])
  obtain ⟨K, k1, k2, k3⟩ := e55 (n := n) (L := L) ho hC1 (gG_ok ho hr t) hr2 hn
  refine ⟨K, ?_, k2, fun a i h => ?_⟩
  · unfold f_194
    rw [f53_1, j1, q_bs, ku_if ht (by omega), ku_if ht (by omega), nI_clamp (by omega)]
    dsimp only
    rw [r8 t ht]
    show (f_55 n (u2 J 28 t (nI (gst H A (fun _ => true) t) ||| _)) L).bind _ = _
    rw [ku_or (by omega), k1, q_bs]
  · rw [k3 a i (by omega), u2_c (by omega), j3 a i (by omega) (by omega) (by omega)]
/-- waits of two that hurry or not -/
def hwt (H : HD) (a b x y r : Nat) : Nat := if r = a then (if H.2 0 a - x ≤ 1 then 1 else H.2 0 a - x) else if r = b then (if H.2 0 b - y ≤ 1 then 1 else H.2 0 b - y) else H.2 0 r
theorem hwt_ok (ho : HOK H W A) {a b x y : Nat} : ∀ r, r < H.1 4 → 1 ≤ hwt H a b x y r ∧ hwt H a b x y r ≤ 7 := fun r hr => by
  have h := ho.2.1 r hr
  unfold hwt
  split
  · rename_i e; subst e; split <;> omega
  · split
    · rename_i e; subst e; split <;> omega
    · omega
theorem hwt_sy (H : HD) {a b : Nat} (h : a ≠ b) (x y : Nat) : hwt H a b x y = hwt H b a y x := by
  funext r
  unfold hwt
  by_cases e : r = a
  · subst e; rw [if_pos rfl, if_neg h, if_pos rfl]
  · rw [if_neg e]
    by_cases e2 : r = b
    · rw [if_pos e2, if_pos e2]
    · rw [if_neg e2, if_neg e2, if_neg e]
theorem e54 {r x w : Nat} (hr : r < 4) (hw : w ≤ 7) (hx : x ≤ 1) (h1 : 1 ≤ w) (h27 : I 27 r = nI w) : f_54 (nI r) (nI x) I L = some (u2 I 27 r (nI (if w - x ≤ 1 then 1 else w - x)), L) := by
  unfold f_54 f_358
  rw [ku_if hr (by omega), nI_clamp (by omega), h27, pk_sub (by omega)]
  by_cases h : w - x ≤ 1
  · rw [if_neg (show ¬ (1 : Int32) < nI (w - x) from nI_nlt (a := 1) (by omega) (by omega)), q_bs, if_pos h, ku_if hr (by omega)]; rfl
  · rw [if_pos (show (1 : Int32) < nI (w - x) from nI_lt (a := 1) (by omega) (by omega)), q_bs, if_neg h, ku_if hr (by omega)]
/-- what the first of two gets -/
def gtv (H : HD) (A : AD) (f a b x y : Nat) : Int32 := nI (lkk H (gH H A (hwt H a b x y)) f (H.1 3)) - 3 * nI (if f = a then x else y)
theorem getC (ho : HOK H W A) (hC : CH I 3 11 H W A) {a b x y : Nat} (ha : a < H.1 4) (hb : b < H.1 4) (hab : a ≠ b) (hx : x ≤ 1) (hy : y ≤ 1) (hn : 1000 ≤ n) : ∃ J, f_195 n (nI a) (nI b) (nI x) (nI y) I L = some (gtv H A a a b x y, J, L) ∧ FrC I J := by
  have o4 : H.1 4 ≤ 4 := ho.1.2.2.2.2.1
  obtain ⟨J, j1, j2, j3⟩ := prep31 (n := n) (L := L) ho hC hn
  obtain ⟨r1, r2, r3, r4, r5, r6, r7, r8⟩ := j2
  have wa := ho.2.1 a ha
  have wb := ho.2.1 b hb
  have q1 : u2 J 26 8 1 27 a = nI (H.2 0 a) := (u2_c (by decide)).trans (r7 a ha)
  have q2 : u2 (u2 J 26 8 1) 27 a (nI (if H.2 0 a - x ≤ 1 then 1 else H.2 0 a - x)) 27 b = nI (H.2 0 b) := by rw [u2_o (Ne.symm hab), u2_c (by decide)]; exact r7 b hb
  have hr2 : NRd (u2 (u2 (u2 J 26 8 1) 27 a (nI (if H.2 0 a - x ≤ 1 then 1 else H.2 0 a - x))) 27 b (nI (if H.2 0 b - y ≤ 1 then 1 else H.2 0 b - y))) H (gH H A (hwt H a b x y)) := by
    have e26 : ∀ i, i ≠ 8 → u2 (u2 (u2 J 26 8 1) 27 a (nI (if H.2 0 a - x ≤ 1 then 1 else H.2 0 a - x))) 27 b (nI (if H.2 0 b - y ≤ 1 then 1 else H.2 0 b - y)) 26 i = J 26 i := fun i hi => by rw [u2_c (by decide), u2_c (by decide), u2_o hi]
    refine ⟨by rw [e26 10 (by decide)]; exact r1, by rw [e26 11 (by decide)]; exact r2, by rw [e26 6 (by decide)]; exact r3, by rw [e26 7 (by decide)]; exact r4, by rw [u2_c (by decide), u2_c (by decide), u2_s]; rfl, by rw [e26 9 (by decide)]; exact r6, fun q hq => ?_, fun j hj => ?_⟩
    · show _ = nI (hwt H a b x y q)
      unfold hwt
      by_cases eb : q = b
      · subst eb; rw [u2_s, if_neg (Ne.symm hab), if_pos rfl]
      · rw [u2_o eb]
        by_cases ea : q = a
        · subst ea; rw [u2_s, if_pos rfl]
        · rw [u2_o ea, u2_c (by decide), if_neg ea, if_neg eb]; exact r7 q hq
    · rw [u2_c (by decide), u2_c (by decide), u2_c (by decide)]; exact r8 j hj
  have hC1 : CH (u2 (u2 (u2 J 26 8 1) 27 a (nI (if H.2 0 a - x ≤ 1 then 1 else H.2 0 a - x))) 27 b (nI (if H.2 0 b - y ≤ 1 then 1 else H.2 0 b - y))) 3 11 H W A := CH_u hC (fun a i h => by rw [u2_c (by omega), u2_c (by omega), u2_c (by omega), j3 a i (by omega) (by omega) (by omega)])
  have hg := gH_ok ho (hwt_ok (a := a) (b := b) (x := x) (y := y) ho)
  obtain ⟨K, k1, k2, k3⟩ := e55 (n := n) (L := L) ho hC1 hg hr2 hn
  refine ⟨K, ?_, fun a i h => ?_⟩
  · unfold f_195
    rw [j1, q_bs, e54 (by omega) (by omega) hx (by omega) q1, q_bs, e54 (by omega) (by omega) hy (by omega) q2, q_bs, k1, q_bs, c67 ho k2 hg ha hn, q_bs]
    unfold gtv
    rw [if_pos rfl]
  · rw [k3 a i (by omega), u2_c (by omega), u2_c (by omega), u2_c (by omega), j3 a i (by omega) (by omega) (by omega)]
theorem f195_1 (n : Nat) (x y z w : Int32) (I : FI) (L : FL) : f_195_1 n x y z w I L = f_195 n x y z w I L := by unfold f_195_1 f_195; rw [f53_1]
/-- the model's -/
theorem FrM_of {J K : FI} (h1 : ∀ c i, c ≠ 89 → c ≠ 104 → J c i = I c i) (h2 : ∀ i, (i < 25 ∨ 28 < i) → J 89 i = I 89 i) (k3 : ∀ c i, (c < 103 ∨ c = 104 ∨ 108 < c) → K c i = J c i) : FrM I K := ⟨fun c i hc hc2 => by rw [k3 c i (by omega), h1 c i hc (by omega)], fun i hi => by rw [k3 89 i (by omega), h2 i (by omega)]⟩
theorem nlM (ho : HOK H W A) (hM : MH I 0 H W A) {l : Nat} (hl : l < 4) (hn : 1000 ≤ n) : ∃ K, f_332 n (nI l) I L = some (nI (dkm H (gL H A l)), K, L) ∧ NMk K H (gL H A l) (H.1 3) ∧ FrM I K := by
  obtain ⟨J, j1, j2, j3, j4, j5⟩ := e252 (n := n) (L := L) ho hM hn
  have hMj : MH (u2 J 89 25 (nI l)) 0 H W A := MH_fr ho hM (fun c hc i => by rw [u2_c (by omega), j4 c i (by omega) (by omega)])
  obtain ⟨K, k1, k2, k3⟩ := e260 (n := n) (L := L) (g := gL H A l) ho hMj (gL_ok ho hl) ⟨u2_s, (u2_o (by decide)).trans j2.2.1, fun r hr => (u2_c (by decide)).trans (j2.2.2 r hr)⟩ (aw := 0) (br := 0) (bm := 0) ⟨(u2_o (by decide)).trans j3.1, by decide, (u2_o (by decide)).trans j3.2.2.1, by decide, fun q => absurd rfl q⟩ rfl (fun t _ => (gsm_0 H A t).symm) hn
  have hMk : MH K 0 H W A := MH_fr ho hMj (fun c hc i => k3 c i (by omega))
  refine ⟨K, ?_, k2, fun c i hc hc2 => ?_, fun i hi => ?_⟩
  · unfold f_332
    rw [j1, q_bs]
    show (f_260 n (nI (gL H A l).1.2.1) (u2 J 89 25 (nI l)) L).bind _ = _
    rw [k1, q_bs, m264 ho hMk k2 (gL_ok ho hl) hn, q_bs]
  · rw [k3 c i (by omega), u2_c hc, j4 c i hc (by omega)]
  · rw [k3 89 i (by omega), u2_o (by omega), j5 i (by omega)]
theorem ngM (ho : HOK H W A) (hM : MH I 0 H W A) {r t : Nat} (hr : r < 4) (ht : t < 30) (hn : 1000 ≤ n) : ∃ J K, f_252 n I L = some (J, L) ∧ f_260 n 0 (u2 (u2 J 89 28 (nI r)) 89 29 (nI t)) L = some (K, L) ∧ NMk K H (gG H A r t) (H.1 3) ∧ FrM I K := by
  obtain ⟨J, j1, j2, j3, j4, j5⟩ := e252 (n := n) (L := L) ho hM hn
  have hMj : MH (u2 (u2 J 89 28 (nI r)) 89 29 (nI t)) 0 H W A := MH_fr ho hM (fun c hc i => by rw [u2_c (by omega), u2_c (by omega), j4 c i (by omega) (by omega)])
  obtain ⟨K, k1, k2, k3⟩ := e260 (n := n) (L := L) (g := gG H A r t) ho hMj (gG_ok ho hr t) ⟨by rw [u2_o (by decide), u2_o (by decide)]; exact j2.1, by rw [u2_o (by decide), u2_o (by decide)]; exact j2.2.1, fun r hr => by rw [u2_c (by decide), u2_c (by decide)]; exact j2.2.2 r hr⟩ (aw := 0) (br := r + 1) (bm := t) ⟨by rw [u2_o (by decide), u2_o (by decide)]; exact j3.1, by decide, by rw [u2_o (by decide), u2_s, oI_s], by omega, fun _ => ⟨u2_s, ht⟩⟩ rfl (fun j _ => by
    show gst H A (fun _ => true) j ||| (if t = j then 2 ^ r else 0) = gsm H A 0 (r + 1) t j
    unfold gsm
    have : gst H A (fun k => !(0 : Nat).testBit k) j = gst H A (fun _ => true) j := by congr 1; funext k; simp
    rw [this]
    by_cases e : t = j
    · rw [if_pos e, if_pos ⟨by omega, e⟩]; rfl
    · rw [if_neg e, if_neg (fun q => e q.2)]) hn
  refine ⟨J, K, j1, k1, k2, fun c i hc hc2 => ?_, fun i hi => ?_⟩
  · rw [k3 c i (by omega), u2_c hc, u2_c hc, j4 c i hc (by omega)]
  · rw [k3 89 i (by omega), u2_o (by omega), u2_o (by omega), j5 i (by omega)]
theorem e336 {r x w : Nat} (hr : r < 4) (hw : w ≤ 7) (hx : x ≤ 1) (h1 : 1 ≤ w) (h104 : I 104 r = nI w) : f_336 (nI r) (nI x) I L = some (nI (if w - x ≤ 1 then 1 else w - x)) := by
  unfold f_336
  rw [ku_if hr (by omega), nI_clamp (by omega), h104, pk_sub (by omega), ku_if hr (by omega)]
  by_cases h : w - x ≤ 1
  · rw [if_pos (show nI (w - x) ≤ (1 : Int32) from nI_le (b := 1) (by omega) (by omega)), if_pos h]; rfl
  · rw [if_neg (show ¬ nI (w - x) ≤ (1 : Int32) from nI_ge (a := 1) (by omega) (by omega)), if_neg h]
theorem getM (ho : HOK H W A) (hM : MH I 0 H W A) {f a b x y : Nat} (hf : f = a ∨ f = b) (ha : a < H.1 4) (hb : b < H.1 4) (hab : a ≠ b) (hx : x ≤ 1) (hy : y ≤ 1) (hn : 1000 ≤ n) : ∃ K, f_337 n (nI f) (nI a) (nI b) (nI x) (nI y) I L = some (gtv H A f a b x y, K, L) ∧ FrM I K := by
  have o4 : H.1 4 ≤ 4 := ho.1.2.2.2.2.1
  have hfl : f < H.1 4 := by omega
  obtain ⟨J, j1, j2, j3, j4, j5⟩ := e252 (n := n) (L := L) ho hM hn
  have wa := ho.2.1 a ha
  have wb := ho.2.1 b hb
  have q1 : J 104 a = nI (H.2 0 a) := j2.2.2 a ha
  have q2 : u2 J 104 a (nI (if H.2 0 a - x ≤ 1 then 1 else H.2 0 a - x)) 104 b = nI (H.2 0 b) := (u2_o (Ne.symm hab)).trans (j2.2.2 b hb)
  have hMj : MH (u2 (u2 J 104 a (nI (if H.2 0 a - x ≤ 1 then 1 else H.2 0 a - x))) 104 b (nI (if H.2 0 b - y ≤ 1 then 1 else H.2 0 b - y))) 0 H W A := MH_fr ho hM (fun c hc i => by rw [u2_c (by omega), u2_c (by omega), j4 c i (by omega) (by omega)])
  have hg := gH_ok ho (hwt_ok (a := a) (b := b) (x := x) (y := y) ho)
  obtain ⟨K, k1, k2, k3⟩ := e260 (n := n) (L := L) (g := gH H A (hwt H a b x y)) ho hMj hg ⟨by rw [u2_c (by decide), u2_c (by decide)]; exact j2.1, by rw [u2_c (by decide), u2_c (by decide)]; exact j2.2.1, fun q hq => by
    show _ = nI (hwt H a b x y q)
    unfold hwt
    by_cases eb : q = b
    · subst eb; rw [u2_s, if_neg (Ne.symm hab), if_pos rfl]
    · rw [u2_o eb]
      by_cases ea : q = a
      · subst ea; rw [u2_s, if_pos rfl]
      · rw [u2_o ea, if_neg ea, if_neg eb]; exact j2.2.2 q hq⟩ (aw := 0) (br := 0) (bm := 0) ⟨by rw [u2_c (by decide), u2_c (by decide)]; exact j3.1, by decide, by rw [u2_c (by decide), u2_c (by decide)]; exact j3.2.2.1, by decide, fun q => absurd rfl q⟩ rfl (fun t _ => (gsm_0 H A t).symm) hn
  have hMk : MH K 0 H W A := MH_fr ho hMj (fun c hc i => k3 c i (by omega))
  refine ⟨K, ?_, fun c i hc hc2 => ?_, fun i hi => ?_⟩
  · unfold f_337
    rw [j1, q_bs, e336 (by omega) (by omega) hx (by omega) q1, q_bs, ku_if (by omega) (by omega), nI_clamp (by omega), e336 (by omega) (by omega) hy (by omega) q2, q_bs, ku_if (by omega) (by omega), nI_clamp (by omega)]
    show (f_260 n (nI (gH H A (hwt H a b x y)).1.2.1) _ L).bind _ = _
    rw [k1, q_bs, m277 ho hMk k2 hg hfl hn, q_bs]
    unfold gtv
    by_cases e : f = a
    · rw [if_neg (by rw [e]; exact fun q => q rfl), if_pos e]
    · rw [if_pos (by rw [nI_eq (by omega) (by omega)]; exact e), if_neg e]
  · rw [k3 c i (by omega)]
    by_cases e : c = 104
    · omega
    · rw [u2_c e, u2_c e, j4 c i hc e]
  · rw [k3 89 i (by omega), u2_c (by decide), u2_c (by decide), j5 i (by omega)]
end NIGHTS
