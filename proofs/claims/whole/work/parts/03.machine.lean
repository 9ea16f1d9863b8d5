/-! THE PURE MACHINE. A heap: shapes of its cells (0 int[], 1 long[], 2 byte[], 3 boolean[], 4 Image[], 5 Row[], c + 6 an object of class c; the second number: its slots), and three functions of cell and place: ints, longs, references. A reference of the heap is the number of its cell; what lies outside it (the script, the string constants) is a value .retAddr j. -/
abbrev pH : Type := List (Nat × Nat) × (Nat → Nat → Int32) × (Nat → Nat → Int64) × (Nat → Nat → Option Nat)
abbrev pR : Type := Option Value × pH
abbrev pS : Type := Nat × List (Option Value) × List Value × pH
abbrev pV : Type := Nat → List Value → pH → Option pR
def psz (h : pH) : Nat := (h.1.map (fun q => q.2)).sum
def pcv (B : Nat) (fo : Nat → Nat) (v : Value) : Value := match v with
  | .ref k => .ref (B + k)
  | .retAddr j => .ref (fo j)
  | v => v
def prv (r : Option Nat) : Value := match r with
  | none => .null
  | some a => .ref a
def pval (h : pH) (k j : Nat) (ty : FieldType) : Value := match ty with
  | .long => .long (h.2.2.1 k j)
  | .object _ => prv (h.2.2.2 k j)
  | .array _ => prv (h.2.2.2 k j)
  | _ => .int (h.2.1 k j)
def pce (B : Nat) (cA : Nat → ClassId) (h : pH) (k : Nat) (q : Nat × Nat) : va_E := match q.1 with
  | 0 => .inl (cA 0, q.2, .inl (h.2.1 k))
  | 1 => .inl (cA 1, q.2, .inr (.inl (h.2.2.1 k)))
  | 2 => .inl (cA 2, q.2, .inl (h.2.1 k))
  | 3 => .inl (cA 3, q.2, .inl (h.2.1 k))
  | 4 => .inl (cA 4, q.2, .inr (.inr (.inr (.inr (fun j => (h.2.2.2 k j).map (fun a => B + a))))))
  | 5 => .inl (cA 5, q.2, .inr (.inr (.inr (.inr (fun j => (h.2.2.2 k j).map (fun a => B + a))))))
  | c + 6 => .inr (c, (List.range q.2).map (fun j => pcv B (fun _ => 0) (pval h k j (cty c j))))
def pws (B : Nat) (cA : Nat → ClassId) (h : pH) : va_W := h.1.mapIdx (fun k q => (B + k, pce B cA h k q))
def ptys (cA : Nat → ClassId) : List (ClassId × FieldType) := [(cA 0, .int), (cA 1, .long), (cA 2, .byte), (cA 3, .boolean), (cA 4, .object "LampRounds$Image"), (cA 5, .object "LampRounds$Row")]
/-- one place of one cell gets a new value -/
def u2 {α : Type} (f : Nat → Nat → α) (k j : Nat) (x : α) : Nat → Nat → α := fun a i => if a = k then (if i = j then x else f a i) else f a i
/-- a cell is made anew -/
def z2 {α : Type} (f : Nat → Nat → α) (k : Nat) (x : α) : Nat → Nat → α := fun a i => if a = k then x else f a i
/-- a stretch of one cell is laid into another -/
def c2 {α : Type} (f : Nat → Nat → α) (k0 k : Nat) (sp dp n : Nat) : Nat → Nat → α := fun a i => if a = k then va_cpy (f k0) (f k) sp dp n i else f a i
theorem u2_ne {α : Type} {f : Nat → Nat → α} {k j a : Nat} {x : α} (h : a ≠ k) : u2 f k j x a = f a := by funext i; simp [u2, h]
theorem z2_ne {α : Type} {f : Nat → Nat → α} {k a : Nat} {x : α} (h : a ≠ k) : z2 f k x a = f a := by funext i; simp [z2, h]
theorem c2_ne {α : Type} {f : Nat → Nat → α} {k0 k sp dp n a : Nat} (h : a ≠ k) : c2 f k0 k sp dp n a = f a := by funext i; simp [c2, h]
theorem pcv_cat (B : Nat) (fo : Nat → Nat) (v : Value) : (pcv B fo v).category = v.category := by cases v <;> rfl
theorem pce_cong {B : Nat} {cA : Nat → ClassId} {h h' : pH} {k : Nat} (q : Nat × Nat) (h1 : h'.2.1 k = h.2.1 k) (h2 : h'.2.2.1 k = h.2.2.1 k) (h3 : h'.2.2.2 k = h.2.2.2 k) : pce B cA h' k q = pce B cA h k q := by
  have hv : ∀ j ty, pval h' k j ty = pval h k j ty := fun j ty => by unfold pval; rw [h1, h2, h3]
  unfold pce
  simp only [h1, h2, h3, hv]
theorem pws_get {B : Nat} {cA : Nat → ClassId} {h : pH} {k : Nat} {q : Nat × Nat} (hk : h.1[k]? = some q) : (pws B cA h)[k]? = some (B + k, pce B cA h k q) := by
  unfold pws; rw [List.getElem?_mapIdx, hk]; rfl
theorem pws_of {B : Nat} {cA : Nat → ClassId} {h : pH} {k : Nat} {e : Nat × va_E} (hk : (pws B cA h)[k]? = some e) : ∃ q, h.1[k]? = some q ∧ e = (B + k, pce B cA h k q) := by
  unfold pws at hk; rw [List.getElem?_mapIdx] at hk
  cases hq : h.1[k]? with
  | none => rw [hq] at hk; cases hk
  | some q => rw [hq] at hk; exact ⟨q, rfl, (Option.some.inj hk).symm⟩
theorem pws_D {B : Nat} {cA : Nat → ClassId} {h : pH} : va_D (fun q => B ≤ q) (pws B cA h) := by
  refine ⟨fun i j p q hi hj e => ?_, fun k q hk => ?_⟩
  · obtain ⟨_, -, rfl⟩ := pws_of hi
    obtain ⟨_, -, rfl⟩ := pws_of hj
    dsimp only at e
    omega
  · obtain ⟨_, -, rfl⟩ := pws_of hk
    exact Nat.le_add_right B k
theorem pws_set {B : Nat} {cA : Nat → ClassId} {h h' : pH} {k : Nat} {q : Nat × Nat} (hT : h'.1 = h.1) (hk : h.1[k]? = some q) (ho : ∀ j r, j ≠ k → pce B cA h' j r = pce B cA h j r) : (pws B cA h).set k (B + k, pce B cA h' k q) = pws B cA h' := by
  have hl : k < h.1.length := (List.getElem?_eq_some_iff.mp hk).1
  apply List.ext_getElem?
  intro j
  rw [List.getElem?_set]
  by_cases hj : k = j
  · subst hj
    rw [if_pos rfl, if_pos (by unfold pws; rw [List.length_mapIdx]; exact hl), pws_get (q := q) (by rw [hT]; exact hk)]
  · rw [if_neg hj]
    unfold pws
    rw [List.getElem?_mapIdx, List.getElem?_mapIdx, hT]
    cases h.1[j]? with
    | none => rfl
    | some r => simp only [Option.map_some]; rw [ho j r (Ne.symm hj)]
theorem pws_push {B : Nat} {cA : Nat → ClassId} {h h' : pH} {q : Nat × Nat} (hT : h'.1 = h.1 ++ [q]) (ho : ∀ j r, j < h.1.length → pce B cA h' j r = pce B cA h j r) : pws B cA h ++ [(B + h.1.length, pce B cA h' h.1.length q)] = pws B cA h' := by
  apply List.ext_getElem?
  intro j
  have hlen : (pws B cA h).length = h.1.length := by unfold pws; rw [List.length_mapIdx]
  by_cases hj : j < h.1.length
  · rw [List.getElem?_append_left (by rw [hlen]; exact hj)]
    unfold pws
    rw [List.getElem?_mapIdx, List.getElem?_mapIdx, hT, List.getElem?_append_left hj]
    cases h.1[j]? with
    | none => rfl
    | some r => simp only [Option.map_some]; rw [ho j r hj]
  · rw [List.getElem?_append_right (by rw [hlen]; omega), hlen]
    by_cases hj2 : j = h.1.length
    · subst hj2
      rw [Nat.sub_self]
      rw [pws_get (h := h') (q := q) (by rw [hT]; simp)]
      rfl
    · rw [List.getElem?_eq_none (by simp; omega)]
      unfold pws
      rw [List.getElem?_mapIdx, hT, List.getElem?_eq_none (by simp; omega)]
      rfl
/-! locals -/
def pcl (w : Option Value) : Option Value := match w with
  | some x => if x.category = 2 then none else some x
  | none => none
def plo1 : List (Option Value) → Nat → Value → List (Option Value)
  | [], _, _ => []
  | _ :: t, 0, v => some v :: t
  | w :: t, i + 1, v => (if i = 0 then pcl w else w) :: plo1 t i v
def plo2 : List (Option Value) → Nat → Value → List (Option Value)
  | [], _, _ => []
  | _ :: t, 0, v => some v :: (match t with | [] => [] | _ :: t' => none :: t')
  | w :: t, i + 1, v => (if i = 0 then pcl w else w) :: plo2 t i v
theorem pcl_some {w : Option Value} {x : Value} (h : pcl w = some x) : w = some x ∧ x.category ≠ 2 := by
  unfold pcl at h
  split at h
  · split at h
    · cases h
    · rename_i hc; cases h; exact ⟨rfl, hc⟩
  · cases h
theorem plo1_get : ∀ (lo : List (Option Value)) (i j : Nat) (v w : Value), (plo1 lo i v)[j]? = some (some w) → (j = i ∧ w = v) ∨ (j ≠ i ∧ lo[j]? = some (some w) ∧ ¬ (j + 1 = i ∧ w.category = 2))
  | [], i, j, v, w, h => by simp [plo1] at h
  | _ :: t, 0, 0, v, w, h => by simp [plo1] at h; exact Or.inl ⟨rfl, h.symm⟩
  | _ :: t, 0, j + 1, v, w, h => by
    simp [plo1] at h
    exact Or.inr ⟨by omega, by simpa using h, by omega⟩
  | a :: t, i + 1, 0, v, w, h => by
    simp only [plo1, List.getElem?_cons_zero, Option.some.injEq] at h
    by_cases hi : i = 0
    · rw [if_pos hi] at h
      obtain ⟨h1, h2⟩ := pcl_some h
      exact Or.inr ⟨by omega, by simp [h1], fun q => h2 q.2⟩
    · rw [if_neg hi] at h
      exact Or.inr ⟨by omega, by simp [h], fun q => by omega⟩
  | a :: t, i + 1, j + 1, v, w, h => by
    simp only [plo1, List.getElem?_cons_succ] at h
    rcases plo1_get t i j v w h with ⟨h1, h2⟩ | ⟨h1, h2, h3⟩
    · exact Or.inl ⟨by omega, h2⟩
    · exact Or.inr ⟨by omega, by simpa using h2, fun q => h3 ⟨by omega, q.2⟩⟩
theorem plo2_get : ∀ (lo : List (Option Value)) (i j : Nat) (v w : Value), (plo2 lo i v)[j]? = some (some w) → (j = i ∧ w = v) ∨ (j ≠ i ∧ j ≠ i + 1 ∧ lo[j]? = some (some w) ∧ ¬ (j + 1 = i ∧ w.category = 2))
  | [], i, j, v, w, h => by simp [plo2] at h
  | _ :: t, 0, 0, v, w, h => by simp [plo2] at h; exact Or.inl ⟨rfl, h.symm⟩
  | _ :: t, 0, j + 1, v, w, h => by
    simp only [plo2, List.getElem?_cons_succ] at h
    match t, j, h with
    | [], j, h => simp at h
    | b :: t', 0, h => simp at h
    | b :: t', j + 1, h => exact Or.inr ⟨by omega, by omega, by simpa using h, by omega⟩
  | a :: t, i + 1, 0, v, w, h => by
    simp only [plo2, List.getElem?_cons_zero, Option.some.injEq] at h
    by_cases hi : i = 0
    · rw [if_pos hi] at h
      obtain ⟨h1, h2⟩ := pcl_some h
      exact Or.inr ⟨by omega, by omega, by simp [h1], fun q => h2 q.2⟩
    · rw [if_neg hi] at h
      exact Or.inr ⟨by omega, by omega, by simp [h], fun q => by omega⟩
  | a :: t, i + 1, j + 1, v, w, h => by
    simp only [plo2, List.getElem?_cons_succ] at h
    rcases plo2_get t i j v w h with ⟨h1, h2⟩ | ⟨h1, h2, h3, h4⟩
    · exact Or.inl ⟨by omega, h2⟩
    · exact Or.inr ⟨by omega, by omega, by simpa using h3, fun q => h4 ⟨by omega, q.2⟩⟩
/-- the locals as the kit lists them -/
def pas (B : Nat) (fo : Nat → Nat) (lo : List (Option Value)) : List (Nat × Value) := lo.zipIdx.filterMap (fun q => q.1.map (fun v => (q.2, pcv B fo v)))
theorem pas_mem {B : Nat} {fo : Nat → Nat} {lo : List (Option Value)} {i : Nat} {u : Value} : (i, u) ∈ pas B fo lo ↔ ∃ v, lo[i]? = some (some v) ∧ u = pcv B fo v := by
  unfold pas
  rw [List.mem_filterMap]
  constructor
  · rintro ⟨⟨w, j⟩, h1, h2⟩
    have h3 := List.mem_zipIdx_iff_getElem?.mp h1
    cases w with
    | none => cases h2
    | some v =>
      simp only [Option.map_some, Option.some.injEq, Prod.mk.injEq] at h2
      obtain ⟨rfl, rfl⟩ := h2
      exact ⟨v, h3, rfl⟩
  · rintro ⟨v, h1, rfl⟩
    exact ⟨(some v, i), List.mem_zipIdx_iff_getElem?.mpr h1, rfl⟩
def pL (B : Nat) (fo : Nat → Nat) (ls : Array Slot) (nL : Nat) (lo : List (Option Value)) : Prop := lv_has ls nL (pas B fo lo)
theorem pL_at {B : Nat} {fo : Nat → Nat} {ls : Array Slot} {nL : Nat} {lo : List (Option Value)} (h : pL B fo ls nL lo) {i : Nat} {v : Value} (hi : lo[i]? = some (some v)) : ls[i]? = some (.val (pcv B fo v)) := h.2.2 (i, pcv B fo v) (pas_mem.mpr ⟨v, hi, rfl⟩)
theorem pL_1 {B : Nat} {fo : Nat → Nat} {ls : Array Slot} {nL i : Nat} {lo : List (Option Value)} {v : Value} {f : Nat × Value → Bool} (hf : f = fun q => !(q.1 == i) && !(q.1 + 1 == i && q.2.category == 2)) (h : lv_has ls nL ((i, pcv B fo v) :: (pas B fo lo).filter f)) : pL B fo ls nL (plo1 lo i v) := by
  refine ⟨h.1, h.2.1, fun q hq => h.2.2 q ?_⟩
  obtain ⟨j, u⟩ := q
  obtain ⟨w, h1, rfl⟩ := pas_mem.mp hq
  rcases plo1_get _ _ _ _ _ h1 with ⟨rfl, rfl⟩ | ⟨a1, a2, a3⟩
  · exact List.mem_cons_self
  · refine List.mem_cons_of_mem _ (List.mem_filter.mpr ⟨pas_mem.mpr ⟨w, a2, rfl⟩, ?_⟩)
    rw [hf]
    simp only [pcv_cat, Bool.and_eq_true, Bool.not_eq_true', beq_eq_false_iff_ne, ne_eq, Bool.and_eq_false_iff]
    refine ⟨a1, ?_⟩
    by_cases hj : j + 1 = i
    · exact Or.inr (fun h => a3 ⟨hj, h⟩)
    · exact Or.inl hj
theorem pL_2 {B : Nat} {fo : Nat → Nat} {ls : Array Slot} {nL i : Nat} {lo : List (Option Value)} {v : Value} {f : Nat × Value → Bool} (hf : f = fun q => !(q.1 == i) && (!(q.1 == i + 1) && !(q.1 + 1 == i && q.2.category == 2))) (h : lv_has ls nL ((i, pcv B fo v) :: (pas B fo lo).filter f)) : pL B fo ls nL (plo2 lo i v) := by
  refine ⟨h.1, h.2.1, fun q hq => h.2.2 q ?_⟩
  obtain ⟨j, u⟩ := q
  obtain ⟨w, h1, rfl⟩ := pas_mem.mp hq
  rcases plo2_get _ _ _ _ _ h1 with ⟨rfl, rfl⟩ | ⟨a1, a0, a2, a3⟩
  · exact List.mem_cons_self
  · refine List.mem_cons_of_mem _ (List.mem_filter.mpr ⟨pas_mem.mpr ⟨w, a2, rfl⟩, ?_⟩)
    rw [hf]
    simp only [pcv_cat, Bool.and_eq_true, Bool.not_eq_true', beq_eq_false_iff_ne, ne_eq, Bool.and_eq_false_iff]
    refine ⟨a1, a0, ?_⟩
    by_cases hj : j + 1 = i
    · exact Or.inr (fun h => a3 ⟨hj, h⟩)
    · exact Or.inl hj
/-- the locals at a method's entry -/
def pent : List Value → List (Option Value)
  | [] => []
  | v :: vs => some v :: (if v.category = 2 then none :: pent vs else pent vs)
def pen (nL : Nat) (vs : List Value) : List (Option Value) := pent vs ++ List.replicate (nL - (pent vs).length) none
theorem pent_args : ∀ (B : Nat) (fo : Nat → Nat) (vs : List Value) (n i : Nat) (v : Value), (pent vs)[i]? = some (some v) → (n + i, pcv B fo v) ∈ lv_args n (vs.map (pcv B fo))
  | B, fo, [], n, i, v, h => by simp [pent] at h
  | B, fo, a :: vs, n, 0, v, h => by
    simp only [pent, List.getElem?_cons_zero, Option.some.injEq] at h
    subst h
    simp [lv_args]
  | B, fo, a :: vs, n, i + 1, v, h => by
    simp only [pent, List.getElem?_cons_succ] at h
    simp only [List.map_cons, lv_args, pcv_cat]
    refine List.mem_cons_of_mem _ ?_
    by_cases hc : a.category = 2
    · rw [if_pos hc] at h ⊢
      cases i with
      | zero => simp at h
      | succ i =>
        have := pent_args B fo vs (n + 2) i v (by simpa using h)
        rw [show n + (i + 1 + 1) = n + 2 + i by omega]
        exact this
    · rw [if_neg hc] at h ⊢
      have := pent_args B fo vs (n + 1) i v h
      rw [show n + (i + 1) = n + 1 + i by omega]
      exact this
theorem pent_len (B : Nat) (fo : Nat → Nat) : ∀ vs : List Value, (lg_sl (vs.map (pcv B fo))).length = (pent vs).length
  | [] => rfl
  | v :: vs => by
    have ih := pent_len B fo vs
    have e : lg_sl ((v :: vs).map (pcv B fo)) = (if (pcv B fo v).category = 2 then [Slot.val (pcv B fo v), Slot.second] else [Slot.val (pcv B fo v)]) ++ lg_sl (vs.map (pcv B fo)) := by simp [lg_sl]
    rw [e, List.length_append, ih, pent, pcv_cat]
    by_cases hc : v.category = 2
    · rw [if_pos hc, if_pos hc]; simp; omega
    · rw [if_neg hc, if_neg hc]; simp; omega
theorem pL_entry {B : Nat} {fo : Nat → Nat} {vs : List Value} {nL : Nat} (h : (pent vs).length ≤ nL) : pL B fo ((lg_sl (vs.map (pcv B fo)) ++ List.replicate (nL - (lg_sl (vs.map (pcv B fo))).length) Slot.unset).toArray) nL (pen nL vs) := by
  have h0 := lv_entry (vs.map (pcv B fo)) (n := nL) (by rw [pent_len]; exact h)
  refine ⟨h0.1, h0.2.1, fun q hq => h0.2.2 q ?_⟩
  obtain ⟨i, u⟩ := q
  obtain ⟨v, h1, rfl⟩ := pas_mem.mp hq
  have h2 : (pent vs)[i]? = some (some v) := by
    unfold pen at h1
    by_cases hi : i < (pent vs).length
    · rwa [List.getElem?_append_left hi] at h1
    · rw [List.getElem?_append_right (by omega)] at h1
      rw [List.getElem?_replicate] at h1
      split at h1 <;> cases h1
  have := pent_args B fo vs 0 i v h2
  rwa [Nat.zero_add] at this
