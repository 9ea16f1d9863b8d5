/-! LAYER 2, the ground: the heap behind the constructors; runs; what a printed function is held against. The cells: 0 the object, 1 .. 88 what it holds, 89 the model, 90 .. 113 its rows; 114 .. 121 the keeper, once it is made. Printed by wip/whole/gen17.py -/
def TA : List (Nat × Nat) := [(17, 10), (16, 2), (2, 500), (9, 15), (0, 4), (0, 4), (0, 4), (0, 16), (0, 5), (0, 5), (0, 12), (6, 3), (0, 30), (0, 30), (13, 7), (9, 15), (0, 4), (0, 4), (0, 4), (0, 16), (0, 5), (0, 5), (0, 12), (2, 501), (0, 501), (0, 501), (12, 13), (0, 4), (0, 30), (0, 30), (0, 30), (0, 120), (0, 4), (8, 6), (2, 1440), (14, 11), (0, 10), (7, 3), (0, 4), (0, 11), (0, 13), (0, 13), (0, 13), (4, 3), (5, 4), (10, 3), (9, 15), (0, 4), (0, 4), (0, 4), (0, 16), (0, 5), (0, 5), (0, 12), (6, 3), (0, 30), (0, 30), (10, 3), (9, 15), (0, 4), (0, 4), (0, 4), (0, 16), (0, 5), (0, 5), (0, 12), (6, 3), (0, 30), (0, 30), (10, 3), (9, 15), (0, 4), (0, 4), (0, 4), (0, 16), (0, 5), (0, 5), (0, 12), (6, 3), (0, 30), (0, 30), (15, 4), (1, 60), (15, 4), (1, 60), (15, 4), (1, 60), (15, 4), (1, 60), (18, 45), (0, 4), (0, 4), (1, 240), (1, 60), (2, 500), (0, 5), (0, 45), (0, 40), (0, 60), (0, 50), (0, 60), (0, 300), (3, 3), (0, 4), (0, 4), (0, 4), (0, 120), (0, 30), (0, 30), (3, 16384), (3, 16384), (0, 12), (0, 12), (0, 1200)]
def RA (kp nh rh : Option Nat) : List (List (Option Nat)) := [[some 1, some 3, some 11, some 14, some 26, some 33, some 35, some 43, some 44, kp], [some 2, none], [], [none, none, none, none, none, none, none, none, some 4, some 5, some 6, some 7, some 8, some 9, some 10], [], [], [], [], [], [], [], [some 12, some 13, none], [], [], [some 15, none, none, some 23, some 24, some 25, none], [none, none, none, none, none, none, none, none, some 16, some 17, some 18, some 19, some 20, some 21, some 22], [], [], [], [], [], [], [], [], [], [], [some 27, some 28, some 29, some 30, some 31, some 32, none, none, none, none, none, none, nh], [], [], [], [], [], [], [some 34, none, none, none, none, none], [], [some 36, some 37, some 39, some 40, some 41, some 42, rh, none, none, none, none], [], [some 38, none, none], [], [], [], [], [], [some 45, some 57, some 69], [some 81, some 83, some 85, some 87], [some 46, some 54, none], [none, none, none, none, none, none, none, none, some 47, some 48, some 49, some 50, some 51, some 52, some 53], [], [], [], [], [], [], [], [some 55, some 56, none], [], [], [some 58, some 66, none], [none, none, none, none, none, none, none, none, some 59, some 60, some 61, some 62, some 63, some 64, some 65], [], [], [], [], [], [], [], [some 67, some 68, none], [], [], [some 70, some 78, none], [none, none, none, none, none, none, none, none, some 71, some 72, some 73, some 74, some 75, some 76, some 77], [], [], [], [], [], [], [], [some 79, some 80, none], [], [], [some 82, none, none, none], [], [some 84, none, none, none], [], [some 86, none, none, none], [], [some 88, none, none, none], [], [none, some 90, some 91, some 92, some 93, some 94, none, none, none, none, none, none, none, none, none, none, some 95, some 96, some 97, some 98, some 99, some 100, some 101, some 102, some 103, none, none, none, none, none, some 104, some 105, some 106, some 107, some 108, some 109, some 110, some 111, some 112, none, none, none, none, none, some 113], [], [], [], [], [], [], [], [], [], [], [], [], [], [], [], [], [], [], [], [], [], [], [], []]
def TK : List (Nat × Nat) := [(11, 9), (7, 3), (0, 4), (1, 512), (0, 16384), (2, 16384), (0, 16), (0, 4)]
def RK (kh : Option Nat) : List (List (Option Nat)) := [[some 115, some 117, some 118, some 119, some 120, some 121, kh, none, none], [some 116, none, none], [], [], [], [], [], []]
def rtab (t : List (List (Option Nat))) : Nat → Nat → Option Nat := fun a i => (t.getD a []).getD i none
abbrev FI : Type := Nat → Nat → Int32
abbrev FL : Type := Nat → Nat → Int64
/-- the heap, by its ints and longs; what moves of its references: the keeper, the houses of night and ring search; what lies behind -/
def hp (kp nh rh : Option Nat) (tl : List (Nat × Nat)) (rl : List (List (Option Nat))) (I : FI) (L : FL) : pH := (TA ++ tl, I, L, rtab (RA kp nh rh ++ rl))
/-- a run comes to r -/
def Bs (cd : List (Nat × Instr × Nat)) (f : Instr → pS → pO) (x : pS) (r : pR) : Prop := ∃ n, prun cd f n x = some r
def fst (cd : List (Nat × Instr × Nat)) (f : Instr → pS → pO) (x : pS) : pO := match cd.find? (fun q => q.1 == x.1) with
  | none => none
  | some q => f q.2.1 x
def pst (cd : List (Nat × Instr × Nat)) (f : Instr → pS → pO) : Nat → pS → Option pS
  | 0, x => some x
  | k + 1, x => match fst cd f x with
    | some (.inl x') => pst cd f k x'
    | _ => none
section BS
variable {cd : List (Nat × Instr × Nat)} {f : Instr → pS → pO} {x x' : pS} {r : pR}
theorem bs_one (h : fst cd f x = some (.inl x')) (k : Bs cd f x' r) : Bs cd f x r := by
  obtain ⟨n, hn⟩ := k
  refine ⟨n + 1, ?_⟩
  unfold fst at h
  unfold prun
  split at h
  · cases h
  · rename_i q hq
    rw [hq]
    dsimp only
    rw [h]
    exact hn
theorem bs_ret (h : fst cd f x = some (.inr r)) : Bs cd f x r := by
  refine ⟨1, ?_⟩
  unfold fst at h
  unfold prun
  split at h
  · cases h
  · rename_i q hq
    rw [hq]
    dsimp only
    rw [h]
theorem bs_st : ∀ (n : Nat) {x : pS}, pst cd f n x = some x' → Bs cd f x' r → Bs cd f x r
  | 0, x, h, k => by cases h; exact k
  | n + 1, x, h, k => by
    unfold pst at h
    split at h
    · rename_i x2 h2
      exact bs_one h2 (bs_st n h k)
    · cases h
/-- a branch -/
theorem bs_br {c : Prop} [hc : Decidable c] {α : Type} {A B : Option α} {v : α} {t e : Nat} {lo : List (Option Value)} {st : List Value} {h : pH} (hs : fst cd f x = some (.inl (if decide c = true then t else e, lo, st, h))) (hf : (if c then A else B) = some v) (h1 : c → A = some v → Bs cd f (t, lo, st, h) r) (h2 : ¬ c → B = some v → Bs cd f (e, lo, st, h) r) : Bs cd f x r := by
  by_cases hcc : c
  · rw [if_pos hcc] at hf
    rw [if_pos (decide_eq_true hcc)] at hs
    exact bs_one hs (h1 hcc hf)
  · rw [if_neg hcc] at hf
    rw [if_neg (by simpa using hcc)] at hs
    exact bs_one hs (h2 hcc hf)
/-- a test that must hold -/
theorem bs_gd {c : Prop} [hc : Decidable c] {α : Type} {A : Option α} {v : α} (hs : fst cd f x = (if c then some (.inl x') else none)) (hf : (if c then A else none) = some v) (h1 : c → A = some v → Bs cd f x' r) : Bs cd f x r := by
  by_cases hcc : c
  · rw [if_pos hcc] at hf hs
    exact bs_one hs (h1 hcc hf)
  · rw [if_neg hcc] at hf
    cases hf
/-- a divisor -/
theorem bs_dv {c : Prop} [hc : Decidable c] {α : Type} {A : Option α} {v : α} (hs : fst cd f x = (if c then none else some (.inl x'))) (hf : (if c then none else A) = some v) (h1 : ¬ c → A = some v → Bs cd f x' r) : Bs cd f x r := by
  by_cases hcc : c
  · rw [if_pos hcc] at hf
    cases hf
  · rw [if_neg hcc] at hf hs
    exact bs_one hs (h1 hcc hf)
/-- a call -/
theorem bs_call {o : Option pR} {w : Option Value} {h' : pH} {pc : Nat} {lo : List (Option Value)} {rest : List Value} (hs : fst cd f x = (match o with | some (v, h') => some (.inl (pc, lo, v.toList ++ rest, h')) | none => none)) (ho : o = some (w, h')) (k : Bs cd f (pc, lo, w.toList ++ rest, h') r) : Bs cd f x r := by
  rw [ho] at hs
  exact bs_one hs k
end BS
theorem rtab_u2 {t : List (List (Option Nat))} {k j : Nat} {v : Option Nat} (h : k < t.length ∧ j < (t.getD k []).length) : u2 (rtab t) k j v = rtab (t.set k ((t.getD k []).set j v)) := by
  funext a i
  simp only [u2, rtab]
  by_cases ha : a = k
  · subst ha
    rw [if_pos rfl, List.getD_eq_getElem?_getD (l := t.set a _), List.getElem?_set_self h.1]
    simp only [Option.getD_some]
    by_cases hi : i = j
    · subst hi
      rw [if_pos rfl, List.getD_eq_getElem?_getD, List.getElem?_set_self h.2]; rfl
    · rw [if_neg hi, List.getD_eq_getElem?_getD (l := (t.getD a []).set j v), List.getElem?_set_ne (Ne.symm hi), ← List.getD_eq_getElem?_getD]
  · rw [if_neg ha, List.getD_eq_getElem?_getD (l := t.set k _), List.getElem?_set_ne (Ne.symm ha), ← List.getD_eq_getElem?_getD]
theorem rtab_z2 {t : List (List (Option Nat))} (n : Nat) : z2 (rtab t) t.length none = rtab (t ++ [List.replicate n none]) := by
  funext a i
  simp only [z2, rtab]
  by_cases ha : a = t.length
  · subst ha
    rw [if_pos rfl]
    simp only [List.getD_eq_getElem?_getD, List.getElem?_append_right (Nat.le_refl _), Nat.sub_self, List.getElem?_cons_zero, Option.getD_some, List.getElem?_replicate]
    split <;> rfl
  · rw [if_neg ha]
    by_cases hl : a < t.length
    · simp only [List.getD_eq_getElem?_getD, List.getElem?_append_left hl]
    · simp only [List.getD_eq_getElem?_getD]
      rw [List.getElem?_eq_none (l := t) (i := a) (by omega), List.getElem?_eq_none (l := t ++ [List.replicate n none]) (i := a) (by simp; omega)]

noncomputable abbrev sf (ow : Nat) (rs : List (Nat × Nat × Nat × Int)) (ini : Bool) (nL : Nat) (ret : Option FieldType) (Ls : Nat) (xs : Nat → Int32) (d : Nat) : Instr → pS → pO := stp (pEN Ls xs d) pMM.2.2.2.2 (fun idx => rs.lookup idx) ow ini nL ret Ls xs
theorem en_run {Ls : Nat} {xs : Nat → Int32} {d id : Nat} {av : List Value} {h : pH} {r : pR} {cd : List (Nat × Instr × Nat)} {f : Instr → pS → pO} {x : pS} (hcd : pNN.1 id = cd) (hf : stp (pEN Ls xs d) pMM.2.2.2.2 (pNN.2.1 (pMM.2.2.2.2 id)) (pMM.2.2.2.2 id) (pNN.2.2 id) (pMM.2.2.1 id) (pMM.2.2.2.1 id) Ls xs = f) (hx : (0, pen (pMM.2.2.1 id) av, [], h) = x) (hp : ppS id av h = none) (hav : (pent av).length ≤ pMM.2.2.1 id) (k : Bs cd f x r) : pEN Ls xs (d + 1) id av h = some r := by
  subst hcd; subst hf; subst hx
  obtain ⟨n, hn⟩ := k
  exact pEnv_run hp hav hn
section BS2
variable {cd : List (Nat × Instr × Nat)} {f : Instr → pS → pO} {x x' : pS} {r : pR}
/-- two tests, the first must fail, the second hold -/
theorem bs_acp {c1 c2 : Prop} [Decidable c1] [Decidable c2] {α : Type} {A : Option α} {v : α} (hs : fst cd f x = (if c1 then none else if c2 then some (.inl x') else none)) (hf : (if c1 then none else if c2 then A else none) = some v) (h1 : ¬ c1 → c2 → A = some v → Bs cd f x' r) : Bs cd f x r := by
  by_cases hc1 : c1
  · rw [if_pos hc1] at hf; cases hf
  · rw [if_neg hc1] at hf hs
    by_cases hc2 : c2
    · rw [if_pos hc2] at hf hs
      exact bs_one hs (h1 hc1 hc2 hf)
    · rw [if_neg hc2] at hf; cases hf
/-- a switch: the road out of its range -/
theorem bs_sw {c : Prop} [Decidable c] {α : Type} {A E : Option α} {v : α} {y : pO} (hs : fst cd f x = (if c then some (.inl x') else y)) (hf : (if c then A else E) = some v) (h1 : c → A = some v → Bs cd f x' r) (h2 : ¬ c → E = some v → Bs cd f x r) : Bs cd f x r := by
  by_cases hc : c
  · rw [if_pos hc] at hf hs
    exact bs_one hs (h1 hc hf)
  · rw [if_neg hc] at hf
    exact h2 hc hf
/-- a value's case -/
theorem bs_cs {c : Prop} [Decidable c] {α : Type} {A E : Option α} {v : α} (hf : (if c then A else E) = some v) (h1 : c → A = some v → Bs cd f x r) (h2 : ¬ c → E = some v → Bs cd f x r) : Bs cd f x r := by
  by_cases hc : c
  · rw [if_pos hc] at hf
    exact h1 hc hf
  · rw [if_neg hc] at hf
    exact h2 hc hf
end BS2
/-- String.length, String.charAt of the constants -/
def f_slen (j : Nat) : Option Int32 := if 1 ≤ j ∧ j ≤ 12 then some (nI (plen.getD (j - 1) 0)) else none
def f_schr (j : Nat) (k : Int32) : Option Int32 := if (1 ≤ j ∧ j ≤ 12) ∧ pin k (plen.getD (j - 1) 0) = true then some ((pbyt.getD (j - 1) []).getD k.toNatClampNeg 0) else none
theorem t_slen (Ls : Nat) (xs : Nat → Int32) (d j : Nat) (h : pH) (v : Int32) (hf : f_slen j = some v) : (1 ≤ j ∧ j ≤ 12) ∧ pEN Ls xs (d + 4) 361 [.retAddr j] h = some (some (.int v), h) := by
  unfold f_slen at hf
  split at hf
  · rename_i hj
    cases hf
    refine ⟨hj, ?_⟩
    show pEnv pMM pNN Ls xs ppS (d + 3 + 1) 361 [.retAddr j] h = _
    unfold pEnv
    rw [if_pos (by omega)]
    simp only [ppS, if_pos hj]
  · cases hf
theorem t_schr (Ls : Nat) (xs : Nat → Int32) (d j : Nat) (k : Int32) (h : pH) (v : Int32) (hf : f_schr j k = some v) : (1 ≤ j ∧ j ≤ 12) ∧ pEN Ls xs (d + 4) 362 [.retAddr j, .int k] h = some (some (.int v), h) := by
  unfold f_schr at hf
  split at hf
  · rename_i hj
    cases hf
    refine ⟨hj.1, ?_⟩
    show pEnv pMM pNN Ls xs ppS (d + 3 + 1) 362 [.retAddr j, .int k] h = _
    unfold pEnv
    rw [if_pos (by omega)]
    simp only [ppS, if_pos hj]
  · cases hf
