section BS3
variable {cd : List (Nat × Instr × Nat)} {f : Instr → pS → pO} {x x' : pS} {r : pR}
theorem bs_val {a z : Int32} {pc : Nat} {lo : List (Option Value)} {st : List Value} {h : pH} (hc : a = z) (hs : fst cd f (pc, lo, .int z :: st, h) = some (.inl x')) (k : Bs cd f x' r) : Bs cd f (pc, lo, .int a :: st, h) r := by
  subst hc; exact bs_one hs k
theorem bs_rg {c : Prop} [Decidable c] (hs : fst cd f x = (if c then some (.inr r) else none)) (hc : c) : Bs cd f x r := by
  rw [if_pos hc] at hs; exact bs_ret hs
theorem hp_nh {kp nh rh v : Option Nat} {rl : List (List (Option Nat))} : u2 (rtab (RA kp nh rh ++ rl)) 26 12 v = rtab (RA kp v rh ++ rl) := by
  rw [rtab_u2 ⟨by rw [List.length_append]; have : (RA kp nh rh).length = 114 := rfl; omega, by have : ((RA kp nh rh ++ rl).getD 26 []).length = 13 := rfl; omega⟩]; rfl
theorem hp_rh {kp nh rh v : Option Nat} {rl : List (List (Option Nat))} : u2 (rtab (RA kp nh rh ++ rl)) 35 6 v = rtab (RA kp nh v ++ rl) := by
  rw [rtab_u2 ⟨by rw [List.length_append]; have : (RA kp nh rh).length = 114 := rfl; omega, by have : ((RA kp nh rh ++ rl).getD 35 []).length = 11 := rfl; omega⟩]; rfl
theorem hp_kh {kp nh rh kh v : Option Nat} : u2 (rtab (RA kp nh rh ++ RK kh)) 114 6 v = rtab (RA kp nh rh ++ RK v) := by
  rw [rtab_u2 ⟨by rw [List.length_append]; have : (RA kp nh rh).length = 114 := rfl; have : (RK kh).length = 8 := rfl; omega, by have : ((RA kp nh rh ++ RK kh).getD 114 []).length = 9 := rfl; omega⟩]; rfl
theorem bs_pr_nh {pc : Nat} {lo : List (Option Value)} {st : List Value} {kp nh rh v : Option Nat} {tl : List (Nat × Nat)} {rl : List (List (Option Nat))} {I : FI} {L : FL} (hs : fst cd f x = some (.inl (pc, lo, st, TA ++ tl, I, L, u2 (rtab (RA kp nh rh ++ rl)) 26 12 v))) (k : Bs cd f (pc, lo, st, hp kp v rh tl rl I L) r) : Bs cd f x r := by
  rw [hp_nh] at hs; exact bs_one hs k
theorem bs_pr_rh {pc : Nat} {lo : List (Option Value)} {st : List Value} {kp nh rh v : Option Nat} {tl : List (Nat × Nat)} {rl : List (List (Option Nat))} {I : FI} {L : FL} (hs : fst cd f x = some (.inl (pc, lo, st, TA ++ tl, I, L, u2 (rtab (RA kp nh rh ++ rl)) 35 6 v))) (k : Bs cd f (pc, lo, st, hp kp nh v tl rl I L) r) : Bs cd f x r := by
  rw [hp_rh] at hs; exact bs_one hs k
theorem bs_pr_kh {pc : Nat} {lo : List (Option Value)} {st : List Value} {kp nh rh kh v : Option Nat} {tl : List (Nat × Nat)} {I : FI} {L : FL} (hs : fst cd f x = some (.inl (pc, lo, st, TA ++ tl, I, L, u2 (rtab (RA kp nh rh ++ RK kh)) 114 6 v))) (k : Bs cd f (pc, lo, st, hp kp nh rh tl (RK v) I L) r) : Bs cd f x r := by
  rw [hp_kh] at hs; exact bs_one hs k
end BS3
/-- the heap without (false) and with (true) the keeper -/
def hw (b : Bool) (nh rh : Option Nat) (I : FI) (L : FL) : pH := match b with
  | false => hp none nh rh [] [] I L
  | true => hp (some 114) nh rh TK (RK (some 3)) I L
