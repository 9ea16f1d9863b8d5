/-! THE ROWS of the pure machine, one a kind of instruction: where it goes on, the machine goes on -/
section PS1
variable {p : Program} {l : Launch} {e : Env} {R : Room} {s : State} {m : MethodId} {args : Array Value} {below : List Frame} {meth : Method} {c : Code} {Q : State → Prop}
variable {B : Nat} {fo adV : Nat → Nat} {L : Nat} {xs : Nat → Int32} {D : va_G} {cA : Nat → ClassId} {cc : ByteArray} {nL n0 z0 nF zF ow : Nat}
variable {pc : Nat} {lo : List (Option Value)} {st r : List Value} {h : pH}
theorem s_push {n : Nat} {v : Value} {x : pS} (row : ∀ {H : Heap} {locs : List Loc} {cells slots : Nat} {ls : Array Slot} {rest : List Value}, W p l e R s m args below meth c H locs cells slots Q (F0 m (x.1 + n) ls (pcv B fo v :: rest)) → W p l e R s m args below meth c H locs cells slots Q (F0 m x.1 ls rest)) (k : pW p l e R s m args below meth c nL B fo D cA n0 z0 Q (x.1 + n, x.2.1, v :: x.2.2.1, x.2.2.2)) : pW p l e R s m args below meth c nL B fo D cA n0 z0 Q x :=
  fun H locs ls hP hS hl => row (k H locs ls hP hS hl)
theorem s_b2 {f : Int32 → Int32 → Int32} {x x' : pS} (row : ∀ {H : Heap} {locs : List Loc} {cells slots : Nat} {ls : Array Slot} {rest : List Value} {a b : Int32}, W p l e R s m args below meth c H locs cells slots Q (F0 m (x.1 + 1) ls (.int (f a b) :: rest)) → W p l e R s m args below meth c H locs cells slots Q (F0 m x.1 ls (.int b :: .int a :: rest))) (hx : pb2 x f = some (.inl x')) (k : pW p l e R s m args below meth c nL B fo D cA n0 z0 Q x') : pW p l e R s m args below meth c nL B fo D cA n0 z0 Q x := by
  obtain ⟨pc, lo, st, h⟩ := x
  unfold pb2 at hx; dsimp only at hx
  split at hx
  · simp only [pnx, Option.some.injEq, Sum.inl.injEq] at hx; subst hx
    exact fun H locs ls hP hS hl => row (k H locs ls hP hS hl)
  · cases hx
theorem s_l2 {f : Int64 → Int64 → Int64} {x x' : pS} (row : ∀ {H : Heap} {locs : List Loc} {cells slots : Nat} {ls : Array Slot} {rest : List Value} {a b : Int64}, W p l e R s m args below meth c H locs cells slots Q (F0 m (x.1 + 1) ls (.long (f a b) :: rest)) → W p l e R s m args below meth c H locs cells slots Q (F0 m x.1 ls (.long b :: .long a :: rest))) (hx : pl2 x f = some (.inl x')) (k : pW p l e R s m args below meth c nL B fo D cA n0 z0 Q x') : pW p l e R s m args below meth c nL B fo D cA n0 z0 Q x := by
  obtain ⟨pc, lo, st, h⟩ := x
  unfold pl2 at hx; dsimp only at hx
  split at hx
  · simp only [pnx, Option.some.injEq, Sum.inl.injEq] at hx; subst hx
    exact fun H locs ls hP hS hl => row (k H locs ls hP hS hl)
  · cases hx
theorem s_ls {f : Int64 → Int32 → Int64} {x x' : pS} (row : ∀ {H : Heap} {locs : List Loc} {cells slots : Nat} {ls : Array Slot} {rest : List Value} {a : Int64} {b : Int32}, W p l e R s m args below meth c H locs cells slots Q (F0 m (x.1 + 1) ls (.long (f a b) :: rest)) → W p l e R s m args below meth c H locs cells slots Q (F0 m x.1 ls (.int b :: .long a :: rest))) (hx : pls x f = some (.inl x')) (k : pW p l e R s m args below meth c nL B fo D cA n0 z0 Q x') : pW p l e R s m args below meth c nL B fo D cA n0 z0 Q x := by
  obtain ⟨pc, lo, st, h⟩ := x
  unfold pls at hx; dsimp only at hx
  split at hx
  · simp only [pnx, Option.some.injEq, Sum.inl.injEq] at hx; subst hx
    exact fun H locs ls hP hS hl => row (k H locs ls hP hS hl)
  · cases hx
theorem s_i1 {f : Int32 → Int32} {x x' : pS} (row : ∀ {H : Heap} {locs : List Loc} {cells slots : Nat} {ls : Array Slot} {rest : List Value} {a : Int32}, W p l e R s m args below meth c H locs cells slots Q (F0 m (x.1 + 1) ls (.int (f a) :: rest)) → W p l e R s m args below meth c H locs cells slots Q (F0 m x.1 ls (.int a :: rest))) (hx : pi1 x f = some (.inl x')) (k : pW p l e R s m args below meth c nL B fo D cA n0 z0 Q x') : pW p l e R s m args below meth c nL B fo D cA n0 z0 Q x := by
  obtain ⟨pc, lo, st, h⟩ := x
  unfold pi1 at hx; dsimp only at hx
  split at hx
  · simp only [pnx, Option.some.injEq, Sum.inl.injEq] at hx; subst hx
    exact fun H locs ls hP hS hl => row (k H locs ls hP hS hl)
  · cases hx
theorem s_dv {f : Int32 → Int32 → Int32} {x x' : pS} (row : ∀ {H : Heap} {locs : List Loc} {cells slots : Nat} {ls : Array Slot} {rest : List Value} {a b : Int32}, ¬ b = 0 → W p l e R s m args below meth c H locs cells slots Q (F0 m (x.1 + 1) ls (.int (f a b) :: rest)) → W p l e R s m args below meth c H locs cells slots Q (F0 m x.1 ls (.int b :: .int a :: rest))) (hx : pdv x f = some (.inl x')) (k : pW p l e R s m args below meth c nL B fo D cA n0 z0 Q x') : pW p l e R s m args below meth c nL B fo D cA n0 z0 Q x := by
  obtain ⟨pc, lo, st, h⟩ := x
  unfold pdv at hx; dsimp only at hx
  split at hx
  · split at hx
    · cases hx
    · rename_i hb
      simp only [pnx, Option.some.injEq, Sum.inl.injEq] at hx; subst hx
      exact fun H locs ls hP hS hl => row hb (k H locs ls hP hS hl)
  · cases hx
theorem s_dvl {f : Int64 → Int64 → Int64} {x x' : pS} (row : ∀ {H : Heap} {locs : List Loc} {cells slots : Nat} {ls : Array Slot} {rest : List Value} {a b : Int64}, ¬ b = 0 → W p l e R s m args below meth c H locs cells slots Q (F0 m (x.1 + 1) ls (.long (f a b) :: rest)) → W p l e R s m args below meth c H locs cells slots Q (F0 m x.1 ls (.long b :: .long a :: rest))) (hx : pdvl x f = some (.inl x')) (k : pW p l e R s m args below meth c nL B fo D cA n0 z0 Q x') : pW p l e R s m args below meth c nL B fo D cA n0 z0 Q x := by
  obtain ⟨pc, lo, st, h⟩ := x
  unfold pdvl at hx; dsimp only at hx
  split at hx
  · split at hx
    · cases hx
    · rename_i hb
      simp only [pnx, Option.some.injEq, Sum.inl.injEq] at hx; subst hx
      exact fun H locs ls hP hS hl => row hb (k H locs ls hP hS hl)
  · cases hx
theorem ptg_spec {pc t : Nat} {off : Int} (h : ptg pc off = some t) : (pc : Int) + off = (t : Int) := by
  unfold ptg at h
  split at h
  · rename_i he
    have := Option.some.inj h
    rw [← this]; exact he
  · cases h
theorem s_if1 {f : Int32 → Bool} {off : Int} {x x' : pS} (row : ∀ {H : Heap} {locs : List Loc} {cells slots : Nat} {ls : Array Slot} {rest : List Value} {a : Int32} {t : Nat}, (x.1 : Int) + off = (t : Int) → (f a = true → W p l e R s m args below meth c H locs cells slots Q (F0 m t ls rest)) → (¬ f a = true → W p l e R s m args below meth c H locs cells slots Q (F0 m (x.1 + 3) ls rest)) → W p l e R s m args below meth c H locs cells slots Q (F0 m x.1 ls (.int a :: rest))) (hx : pif1 x off f = some (.inl x')) (k : pW p l e R s m args below meth c nL B fo D cA n0 z0 Q x') : pW p l e R s m args below meth c nL B fo D cA n0 z0 Q x := by
  obtain ⟨pc, lo, st, h⟩ := x
  unfold pif1 at hx; dsimp only at hx
  split at hx
  · split at hx
    · rename_i ht
      simp only [Option.some.injEq, Sum.inl.injEq] at hx; subst hx
      exact fun H locs ls hP hS hl => row (ptg_spec ht) (fun hc => by have := k H locs ls hP hS hl; dsimp only at this; rw [if_pos hc] at this; exact this) (fun hc => by have := k H locs ls hP hS hl; dsimp only at this; rw [if_neg hc] at this; exact this)
    · cases hx
  · cases hx
theorem s_if2 {f : Int32 → Int32 → Bool} {off : Int} {x x' : pS} (row : ∀ {H : Heap} {locs : List Loc} {cells slots : Nat} {ls : Array Slot} {rest : List Value} {a b : Int32} {t : Nat}, (x.1 : Int) + off = (t : Int) → (f a b = true → W p l e R s m args below meth c H locs cells slots Q (F0 m t ls rest)) → (¬ f a b = true → W p l e R s m args below meth c H locs cells slots Q (F0 m (x.1 + 3) ls rest)) → W p l e R s m args below meth c H locs cells slots Q (F0 m x.1 ls (.int b :: .int a :: rest))) (hx : pif2 x off f = some (.inl x')) (k : pW p l e R s m args below meth c nL B fo D cA n0 z0 Q x') : pW p l e R s m args below meth c nL B fo D cA n0 z0 Q x := by
  obtain ⟨pc, lo, st, h⟩ := x
  unfold pif2 at hx; dsimp only at hx
  split at hx
  · split at hx
    · rename_i ht
      simp only [Option.some.injEq, Sum.inl.injEq] at hx; subst hx
      exact fun H locs ls hP hS hl => row (ptg_spec ht) (fun hc => by have := k H locs ls hP hS hl; dsimp only at this; rw [if_pos hc] at this; exact this) (fun hc => by have := k H locs ls hP hS hl; dsimp only at this; rw [if_neg hc] at this; exact this)
    · cases hx
  · cases hx
theorem s_go {off : Int} {x x' : pS} {rst : List Value} (row : ∀ {H : Heap} {locs : List Loc} {cells slots : Nat} {ls : Array Slot} {t : Nat}, (x.1 : Int) + off = (t : Int) → W p l e R s m args below meth c H locs cells slots Q (F0 m t ls (rst.map (pcv B fo))) → W p l e R s m args below meth c H locs cells slots Q (F0 m x.1 ls (x.2.2.1.map (pcv B fo)))) (hx : pgo x off rst = some (.inl x')) (k : pW p l e R s m args below meth c nL B fo D cA n0 z0 Q x') : pW p l e R s m args below meth c nL B fo D cA n0 z0 Q x := by
  unfold pgo at hx
  split at hx
  · rename_i ht
    simp only [Option.some.injEq, Sum.inl.injEq] at hx; subst hx
    exact fun H locs ls hP hS hl => row (ptg_spec ht) (k H locs ls hP hS hl)
  · cases hx
theorem s_ldi {n i : Nat} {x x' : pS} (row : ∀ {H : Heap} {locs : List Loc} {cells slots : Nat} {ls : Array Slot} {rest : List Value} {a : Int32}, ls[i]? = some (.val (.int a)) → W p l e R s m args below meth c H locs cells slots Q (F0 m (x.1 + n) ls (.int a :: rest)) → W p l e R s m args below meth c H locs cells slots Q (F0 m x.1 ls rest)) (hx : pldi x n i = some (.inl x')) (k : pW p l e R s m args below meth c nL B fo D cA n0 z0 Q x') : pW p l e R s m args below meth c nL B fo D cA n0 z0 Q x := by
  unfold pldi at hx
  split at hx
  · rename_i hi
    simp only [pnx, Option.some.injEq, Sum.inl.injEq] at hx; subst hx
    exact fun H locs ls hP hS hl => row (pL_at hl hi) (k H locs ls hP hS hl)
  · cases hx
theorem s_ldl {n i : Nat} {x x' : pS} (row : ∀ {H : Heap} {locs : List Loc} {cells slots : Nat} {ls : Array Slot} {rest : List Value} {a : Int64}, ls[i]? = some (.val (.long a)) → W p l e R s m args below meth c H locs cells slots Q (F0 m (x.1 + n) ls (.long a :: rest)) → W p l e R s m args below meth c H locs cells slots Q (F0 m x.1 ls rest)) (hx : pldl x n i = some (.inl x')) (k : pW p l e R s m args below meth c nL B fo D cA n0 z0 Q x') : pW p l e R s m args below meth c nL B fo D cA n0 z0 Q x := by
  unfold pldl at hx
  split at hx
  · rename_i hi
    simp only [pnx, Option.some.injEq, Sum.inl.injEq] at hx; subst hx
    exact fun H locs ls hP hS hl => row (pL_at hl hi) (k H locs ls hP hS hl)
  · cases hx
theorem s_lda {n i : Nat} {x x' : pS} (row : ∀ {H : Heap} {locs : List Loc} {cells slots : Nat} {ls : Array Slot} {rest : List Value} {a : Nat}, ls[i]? = some (.val (.ref a)) → W p l e R s m args below meth c H locs cells slots Q (F0 m (x.1 + n) ls (.ref a :: rest)) → W p l e R s m args below meth c H locs cells slots Q (F0 m x.1 ls rest))
    (row0 : ∀ {H : Heap} {locs : List Loc} {cells slots : Nat} {ls : Array Slot} {rest : List Value}, ls[i]? = some (.val .null) → W p l e R s m args below meth c H locs cells slots Q (F0 m (x.1 + n) ls (.null :: rest)) → W p l e R s m args below meth c H locs cells slots Q (F0 m x.1 ls rest)) (hx : plda x n i = some (.inl x')) (k : pW p l e R s m args below meth c nL B fo D cA n0 z0 Q x') : pW p l e R s m args below meth c nL B fo D cA n0 z0 Q x := by
  unfold plda at hx
  split at hx
  · rename_i hi
    simp only [pnx, Option.some.injEq, Sum.inl.injEq] at hx; subst hx
    exact fun H locs ls hP hS hl => row (pL_at hl hi) (k H locs ls hP hS hl)
  · rename_i hi
    simp only [pnx, Option.some.injEq, Sum.inl.injEq] at hx; subst hx
    exact fun H locs ls hP hS hl => row0 (pL_at hl hi) (k H locs ls hP hS hl)
  · rename_i hi
    simp only [pnx, Option.some.injEq, Sum.inl.injEq] at hx; subst hx
    exact fun H locs ls hP hS hl => row (pL_at hl hi) (k H locs ls hP hS hl)
  · cases hx
theorem s_sti {n i : Nat} {x x' : pS} (row : ∀ {H : Heap} {locs : List Loc} {cells slots : Nat} {ls : Array Slot} {rest : List Value} {a : Int32} {lv : List (Nat × Value)}, lv_has ls nL lv → i < nL → (∀ ls' : Array Slot, lv_has ls' nL ((i, Value.int a) :: lv.filter (fun q => !(q.1 == i) && !(q.1 + 1 == i && q.2.category == 2))) → W p l e R s m args below meth c H locs cells slots Q (F0 m (x.1 + n) ls' rest)) → W p l e R s m args below meth c H locs cells slots Q (F0 m x.1 ls (.int a :: rest))) (hx : psti nL x n i = some (.inl x')) (k : pW p l e R s m args below meth c nL B fo D cA n0 z0 Q x') : pW p l e R s m args below meth c nL B fo D cA n0 z0 Q x := by
  obtain ⟨pc, lo, st, h⟩ := x
  unfold psti at hx; dsimp only at hx
  split at hx
  · split at hx
    · rename_i hi
      simp only [Option.some.injEq, Sum.inl.injEq] at hx; subst hx
      exact fun H locs ls hP hS hl => row hl hi (fun ls' hl' => k H locs ls' hP hS (pL_1 rfl hl'))
    · cases hx
  · cases hx
theorem s_stl {n i : Nat} {x x' : pS} (row : ∀ {H : Heap} {locs : List Loc} {cells slots : Nat} {ls : Array Slot} {rest : List Value} {a : Int64} {lv : List (Nat × Value)}, lv_has ls nL lv → i + 1 < nL → (∀ ls' : Array Slot, lv_has ls' nL ((i, Value.long a) :: lv.filter (fun q => !(q.1 == i) && (!(q.1 == i + 1) && !(q.1 + 1 == i && q.2.category == 2)))) → W p l e R s m args below meth c H locs cells slots Q (F0 m (x.1 + n) ls' rest)) → W p l e R s m args below meth c H locs cells slots Q (F0 m x.1 ls (.long a :: rest))) (hx : pstl nL x n i = some (.inl x')) (k : pW p l e R s m args below meth c nL B fo D cA n0 z0 Q x') : pW p l e R s m args below meth c nL B fo D cA n0 z0 Q x := by
  obtain ⟨pc, lo, st, h⟩ := x
  unfold pstl at hx; dsimp only at hx
  split at hx
  · split at hx
    · rename_i hi
      simp only [Option.some.injEq, Sum.inl.injEq] at hx; subst hx
      exact fun H locs ls hP hS hl => row hl hi (fun ls' hl' => k H locs ls' hP hS (pL_2 rfl hl'))
    · cases hx
  · cases hx
theorem s_sta {n i : Nat} {x x' : pS} (row : ∀ {H : Heap} {locs : List Loc} {cells slots : Nat} {ls : Array Slot} {rest : List Value} {a : Nat} {lv : List (Nat × Value)}, lv_has ls nL lv → i < nL → (∀ ls' : Array Slot, lv_has ls' nL ((i, Value.ref a) :: lv.filter (fun q => !(q.1 == i) && !(q.1 + 1 == i && q.2.category == 2))) → W p l e R s m args below meth c H locs cells slots Q (F0 m (x.1 + n) ls' rest)) → W p l e R s m args below meth c H locs cells slots Q (F0 m x.1 ls (.ref a :: rest))) (hx : psta nL x n i = some (.inl x')) (k : pW p l e R s m args below meth c nL B fo D cA n0 z0 Q x') : pW p l e R s m args below meth c nL B fo D cA n0 z0 Q x := by
  obtain ⟨pc, lo, st, h⟩ := x
  unfold psta at hx; dsimp only at hx
  split at hx
  · split at hx
    · rename_i hi
      simp only [Option.some.injEq, Sum.inl.injEq] at hx; subst hx
      exact fun H locs ls hP hS hl => row hl hi (fun ls' hl' => k H locs ls' hP hS (pL_1 rfl hl'))
    · cases hx
  · split at hx
    · rename_i hi
      simp only [Option.some.injEq, Sum.inl.injEq] at hx; subst hx
      exact fun H locs ls hP hS hl => row hl hi (fun ls' hl' => k H locs ls' hP hS (pL_1 rfl hl'))
    · cases hx
  · cases hx
end PS1
