/-! the run of a method, and its contract -/
theorem t_b2 {x x' : pS} {f : Int32 → Int32 → Int32} (hx : pb2 x f = some (.inl x')) : x'.2.2.2.1 = x.2.2.2.1 := by unfold pb2 pnx at hx; (repeat' split at hx) <;> first | (cases hx; done) | (cases hx; rfl)
theorem t_l2 {x x' : pS} {f : Int64 → Int64 → Int64} (hx : pl2 x f = some (.inl x')) : x'.2.2.2.1 = x.2.2.2.1 := by unfold pl2 pnx at hx; (repeat' split at hx) <;> first | (cases hx; done) | (cases hx; rfl)
theorem t_ls {x x' : pS} {f : Int64 → Int32 → Int64} (hx : pls x f = some (.inl x')) : x'.2.2.2.1 = x.2.2.2.1 := by unfold pls pnx at hx; (repeat' split at hx) <;> first | (cases hx; done) | (cases hx; rfl)
theorem t_i1 {x x' : pS} {f : Int32 → Int32} (hx : pi1 x f = some (.inl x')) : x'.2.2.2.1 = x.2.2.2.1 := by unfold pi1 pnx at hx; (repeat' split at hx) <;> first | (cases hx; done) | (cases hx; rfl)
theorem t_dv {x x' : pS} {f : Int32 → Int32 → Int32} (hx : pdv x f = some (.inl x')) : x'.2.2.2.1 = x.2.2.2.1 := by unfold pdv pnx at hx; (repeat' split at hx) <;> first | (cases hx; done) | (cases hx; rfl)
theorem t_dvl {x x' : pS} {f : Int64 → Int64 → Int64} (hx : pdvl x f = some (.inl x')) : x'.2.2.2.1 = x.2.2.2.1 := by unfold pdvl pnx at hx; (repeat' split at hx) <;> first | (cases hx; done) | (cases hx; rfl)
theorem t_if1 {x x' : pS} {off : Int} {f : Int32 → Bool} (hx : pif1 x off f = some (.inl x')) : x'.2.2.2.1 = x.2.2.2.1 := by
  unfold pif1 at hx
  split at hx
  · split at hx
    · cases hx; rfl
    · cases hx
  · cases hx
theorem t_if2 {x x' : pS} {off : Int} {f : Int32 → Int32 → Bool} (hx : pif2 x off f = some (.inl x')) : x'.2.2.2.1 = x.2.2.2.1 := by
  unfold pif2 at hx
  split at hx
  · split at hx
    · cases hx; rfl
    · cases hx
  · cases hx
theorem t_go {x x' : pS} {off : Int} {st : List Value} (hx : pgo x off st = some (.inl x')) : x'.2.2.2.1 = x.2.2.2.1 := by unfold pgo at hx; (repeat' split at hx) <;> first | (cases hx; done) | (cases hx; rfl)
theorem t_ldi {x x' : pS} {n i : Nat} (hx : pldi x n i = some (.inl x')) : x'.2.2.2.1 = x.2.2.2.1 := by unfold pldi pnx at hx; (repeat' split at hx) <;> first | (cases hx; done) | (cases hx; rfl)
theorem t_ldl {x x' : pS} {n i : Nat} (hx : pldl x n i = some (.inl x')) : x'.2.2.2.1 = x.2.2.2.1 := by unfold pldl pnx at hx; (repeat' split at hx) <;> first | (cases hx; done) | (cases hx; rfl)
theorem t_lda {x x' : pS} {n i : Nat} (hx : plda x n i = some (.inl x')) : x'.2.2.2.1 = x.2.2.2.1 := by unfold plda pnx at hx; (repeat' split at hx) <;> first | (cases hx; done) | (cases hx; rfl)
theorem t_sti {x x' : pS} {nL n i : Nat} (hx : psti nL x n i = some (.inl x')) : x'.2.2.2.1 = x.2.2.2.1 := by unfold psti at hx; (repeat' split at hx) <;> first | (cases hx; done) | (cases hx; rfl)
theorem t_stl {x x' : pS} {nL n i : Nat} (hx : pstl nL x n i = some (.inl x')) : x'.2.2.2.1 = x.2.2.2.1 := by unfold pstl at hx; (repeat' split at hx) <;> first | (cases hx; done) | (cases hx; rfl)
theorem t_sta {x x' : pS} {nL n i : Nat} (hx : psta nL x n i = some (.inl x')) : x'.2.2.2.1 = x.2.2.2.1 := by unfold psta at hx; (repeat' split at hx) <;> first | (cases hx; done) | (cases hx; rfl)
theorem t_ald {x x' : pS} {kd : Nat} (hx : pald kd x = some (.inl x')) : x'.2.2.2.1 = x.2.2.2.1 := by unfold pald pnx at hx; (repeat' split at hx) <;> first | (cases hx; done) | (cases hx; rfl)
theorem t_aldl {x x' : pS} (hx : paldl x = some (.inl x')) : x'.2.2.2.1 = x.2.2.2.1 := by unfold paldl pnx at hx; (repeat' split at hx) <;> first | (cases hx; done) | (cases hx; rfl)
theorem t_alda {x x' : pS} (hx : palda x = some (.inl x')) : x'.2.2.2.1 = x.2.2.2.1 := by unfold palda pnx at hx; (repeat' split at hx) <;> first | (cases hx; done) | (cases hx; rfl)
theorem t_ast {x x' : pS} {kd : Nat} {f : Int32 → Int32} (hx : past kd f x = some (.inl x')) : x'.2.2.2.1 = x.2.2.2.1 := by unfold past at hx; (repeat' split at hx) <;> first | (cases hx; done) | (cases hx; rfl)
theorem t_astl {x x' : pS} (hx : pastl x = some (.inl x')) : x'.2.2.2.1 = x.2.2.2.1 := by unfold pastl at hx; (repeat' split at hx) <;> first | (cases hx; done) | (cases hx; rfl)
theorem t_asta {x x' : pS} (hx : pasta x = some (.inl x')) : x'.2.2.2.1 = x.2.2.2.1 := by unfold pasta at hx; (repeat' split at hx) <;> first | (cases hx; done) | (cases hx; rfl)
theorem t_bal {x x' : pS} (hx : pbal x = some (.inl x')) : x'.2.2.2.1 = x.2.2.2.1 := by
  unfold pbal at hx
  split at hx
  · split at hx
    · split at hx
      · exact t_ald hx
      · split at hx
        · exact t_ald hx
        · cases hx
    · cases hx
  · cases hx
theorem t_bas {x x' : pS} (hx : pbas x = some (.inl x')) : x'.2.2.2.1 = x.2.2.2.1 := by
  unfold pbas at hx
  split at hx
  · split at hx
    · split at hx
      · exact t_ast hx
      · split at hx
        · exact t_ast hx
        · cases hx
    · cases hx
  · cases hx
theorem t_ial {x x' : pS} {L : Nat} {xs : Nat → Int32} (hx : pial L xs x = some (.inl x')) : x'.2.2.2.1 = x.2.2.2.1 := by
  unfold pial at hx
  split at hx
  · split at hx
    · cases hx; rfl
    · cases hx
  · exact t_ald hx
theorem t_aln {x x' : pS} {L : Nat} (hx : paln L x = some (.inl x')) : x'.2.2.2.1 = x.2.2.2.1 := by unfold paln pnx at hx; (repeat' split at hx) <;> first | (cases hx; done) | (cases hx; rfl)
theorem t_gf {x x' : pS} {rs : pQ} {idx : Nat} (hx : pgf rs idx x = some (.inl x')) : x'.2.2.2.1 = x.2.2.2.1 := by unfold pgf pnx at hx; (repeat' split at hx) <;> first | (cases hx; done) | (cases hx; rfl)
theorem t_pf {x x' : pS} {rs : pQ} {ow idx : Nat} {ini : Bool} (hx : ppf rs ow ini idx x = some (.inl x')) : x'.2.2.2.1 = x.2.2.2.1 := by
  unfold ppf at hx
  split at hx
  · split at hx
    · split at hx
      · split at hx
        · rename_i hf
          cases hx
          exact (psf_ok (B := 0) (fo := fun _ => 0) (cA := fun _ => 0) hf).1
        · cases hx
      · cases hx
    · cases hx
  · cases hx
theorem t_acp {x x' : pS} (hx : pacp x = some (.inl x')) : x'.2.2.2.1 = x.2.2.2.1 := by unfold pacp at hx; (repeat' split at hx) <;> first | (cases hx; done) | (cases hx; rfl)
theorem t_ldc {x x' : pS} {rs : pQ} {idx n : Nat} (hx : pldc rs idx x n = some (.inl x')) : x'.2.2.2.1 = x.2.2.2.1 := by unfold pldc pnx at hx; (repeat' split at hx) <;> first | (cases hx; done) | (cases hx; rfl)
theorem t_ldc2 {x x' : pS} {rs : pQ} {idx : Nat} (hx : pldc2 rs idx x = some (.inl x')) : x'.2.2.2.1 = x.2.2.2.1 := by unfold pldc2 pnx at hx; (repeat' split at hx) <;> first | (cases hx; done) | (cases hx; rfl)
theorem t_tsw {x x' : pS} {d lo hi : Int} {offs : Array Int} (hx : ptsw d lo hi offs x = some (.inl x')) : x'.2.2.2.1 = x.2.2.2.1 := by
  unfold ptsw at hx
  split at hx
  · split at hx
    · exact t_go hx
    · split at hx
      · exact t_go hx
      · cases hx
  · cases hx
theorem t_lsw {x x' : pS} {d : Int} {ps : Array (Int × Int)} (hx : plsw d ps x = some (.inl x')) : x'.2.2.2.1 = x.2.2.2.1 := by
  unfold plsw at hx
  split at hx
  · split at hx
    · exact t_go hx
    · cases hx
  · cases hx
/-- how the heap may have grown -/
def pgr (env : pV) (x x' : pS) : Prop := x'.2.2.2.1 = x.2.2.2.1 ∨ (∃ q, x'.2.2.2.1 = x.2.2.2.1 ++ [q]) ∨ ∃ id av v, env id av x.2.2.2 = some (v, x'.2.2.2)
theorem t_nw {x x' : pS} {q : Nat × Nat} {n : Nat} {r : List Value} {env : pV} (hx : pnw q x n r = some (.inl x')) : pgr env x x' := by
  unfold pnw at hx; cases hx; exact Or.inr (Or.inl ⟨q, rfl⟩)
theorem t_cal {x x' : pS} {id : Nat} {av r : List Value} {env : pV} (hx : pcal env id av r x = some (.inl x')) : pgr env x x' := by
  obtain ⟨-, v, h', he, rfl⟩ := pcal_spec hx
  exact Or.inr (Or.inr ⟨id, av, v, he⟩)
theorem t_new {x x' : pS} {rs : pQ} {idx : Nat} {env : pV} (hx : pnew rs idx x = some (.inl x')) : pgr env x x' := by
  unfold pnew at hx
  split at hx
  · exact t_nw hx
  · cases hx
theorem t_na {x x' : pS} {ty : ArrayType} {env : pV} (hx : pna ty x = some (.inl x')) : pgr env x x' := by
  unfold pna at hx
  split at hx
  · split at hx
    · cases hx
    · split at hx <;> first | exact t_nw hx | cases hx
  · cases hx
theorem t_ana {x x' : pS} {rs : pQ} {idx : Nat} {env : pV} (hx : pana rs idx x = some (.inl x')) : pgr env x x' := by
  unfold pana at hx
  split at hx
  · split at hx
    · cases hx
    · split at hx
      · exact t_nw hx
      · split at hx
        · exact t_nw hx
        · cases hx
  · cases hx
theorem t_ivv {x x' : pS} {rs : pQ} {idx : Nat} {env : pV} {mC : Nat → Nat} (hx : pivv env mC rs idx x = some (.inl x')) : pgr env x x' := by
  unfold pivv at hx
  split at hx
  · split at hx
    · split at hx
      · split at hx
        · exact t_cal hx
        · cases hx
      · cases hx
    · cases hx
  · split at hx
    · split at hx
      · exact t_cal hx
      · cases hx
    · cases hx
  · cases hx
theorem t_ivs {x x' : pS} {rs : pQ} {idx : Nat} {env : pV} (hx : pivs env rs idx x = some (.inl x')) : pgr env x x' := by
  unfold pivs at hx
  split at hx
  · split at hx
    · exact t_cal hx
    · cases hx
  · exact Or.inl (t_acp hx)
  · cases hx
theorem t_ivi {x x' : pS} {rs : pQ} {idx : Nat} {env : pV} (hx : pivi env rs idx x = some (.inl x')) : pgr env x x' := by
  unfold pivi at hx
  split at hx
  · split at hx
    · exact t_cal hx
    · cases hx
  · split at hx
    · split at hx
      · cases hx; exact Or.inl rfl
      · cases hx
    · cases hx
  · cases hx
theorem stp_gr {env : pV} {mC : Nat → Nat} {rs : pQ} {ow nL L : Nat} {ini : Bool} {ret : Option FieldType} {xs : Nat → Int32} {i : Instr} {x x' : pS} (hx : stp env mC rs ow ini nL ret L xs i x = some (.inl x')) : pgr env x x' := by
  unfold stp at hx
  split at hx
  all_goals first
    | exact Or.inl (t_b2 hx) | exact Or.inl (t_l2 hx) | exact Or.inl (t_ls hx) | exact Or.inl (t_i1 hx) | exact Or.inl (t_dv hx) | exact Or.inl (t_dvl hx) | exact Or.inl (t_if1 hx) | exact Or.inl (t_if2 hx) | exact Or.inl (t_go hx)
    | exact Or.inl (t_ldi hx) | exact Or.inl (t_ldl hx) | exact Or.inl (t_lda hx) | exact Or.inl (t_sti hx) | exact Or.inl (t_stl hx) | exact Or.inl (t_sta hx)
    | exact Or.inl (t_bal hx) | exact Or.inl (t_bas hx) | exact Or.inl (t_ial hx) | exact Or.inl (t_aldl hx) | exact Or.inl (t_alda hx) | exact Or.inl (t_ast hx) | exact Or.inl (t_astl hx) | exact Or.inl (t_asta hx) | exact Or.inl (t_aln hx)
    | exact Or.inl (t_gf hx) | exact Or.inl (t_pf hx) | exact Or.inl (t_ldc hx) | exact Or.inl (t_ldc2 hx) | exact Or.inl (t_tsw hx) | exact Or.inl (t_lsw hx)
    | exact t_new hx | exact t_na hx | exact t_ana hx | exact t_ivv hx | exact t_ivs hx | exact t_ivi hx
    | exact (pret_no hx).elim
    | (unfold pnx at hx; cases hx; exact Or.inl rfl)
    | (unfold pnx at hx; (repeat' split at hx) <;> first | (cases hx; done) | (cases hx; exact Or.inl rfl))
    | ((repeat' split at hx) <;> first | (cases hx; done) | (cases hx; exact Or.inl rfl))
    | (split at hx
       · first | exact Or.inl (t_go hx) | (cases hx; exact Or.inl rfl)
       · first | exact Or.inl (t_go hx) | (cases hx; exact Or.inl rfl)
       · cases hx)
theorem pgr_le {env : pV} {x x' : pS} (hm : ∀ id av h r, env id av h = some r → h.1.length ≤ r.2.1.length ∧ psz h ≤ psz r.2) (h : pgr env x x') : x.2.2.2.1.length ≤ x'.2.2.2.1.length ∧ psz x.2.2.2 ≤ psz x'.2.2.2 := by
  rcases h with h | ⟨q, h⟩ | ⟨id, av, v, h⟩
  · unfold psz; rw [h]; exact ⟨Nat.le_refl _, Nat.le_refl _⟩
  · unfold psz; rw [h]; simp
  · exact hm _ _ _ _ h
