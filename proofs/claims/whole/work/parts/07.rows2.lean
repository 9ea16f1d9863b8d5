/-! rows of the heap and of calls -/
theorem u2_eq {f : Nat → Nat → Int32} {k j : Nat} {x : Int32} : u2 f k j x k = upd (f k) j x := by funext i; simp [u2, upd]
theorem u2_eqL {f : Nat → Nat → Int64} {k j : Nat} {x : Int64} : u2 f k j x k = vp_updL (f k) j x := by funext i; simp [u2, vp_updL]
theorem z2_eq {α : Type} {f : Nat → Nat → α} {k : Nat} {x : α} : z2 f k x k = fun _ => x := by funext i; simp [z2]
theorem c2_eq {α : Type} {f : Nat → Nat → α} {k0 k sp dp n : Nat} : c2 f k0 k sp dp n k = va_cpy (f k0) (f k) sp dp n := by funext i; simp [c2]
theorem pval_cv {B : Nat} {fo fo' : Nat → Nat} {h : pH} {a j : Nat} {ty : FieldType} : pcv B fo (pval h a j ty) = pcv B fo' (pval h a j ty) := by
  unfold pval
  split <;> first | rfl | (unfold prv; split <;> rfl)
def pokt (ty : FieldType) : Bool := match ty with
  | .int => true
  | .boolean => true
  | .long => true
  | .object _ => true
  | .array _ => true
  | _ => false
theorem pokt_all : ∀ c, c < 13 → ∀ j, j < cZ c → pokt (cty c j) = true := by decide +kernel
section PS2
variable {p : Program} {l : Launch} {e : Env} {R : Room} {s : State} {m : MethodId} {args : Array Value} {below : List Frame} {meth : Method} {c : Code} {Q : State → Prop}
variable {B : Nat} {fo adV : Nat → Nat} {L : Nat} {xs : Nat → Int32} {D : va_G} {cA : Nat → ClassId} {cc : ByteArray} {nL n0 z0 nF zF ow : Nat}
theorem s_iald {x x' : pS} (C : pC p R s m args c cc nL ow B fo adV L xs D cA n0 z0 nF zF) (hd : decode cc x.1 = .ok (.iaload, 1)) (hx : pald 0 x = some (.inl x')) (k : pW p l e R s m args below meth c nL B fo D cA n0 z0 Q x') : pW p l e R s m args below meth c nL B fo D cA n0 z0 Q x := by
  obtain ⟨hxx, hb, -, -, -, ⟨hK, -⟩, -⟩ := C
  obtain ⟨pc, lo, st, h⟩ := x
  unfold pald at hx; dsimp only at hx
  split at hx
  · split at hx
    · rename_i hT
      split at hx
      · rename_i hk; subst hk
        split at hx
        · rename_i hin
          simp only [pnx, Option.some.injEq, Sum.inl.injEq] at hx; subst hx
          exact fun H locs ls hP hS hl => va_iald hxx hb hK hP _ 0 (pws_get hT) rfl (pin_in hin) hd (k H locs ls hP hS hl)
        · cases hx
      · cases hx
    · cases hx
  · cases hx
theorem s_bald {x x' : pS} (C : pC p R s m args c cc nL ow B fo adV L xs D cA n0 z0 nF zF) (hd : decode cc x.1 = .ok (.baload, 1)) (hx : pald 2 x = some (.inl x')) (k : pW p l e R s m args below meth c nL B fo D cA n0 z0 Q x') : pW p l e R s m args below meth c nL B fo D cA n0 z0 Q x := by
  obtain ⟨hxx, hb, -, -, -, ⟨hK, -⟩, -⟩ := C
  obtain ⟨pc, lo, st, h⟩ := x
  unfold pald at hx; dsimp only at hx
  split at hx
  · split at hx
    · rename_i hT
      split at hx
      · rename_i hk; subst hk
        split at hx
        · rename_i hin
          simp only [pnx, Option.some.injEq, Sum.inl.injEq] at hx; subst hx
          exact fun H locs ls hP hS hl => va_bald hxx hb hK hP _ 2 (pws_get hT) rfl (pin_in hin) hd (k H locs ls hP hS hl)
        · cases hx
      · cases hx
    · cases hx
  · cases hx
theorem s_zald {x x' : pS} (C : pC p R s m args c cc nL ow B fo adV L xs D cA n0 z0 nF zF) (hd : decode cc x.1 = .ok (.baload, 1)) (hx : pald 3 x = some (.inl x')) (k : pW p l e R s m args below meth c nL B fo D cA n0 z0 Q x') : pW p l e R s m args below meth c nL B fo D cA n0 z0 Q x := by
  obtain ⟨hxx, hb, -, -, -, ⟨hK, -⟩, -⟩ := C
  obtain ⟨pc, lo, st, h⟩ := x
  unfold pald at hx; dsimp only at hx
  split at hx
  · split at hx
    · rename_i hT
      split at hx
      · rename_i hk; subst hk
        split at hx
        · rename_i hin
          simp only [pnx, Option.some.injEq, Sum.inl.injEq] at hx; subst hx
          exact fun H locs ls hP hS hl => va_zald hxx hb hK hP _ 3 (pws_get hT) rfl (pin_in hin) hd (k H locs ls hP hS hl)
        · cases hx
      · cases hx
    · cases hx
  · cases hx
theorem s_bal {x x' : pS} (C : pC p R s m args c cc nL ow B fo adV L xs D cA n0 z0 nF zF) (hd : decode cc x.1 = .ok (.baload, 1)) (hx : pbal x = some (.inl x')) (k : pW p l e R s m args below meth c nL B fo D cA n0 z0 Q x') : pW p l e R s m args below meth c nL B fo D cA n0 z0 Q x := by
  unfold pbal at hx
  split at hx
  · split at hx
    · split at hx
      · exact s_bald C hd hx k
      · split at hx
        · exact s_zald C hd hx k
        · cases hx
    · cases hx
  · cases hx
theorem s_lald {x x' : pS} (C : pC p R s m args c cc nL ow B fo adV L xs D cA n0 z0 nF zF) (hd : decode cc x.1 = .ok (.laload, 1)) (hx : paldl x = some (.inl x')) (k : pW p l e R s m args below meth c nL B fo D cA n0 z0 Q x') : pW p l e R s m args below meth c nL B fo D cA n0 z0 Q x := by
  obtain ⟨hxx, hb, -, -, -, ⟨hK, -⟩, -⟩ := C
  obtain ⟨pc, lo, st, h⟩ := x
  unfold paldl at hx; dsimp only at hx
  split at hx
  · split at hx
    · rename_i hT
      split at hx
      · rename_i hk; subst hk
        split at hx
        · rename_i hin
          simp only [pnx, Option.some.injEq, Sum.inl.injEq] at hx; subst hx
          exact fun H locs ls hP hS hl => va_lald hxx hb hK hP _ 1 (pws_get hT) rfl (pin_in hin) hd (k H locs ls hP hS hl)
        · cases hx
      · cases hx
    · cases hx
  · cases hx
theorem prv_cv {r : Option Nat} : pcv B fo (prv r) = va_rf (r.map (fun a => B + a)) := by cases r <;> rfl
theorem s_aald {x x' : pS} (C : pC p R s m args c cc nL ow B fo adV L xs D cA n0 z0 nF zF) (hd : decode cc x.1 = .ok (.aaload, 1)) (hx : palda x = some (.inl x')) (k : pW p l e R s m args below meth c nL B fo D cA n0 z0 Q x') : pW p l e R s m args below meth c nL B fo D cA n0 z0 Q x := by
  obtain ⟨hxx, hb, -, -, -, ⟨hK, -⟩, -⟩ := C
  obtain ⟨pc, lo, st, h⟩ := x
  unfold palda at hx; dsimp only at hx
  split at hx
  · split at hx
    · rename_i hT
      split at hx
      · rename_i hk
        split at hx
        · rename_i hin
          simp only [pnx, Option.some.injEq, Sum.inl.injEq] at hx; subst hx
          intro H locs ls hP hS hl
          have k' := k H locs ls hP hS hl
          dsimp only at k'
          rw [List.map_cons, prv_cv] at k'
          rcases hk with rfl | rfl
          · exact va_aldq hxx hb hK hP _ 4 (pws_get hT) rfl (pin_in hin) hd k'
          · exact va_aldq hxx hb hK hP _ 5 (pws_get hT) rfl (pin_in hin) hd k'
        · cases hx
      · cases hx
    · cases hx
  · cases hx
theorem s_sld {x x' : pS} (C : pC p R s m args c cc nL ow B fo adV L xs D cA n0 z0 nF zF) (hd : decode cc x.1 = .ok (.iaload, 1)) (hx : pial L xs x = some (.inl x')) (k : pW p l e R s m args below meth c nL B fo D cA n0 z0 Q x') : pW p l e R s m args below meth c nL B fo D cA n0 z0 Q x := by
  unfold pial at hx
  split at hx
  · rename_i hst
    split at hx
    · rename_i hin
      obtain ⟨hxx, hb, -, -, -, ⟨hK, -, -, -, -, hX, hlt, -⟩, -⟩ := C
      obtain ⟨pc, lo, st, h⟩ := x
      dsimp only at hst
      subst hst
      simp only [pnx, Option.some.injEq, Sum.inl.injEq] at hx; subst hx
      have hbs : fo 0 < s.heap.size := by
        obtain ⟨scr, e, -⟩ := hX
        exact (Array.getElem?_eq_some_iff.mp e).1
      exact fun H locs ls hP hS hl => va_sld hxx hb hX hbs (Nat.not_le.mpr hlt) hS (pin_in hin) hd (k H locs ls hP hS hl)
    · cases hx
  · exact s_iald C hd hx k
theorem s_aln {x x' : pS} (C : pC p R s m args c cc nL ow B fo adV L xs D cA n0 z0 nF zF) (hd : decode cc x.1 = .ok (.arraylength, 1)) (hx : paln L x = some (.inl x')) (k : pW p l e R s m args below meth c nL B fo D cA n0 z0 Q x') : pW p l e R s m args below meth c nL B fo D cA n0 z0 Q x := by
  obtain ⟨hxx, hb, -, -, -, ⟨hK, -, -, -, -, hX, hlt, -⟩, -⟩ := C
  obtain ⟨pc, lo, st, h⟩ := x
  unfold paln at hx; dsimp only at hx
  split at hx
  · simp only [pnx, Option.some.injEq, Sum.inl.injEq] at hx; subst hx
    have hbs : fo 0 < s.heap.size := by
      obtain ⟨scr, e, -⟩ := hX
      exact (Array.getElem?_eq_some_iff.mp e).1
    exact fun H locs ls hP hS hl => va_slen hxx hb hX hbs (Nat.not_le.mpr hlt) hS hd (k H locs ls hP hS hl)
  · split at hx
    · rename_i kk n hT
      split at hx
      · rename_i hk
        simp only [pnx, Option.some.injEq, Sum.inl.injEq] at hx; subst hx
        intro H locs ls hP hS hl
        have k' := k H locs ls hP hS hl
        rcases (show kk = 0 ∨ kk = 1 ∨ kk = 2 ∨ kk = 3 ∨ kk = 4 ∨ kk = 5 by omega) with rfl | rfl | rfl | rfl | rfl | rfl
        · exact va_alen hxx hb hK hP _ 0 (pws_get hT) rfl rfl hd k'
        · exact va_alen hxx hb hK hP _ 1 (pws_get hT) rfl rfl hd k'
        · exact va_alen hxx hb hK hP _ 2 (pws_get hT) rfl rfl hd k'
        · exact va_alen hxx hb hK hP _ 3 (pws_get hT) rfl rfl hd k'
        · exact va_alen hxx hb hK hP _ 4 (pws_get hT) rfl rfl hd k'
        · exact va_alen hxx hb hK hP _ 5 (pws_get hT) rfl rfl hd k'
      · cases hx
    · cases hx
  · cases hx
theorem pset_I {h : pH} {a i n : Nat} {kd : Nat} {v : Int32} (hT : h.1[a]? = some (kd, n)) : (pws B cA h).set a (B + a, pce B cA (h.1, u2 h.2.1 a i v, h.2.2) a (kd, n)) = pws B cA (h.1, u2 h.2.1 a i v, h.2.2) :=
  pws_set rfl hT (fun j r hj => pce_cong r (u2_ne hj) rfl rfl)
theorem pset_L {h : pH} {a i n : Nat} {kd : Nat} {v : Int64} (hT : h.1[a]? = some (kd, n)) : (pws B cA h).set a (B + a, pce B cA (h.1, h.2.1, u2 h.2.2.1 a i v, h.2.2.2) a (kd, n)) = pws B cA (h.1, h.2.1, u2 h.2.2.1 a i v, h.2.2.2) :=
  pws_set rfl hT (fun j r hj => pce_cong r rfl (u2_ne hj) rfl)
theorem pset_R {h : pH} {a i n : Nat} {kd : Nat} {v : Option Nat} (hT : h.1[a]? = some (kd, n)) : (pws B cA h).set a (B + a, pce B cA (h.1, h.2.1, h.2.2.1, u2 h.2.2.2 a i v) a (kd, n)) = pws B cA (h.1, h.2.1, h.2.2.1, u2 h.2.2.2 a i v) :=
  pws_set rfl hT (fun j r hj => pce_cong r rfl rfl (u2_ne hj))
theorem s_iast {x x' : pS} (C : pC p R s m args c cc nL ow B fo adV L xs D cA n0 z0 nF zF) (hd : decode cc x.1 = .ok (.iastore, 1)) (hx : past 0 (fun v => v) x = some (.inl x')) (k : pW p l e R s m args below meth c nL B fo D cA n0 z0 Q x') : pW p l e R s m args below meth c nL B fo D cA n0 z0 Q x := by
  obtain ⟨hxx, hb, -, -, -, ⟨hK, -⟩, -⟩ := C
  obtain ⟨pc, lo, st, h⟩ := x
  unfold past at hx; dsimp only at hx
  split at hx
  · rename_i v i a r
    split at hx
    · rename_i hT
      split at hx
      · rename_i hk; subst hk
        split at hx
        · rename_i hin
          simp only [Option.some.injEq, Sum.inl.injEq] at hx; subst hx
          intro H locs ls hP hS hl
          refine va_iast hxx hb hK hP pws_D hS _ 0 (pws_get hT) rfl (pin_in hin) hd fun H1 locs1 hP1 hD1 hS1 => ?_
          refine k H1 locs1 ls ?_ hS1 hl
          rw [← pset_I hT, pce]
          dsimp only
          rw [u2_eq]
          exact hP1
        · cases hx
      · cases hx
    · cases hx
  · cases hx
theorem s_bast {x x' : pS} (C : pC p R s m args c cc nL ow B fo adV L xs D cA n0 z0 nF zF) (hd : decode cc x.1 = .ok (.bastore, 1)) (hx : past 2 (vp_nar .byte) x = some (.inl x')) (k : pW p l e R s m args below meth c nL B fo D cA n0 z0 Q x') : pW p l e R s m args below meth c nL B fo D cA n0 z0 Q x := by
  obtain ⟨hxx, hb, -, -, -, ⟨hK, -⟩, -⟩ := C
  obtain ⟨pc, lo, st, h⟩ := x
  unfold past at hx; dsimp only at hx
  split at hx
  · rename_i v i a r
    split at hx
    · rename_i hT
      split at hx
      · rename_i hk; subst hk
        split at hx
        · rename_i hin
          simp only [Option.some.injEq, Sum.inl.injEq] at hx; subst hx
          intro H locs ls hP hS hl
          refine va_bast hxx hb hK hP pws_D hS _ 2 (pws_get hT) rfl (pin_in hin) hd fun H1 locs1 hP1 hD1 hS1 => ?_
          refine k H1 locs1 ls ?_ hS1 hl
          rw [← pset_I hT, pce]
          dsimp only
          rw [u2_eq]
          exact hP1
        · cases hx
      · cases hx
    · cases hx
  · cases hx
theorem s_zast {x x' : pS} (C : pC p R s m args c cc nL ow B fo adV L xs D cA n0 z0 nF zF) (hd : decode cc x.1 = .ok (.bastore, 1)) (hx : past 3 (vp_nar .boolean) x = some (.inl x')) (k : pW p l e R s m args below meth c nL B fo D cA n0 z0 Q x') : pW p l e R s m args below meth c nL B fo D cA n0 z0 Q x := by
  obtain ⟨hxx, hb, -, -, -, ⟨hK, -⟩, -⟩ := C
  obtain ⟨pc, lo, st, h⟩ := x
  unfold past at hx; dsimp only at hx
  split at hx
  · rename_i v i a r
    split at hx
    · rename_i hT
      split at hx
      · rename_i hk; subst hk
        split at hx
        · rename_i hin
          simp only [Option.some.injEq, Sum.inl.injEq] at hx; subst hx
          intro H locs ls hP hS hl
          refine va_zast hxx hb hK hP pws_D hS _ 3 (pws_get hT) rfl (pin_in hin) hd fun H1 locs1 hP1 hD1 hS1 => ?_
          refine k H1 locs1 ls ?_ hS1 hl
          rw [← pset_I hT, pce]
          dsimp only
          rw [u2_eq]
          exact hP1
        · cases hx
      · cases hx
    · cases hx
  · cases hx
theorem s_bas {x x' : pS} (C : pC p R s m args c cc nL ow B fo adV L xs D cA n0 z0 nF zF) (hd : decode cc x.1 = .ok (.bastore, 1)) (hx : pbas x = some (.inl x')) (k : pW p l e R s m args below meth c nL B fo D cA n0 z0 Q x') : pW p l e R s m args below meth c nL B fo D cA n0 z0 Q x := by
  unfold pbas at hx
  split at hx
  · split at hx
    · split at hx
      · exact s_bast C hd hx k
      · split at hx
        · exact s_zast C hd hx k
        · cases hx
    · cases hx
  · cases hx
theorem s_last {x x' : pS} (C : pC p R s m args c cc nL ow B fo adV L xs D cA n0 z0 nF zF) (hd : decode cc x.1 = .ok (.lastore, 1)) (hx : pastl x = some (.inl x')) (k : pW p l e R s m args below meth c nL B fo D cA n0 z0 Q x') : pW p l e R s m args below meth c nL B fo D cA n0 z0 Q x := by
  obtain ⟨hxx, hb, -, -, -, ⟨hK, -⟩, -⟩ := C
  obtain ⟨pc, lo, st, h⟩ := x
  unfold pastl at hx; dsimp only at hx
  split at hx
  · rename_i v i a r
    split at hx
    · rename_i hT
      split at hx
      · rename_i hk; subst hk
        split at hx
        · rename_i hin
          simp only [Option.some.injEq, Sum.inl.injEq] at hx; subst hx
          intro H locs ls hP hS hl
          refine va_last hxx hb hK hP pws_D hS _ 1 (pws_get hT) rfl (pin_in hin) hd fun H1 locs1 hP1 hD1 hS1 => ?_
          refine k H1 locs1 ls ?_ hS1 hl
          rw [← pset_L hT, pce]
          dsimp only
          rw [u2_eqL]
          exact hP1
        · cases hx
      · cases hx
    · cases hx
  · cases hx
theorem u2_eqR {f : Nat → Nat → Option Nat} {k j v : Nat} : (fun i => (u2 f k j (some v) k i).map (fun a => B + a)) = va_up (fun i => (f k i).map (fun a => B + a)) j (some (B + v)) := by
  funext i
  by_cases hi : i = j
  · subst hi; simp [u2, va_up]
  · simp [u2, va_up, hi]
theorem s_aast {x x' : pS} (C : pC p R s m args c cc nL ow B fo adV L xs D cA n0 z0 nF zF) (hd : decode cc x.1 = .ok (.aastore, 1)) (hx : pasta x = some (.inl x')) (k : pW p l e R s m args below meth c nL B fo D cA n0 z0 Q x') : pW p l e R s m args below meth c nL B fo D cA n0 z0 Q x := by
  obtain ⟨hxx, hb, -, -, -, ⟨hK, -⟩, -⟩ := C
  obtain ⟨pc, lo, st, h⟩ := x
  unfold pasta at hx; dsimp only at hx
  split at hx
  · rename_i v i a r
    split at hx
    · rename_i hT hT2
      split at hx
      · rename_i hk
        split at hx
        · rename_i hin
          simp only [Option.some.injEq, Sum.inl.injEq] at hx; subst hx
          intro H locs ls hP hS hl
          rcases hk with ⟨rfl, rfl⟩ | ⟨rfl, rfl⟩
          · refine va_astq hxx hb hK hP pws_D hS _ 4 _ 4 (pws_get hT) rfl (pws_get hT2) rfl (pin_in hin) hd fun H1 locs1 hP1 hD1 hS1 => ?_
            refine k H1 locs1 ls ?_ hS1 hl
            rw [← pset_R hT, pce]
            dsimp only
            rw [u2_eqR]
            exact hP1
          · refine va_astq hxx hb hK hP pws_D hS _ 5 _ 9 (pws_get hT) rfl (pws_get hT2) rfl (pin_in hin) hd fun H1 locs1 hP1 hD1 hS1 => ?_
            refine k H1 locs1 ls ?_ hS1 hl
            rw [← pset_R hT, pce]
            dsimp only
            rw [u2_eqR]
            exact hP1
        · cases hx
      · cases hx
    · cases hx
  · cases hx
end PS2
