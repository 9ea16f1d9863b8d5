/-! rows of fields, of new cells, of arraycopy -/
section PS3
variable {p : Program} {l : Launch} {e : Env} {R : Room} {s : State} {m : MethodId} {args : Array Value} {below : List Frame} {meth : Method} {c : Code} {Q : State → Prop}
variable {B : Nat} {fo adV : Nat → Nat} {L : Nat} {xs : Nat → Int32} {D : va_G} {cA : Nat → ClassId} {cc : ByteArray} {nL n0 z0 nF zF ow : Nat} {M : pMT} {rs : pQ}
theorem s_gf {idx : Nat} {x x' : pS} (C : pC p R s m args c cc nL ow B fo adV L xs D cA n0 z0 nF zF) (hrs : ∀ idx r, rs idx = some r → RsOK M ow idx r) (hd : decode cc x.1 = .ok (.getfield idx, 3)) (hx : pgf rs idx x = some (.inl x')) (k : pW p l e R s m args below meth c nL B fo D cA n0 z0 Q x') : pW p l e R s m args below meth c nL B fo D cA n0 z0 Q x := by
  obtain ⟨hxx, hb, -, hown, hts, ⟨hK, -⟩, -⟩ := C
  obtain ⟨pc, lo, st, h⟩ := x
  unfold pgf at hx; dsimp only at hx
  split at hx
  · rename_i cn j a r hr
    split at hx
    · rename_i kk n hT
      split at hx
      · rename_i hk
        obtain ⟨rfl, rfl⟩ := hk
        simp only [pnx, Option.some.injEq, Sum.inl.injEq] at hx; subst hx
        obtain ⟨hc, hj, hlink⟩ := hrs _ _ hr
        intro H locs ls hP hS hl
        have k' := k H locs ls hP hS hl
        dsimp only at k'
        rw [List.map_cons, pval_cv (fo' := fun _ => 0)] at k'
        refine va_get (Ts := wsU) (C := cN cn) (T := cT cn) (N := cZ cn) (ci := cn) (ref := cN cn) hxx hb hts (iwC cn hc) hown hK hP a (pws_get hT) (cls_at cn hc) j.toNat hj (hts _ hlink) (by rw [dcC cn hc _ hj]; exact fun _ q => q) (v := pcv B (fun _ => 0) (pval h a j.toNat (cty cn j.toNat))) ?_ hd k'
        rw [List.getElem?_map, List.getElem?_range hj]; rfl
      · cases hx
    · cases hx
  · cases hx
theorem psf_fields {h h' : pH} {a j n c0 : Nat} {v : Value} (hf : psf h a j (cty c0 j) v = some h') (hj : j < n) : ((List.range n).map (fun i => pcv B (fun _ => 0) (pval h a i (cty c0 i)))).set j (pcv B fo v) = (List.range n).map (fun i => pcv B (fun _ => 0) (pval h' a i (cty c0 i))) := by
  apply List.ext_getElem?
  intro i
  rw [List.getElem?_set]
  by_cases hi : j = i
  · subst hi
    rw [if_pos rfl, if_pos (by simpa using hj), List.getElem?_map, List.getElem?_range hj]
    unfold psf at hf
    split at hf
    all_goals first
      | (rename_i hty; cases hf; simp only [Option.map_some, hty, pval]; simp [u2, pcv, prv]; done)
      | (rename_i hty; split at hf
         · cases hf; simp only [Option.map_some, hty, pval]; simp [u2, pcv, prv]; done
         · cases hf)
      | cases hf
  · rw [if_neg hi, List.getElem?_map, List.getElem?_map]
    have e : ∀ ty, pval h' a i ty = pval h a i ty := by
      intro ty
      unfold psf at hf
      split at hf
      all_goals first
        | (cases hf; unfold pval; simp [u2, Ne.symm hi]; done)
        | (split at hf
           · cases hf; unfold pval; simp [u2, Ne.symm hi]; done
           · cases hf)
        | cases hf
    by_cases hi2 : i < n
    · rw [List.getElem?_range hi2]; simp only [Option.map_some]; rw [e]
    · rw [List.getElem?_eq_none (by simpa using hi2)]; rfl
theorem psf_ok {h h' : pH} {a j : Nat} {ty : FieldType} {v : Value} (hf : psf h a j ty v = some h') : h'.1 = h.1 ∧ narrow ty (pcv B fo v) = pcv B fo v ∧ fits ty (pcv B fo v) = true ∧ ∀ i r, i ≠ a → pce B cA h' i r = pce B cA h i r := by
  unfold psf at hf
  split at hf
  · cases hf; exact ⟨rfl, rfl, rfl, fun i r hi => pce_cong r (u2_ne hi) rfl rfl⟩
  · split at hf
    · rename_i hz
      cases hf
      refine ⟨rfl, ?_, ?_, fun i r hi => pce_cong r (u2_ne hi) rfl rfl⟩
      · rcases hz with rfl | rfl <;> rfl
      · rcases hz with rfl | rfl <;> rfl
    · cases hf
  · cases hf; exact ⟨rfl, rfl, rfl, fun i r hi => pce_cong r rfl (u2_ne hi) rfl⟩
  · cases hf; exact ⟨rfl, rfl, rfl, fun i r hi => pce_cong r rfl rfl (u2_ne hi)⟩
  · cases hf; exact ⟨rfl, rfl, rfl, fun i r hi => pce_cong r rfl rfl (u2_ne hi)⟩
  · cases hf; exact ⟨rfl, rfl, rfl, fun i r hi => pce_cong r rfl rfl (u2_ne hi)⟩
  · cases hf
theorem s_pf {idx : Nat} {ini : Bool} {x x' : pS} (C : pC p R s m args c cc nL ow B fo adV L xs D cA n0 z0 nF zF) (hini : ini = true → meth.name = "<init>") (hrs : ∀ idx r, rs idx = some r → RsOK M ow idx r) (hd : decode cc x.1 = .ok (.putfield idx, 3)) (hx : ppf rs ow ini idx x = some (.inl x')) (k : pW p l e R s m args below meth c nL B fo D cA n0 z0 Q x') : pW p l e R s m args below meth c nL B fo D cA n0 z0 Q x := by
  obtain ⟨hxx, hb, -, hown, hts, ⟨hK, -⟩, -⟩ := C
  obtain ⟨pc, lo, st, h⟩ := x
  unfold ppf at hx; dsimp only at hx
  split at hx
  · rename_i cn j v a r hr
    split at hx
    · rename_i kk n hT
      split at hx
      · rename_i hk
        obtain ⟨rfl, rfl, hfin⟩ := hk
        split at hx
        · rename_i h' hf
          simp only [Option.some.injEq, Sum.inl.injEq] at hx; subst hx
          obtain ⟨hc, hj, hlink⟩ := hrs _ _ hr
          obtain ⟨f1, f2, f3, f4⟩ := psf_ok (B := B) (fo := fo) (cA := cA) hf
          intro H locs ls hP hS hl
          have kk : ∀ (H1 : Heap) (locs1 : List Loc), va_P D cls ((pws B cA h).set a (B + a, .inr (cn, ((List.range (cZ cn)).map (fun i => pcv B (fun _ => 0) (pval h a i (cty cn i)))).set j.toNat (pcv B fo v)))) H1 → va_D (fun q => B ≤ q) ((pws B cA h).set a (B + a, .inr (cn, ((List.range (cZ cn)).map (fun i => pcv B (fun _ => 0) (pval h a i (cty cn i)))).set j.toNat (pcv B fo v)))) → va_S (fun q => B ≤ q) s.heap H1 locs1 → W p l e R s m args below meth c H1 locs1 (h.1.length - n0) (psz h - z0) Q (F0 m (pc + 3) ls (r.map (pcv B fo))) := by
            intro H1 locs1 hP1 hD1 hS1
            have k' := k H1 locs1 ls (by
              have e := pws_set (B := B) (cA := cA) f1 hT f4
              show va_P D cls (pws B cA h') H1
              rw [← e, pce]
              dsimp only
              rw [← psf_fields (B := B) (fo := fo) hf hj]
              exact hP1) hS1 hl
            dsimp only at k'
            rw [psz, f1] at k'
            exact k'
          have hlen : j.toNat < ((List.range (cZ cn)).map (fun i => pcv B (fun _ => 0) (pval h a i (cty cn i)))).length := by simpa using hj
          by_cases hff : (cT cn j.toNat).2.2.2 = false
          · exact va_put (Ts := wsU) (C := cN cn) (T := cT cn) (N := cZ cn) (ci := cn) (ref := cN cn) hxx hb hts (iwC cn hc) (cty cn) (tyC cn hc) (nmC cn hc) hown hK hP pws_D hS a (pws_get hT) (cls_at cn hc) j.toNat hj (hts _ hlink) (by rw [dcC cn hc _ hj]; exact fun _ q => q) hff (tyC cn hc _ hj) f2 f3 hlen hd kk
          · obtain ⟨hi1, hi2⟩ := hfin.resolve_left hff
            exact va_putF (Ts := wsU) (C := cN cn) (T := cT cn) (N := cZ cn) (ci := cn) (ref := cN cn) hxx hb hts (iwC cn hc) (cty cn) (tyC cn hc) (nmC cn hc) hown hK hP pws_D hS a (pws_get hT) (cls_at cn hc) j.toNat hj (hts _ hlink) (by rw [dcC cn hc _ hj]; exact fun _ q => q) (by simpa using hff) (hini hi1) (by rw [dcC cn hc _ hj, hi2]) (tyC cn hc _ hj) f2 f3 hlen hd kk
        · cases hx
      · cases hx
    · cases hx
  · cases hx
/-- the new cell's address -/
theorem p_addr {h : pH} {q : Nat} {e1 : va_E} {H1 : Heap} (hP1 : va_P D cls (pws B cA h ++ [(q, e1)]) H1) (hD1 : va_D (fun q => B ≤ q) (pws B cA h ++ [(q, e1)])) (h0 : s.heap.size = B + n0) (hn : n0 ≤ h.1.length) (hb : H1.size ≤ s.heap.size + (h.1.length - n0 + 1)) : q = B + h.1.length := by
  have hlen : (pws B cA h).length = h.1.length := by unfold pws; rw [List.length_mapIdx]
  have hq : (pws B cA h ++ [(q, e1)])[h.1.length]? = some (q, e1) := by
    rw [List.getElem?_append_right (by omega), hlen, Nat.sub_self]; rfl
  have h1 := (hP1 _ _ hq).lt
  have h2 : B ≤ q := hD1.2 _ _ hq
  dsimp only at h1
  by_cases hlt : q - B < h.1.length
  · have h3 : (pws B cA h ++ [(q, e1)])[q - B]? = some (B + (q - B), pce B cA h (q - B) h.1[q - B]) := by
      rw [List.getElem?_append_left (by omega)]
      exact pws_get (List.getElem?_eq_getElem hlt)
    have := hD1.1 _ _ _ _ h3 hq (by dsimp only; omega)
    omega
  · omega
theorem pce_old {h : pH} {j : Nat} {r : Nat × Nat} {q : Nat × Nat} (hj : j < h.1.length) : pce B cA (h.1 ++ [q], z2 h.2.1 h.1.length 0, z2 h.2.2.1 h.1.length 0, z2 h.2.2.2 h.1.length none) j r = pce B cA h j r :=
  pce_cong r (z2_ne (by omega)) (z2_ne (by omega)) (z2_ne (by omega))
theorem psz_push {T : List (Nat × Nat)} {q : Nat × Nat} {a : Nat → Nat → Int32} {b : Nat → Nat → Int64} {d : Nat → Nat → Option Nat} : psz (T ++ [q], a, b, d) = (T.map (fun q => q.2)).sum + q.2 := by simp [psz]
/-- behind a new cell -/
theorem s_made {h : pH} {q : Nat × Nat} {pc' : Nat} {lo : List (Option Value)} {r : List Value} {H1 : Heap} {locs : List Loc} {ls : Array Slot} {a : Nat} (C : pC p R s m args c cc nL ow B fo adV L xs D cA n0 z0 nF zF) (hn : n0 ≤ h.1.length) (hz : z0 ≤ psz h) (hP1 : va_P D cls (pws B cA h ++ [(a, pce B cA (h.1 ++ [q], z2 h.2.1 h.1.length 0, z2 h.2.2.1 h.1.length 0, z2 h.2.2.2 h.1.length none) h.1.length q)]) H1) (hD1 : va_D (fun q => B ≤ q) (pws B cA h ++ [(a, pce B cA (h.1 ++ [q], z2 h.2.1 h.1.length 0, z2 h.2.2.1 h.1.length 0, z2 h.2.2.2 h.1.length none) h.1.length q)])) (hS1 : va_S (fun q => B ≤ q) s.heap H1 locs) (hl : pL B fo ls nL lo) (k : pW p l e R s m args below meth c nL B fo D cA n0 z0 Q (pc', lo, .ref h.1.length :: r, h.1 ++ [q], z2 h.2.1 h.1.length 0, z2 h.2.2.1 h.1.length 0, z2 h.2.2.2 h.1.length none)) : W p l e R s m args below meth c H1 locs (h.1.length - n0 + 1) (psz h - z0 + q.2) Q (F0 m pc' ls (.ref a :: r.map (pcv B fo))) := by
  obtain ⟨-, -, -, -, -, -, h0, -⟩ := C
  refine W.bd fun hb => ?_
  have ha := p_addr hP1 hD1 h0 hn hb
  subst ha
  have e := pws_push (B := B) (cA := cA) (h := h) (h' := (h.1 ++ [q], z2 h.2.1 h.1.length 0, z2 h.2.2.1 h.1.length 0, z2 h.2.2.2 h.1.length none)) (q := q) rfl (fun j r hj => pce_old hj)
  rw [e] at hP1
  have k' := k H1 locs ls hP1 hS1 hl
  dsimp only at k'
  rw [psz_push, List.length_append] at k'
  refine W.cs ?_ ?_ k'
  · simp only [List.length_singleton]; omega
  · show psz h - z0 + q.2 = _
    unfold psz at hz ⊢; omega
theorem s_new {idx : Nat} {x x' : pS} (C : pC p R s m args c cc nL ow B fo adV L xs D cA n0 z0 nF zF) (hrs : ∀ idx r, rs idx = some r → RsOK M ow idx r) (hn : n0 ≤ x.2.2.2.1.length) (hz : z0 ≤ psz x.2.2.2) (hF : x'.2.2.2.1.length ≤ nF ∧ psz x'.2.2.2 ≤ zF) (hd : decode cc x.1 = .ok (.new idx, 3)) (hx : pnew rs idx x = some (.inl x')) (k : pW p l e R s m args below meth c nL B fo D cA n0 z0 Q x') : pW p l e R s m args below meth c nL B fo D cA n0 z0 Q x := by
  obtain ⟨hxx, hb, -, hown, hts, ⟨hK, -⟩, h0, hR, -⟩ := id C
  obtain ⟨pc, lo, st, h⟩ := x
  unfold pnew at hx; dsimp only at hx
  split at hx
  · rename_i cn jj hr
    unfold pnw at hx; dsimp only at hx
    simp only [Option.some.injEq, Sum.inl.injEq] at hx; subst hx
    obtain ⟨hc, hlink⟩ := hrs _ _ hr
    dsimp only at hn hz hF
    rw [psz_push, List.length_append, List.length_singleton] at hF
    intro H locs ls hP hS hl
    refine va_new (Ts := wsU) (C := cN cn) (T := cT cn) (N := cZ cn) (ci := cn) hxx hb hts (iwC cn hc) (cty cn) (tyC cn hc) hown (hts _ hlink) (hts _ (insC cn hc)) (hts _ (iniC cn (by omega))) hK hP pws_D hS (fun q hq => by omega) (cls_at cn hc) (fs := (List.range (cZ cn)).map (fun j => pcv B (fun _ => 0) (pval (h.1 ++ [(cn + 6, cZ cn)], z2 h.2.1 h.1.length 0, z2 h.2.2.1 h.1.length 0, z2 h.2.2.2 h.1.length none) h.1.length j (cty cn j)))) ?_ ?_ ?_ hd ?_
    · intro j hj
      have ho := pokt_all cn hc j hj
      rw [vp_V, List.getD_eq_getElem?_getD, List.getElem?_map, List.getElem?_range hj]
      simp only [Option.map_some, Option.getD_some]
      unfold pokt at ho
      split at ho
      · rename_i hty; rw [hty]; simp [pval, z2, pcv, defaultValue]
      · rename_i hty; rw [hty]; simp [pval, z2, pcv, defaultValue]
      · rename_i hty; rw [hty]; simp [pval, z2, pcv, defaultValue]
      · rename_i hty; rw [hty]; simp [pval, z2, pcv, prv, defaultValue]
      · rename_i hty; rw [hty]; simp [pval, z2, pcv, prv, defaultValue]
      · cases ho
    · show h.1.length - n0 + 1 ≤ R.cells
      omega
    · show psz h - z0 + cZ cn ≤ R.slots
      unfold psz at hz ⊢; dsimp only at hF; omega
    · intro q H1 hP1 hD1 hS1
      exact s_made C hn hz hP1 hD1 hS1 hl k
  · cases hx
theorem pKa_int (hK : va_K D cls (ptys cA) s) {cA' : ClassId} {ty : FieldType} {k : Nat} (hk : (ptys cA)[k]? = some (cA k, ty)) (hK' : va_K D cls (ptys cA ++ [(cA', ty)]) s) (ht : ∀ C, ty ≠ .object C) : cA' = cA k := by
  have h1 := (hK.2 k _ hk).2
  have h2 := (hK'.2 6 (cA', ty) rfl).2
  unfold va_RA at h1 h2
  cases ty with
  | object C => exact absurd rfl (ht C)
  | _ => exact Option.some.inj (h2.symm.trans h1)
theorem pKa_obj (hK : va_K D cls (ptys cA) s) {cA' : ClassId} {C0 : String} {k : Nat} (hk : (ptys cA)[k]? = some (cA k, .object C0)) (hK' : va_K D cls (ptys cA ++ [(cA', .object C0)]) s) : cA' = cA k := by
  obtain ⟨_, _, -, -, -, h1⟩ := (hK.2 k _ hk).2
  obtain ⟨_, _, -, -, -, h2⟩ := (hK'.2 6 (cA', .object C0) rfl).2
  exact Option.some.inj (h2.symm.trans h1)
theorem s_na {ty : ArrayType} {x x' : pS} (C : pC p R s m args c cc nL ow B fo adV L xs D cA n0 z0 nF zF) (hn : n0 ≤ x.2.2.2.1.length) (hz : z0 ≤ psz x.2.2.2) (hF : x'.2.2.2.1.length ≤ nF ∧ psz x'.2.2.2 ≤ zF) (hd : decode cc x.1 = .ok (.newarray ty, 2)) (hx : pna ty x = some (.inl x')) (k : pW p l e R s m args below meth c nL B fo D cA n0 z0 Q x') : pW p l e R s m args below meth c nL B fo D cA n0 z0 Q x := by
  obtain ⟨hxx, hb, -, hown, hts, ⟨hK, -⟩, h0, hR, -⟩ := id C
  obtain ⟨pc, lo, st, h⟩ := x
  unfold pna at hx; dsimp only at hx
  split at hx
  · rename_i n r
    split at hx
    · cases hx
    · rename_i hnn
      have hn0 : ¬ n < 0 := fun q => hnn (Or.inl q)
      have hn1 : n.toNatClampNeg ≤ 1000000 := Nat.not_lt.mp fun q => hnn (Or.inr q)
      dsimp only at hn hz
      split at hx
      · unfold pnw at hx; dsimp only at hx
        simp only [Option.some.injEq, Sum.inl.injEq] at hx; subst hx
        dsimp only at hF
        rw [psz_push, List.length_append, List.length_singleton] at hF
        intro H locs ls hP hS hl
        refine va_newa (atype := .int) (ty := .int) hxx hb (hts _ acU_I) rfl hK hP pws_D hS (fun q hq => by omega) (a0 := (n.toNatClampNeg, .inl (z2 h.2.1 h.1.length 0 h.1.length))) (fun cA => by rw [z2_eq]; rfl) hn0 rfl (by show _ * 4 ≤ _; omega) (by show h.1.length - n0 + 1 ≤ R.cells; omega) (by show psz h - z0 + _ ≤ R.slots; unfold psz at hz ⊢; dsimp only at hF; omega) hd fun q cA' H1 hK' hP1 hD1 hS1 => ?_
        have := pKa_int hK (k := 0) rfl hK' (fun C h => by cases h)
        subst this
        exact s_made C hn hz hP1 hD1 hS1 hl k
      · unfold pnw at hx; dsimp only at hx
        simp only [Option.some.injEq, Sum.inl.injEq] at hx; subst hx
        dsimp only at hF
        rw [psz_push, List.length_append, List.length_singleton] at hF
        intro H locs ls hP hS hl
        refine va_newa (atype := .long) (ty := .long) hxx hb (hts _ acU_J) rfl hK hP pws_D hS (fun q hq => by omega) (a0 := (n.toNatClampNeg, .inr (.inl (z2 h.2.2.1 h.1.length 0 h.1.length)))) (fun cA => by rw [z2_eq]; rfl) hn0 rfl (by show _ * 8 ≤ _; omega) (by show h.1.length - n0 + 1 ≤ R.cells; omega) (by show psz h - z0 + _ ≤ R.slots; unfold psz at hz ⊢; dsimp only at hF; omega) hd fun q cA' H1 hK' hP1 hD1 hS1 => ?_
        have := pKa_int hK (k := 1) rfl hK' (fun C h => by cases h)
        subst this
        exact s_made C hn hz hP1 hD1 hS1 hl k
      · unfold pnw at hx; dsimp only at hx
        simp only [Option.some.injEq, Sum.inl.injEq] at hx; subst hx
        dsimp only at hF
        rw [psz_push, List.length_append, List.length_singleton] at hF
        intro H locs ls hP hS hl
        refine va_newa (atype := .byte) (ty := .byte) hxx hb (hts _ acU_B) rfl hK hP pws_D hS (fun q hq => by omega) (a0 := (n.toNatClampNeg, .inl (z2 h.2.1 h.1.length 0 h.1.length))) (fun cA => by rw [z2_eq]; rfl) hn0 rfl (by show _ * 1 ≤ _; omega) (by show h.1.length - n0 + 1 ≤ R.cells; omega) (by show psz h - z0 + _ ≤ R.slots; unfold psz at hz ⊢; dsimp only at hF; omega) hd fun q cA' H1 hK' hP1 hD1 hS1 => ?_
        have := pKa_int hK (k := 2) rfl hK' (fun C h => by cases h)
        subst this
        exact s_made C hn hz hP1 hD1 hS1 hl k
      · unfold pnw at hx; dsimp only at hx
        simp only [Option.some.injEq, Sum.inl.injEq] at hx; subst hx
        dsimp only at hF
        rw [psz_push, List.length_append, List.length_singleton] at hF
        intro H locs ls hP hS hl
        refine va_newa (atype := .boolean) (ty := .boolean) hxx hb (hts _ acU_Z) rfl hK hP pws_D hS (fun q hq => by omega) (a0 := (n.toNatClampNeg, .inl (z2 h.2.1 h.1.length 0 h.1.length))) (fun cA => by rw [z2_eq]; rfl) hn0 rfl (by show _ * 1 ≤ _; omega) (by show h.1.length - n0 + 1 ≤ R.cells; omega) (by show psz h - z0 + _ ≤ R.slots; unfold psz at hz ⊢; dsimp only at hF; omega) hd fun q cA' H1 hK' hP1 hD1 hS1 => ?_
        have := pKa_int hK (k := 3) rfl hK' (fun C h => by cases h)
        subst this
        exact s_made C hn hz hP1 hD1 hS1 hl k
      · cases hx
  · cases hx
theorem s_ana {idx : Nat} {x x' : pS} (C : pC p R s m args c cc nL ow B fo adV L xs D cA n0 z0 nF zF) (hrs : ∀ idx r, rs idx = some r → RsOK M ow idx r) (hn : n0 ≤ x.2.2.2.1.length) (hz : z0 ≤ psz x.2.2.2) (hF : x'.2.2.2.1.length ≤ nF ∧ psz x'.2.2.2 ≤ zF) (hd : decode cc x.1 = .ok (.anewarray idx, 3)) (hx : pana rs idx x = some (.inl x')) (k : pW p l e R s m args below meth c nL B fo D cA n0 z0 Q x') : pW p l e R s m args below meth c nL B fo D cA n0 z0 Q x := by
  obtain ⟨hxx, hb, -, hown, hts, ⟨hK, -, ⟨hO1, hO2⟩, -⟩, h0, hR, -⟩ := id C
  obtain ⟨pc, lo, st, h⟩ := x
  unfold pana at hx; dsimp only at hx
  split at hx
  · rename_i kd jj n r hr
    split at hx
    · cases hx
    · rename_i hnn
      have hn0 : ¬ n < 0 := fun q => hnn (Or.inl q)
      have hn1 : n.toNatClampNeg ≤ 1000000 := Nat.not_lt.mp fun q => hnn (Or.inr q)
      dsimp only at hn hz
      obtain ⟨hc13, hlink⟩ := hrs _ _ hr
      split at hx
      · rename_i hc4; subst hc4
        unfold pnw at hx; dsimp only at hx
        simp only [Option.some.injEq, Sum.inl.injEq] at hx; subst hx
        dsimp only at hF
        rw [psz_push, List.length_append, List.length_singleton] at hF
        intro H locs ls hP hS hl
        refine va_newq (C := "LampRounds$Image") hxx hb hown (hts _ hlink) hO1 hK hP pws_D hS (fun q hq => by omega) hn0 rfl (by omega) (by show h.1.length - n0 + 1 ≤ R.cells; omega) (by show psz h - z0 + _ ≤ R.slots; unfold psz at hz ⊢; dsimp only at hF; omega) hd fun q cA' H1 hK' hP1 hD1 hS1 => ?_
        have := pKa_obj hK (k := 4) rfl hK'
        subst this
        have e1 : (fun _ => none : Nat → Option Nat) = (fun j => (z2 h.2.2.2 h.1.length none h.1.length j).map (fun a => B + a)) := by rw [z2_eq]; rfl
        rw [e1] at hP1 hD1
        exact s_made C hn hz hP1 hD1 hS1 hl k
      · split at hx
        · rename_i hc9; subst hc9
          unfold pnw at hx; dsimp only at hx
          simp only [Option.some.injEq, Sum.inl.injEq] at hx; subst hx
          dsimp only at hF
          rw [psz_push, List.length_append, List.length_singleton] at hF
          intro H locs ls hP hS hl
          refine va_newq (C := "LampRounds$Row") hxx hb hown (hts _ hlink) hO2 hK hP pws_D hS (fun q hq => by omega) hn0 rfl (by omega) (by show h.1.length - n0 + 1 ≤ R.cells; omega) (by show psz h - z0 + _ ≤ R.slots; unfold psz at hz ⊢; dsimp only at hF; omega) hd fun q cA' H1 hK' hP1 hD1 hS1 => ?_
          have := pKa_obj hK (k := 5) rfl hK'
          subst this
          have e1 : (fun _ => none : Nat → Option Nat) = (fun j => (z2 h.2.2.2 h.1.length none h.1.length j).map (fun a => B + a)) := by rw [z2_eq]; rfl
          rw [e1] at hP1 hD1
          exact s_made C hn hz hP1 hD1 hS1 hl k
        · cases hx
  · cases hx
theorem pcat_cv (r : List Value) : ((r.map (pcv B fo)).map fun v => v.category).sum = pcat r := by
  unfold pcat
  rw [List.map_map]
  congr 1
  exact List.map_congr_left fun v _ => pcv_cat B fo v
theorem s_acp {idx : Nat} {x x' : pS} (C : pC p R s m args c cc nL ow B fo adV L xs D cA n0 z0 nF zF) (hlink : Cond.methodLink (cN ow) idx arraycopyName ∈ wsU) (hd : decode cc x.1 = .ok (.invokestatic idx, 3)) (hx : pacp x = some (.inl x')) (k : pW p l e R s m args below meth c nL B fo D cA n0 z0 Q x') : pW p l e R s m args below meth c nL B fo D cA n0 z0 Q x := by
  obtain ⟨hxx, hb, hml, hown, hts, ⟨hK, -⟩, h0, hR, hR2⟩ := id C
  obtain ⟨pc, lo, st, h⟩ := x
  unfold pacp at hx; dsimp only at hx
  split at hx
  · rename_i n dp a sp a0 r
    split at hx
    · cases hx
    · rename_i hnn
      have g1 : ¬ sp < 0 := fun q => hnn (Or.inl q)
      have g2 : ¬ dp < 0 := fun q => hnn (Or.inr (Or.inl q))
      have g3 : ¬ n < 0 := fun q => hnn (Or.inr (Or.inr (Or.inl q)))
      have g4 : pcat r ≤ 8 := Nat.not_lt.mp fun q => hnn (Or.inr (Or.inr (Or.inr q)))
      split at hx
      · rename_i k0 m0 k1 m1 hT0 hT1
        split at hx
        · rename_i hle
          split at hx
          · rename_i hk
            obtain ⟨rfl, rfl⟩ := hk
            simp only [Option.some.injEq, Sum.inl.injEq] at hx; subst hx
            intro H locs ls hP hS hl
            refine va_copyi (ty := .int) hxx hb (by rw [hml]; exact hl.1.symm) hown (hts _ hlink) (hts _ acpN) (hts _ acpS) (hts _ acpI) hK hP pws_D hS a0 a 0 0 (pws_get hT0) (pws_get hT1) rfl rfl rfl g1 g2 g3 hle.1 hle.2 (fun _ _ => rfl) hR2.1 ?_ hd fun H1 locs1 hP1 hD1 hS1 => ?_
            · rw [pcat_cv]
              have : nativeFrameWords "java/lang/System" "arraycopy" 5 + 11 ≤ 56 := by decide +kernel
              omega
            · refine k H1 locs1 ls ?_ hS1 hl
              have e := pws_set (B := B) (cA := cA) (h := h) (h' := (h.1, c2 h.2.1 a0 a sp.toNatClampNeg dp.toNatClampNeg n.toNatClampNeg, h.2.2)) rfl hT1 (fun j r hj => pce_cong r (c2_ne hj) rfl rfl)
              dsimp only
              rw [← e, pce]
              dsimp only
              rw [c2_eq]
              exact hP1
          · split at hx
            · rename_i hk
              obtain ⟨rfl, rfl⟩ := hk
              simp only [Option.some.injEq, Sum.inl.injEq] at hx; subst hx
              intro H locs ls hP hS hl
              refine va_copyl (ty := .long) hxx hb (by rw [hml]; exact hl.1.symm) hown (hts _ hlink) (hts _ acpN) (hts _ acpS) (hts _ acpI) hK hP pws_D hS a0 a 1 1 (pws_get hT0) (pws_get hT1) rfl rfl rfl g1 g2 g3 hle.1 hle.2 (fun _ _ => rfl) hR2.1 ?_ hd fun H1 locs1 hP1 hD1 hS1 => ?_
              · rw [pcat_cv]
                have : nativeFrameWords "java/lang/System" "arraycopy" 5 + 11 ≤ 56 := by decide +kernel
                omega
              · refine k H1 locs1 ls ?_ hS1 hl
                have e := pws_set (B := B) (cA := cA) (h := h) (h' := (h.1, h.2.1, c2 h.2.2.1 a0 a sp.toNatClampNeg dp.toNatClampNeg n.toNatClampNeg, h.2.2.2)) rfl hT1 (fun j r hj => pce_cong r rfl (c2_ne hj) rfl)
                dsimp only
                rw [← e, pce]
                dsimp only
                rw [c2_eq]
                exact hP1
            · cases hx
        · cases hx
      · cases hx
  · cases hx
end PS3
