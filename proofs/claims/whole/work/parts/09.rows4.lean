/-! rows of calls; the step; the run; the contract of every method -/
section PS4
variable {p : Program} {l : Launch} {e : Env} {R : Room} {s : State} {m : MethodId} {args : Array Value} {below : List Frame} {meth : Method} {c : Code} {Q : State → Prop}
variable {B : Nat} {fo adV : Nat → Nat} {L : Nat} {xs : Nat → Int32} {D : va_G} {cA : Nat → ClassId} {cc : ByteArray} {nL n0 z0 nF zF ow d : Nat} {M : pMT} {rs : pQ} {env : pV}
theorem s_after {h h' : pH} {v : Option Value} {pc : Nat} {lo : List (Option Value)} {r st0 : List Value} {ls : Array Slot} {H : Heap} {locs : List Loc} {a : Array Value} (run : va_Run p l e R s m args below meth c H locs (h.1.length - n0) (psz h - z0) (h'.1.length - h.1.length) (psz h' - psz h) (F0 m pc ls st0) (r.map (pcv B fo)) (pQc B fo D cA (v, h') a) (fun q => B ≤ q)) (hS : va_S (fun q => B ≤ q) s.heap H locs) (hl : pL B fo ls nL lo) (hn : n0 ≤ h.1.length) (hz : z0 ≤ psz h) (hm : h.1.length ≤ h'.1.length ∧ psz h ≤ psz h') (k : pW p l e R s m args below meth c nL B fo D cA n0 z0 Q (pc + 3, lo, v.toList ++ r, h')) : W p l e R s m args below meth c H locs (h.1.length - n0) (psz h - z0) Q (F0 m pc ls st0) := by
  refine p_call run hS fun H1 locs1 hP1 hS1 => ?_
  have k' := k H1 locs1 ls hP1 hS1 hl
  dsimp only at k'
  have e1 : (v.toList ++ r).map (pcv B fo) = (v.map (pcv B fo)).toList ++ r.map (pcv B fo) := by cases v <;> simp
  rw [e1] at k'
  exact W.cs (by omega) (by omega) k'
theorem pcal_spec {id : Nat} {av r : List Value} {x x' : pS} (hx : pcal env id av r x = some (.inl x')) : pcat r ≤ 8 ∧ ∃ v h', env id av x.2.2.2 = some (v, h') ∧ x' = (x.1 + 3, x.2.1, v.toList ++ r, h') := by
  unfold pcal at hx
  split at hx
  · rename_i hc
    split at hx
    · rename_i v h' he
      simp only [Option.some.injEq, Sum.inl.injEq] at hx
      exact ⟨hc, v, h', he, hx.symm⟩
    · cases hx
  · cases hx
theorem prm_ok {id : Nat} {n : Int} (hpk : pmk M id n) (hRd : d + 1 ≤ R.frames ∧ 64 * (d + 1) ≤ R.locals) (mc ms : Nat) : (prm d mc ms).frames + 1 ≤ R.frames ∧ 8 + (M.2.2.1 id + 11) + (prm d mc ms).locals ≤ R.locals := by
  have h1 := hpk.2.2.2
  refine ⟨hRd.1, ?_⟩
  show 8 + (M.2.2.1 id + 11) + 64 * d ≤ R.locals
  omega
theorem s_ivv {idx : Nat} {x x' : pS} (C : pC p R s m args c cc nL ow B fo adV L xs D cA n0 z0 nF zF) (hE : pEnvOK M L xs d env) (hRd : d + 1 ≤ R.frames ∧ 64 * (d + 1) ≤ R.locals) (hrs : ∀ idx r, rs idx = some r → RsOK M ow idx r) (hn : n0 ≤ x.2.2.2.1.length) (hz : z0 ≤ psz x.2.2.2) (hF : x'.2.2.2.1.length ≤ nF ∧ psz x'.2.2.2 ≤ zF) (hd : decode cc x.1 = .ok (.invokevirtual idx, 3)) (hx : pivv env M.2.2.2.2 rs idx x = some (.inl x')) (k : pW p l e R s m args below meth c nL B fo D cA n0 z0 Q x') : pW p l e R s m args below meth c nL B fo D cA n0 z0 Q x := by
  obtain ⟨hxx, hb, hml, hown, hts, hKU, h0, hR, -⟩ := id C
  obtain ⟨pc, lo, st, h⟩ := x
  unfold pivv at hx; dsimp only at hx
  split at hx
  · rename_i id n hr
    split at hx
    · rename_i av b r hpp
      split at hx
      · rename_i kk nn hT
        split at hx
        · rename_i hk
          subst hk
          obtain ⟨hcat, v, h', henv, rfl⟩ := pcal_spec hx
          obtain ⟨hlk, hinst, hsel, hmc, hpk⟩ := hrs _ _ hr
          obtain ⟨hm, hM⟩ := hE _ _ _ _ henv
          obtain ⟨hst, hlen⟩ := ppop_spec _ _ _ _ _ hpp
          simp only [List.reverse_nil, List.nil_append] at hst
          subst hst
          dsimp only at hn hz hF hm henv
          intro H locs ls hP hS hl
          refine W.bd fun hbd => ?_
          have hsz := p_size hP hS h0 hn hbd
          refine s_after (va_runV (As := av.map (pcv B fo)) (b := B + b) (n := n.toNat) ⟨hxx, hb, hml, hown, hts⟩ (hM l B fo adV D cA) ⟨callB_of n.toNat hts (good_mWs hpk) rfl rfl rfl (hts _ hpk.2.1) (hts _ hlk) hpk.2.2.1 (prm_ok hpk hRd _ _), hts _ hinst, hts _ hsel⟩ ⟨pPc_blind, va_recv hKU.1 hP (cls_at _ hmc) (pws_get hT), fun U hU hW => ⟨rfl, by rw [hU]; exact hsz, by rw [hU]; exact hP, pKU_warm hW hS hU hKU⟩⟩ rfl (by rw [List.length_map, hlen]; simp) hl.1 (by simp [pcv]) (lv_room (by rw [pcat_cv]; exact hcat)) hd ⟨?_, ?_⟩) hS hl hn hz hm k
          · show h.1.length - n0 + (h'.1.length - h.1.length) ≤ R.cells
            omega
          · show psz h - z0 + (psz h' - psz h) ≤ R.slots
            omega
        · cases hx
      · cases hx
    · cases hx
  · rename_i id n hr
    split at hx
    · rename_i av b r hpp
      split at hx
      · rename_i hbb
        obtain ⟨hcat, v, h', henv, rfl⟩ := pcal_spec hx
        obtain ⟨hlk, hinst, hsel, hpk⟩ := hrs _ _ hr
        obtain ⟨hm, hM⟩ := hE _ _ _ _ henv
        obtain ⟨hst, hlen⟩ := ppop_spec _ _ _ _ _ hpp
        simp only [List.reverse_nil, List.nil_append] at hst
        subst hst
        dsimp only at hn hz hF hm henv
        intro H locs ls hP hS hl
        refine W.bd fun hbd => ?_
        have hsz := p_size hP hS h0 hn hbd
        have hrc := vk_recv hKU.2.2.2.2.1 (i := b - 1) (by omega) hS
        rw [show b - 1 + 1 = b by omega] at hrc
        refine s_after (va_runV (As := av.map (pcv B fo)) (b := fo b) (n := n.toNat) (C := "java/lang/String") ⟨hxx, hb, hml, hown, hts⟩ (hM l B fo adV D cA) ⟨callB_of n.toNat hts (good_mWs hpk) rfl rfl rfl (hts _ hpk.2.1) (hts _ hlk) hpk.2.2.1 (prm_ok hpk hRd _ _), hts _ hinst, hts _ hsel⟩ ⟨pPc_blind, hrc, fun U hU hW => ⟨rfl, by rw [hU]; exact hsz, by rw [hU]; exact hP, pKU_warm hW hS hU hKU⟩⟩ rfl (by rw [List.length_map, hlen]; simp) hl.1 (by simp [pcv]) (lv_room (by rw [pcat_cv]; exact hcat)) hd ⟨?_, ?_⟩) hS hl hn hz hm k
        · show h.1.length - n0 + (h'.1.length - h.1.length) ≤ R.cells
          omega
        · show psz h - z0 + (psz h' - psz h) ≤ R.slots
          omega
      · cases hx
    · cases hx
  · cases hx
theorem s_ivs {idx : Nat} {x x' : pS} (C : pC p R s m args c cc nL ow B fo adV L xs D cA n0 z0 nF zF) (hE : pEnvOK M L xs d env) (hRd : d + 1 ≤ R.frames ∧ 64 * (d + 1) ≤ R.locals) (hrs : ∀ idx r, rs idx = some r → RsOK M ow idx r) (hn : n0 ≤ x.2.2.2.1.length) (hz : z0 ≤ psz x.2.2.2) (hF : x'.2.2.2.1.length ≤ nF ∧ psz x'.2.2.2 ≤ zF) (hd : decode cc x.1 = .ok (.invokestatic idx, 3)) (hx : pivs env rs idx x = some (.inl x')) (k : pW p l e R s m args below meth c nL B fo D cA n0 z0 Q x') : pW p l e R s m args below meth c nL B fo D cA n0 z0 Q x := by
  obtain ⟨hxx, hb, hml, hown, hts, hKU, h0, hR, -⟩ := id C
  unfold pivs at hx
  split at hx
  · rename_i id n hr
    split at hx
    · rename_i av r hpp
      obtain ⟨pc, lo, st, h⟩ := x
      obtain ⟨hcat, v, h', henv, rfl⟩ := pcal_spec hx
      obtain ⟨hlk, hstat, hpk⟩ := hrs _ _ hr
      obtain ⟨hm, hM⟩ := hE _ _ _ _ henv
      obtain ⟨hst, hlen⟩ := ppop_spec _ _ _ _ _ hpp
      simp only [List.reverse_nil, List.nil_append] at hst
      subst hst
      dsimp only at hn hz hF hm henv
      intro H locs ls hP hS hl
      refine W.bd fun hbd => ?_
      have hsz := p_size hP hS h0 hn hbd
      refine s_after (va_runS (As := av.map (pcv B fo)) (n := n.toNat) ⟨hxx, hb, hml, hown, hts⟩ (hM l B fo adV D cA) ⟨callB_of n.toNat hts (good_mWs hpk) rfl rfl rfl (hts _ hpk.2.1) (hts _ hlk) hpk.2.2.1 (prm_ok hpk hRd _ _), hts _ hstat⟩ ⟨pPc_blind, fun U hU hW => ⟨rfl, by rw [hU]; exact hsz, by rw [hU]; exact hP, pKU_warm hW hS hU hKU⟩⟩ rfl (by rw [List.length_map, hlen]; simp) hl.1 (by simp) (lv_room (by rw [pcat_cv]; exact hcat)) hd ⟨?_, ?_⟩) hS hl hn hz hm k
      · show h.1.length - n0 + (h'.1.length - h.1.length) ≤ R.cells
        omega
      · show psz h - z0 + (psz h' - psz h) ≤ R.slots
        omega
    · cases hx
  · rename_i hr
    exact s_acp C (hrs _ _ hr) hd hx k
  · cases hx
theorem s_ivi {idx : Nat} {x x' : pS} (C : pC p R s m args c cc nL ow B fo adV L xs D cA n0 z0 nF zF) (hE : pEnvOK M L xs d env) (hRd : d + 1 ≤ R.frames ∧ 64 * (d + 1) ≤ R.locals) (hrs : ∀ idx r, rs idx = some r → RsOK M ow idx r) (hn : n0 ≤ x.2.2.2.1.length) (hz : z0 ≤ psz x.2.2.2) (hF : x'.2.2.2.1.length ≤ nF ∧ psz x'.2.2.2 ≤ zF) (hd : decode cc x.1 = .ok (.invokespecial idx, 3)) (hx : pivi env rs idx x = some (.inl x')) (k : pW p l e R s m args below meth c nL B fo D cA n0 z0 Q x') : pW p l e R s m args below meth c nL B fo D cA n0 z0 Q x := by
  obtain ⟨hxx, hb, hml, hown, hts, hKU, h0, hR, hR2⟩ := id C
  obtain ⟨pc, lo, st, h⟩ := x
  unfold pivi at hx; dsimp only at hx
  split at hx
  · rename_i id n hr
    split at hx
    · rename_i av b r hpp
      obtain ⟨hcat, v, h', henv, rfl⟩ := pcal_spec hx
      obtain ⟨hlk, hinst, hnm, hret, hpk⟩ := hrs _ _ hr
      obtain ⟨hm, hM⟩ := hE _ _ _ _ henv
      obtain ⟨hst, hlen⟩ := ppop_spec _ _ _ _ _ hpp
      simp only [List.reverse_nil, List.nil_append] at hst
      subst hst
      dsimp only at hn hz hF hm henv
      have hw : mWs M id = Cond.code (M.1 id) (M.2.1 id) (M.2.2.1 id) none :: wsU := by unfold mWs; rw [hret]
      intro H locs ls hP hS hl
      refine W.bd fun hbd => ?_
      have hsz := p_size hP hS h0 hn hbd
      have hf : h.1.length - n0 + (h'.1.length - h.1.length) ≤ R.cells ∧ psz h - z0 + (psz h' - psz h) ≤ R.slots := by omega
      rcases hlk with hlk | hlk
      · exact s_after (va_runI (As := av.map (pcv B fo)) (b := B + b) (n := n.toNat) ⟨hxx, hb, hml, hown, hts⟩ (hM l B fo adV D cA) ⟨callB_of n.toNat hts (good_mWs hpk) hw rfl rfl (hts _ hpk.2.1) (hts _ hlk) hpk.2.2.1 (prm_ok hpk hRd _ _), hnm, hts _ hinst⟩ ⟨pPc_blind, fun U hU hW => ⟨rfl, by rw [hU]; exact hsz, by rw [hU]; exact hP, pKU_warm hW hS hU hKU⟩⟩ rfl (by rw [List.length_map, hlen]; simp) hl.1 (by simp [pcv]) (lv_room (by rw [pcat_cv]; exact hcat)) hd hf) hS hl hn hz hm k
      · exact s_after (va_runIN (As := av.map (pcv B fo)) (b := B + b) (n := n.toNat) ⟨hxx, hb, hml, hown, hts⟩ (hM l B fo adV D cA) ⟨va_cnB n.toNat hts (good_mWs hpk) hw rfl rfl (hKU.2.1 _ hlk) (hts _ hpk.2.1) hpk.2.2.1 (prm_ok hpk hRd _ _), hnm, hts _ hinst⟩ ⟨pPc_blind, fun U hU hW => ⟨rfl, by rw [hU]; exact hsz, by rw [hU]; exact hP, pKU_warm hW hS hU hKU⟩⟩ rfl (by rw [List.length_map, hlen]; simp) hl.1 (by simp [pcv]) (lv_room (by rw [pcat_cv]; exact hcat)) hd hf) hS hl hn hz hm k
    · cases hx
  · rename_i hr
    split at hx
    · rename_i b r
      split at hx
      · rename_i hcat
        simp only [pnx, Option.some.injEq, Sum.inl.injEq] at hx; subst hx
        intro H locs ls hP hS hl
        refine W.objInit hxx hb hown (hts _ (hrs _ _ hr)) (hts _ obiM) (hts _ obiC) rfl (by rw [hml]; exact hl.1) rfl hd hR2.1 ?_ (k H locs ls hP hS hl)
        have := lv_room (m := m) (pc := pc) (ls := ls) (rest := (Value.ref b :: r).map (pcv B fo)) (st := r.map (pcv B fo)) (by rw [pcat_cv]; exact hcat)
        dsimp only
        omega
      · cases hx
    · cases hx
  · cases hx
theorem pret_no {ret : Option FieldType} {i : Instr} {x x' : pS} : ¬ pret ret i x = some (.inl x') := by
  intro h
  unfold pret at h
  split at h
  all_goals first
    | (cases h; done)
    | (split at h
       · cases h
       · split at h <;> cases h)

set_option maxHeartbeats 4000000 in
theorem stp_sound {ini : Bool} {ret : Option FieldType} {i : Instr} {n : Nat} {x x' : pS} (C : pC p R s m args c cc nL ow B fo adV L xs D cA n0 z0 nF zF) (hE : pEnvOK M L xs d env) (hRd : d + 1 ≤ R.frames ∧ 64 * (d + 1) ≤ R.locals) (hini : ini = true → meth.name = "<init>") (hrs : ∀ idx r, rs idx = some r → RsOK M ow idx r) (hn : n0 ≤ x.2.2.2.1.length) (hz : z0 ≤ psz x.2.2.2) (hF : x'.2.2.2.1.length ≤ nF ∧ psz x'.2.2.2 ≤ zF) (hd : pdec cc x.1 i n) (hx : stp env M.2.2.2.2 rs ow ini nL ret L xs i x = some (.inl x')) (k : pW p l e R s m args below meth c nL B fo D cA n0 z0 Q x') : pW p l e R s m args below meth c nL B fo D cA n0 z0 Q x := by
  obtain ⟨hxx, hb, hml, hown, hts, hKU, h0, hR, hR2⟩ := id C
  obtain ⟨hd, hlen⟩ := hd
  cases i
  case iconst v =>
    have hlen := hlen; dsimp only [pilen] at hlen; subst hlen
    dsimp only [stp, pnx] at hx; simp only [Option.some.injEq, Sum.inl.injEq] at hx; subst hx
    exact s_push (fun kk => lv_iconst hxx hb hd rfl kk) k
  case bipush v =>
    have hlen := hlen; dsimp only [pilen] at hlen; subst hlen
    dsimp only [stp, pnx] at hx; simp only [Option.some.injEq, Sum.inl.injEq] at hx; subst hx
    exact s_push (fun kk => lv_bipush hxx hb hd rfl kk) k
  case sipush v =>
    have hlen := hlen; dsimp only [pilen] at hlen; subst hlen
    dsimp only [stp, pnx] at hx; simp only [Option.some.injEq, Sum.inl.injEq] at hx; subst hx
    exact s_push (fun kk => lv_sipush hxx hb hd rfl kk) k
  case lconst v =>
    have hlen := hlen; dsimp only [pilen] at hlen; subst hlen
    dsimp only [stp, pnx] at hx; simp only [Option.some.injEq, Sum.inl.injEq] at hx; subst hx
    exact s_push (fun kk => lv_lconst hxx hb hd rfl kk) k
  case aconst_null =>
    have hlen := hlen; dsimp only [pilen] at hlen; subst hlen
    dsimp only [stp, pnx] at hx; simp only [Option.some.injEq, Sum.inl.injEq] at hx; subst hx
    exact s_push (fun kk => lv_null hxx hb hd kk) k
  case ldc idx =>
    have hlen := hlen; dsimp only [pilen] at hlen; subst hlen
    dsimp only [stp] at hx; unfold pldc at hx
    split at hx
    · rename_i hr; dsimp only [pnx] at hx; simp only [Option.some.injEq, Sum.inl.injEq] at hx; subst hx
      exact s_push (fun kk => lv_ldc hxx hb hown (hts _ (hrs _ _ hr)) hd kk) k
    · rename_i j _ hr
      split at hx
      · rename_i hj
        dsimp only [pnx] at hx; simp only [Option.some.injEq, Sum.inl.injEq] at hx; subst hx
        obtain ⟨rfl, hj2, hix⟩ := hrs _ _ hr
        subst hix
        exact s_push (fun kk => va_ldcS hxx hb hown (hKU.2.2.2.1 j hj2) hd kk) k
      · cases hx
    · cases hx
  case ldc_w idx =>
    have hlen := hlen; dsimp only [pilen] at hlen; subst hlen
    dsimp only [stp] at hx; unfold pldc at hx
    split at hx
    · rename_i hr; dsimp only [pnx] at hx; simp only [Option.some.injEq, Sum.inl.injEq] at hx; subst hx
      exact s_push (fun kk => lv_ldcw hxx hb hown (hts _ (hrs _ _ hr)) hd kk) k
    · split at hx
      · rename_i hj; exact absurd hj.1 (by decide)
      · cases hx
    · cases hx
  case ldc2_w idx =>
    have hlen := hlen; dsimp only [pilen] at hlen; subst hlen
    dsimp only [stp] at hx; unfold pldc2 at hx
    split at hx
    · rename_i hr; dsimp only [pnx] at hx; simp only [Option.some.injEq, Sum.inl.injEq] at hx; subst hx
      exact s_push (fun kk => lv_ldc2 hxx hb hown (hts _ (hrs _ _ hr)) hd kk) k
    · cases hx
  case iload k0 =>
    have hlen := hlen; dsimp only [pilen] at hlen; subst hlen
    exact s_ldi (fun hl kk => lv_iload hxx hb hd hl kk) hx k
  case iload_n k0 =>
    have hlen := hlen; dsimp only [pilen] at hlen; subst hlen
    exact s_ldi (fun hl kk => lv_iload_n hxx hb hd rfl hl kk) hx k
  case lload k0 =>
    have hlen := hlen; dsimp only [pilen] at hlen; subst hlen
    exact s_ldl (fun hl kk => lv_lload hxx hb hd hl kk) hx k
  case lload_n k0 =>
    have hlen := hlen; dsimp only [pilen] at hlen; subst hlen
    exact s_ldl (fun hl kk => lv_lload_n hxx hb hd rfl hl kk) hx k
  case aload k0 =>
    have hlen := hlen; dsimp only [pilen] at hlen; subst hlen
    exact s_lda (fun hl kk => lv_aload hxx hb hd hl kk) (fun hl kk => lv_aloadN hxx hb hd hl kk) hx k
  case aload_n k0 =>
    have hlen := hlen; dsimp only [pilen] at hlen; subst hlen
    exact s_lda (fun hl kk => lv_aload_n hxx hb hd rfl hl kk) (fun hl kk => lv_aload_nN hxx hb hd rfl hl kk) hx k
  case istore k0 =>
    have hlen := hlen; dsimp only [pilen] at hlen; subst hlen
    exact s_sti (fun hl hi kk => lv_istore hxx hb hd hl hi rfl kk) hx k
  case istore_n k0 =>
    have hlen := hlen; dsimp only [pilen] at hlen; subst hlen
    exact s_sti (fun hl hi kk => lv_istore_n hxx hb hd rfl hl hi rfl kk) hx k
  case lstore k0 =>
    have hlen := hlen; dsimp only [pilen] at hlen; subst hlen
    exact s_stl (fun hl hi kk => lv_lstore hxx hb hd hl hi rfl kk) hx k
  case lstore_n k0 =>
    have hlen := hlen; dsimp only [pilen] at hlen; subst hlen
    exact s_stl (fun hl hi kk => lv_lstore_n hxx hb hd rfl hl hi rfl kk) hx k
  case astore k0 =>
    have hlen := hlen; dsimp only [pilen] at hlen; subst hlen
    exact s_sta (fun hl hi kk => lv_astore hxx hb hd hl hi rfl kk) hx k
  case astore_n k0 =>
    have hlen := hlen; dsimp only [pilen] at hlen; subst hlen
    exact s_sta (fun hl hi kk => lv_astore_n hxx hb hd rfl hl hi rfl kk) hx k
  case iinc k0 nn =>
    have hlen := hlen; dsimp only [pilen] at hlen; subst hlen
    dsimp only [stp] at hx
    split at hx
    · rename_i a ha
      split at hx
      · rename_i hi
        simp only [Option.some.injEq, Sum.inl.injEq] at hx; subst hx
        intro H locs ls hP hS hl
        obtain ⟨q, hq⟩ := List.getElem?_of_mem (pas_mem (B := B) (fo := fo).mpr ⟨_, ha, rfl⟩)
        exact lv_iinc hxx hb hd hl hq rfl hi rfl (fun ls' hl' => k H locs ls' hP hS (pL_1 rfl hl'))
      · cases hx
    · cases hx
  case iadd =>
    have hlen := hlen; dsimp only [pilen] at hlen; subst hlen
    exact s_b2 (fun kk => lv_iadd hxx hb hd kk) hx k
  case isub =>
    have hlen := hlen; dsimp only [pilen] at hlen; subst hlen
    exact s_b2 (fun kk => lv_isub hxx hb hd kk) hx k
  case imul =>
    have hlen := hlen; dsimp only [pilen] at hlen; subst hlen
    exact s_b2 (fun kk => lv_imul hxx hb hd kk) hx k
  case iand =>
    have hlen := hlen; dsimp only [pilen] at hlen; subst hlen
    exact s_b2 (fun kk => lv_iand hxx hb hd kk) hx k
  case ior =>
    have hlen := hlen; dsimp only [pilen] at hlen; subst hlen
    exact s_b2 (fun kk => lv_ior hxx hb hd kk) hx k
  case ixor =>
    have hlen := hlen; dsimp only [pilen] at hlen; subst hlen
    exact s_b2 (fun kk => lv_ixor hxx hb hd kk) hx k
  case ishl =>
    have hlen := hlen; dsimp only [pilen] at hlen; subst hlen
    exact s_b2 (fun kk => lv_ishl hxx hb hd kk) hx k
  case ishr =>
    have hlen := hlen; dsimp only [pilen] at hlen; subst hlen
    exact s_b2 (fun kk => lv_ishr hxx hb hd kk) hx k
  case iushr =>
    have hlen := hlen; dsimp only [pilen] at hlen; subst hlen
    exact s_b2 (fun kk => lv_iushr hxx hb hd rfl kk) hx k
  case idiv =>
    have hlen := hlen; dsimp only [pilen] at hlen; subst hlen
    exact s_dv (fun hne kk => lv_idiv hxx hb hd hne kk) hx k
  case irem =>
    have hlen := hlen; dsimp only [pilen] at hlen; subst hlen
    exact s_dv (fun hne kk => lv_irem hxx hb hd hne kk) hx k
  case ladd =>
    have hlen := hlen; dsimp only [pilen] at hlen; subst hlen
    exact s_l2 (fun kk => lv_ladd hxx hb hd kk) hx k
  case lsub =>
    have hlen := hlen; dsimp only [pilen] at hlen; subst hlen
    exact s_l2 (fun kk => lv_lsub hxx hb hd kk) hx k
  case lmul =>
    have hlen := hlen; dsimp only [pilen] at hlen; subst hlen
    exact s_l2 (fun kk => lv_lmul hxx hb hd kk) hx k
  case land =>
    have hlen := hlen; dsimp only [pilen] at hlen; subst hlen
    exact s_l2 (fun kk => lv_land hxx hb hd kk) hx k
  case lor =>
    have hlen := hlen; dsimp only [pilen] at hlen; subst hlen
    exact s_l2 (fun kk => lv_lor hxx hb hd kk) hx k
  case lxor =>
    have hlen := hlen; dsimp only [pilen] at hlen; subst hlen
    exact s_l2 (fun kk => lv_lxor hxx hb hd kk) hx k
  case ldiv =>
    have hlen := hlen; dsimp only [pilen] at hlen; subst hlen
    exact s_dvl (fun hne kk => lv_ldiv hxx hb hd hne kk) hx k
  case lrem =>
    have hlen := hlen; dsimp only [pilen] at hlen; subst hlen
    exact s_dvl (fun hne kk => lv_lrem hxx hb hd hne kk) hx k
  case lshl =>
    have hlen := hlen; dsimp only [pilen] at hlen; subst hlen
    exact s_ls (fun kk => lv_lshl hxx hb hd rfl kk) hx k
  case lshr =>
    have hlen := hlen; dsimp only [pilen] at hlen; subst hlen
    exact s_ls (fun kk => lv_lshr hxx hb hd rfl kk) hx k
  case lcmp =>
    have hlen := hlen; dsimp only [pilen] at hlen; subst hlen
    obtain ⟨pc, lo, st, h⟩ := x
    dsimp only [stp] at hx
    split at hx
    · simp only [pnx, Option.some.injEq, Sum.inl.injEq] at hx; subst hx
      exact fun H locs ls hP hS hl => W.lcmp hxx hb hd (k H locs ls hP hS hl)
    · cases hx
  case i2l =>
    have hlen := hlen; dsimp only [pilen] at hlen; subst hlen
    obtain ⟨pc, lo, st, h⟩ := x
    dsimp only [stp] at hx
    split at hx
    · simp only [pnx, Option.some.injEq, Sum.inl.injEq] at hx; subst hx
      exact fun H locs ls hP hS hl => lv_i2l hxx hb hd rfl (k H locs ls hP hS hl)
    · cases hx
  case l2i =>
    have hlen := hlen; dsimp only [pilen] at hlen; subst hlen
    obtain ⟨pc, lo, st, h⟩ := x
    dsimp only [stp] at hx
    split at hx
    · simp only [pnx, Option.some.injEq, Sum.inl.injEq] at hx; subst hx
      exact fun H locs ls hP hS hl => lv_l2i hxx hb hd rfl (k H locs ls hP hS hl)
    · cases hx
  case i2b =>
    have hlen := hlen; dsimp only [pilen] at hlen; subst hlen
    exact s_i1 (fun kk => lv_i2b hxx hb hd rfl kk) hx k
  case i2s =>
    have hlen := hlen; dsimp only [pilen] at hlen; subst hlen
    exact s_i1 (fun kk => lv_i2s hxx hb hd rfl kk) hx k
  case dup =>
    have hlen := hlen; dsimp only [pilen] at hlen; subst hlen
    obtain ⟨pc, lo, st, h⟩ := x
    dsimp only [stp] at hx
    split at hx
    · split at hx
      · rename_i hc
        simp only [pnx, Option.some.injEq, Sum.inl.injEq] at hx; subst hx
        exact fun H locs ls hP hS hl => lv_dup hxx hb hd (by rw [pcv_cat]; exact hc) (k H locs ls hP hS hl)
      · cases hx
    · cases hx
  case dup2 =>
    have hlen := hlen; dsimp only [pilen] at hlen; subst hlen
    obtain ⟨pc, lo, st, h⟩ := x
    dsimp only [stp] at hx
    split at hx
    · split at hx
      · rename_i hc
        simp only [pnx, Option.some.injEq, Sum.inl.injEq] at hx; subst hx
        exact fun H locs ls hP hS hl => lv_dup2_11 hxx hb hd (by rw [pcv_cat]; exact hc.1) (by rw [pcv_cat]; exact hc.2) (k H locs ls hP hS hl)
      · cases hx
    · cases hx
  case pop =>
    have hlen := hlen; dsimp only [pilen] at hlen; subst hlen
    obtain ⟨pc, lo, st, h⟩ := x
    dsimp only [stp] at hx
    split at hx
    · split at hx
      · rename_i hc
        simp only [pnx, Option.some.injEq, Sum.inl.injEq] at hx; subst hx
        exact fun H locs ls hP hS hl => lv_pop hxx hb hd (by rw [pcv_cat]; exact hc) (k H locs ls hP hS hl)
      · cases hx
    · cases hx
  case ifCond cd off =>
    have hlen := hlen; dsimp only [pilen] at hlen; subst hlen
    cases cd
    case eq => exact s_if1 (fun ht kt kf => lv_if_eq hxx hb hd ht (fun hc => kt (decide_eq_true hc)) (fun hc => kf (by simpa using hc))) hx k
    case ne => exact s_if1 (fun ht kt kf => lv_if_ne hxx hb hd ht (fun hc => kt (decide_eq_true hc)) (fun hc => kf (by simpa using hc))) hx k
    case lt => exact s_if1 (fun ht kt kf => lv_if_lt hxx hb hd ht (fun hc => kt (decide_eq_true hc)) (fun hc => kf (by simpa using hc))) hx k
    case ge => exact s_if1 (fun ht kt kf => lv_if_ge hxx hb hd ht (fun hc => kt (decide_eq_true hc)) (fun hc => kf (by simpa using hc))) hx k
    case gt => exact s_if1 (fun ht kt kf => lv_if_gt hxx hb hd ht (fun hc => kt (decide_eq_true hc)) (fun hc => kf (by simpa using hc))) hx k
    case le => exact s_if1 (fun ht kt kf => lv_if_le hxx hb hd ht (fun hc => kt (decide_eq_true hc)) (fun hc => kf (by simpa using hc))) hx k
  case if_icmp cd off =>
    have hlen := hlen; dsimp only [pilen] at hlen; subst hlen
    cases cd
    case eq => exact s_if2 (fun ht kt kf => lv_icmp_eq hxx hb hd ht (fun hc => kt (decide_eq_true hc)) (fun hc => kf (by simpa using hc))) hx k
    case ne => exact s_if2 (fun ht kt kf => lv_icmp_ne hxx hb hd ht (fun hc => kt (decide_eq_true hc)) (fun hc => kf (by simpa using hc))) hx k
    case lt => exact s_if2 (fun ht kt kf => lv_icmp_lt hxx hb hd ht (fun hc => kt (decide_eq_true hc)) (fun hc => kf (by simpa using hc))) hx k
    case ge => exact s_if2 (fun ht kt kf => lv_icmp_ge hxx hb hd ht (fun hc => kt (decide_eq_true hc)) (fun hc => kf (by simpa using hc))) hx k
    case gt => exact s_if2 (fun ht kt kf => lv_icmp_gt hxx hb hd ht (fun hc => kt (decide_eq_true hc)) (fun hc => kf (by simpa using hc))) hx k
    case le => exact s_if2 (fun ht kt kf => lv_icmp_le hxx hb hd ht (fun hc => kt (decide_eq_true hc)) (fun hc => kf (by simpa using hc))) hx k
  case goto off =>
    have hlen := hlen; dsimp only [pilen] at hlen; subst hlen
    exact s_go (fun ht kk => lv_goto hxx hb hd ht kk) hx k
  case ifnull off =>
    have hlen := hlen; dsimp only [pilen] at hlen; subst hlen
    obtain ⟨pc, lo, st, h⟩ := x
    dsimp only [stp] at hx
    split at hx
    · exact s_go (x := (pc, lo, _ :: _, h)) (fun ht kk => lv_ifnullN hxx hb hd ht kk) hx k
    · simp only [pnx, Option.some.injEq, Sum.inl.injEq] at hx; subst hx
      exact fun H locs ls hP hS hl => lv_ifnull hxx hb hd (k H locs ls hP hS hl)
    · cases hx
  case ifnonnull off =>
    have hlen := hlen; dsimp only [pilen] at hlen; subst hlen
    obtain ⟨pc, lo, st, h⟩ := x
    dsimp only [stp] at hx
    split at hx
    · simp only [pnx, Option.some.injEq, Sum.inl.injEq] at hx; subst hx
      exact fun H locs ls hP hS hl => lv_ifnonnullN hxx hb hd (k H locs ls hP hS hl)
    · exact s_go (x := (pc, lo, _ :: _, h)) (fun ht kk => lv_ifnonnull hxx hb hd ht kk) hx k
    · cases hx
  case tableswitch df lo hi offs =>
    obtain ⟨pc, lv, st, h⟩ := x
    dsimp only [stp] at hx; unfold ptsw at hx; dsimp only at hx
    split at hx
    · split at hx
      · rename_i ho
        exact s_go (x := (pc, lv, _ :: _, h)) (fun ht kk => lv_tableOut hxx hb hd ho ht kk) hx k
      · rename_i ho
        split at hx
        · rename_i off hoff
          exact s_go (x := (pc, lv, _ :: _, h)) (fun ht kk => lv_tableIn hxx hb hd (fun q => ho (Or.inl q)) (fun q => ho (Or.inr q)) hoff ht kk) hx k
        · cases hx
    · cases hx
  case lookupswitch df ps =>
    obtain ⟨pc, lv, st, h⟩ := x
    dsimp only [stp] at hx; unfold plsw at hx; dsimp only at hx
    split at hx
    · split at hx
      · rename_i ho
        exact s_go (x := (pc, lv, _ :: _, h)) (fun ht kk => lv_lookup hxx hb hd ho rfl ht kk) hx k
      · cases hx
    · cases hx
  case iaload =>
    have hlen := hlen; dsimp only [pilen] at hlen; subst hlen
    exact s_sld C hd hx k
  case baload =>
    have hlen := hlen; dsimp only [pilen] at hlen; subst hlen
    exact s_bal C hd hx k
  case laload =>
    have hlen := hlen; dsimp only [pilen] at hlen; subst hlen
    exact s_lald C hd hx k
  case aaload =>
    have hlen := hlen; dsimp only [pilen] at hlen; subst hlen
    exact s_aald C hd hx k
  case iastore =>
    have hlen := hlen; dsimp only [pilen] at hlen; subst hlen
    exact s_iast C hd hx k
  case bastore =>
    have hlen := hlen; dsimp only [pilen] at hlen; subst hlen
    exact s_bas C hd hx k
  case lastore =>
    have hlen := hlen; dsimp only [pilen] at hlen; subst hlen
    exact s_last C hd hx k
  case aastore =>
    have hlen := hlen; dsimp only [pilen] at hlen; subst hlen
    exact s_aast C hd hx k
  case arraylength =>
    have hlen := hlen; dsimp only [pilen] at hlen; subst hlen
    exact s_aln C hd hx k
  case getfield idx =>
    have hlen := hlen; dsimp only [pilen] at hlen; subst hlen
    exact s_gf C hrs hd hx k
  case putfield idx =>
    have hlen := hlen; dsimp only [pilen] at hlen; subst hlen
    exact s_pf C hini hrs hd hx k
  case new idx =>
    have hlen := hlen; dsimp only [pilen] at hlen; subst hlen
    exact s_new C hrs hn hz hF hd hx k
  case newarray ty =>
    have hlen := hlen; dsimp only [pilen] at hlen; subst hlen
    exact s_na C hn hz hF hd hx k
  case anewarray idx =>
    have hlen := hlen; dsimp only [pilen] at hlen; subst hlen
    exact s_ana C hrs hn hz hF hd hx k
  case invokevirtual idx =>
    have hlen := hlen; dsimp only [pilen] at hlen; subst hlen
    exact s_ivv C hE hRd hrs hn hz hF hd hx k
  case invokestatic idx =>
    have hlen := hlen; dsimp only [pilen] at hlen; subst hlen
    exact s_ivs C hE hRd hrs hn hz hF hd hx k
  case invokespecial idx =>
    have hlen := hlen; dsimp only [pilen] at hlen; subst hlen
    exact s_ivi C hE hRd hrs hn hz hF hd hx k
  all_goals (unfold stp at hx; exact (pret_no hx).elim)
end PS4
