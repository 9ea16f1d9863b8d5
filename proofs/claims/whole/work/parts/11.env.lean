/-! the run of a method, and its contract; the environment of all methods -/
theorem prun_gr {env : pV} {cd : List (Nat × Instr × Nat)} {mC : Nat → Nat} {rs : pQ} {ow nL L : Nat} {ini : Bool} {ret : Option FieldType} {xs : Nat → Int32} (hm : ∀ id av h r, env id av h = some r → h.1.length ≤ r.2.1.length ∧ psz h ≤ psz r.2) : ∀ (n : Nat) (x : pS) (r : pR), prun cd (stp env mC rs ow ini nL ret L xs) n x = some r → x.2.2.2.1.length ≤ r.2.1.length ∧ psz x.2.2.2 ≤ psz r.2
  | 0, x, r, h => by cases h
  | n + 1, x, r, h => by
    unfold prun at h
    split at h
    · cases h
    · split at h
      · cases h
      · rename_i x' hs
        have h1 := pgr_le hm (stp_gr hs)
        have h2 := prun_gr hm n x' r h
        exact ⟨Nat.le_trans h1.1 h2.1, Nat.le_trans h1.2 h2.2⟩
      · rename_i r' hs
        have e := Option.some.inj h
        subst e
        have : r'.2 = x.2.2.2 := by
          unfold stp at hs
          split at hs
          all_goals first
            | (unfold pret at hs
               (repeat' split at hs) <;> first | (cases hs; done) | (cases hs; rfl))
            | (try simp only [pnx, pb2, pl2, pls, pi1, pdv, pdvl, pif1, pif2, pgo, pldi, pldl, plda, psti, pstl, psta, pald, paldl, palda, past, pastl, pasta, pbal, pbas, pial, paln, pgf, ppf, pnw, pnew, pna, pana, pcal, pivv, pacp, pivs, pivi, pldc, pldc2, ptsw, plsw] at hs
               (repeat' split at hs) <;> first | (cases hs; done) | (simp at hs; done))
        rw [this]
        exact ⟨Nat.le_refl _, Nat.le_refl _⟩
section PS5
variable {p : Program} {l : Launch} {e : Env} {R : Room} {s : State} {m : MethodId} {args : Array Value} {below : List Frame} {meth : Method} {c : Code} {Q : State → Prop}
variable {B : Nat} {fo adV : Nat → Nat} {L : Nat} {xs : Nat → Int32} {D : va_G} {cA : Nat → ClassId} {cc : ByteArray} {nL n0 z0 ow d : Nat} {M : pMT} {rs : pQ} {env : pV}
theorem run_sound {ini : Bool} {ret : Option FieldType} {cd : List (Nat × Instr × Nat)} {r : pR} (C : pC p R s m args c cc nL ow B fo adV L xs D cA n0 z0 r.2.1.length (psz r.2)) (hE : pEnvOK M L xs d env) (hRd : d + 1 ≤ R.frames ∧ 64 * (d + 1) ≤ R.locals) (hini : ini = true → meth.name = "<init>") (hrs : ∀ idx r, rs idx = some r → RsOK M ow idx r) (hcd : ∀ q ∈ cd, pdec cc q.1 q.2.1 q.2.2)
    (hret : ∀ (i : Instr) (n : Nat) (x : pS), stp env M.2.2.2.2 rs ow ini nL ret L xs i x = some (.inr r) → n0 ≤ x.2.2.2.1.length → pdec cc x.1 i n → pW p l e R s m args below meth c nL B fo D cA n0 z0 Q x) : ∀ (n : Nat) (x : pS), prun cd (stp env M.2.2.2.2 rs ow ini nL ret L xs) n x = some r → n0 ≤ x.2.2.2.1.length → z0 ≤ psz x.2.2.2 → pW p l e R s m args below meth c nL B fo D cA n0 z0 Q x
  | 0, x, h, _, _ => by cases h
  | n + 1, x, h, hn, hz => by
    have hm := fun id av h r he => (hE id av h r he).1
    unfold prun at h
    split at h
    · cases h
    · rename_i q hq
      have hmem := List.mem_of_find?_eq_some hq
      have hpc : q.1 = x.1 := by have := List.find?_some hq; simpa using this
      have hdd := hcd q hmem
      rw [hpc] at hdd
      split at h
      · cases h
      · rename_i x' hs
        have h1 := pgr_le hm (stp_gr hs)
        have h2 := prun_gr hm n x' r h
        exact stp_sound C hE hRd hini hrs hn hz h2 hdd hs (run_sound C hE hRd hini hrs hcd hret n x' h (Nat.le_trans hn h1.1) (Nat.le_trans hz h1.2))
      · rename_i r' hs
        have e1 := Option.some.inj h
        subst e1
        exact hret _ _ x hs hn hdd
end PS5
theorem pret_of {env : pV} {mC : Nat → Nat} {rs : pQ} {ow nL L : Nat} {ini : Bool} {ret : Option FieldType} {xs : Nat → Int32} {i : Instr} {x : pS} {r : pR} (hs : stp env mC rs ow ini nL ret L xs i x = some (.inr r)) : pret ret i x = some (.inr r) := by
  unfold stp at hs
  split at hs
  all_goals first
    | exact hs
    | (exfalso
       try simp only [pnx, pb2, pl2, pls, pi1, pdv, pdvl, pif1, pif2, pgo, pldi, pldl, plda, psti, pstl, psta, pald, paldl, palda, past, pastl, pasta, pbal, pbas, pial, paln, pgf, ppf, pnw, pnew, pna, pana, pcal, pivv, pacp, pivs, pivi, pldc, pldc2, ptsw, plsw] at hs
       (repeat' split at hs) <;> first | (cases hs; done) | (simp at hs; done))
theorem met_sound {M : pMT} {L : Nat} {xs : Nat → Int32} {d : Nat} {env : pV} {id ow : Nat} {cd : List (Nat × Instr × Nat)} {ini : Bool} {rs : pQ} (hE : pEnvOK M L xs d env) (hcd : ∀ q ∈ cd, pdec (M.2.1 id) q.1 q.2.1 q.2.2) (hrs : ∀ idx r, rs idx = some r → RsOK M ow idx r) (hcls : (M.1 id).cls = cN ow) (hini : ini = true → (M.1 id).name = "<init>") (hpl : plainFor (M.1 id) = true) {av : List Value} {h : pH} {r : pR} {n : Nat} (hav : (pent av).length ≤ M.2.2.1 id)
    (hrun : prun cd (stp env M.2.2.2.2 rs ow ini (M.2.2.1 id) (M.2.2.2.1 id) L xs) n (0, pen (M.2.2.1 id) av, [], h) = some r) : (h.1.length ≤ r.2.1.length ∧ psz h ≤ psz r.2) ∧ pM M L xs (d + 1) id av h r := by
  have hmono := prun_gr (fun id av h r he => (hE id av h r he).1) n _ _ hrun
  refine ⟨hmono, fun l B fo adV D cA => ?_⟩
  refine va_MetF (cc := M.2.1 id) (maxL := M.2.2.1 id) (ret := M.2.2.2.1 id) hpl rfl ?_
  intro p e s m args below meth c s₁ Bd hml hv
  obtain ⟨rfl, hsz, hP, hKU⟩ := hv
  have hx := Bd.exec
  have hb := Bd.bytes
  have hr := Bd.returns
  have hts := atoms_spec (ws := mWs M id) Bd.pre
  have hown : s.vm.findClass (cN ow) = some m.cls := by rw [← hcls]; exact findClass_of_methodNamed Bd.named
  have hlocks := Bd.notSynchronized
  have hnm : meth.name = (M.1 id).name := (name_of_methodNamed Bd.named Bd.method).1
  have C : pC p (headSpec (mWs M id) (prm (d + 1) (r.2.1.length - h.1.length) (psz r.2 - psz h))).room s m (av.map (pcv B fo)).toArray c (M.2.1 id) (M.2.2.1 id) ow B fo adV L xs D cA h.1.length (psz h) r.2.1.length (psz r.2) :=
    ⟨hx, hb, hml, hown, fun w hw => hts w (List.mem_cons_of_mem _ hw), hKU, hsz, ⟨Nat.le_refl _, Nat.le_refl _⟩, by show 1 ≤ d + 1; omega, by show 64 ≤ 64 * (d + 1); omega⟩
  rw [lg_entry_eq]
  have hl := pL_entry (B := B) (fo := fo) hav
  have hW := run_sound (p := p) (l := l) (e := e) (below := below) (meth := meth) (Q := MQ below (pQc B fo D cA r) (av.map (pcv B fo)).toArray s (r.2.1.length - h.1.length) (psz r.2 - psz h) (fun q => B ≤ q)) (ret := M.2.2.2.1 id) C hE ⟨Nat.le_refl _, Nat.le_refl _⟩ (fun hi => by rw [hnm]; exact hini hi) hrs hcd ?_ n _ hrun (Nat.le_refl _) (Nat.le_refl _) s.heap [] _ hP va_S.rf hl
  · exact W.cs (by simp) (by simp) hW
  · intro i k x hs hn0 hdd H locs ls hP1 hS1 hl1
    refine W.bd fun hbd => ?_
    have hsz1 := p_size hP1 hS1 hsz hn0 hbd
    have hp := pret_of hs
    obtain ⟨pc, lo, st, h1⟩ := x
    dsimp only at hP1 hsz1
    obtain ⟨hd1, hlen⟩ := hdd
    unfold pret at hp
    dsimp only at hp
    split at hp
    · rename_i hrt
      cases hp
      have hk : k = 1 := hlen
      subst hk
      exact W.vret hx hb (by rw [hr, hrt]) (fun t ht _ => ⟨rfl, ⟨by rw [ht]; exact hP1, by rw [ht]; exact hsz1⟩, hS1.F ht⟩) hS1.2.2 hd1
    · rename_i ty v hrt
      have hk : k = 1 := hlen
      subst hk
      split at hp
      · rename_i hty
        cases hp
        exact W.zret hx hb (by rw [hr, hrt]) (by rw [hty]; rfl) (fun t ht _ => ⟨rfl, ⟨by rw [ht]; exact hP1, by rw [ht]; exact hsz1⟩, hS1.F ht⟩) hS1.2.2 hd1
      · split at hp
        · rename_i hnw
          cases hp
          exact W.zret hx hb (by rw [hr, hrt]) hnw (fun t ht _ => ⟨rfl, ⟨by rw [ht]; exact hP1, by rw [ht]; exact hsz1⟩, hS1.F ht⟩) hS1.2.2 hd1
        · cases hp
    · rename_i v hrt
      cases hp
      have hk : k = 1 := hlen
      subst hk
      exact W.lret hx hb (by rw [hr, hrt]) (fun t ht _ => ⟨rfl, ⟨by rw [ht]; exact hP1, by rw [ht]; exact hsz1⟩, hS1.F ht⟩) hS1.2.2 hd1
    · rename_i cn v hrt
      cases hp
      have hk : k = 1 := hlen
      subst hk
      exact W.aret hx hb (by rw [hr, hrt]) (Or.inl ⟨_, rfl⟩) (Or.inr ⟨_, rfl⟩) (fun t ht _ => ⟨rfl, ⟨by rw [ht]; exact hP1, by rw [ht]; exact hsz1⟩, hS1.F ht⟩) hS1.2.2 hd1
    · rename_i cn v hrt
      cases hp
      have hk : k = 1 := hlen
      subst hk
      exact W.aret hx hb (by rw [hr, hrt]) (Or.inl ⟨_, rfl⟩) (Or.inr ⟨_, rfl⟩) (fun t ht _ => ⟨rfl, ⟨by rw [ht]; exact hP1, by rw [ht]; exact hsz1⟩, hS1.F ht⟩) hS1.2.2 hd1
    · cases hp
/-- all methods: their code, what the indices mean in their class, which are constructors -/
abbrev pMC : Type := (Nat → List (Nat × Instr × Nat)) × (Nat → pQ) × (Nat → Bool)
/-- one run of method id -/
def pgo1 (M : pMT) (N : pMC) (L : Nat) (xs : Nat → Int32) (env : pV) (id : Nat) (n : Nat) (x : pS) : Option pR := prun (N.1 id) (stp env M.2.2.2.2 (N.2.1 (M.2.2.2.2 id)) (M.2.2.2.2 id) (N.2.2 id) (M.2.2.1 id) (M.2.2.2.1 id) L xs) n x
noncomputable def pEnv (M : pMT) (N : pMC) (L : Nat) (xs : Nat → Int32) (pp : pV) : Nat → pV
  | 0 => fun _ _ _ => none
  | d + 1 => fun id av h => match (if 3 ≤ d then pp id av h else none) with
    | some r => some r
    | none => if (pent av).length ≤ M.2.2.1 id then (@dite (Option pR) (∃ r n, pgo1 M N L xs (pEnv M N L xs pp d) id n (0, pen (M.2.2.1 id) av, [], h) = some r) (Classical.propDecidable _) (fun hx => some (Classical.choose hx)) (fun _ => none)) else none
theorem pEnv_run {M : pMT} {N : pMC} {L : Nat} {xs : Nat → Int32} {pp : pV} {d id n : Nat} {av : List Value} {h : pH} {r : pR} (hp : pp id av h = none) (hav : (pent av).length ≤ M.2.2.1 id) (hr : pgo1 M N L xs (pEnv M N L xs pp d) id n (0, pen (M.2.2.1 id) av, [], h) = some r) : pEnv M N L xs pp (d + 1) id av h = some r := by
  have hx : ∃ r n, pgo1 M N L xs (pEnv M N L xs pp d) id n (0, pen (M.2.2.1 id) av, [], h) = some r := ⟨r, n, hr⟩
  unfold pEnv
  rw [hp, ite_self]
  dsimp only
  rw [if_pos hav, dif_pos hx]
  obtain ⟨n2, h2⟩ := Classical.choose_spec hx
  exact congrArg some (prun_det h2 hr)
def pMOK (M : pMT) (N : pMC) (id : Nat) : Prop := (∀ q ∈ N.1 id, pdec (M.2.1 id) q.1 q.2.1 q.2.2) ∧ (M.1 id).cls = cN (M.2.2.2.2 id) ∧ (N.2.2 id = true → (M.1 id).name = "<init>") ∧ plainFor (M.1 id) = true
theorem env_ok {M : pMT} {N : pMC} {L : Nat} {xs : Nat → Int32} {pp : pV} (hpp : ∀ d, 3 ≤ d → ∀ id av h r, pp id av h = some r → (h.1.length ≤ r.2.1.length ∧ psz h ≤ psz r.2) ∧ pM M L xs (d + 1) id av h r) (hrs : ∀ ow idx r, N.2.1 ow idx = some r → RsOK M ow idx r) (hid : ∀ id, N.1 id ≠ [] → pMOK M N id) : ∀ d, pEnvOK M L xs d (pEnv M N L xs pp d)
  | 0 => fun id av h r he => by cases he
  | d + 1 => fun id av h r he => by
    unfold pEnv at he
    split at he
    · rename_i r1 hp1
      cases he
      split at hp1
      · rename_i h3
        exact hpp d h3 id av h r hp1
      · cases hp1
    · split at he
      · rename_i hav
        by_cases hx : ∃ r n, pgo1 M N L xs (pEnv M N L xs pp d) id n (0, pen (M.2.2.1 id) av, [], h) = some r
        · rw [dif_pos hx] at he
          cases he
          obtain ⟨n, h2⟩ := Classical.choose_spec hx
          generalize Classical.choose hx = r0 at h2 ⊢
          have hne : N.1 id ≠ [] := by
            intro hnil
            unfold pgo1 at h2
            rw [hnil] at h2
            cases n with
            | zero => cases h2
            | succ n => simp [prun] at h2
          obtain ⟨g1, g2, g3, g4⟩ := hid id hne
          exact met_sound (env_ok hpp hrs hid d) g1 (fun idx r => hrs _ idx r) g2 g3 g4 hav h2
        · rw [dif_neg hx] at he
          cases he
      · cases he
