/-! WHAT HOLDS OF THE MACHINE beside the heap: classes, array classes, links of nest mates, string constants, the script -/
def pKU (B : Nat) (fo adV : Nat → Nat) (L : Nat) (xs : Nat → Int32) (D : va_G) (cA : Nat → ClassId) (U : State) : Prop :=
  va_K D cls (ptys cA) U ∧ (∀ w ∈ pnest, va_Nw w U) ∧ (va_AO "LampRounds$Image" U ∧ va_AO "LampRounds$Row" U) ∧ (∀ j, j < 12 → vk_R "LampRounds$Reader" (psix.getD j 0) (pstx.getD j "") (fo (j + 1)) U) ∧ vk_S 12 plen pbyt (fun i => fo (i + 1)) adV (fun q => B ≤ q) U U.heap ∧ va_X (fo 0) L xs U U.heap ∧ fo 0 < B ∧ va_Z "java/lang/String" "COMPACT_STRINGS" "Z" (.int 1) (fun q => B ≤ q) U U.heap ∧ va_Zq "jdk/internal/util/Preconditions" "SIOOBE_FORMATTER" "Ljava/util/function/BiFunction;" (fun q => B ≤ q) U U.heap
theorem pnest_form : ∀ w ∈ pnest, ∃ a i x, w = Cond.methodLinkNest a i x "LampRounds" := by
  intro w hw
  simp only [pnest, List.mem_cons, List.not_mem_nil, or_false] at hw
  rcases hw with rfl | rfl | rfl | rfl | rfl | rfl | rfl | rfl | rfl | rfl | rfl | rfl | rfl | rfl | rfl <;> exact ⟨_, _, _, rfl⟩
section PKU
variable {B : Nat} {fo adV : Nat → Nat} {L : Nat} {xs : Nat → Int32} {D : va_G} {cA : Nat → ClassId}
theorem pKU_same {u U : State} (hv : U.vm = u.vm) (hh : U.heap = u.heap) (h : pKU B fo adV L xs D cA u) : pKU B fo adV L xs D cA U := by
  obtain ⟨h1, h2, ⟨h3, h3'⟩, h4, h5, h6, h7, h8, h9⟩ := h
  have hal : u.vm.Alike U.vm := by rw [hv]; exact Vm.Alike.refl _
  refine ⟨h1.moved hal, fun w hw => ?_, ⟨h3.moved hal, h3'.moved hal⟩, fun j hj => (h4 j hj).same hv, ?_, ?_, h7, by rw [hh]; exact h8.moved hal, by rw [hh]; exact h9.moved hal⟩
  · obtain ⟨a, i, x, rfl⟩ := pnest_form w hw
    exact va_Nw.same rfl hv.symm (h2 _ hw)
  · rw [hh]; exact h5.moved hal
  · rw [hh]; exact h6.moved hal
theorem pKU_warm {s U : State} {H : Heap} {locs : List Loc} (hW : s.WarmedH U.vm) (hS : va_S (fun q => B ≤ q) s.heap H locs) (hh : U.heap = H) (h : pKU B fo adV L xs D cA s) : pKU B fo adV L xs D cA U := by
  obtain ⟨h1, h2, ⟨h3, h3'⟩, h4, h5, h6, h7, h8, h9⟩ := h
  have hal : s.vm.Alike U.vm := hW.alike
  have hbs : fo 0 < s.heap.size := by
    obtain ⟨scr, e, -⟩ := h6
    exact (Array.getElem?_eq_some_iff.mp e).1
  refine ⟨h1.moved hal, fun w hw => ?_, ⟨h3.moved hal, h3'.moved hal⟩, fun j hj => (h4 j hj).warm hW, ?_, ?_, h7, by rw [hh]; exact (h8.kept (fun a ha hA => hS.2.1 a ha hA)).moved hal, by rw [hh]; exact (h9.kept (fun a ha hA => hS.2.1 a ha hA)).moved hal⟩
  · obtain ⟨a, i, x, rfl⟩ := pnest_form w hw
    exact va_Nw.warmM hW (h2 _ hw)
  · rw [hh]
    exact (h5.kept (fun a ha hA => hS.2.1 a ha hA)).moved hal
  · rw [hh]
    exact (h6.kept (hS.2.1 _ hbs (Nat.not_le.mpr h7))).moved hal
end PKU
/-! a method, by its number: its name, its bytes, how many locals, what it returns, its class, its parameters -/
abbrev pMT : Type := (Nat → MethodName) × (Nat → ByteArray) × (Nat → Nat) × (Nat → Option FieldType) × (Nat → Nat)
def mWs (M : pMT) (id : Nat) : List Cond := Cond.code (M.1 id) (M.2.1 id) (M.2.2.1 id) (M.2.2.2.1 id) :: wsU
def prm (d mc ms : Nat) : Room := { frames := d, cells := mc, slots := ms, locals := 64 * d }
def pPc (B : Nat) (fo adV : Nat → Nat) (L : Nat) (xs : Nat → Int32) (D : va_G) (cA : Nat → ClassId) (av : List Value) (h : pH) : Array Value → State → Prop := va_Pc (av.map (pcv B fo)) (fun U => U.heap.size = B + h.1.length ∧ va_P D cls (pws B cA h) U.heap ∧ pKU B fo adV L xs D cA U)
def pQc (B : Nat) (fo : Nat → Nat) (D : va_G) (cA : Nat → ClassId) (r : pR) : Array Value → State → Outcome → State → Prop := fun _ st o t => o = .returned (r.1.map (pcv B fo)) ∧ (va_P D cls (pws B cA r.2) t.heap ∧ t.heap.size = B + r.2.1.length) ∧ va_F (fun q => B ≤ q) st t
/-- the contract of a method on one heap: what the pure machine answers, the machine answers -/
def pM (M : pMT) (L : Nat) (xs : Nat → Int32) (d id : Nat) (av : List Value) (h : pH) (r : pR) : Prop := ∀ (l : Launch) (B : Nat) (fo adV : Nat → Nat) (D : va_G) (cA : Nat → ClassId),
  Met l (M.1 id) (mWs M id) (prm d (r.2.1.length - h.1.length) (psz r.2 - psz h)) (pPc B fo adV L xs D cA av h) (pQc B fo D cA r) (r.2.1.length - h.1.length) (psz r.2 - psz h) (fun q => B ≤ q)
def pEnvOK (M : pMT) (L : Nat) (xs : Nat → Int32) (d : Nat) (env : pV) : Prop := ∀ id av h r, env id av h = some r → (h.1.length ≤ r.2.1.length ∧ psz h ≤ psz r.2) ∧ pM M L xs d id av h r
def pmk (M : pMT) (id : Nat) (n : Int) : Prop := Cond.code (M.1 id) (M.2.1 id) (M.2.2.1 id) (M.2.2.2.1 id) ∈ wsU ∧ Cond.initialized (M.1 id).cls ∈ wsU ∧ ((M.1 id).cls ≠ "java/lang/invoke/MethodHandle" ∧ (M.1 id).cls ≠ "java/lang/invoke/VarHandle" ∧ (parseMethodDescriptor (M.1 id).desc).map (fun d => d.parameters.length) = some n.toNat) ∧ M.2.2.1 id ≤ 45
def RsOK (M : pMT) (ow idx : Nat) (r : Nat × Nat × Int) : Prop := match r with
  | (0, c, j) => c < 13 ∧ j.toNat < cZ c ∧ Cond.fieldLink (cN ow) idx (cN c) (cT c j.toNat).2.1 (cT c j.toNat).2.2.1 ∈ wsU
  | (1, id, n) => Cond.methodLink (cN ow) idx (M.1 id) ∈ wsU ∧ Cond.instanceMethod (M.1 id) ∈ wsU ∧ Cond.selects (cN (M.2.2.2.2 id)) (M.1 id) (M.1 id) ∈ wsU ∧ M.2.2.2.2 id < 13 ∧ pmk M id n
  | (2, id, n) => Cond.methodLink (cN ow) idx (M.1 id) ∈ wsU ∧ Cond.static (M.1 id) ∈ wsU ∧ pmk M id n
  | (3, id, n) => (Cond.methodLink (cN ow) idx (M.1 id) ∈ wsU ∨ Cond.methodLinkNest (cN ow) idx (M.1 id) "LampRounds" ∈ pnest) ∧ Cond.instanceMethod (M.1 id) ∈ wsU ∧ (M.1 id).name = "<init>" ∧ M.2.2.2.1 id = none ∧ pmk M id n
  | (4, _, _) => Cond.methodLink (cN ow) idx Lib.objectInit ∈ wsU
  | (5, c, _) => c < 13 ∧ Cond.classLink (cN ow) idx (cN c) ∈ wsU
  | (7, _, _) => Cond.methodLink (cN ow) idx arraycopyName ∈ wsU
  | (8, id, n) => Cond.methodLink (cN ow) idx (M.1 id) ∈ wsU ∧ Cond.instanceMethod (M.1 id) ∈ wsU ∧ Cond.selects "java/lang/String" (M.1 id) (M.1 id) ∈ wsU ∧ pmk M id n
  | (12, _, z) => Cond.constant (cN ow) idx (Int32.ofInt z) ∈ wsU
  | (13, _, z) => Cond.constantLong (cN ow) idx (Int64.ofInt z) ∈ wsU
  | (14, j, _) => ow = 7 ∧ j < 12 ∧ psix.getD j 0 = idx
  | _ => True
theorem good_mWs {M : pMT} {id : Nat} {n : Int} (h : pmk M id n) : GoodIn wsU (mWs M id) := by
  intro w hw
  rcases List.mem_cons.mp hw with rfl | hw
  · exact ⟨h.1, Or.inl rfl⟩
  · exact ⟨hw, good_of_word (List.mem_filter.mp hw).2⟩
theorem pPc_blind {B : Nat} {fo adV : Nat → Nat} {L : Nat} {xs : Nat → Int32} {D : va_G} {cA : Nat → ClassId} {av : List Value} {h : pH} : FrameBlind (pPc B fo adV L xs D cA av h) := by
  intro a U g mk q
  obtain ⟨q1, q2, q3, q4⟩ := q
  exact ⟨q1, q2, q3, pKU_same (u := U) (U := U.calling g mk a) rfl rfl q4⟩
theorem ppop_spec : ∀ (n : Nat) (acc st av r : List Value), ppop n acc st = some (av, r) → av.reverse ++ r = acc.reverse ++ st ∧ av.length = n + acc.length
  | 0, acc, st, av, r, h => by
    simp only [ppop, Option.some.injEq, Prod.mk.injEq] at h
    obtain ⟨rfl, rfl⟩ := h
    exact ⟨rfl, by omega⟩
  | n + 1, acc, v :: st, av, r, h => by
    obtain ⟨h1, h2⟩ := ppop_spec n (v :: acc) st av r h
    refine ⟨by rw [h1]; simp, by rw [h2]; simp; omega⟩
  | n + 1, acc, [], av, r, h => by cases h
section PW
variable {p : Program} {l : Launch} {e : Env} {R : Room} {s : State} {m : MethodId} {args : Array Value} {below : List Frame} {meth : Method} {c : Code} {Q : State → Prop}
/-- the machine at a frame of the pure machine comes to Q -/
def pW (p : Program) (l : Launch) (e : Env) (R : Room) (s : State) (m : MethodId) (args : Array Value) (below : List Frame) (meth : Method) (c : Code) (nL B : Nat) (fo : Nat → Nat) (D : va_G) (cA : Nat → ClassId) (n0 z0 : Nat) (Q : State → Prop) (x : pS) : Prop :=
  ∀ (H : Heap) (locs : List Loc) (ls : Array Slot), va_P D cls (pws B cA x.2.2.2) H → va_S (fun q => B ≤ q) s.heap H locs → pL B fo ls nL x.2.1 → W p l e R s m args below meth c H locs (x.2.2.2.1.length - n0) (psz x.2.2.2 - z0) Q (F0 m x.1 ls (x.2.2.1.map (pcv B fo)))
/-- what the rows take as given -/
def pC (p : Program) (R : Room) (s : State) (m : MethodId) (args : Array Value) (c : Code) (cc : ByteArray) (nL ow B : Nat) (fo adV : Nat → Nat) (L : Nat) (xs : Nat → Int32) (D : va_G) (cA : Nat → ClassId) (n0 z0 nF zF : Nat) : Prop :=
  p.tables.exec = Jvm.exec ∧ c.code = cc ∧ c.maxLocals = nL ∧ s.vm.findClass (cN ow) = some m.cls ∧ (∀ w ∈ wsU, w.before args s = true) ∧ pKU B fo adV L xs D cA s ∧ s.heap.size = B + n0 ∧ (nF - n0 ≤ R.cells ∧ zF - z0 ≤ R.slots) ∧ (1 ≤ R.frames ∧ 64 ≤ R.locals)
theorem W.bd {H : Heap} {locs : List Loc} {cells slots : Nat} {g : JFrame} (k : H.size ≤ s.heap.size + cells → W p l e R s m args below meth c H locs cells slots Q g) : W p l e R s m args below meth c H locs cells slots Q g := by
  intro T hT X
  have h : T.heap.size ≤ s.heap.size + cells := X.same.2.2.1
  exact k (by rw [← hT]; exact h) T hT X
variable {B : Nat} {fo adV : Nat → Nat} {L : Nat} {xs : Nat → Int32} {D : va_G} {cA : Nat → ClassId} {cc : ByteArray} {nL n0 z0 nF zF ow : Nat}
/-- behind a call -/
theorem p_call {H : Heap} {locs : List Loc} {cells slots mc ms pc : Nat} {ls : Array Slot} {st0 rest : List Value} {r : pR} {a : Array Value} (hr : va_Run p l e R s m args below meth c H locs cells slots mc ms (F0 m pc ls st0) rest (pQc B fo D cA r a) (fun q => B ≤ q)) (hS : va_S (fun q => B ≤ q) s.heap H locs)
    (kk : ∀ (H1 : Heap) (locs1 : List Loc), va_P D cls (pws B cA r.2) H1 → va_S (fun q => B ≤ q) s.heap H1 locs1 → W p l e R s m args below meth c H1 locs1 (cells + mc) (slots + ms) Q (F0 m (pc + 3) ls ((r.1.map (pcv B fo)).toList ++ rest))) : W p l e R s m args below meth c H locs cells slots Q (F0 m pc ls st0) := by
  intro T hT X
  obtain ⟨v, st₀, t, T', L1, h0, X', hL, e1, e2, ⟨hv, ⟨hP1, hsz⟩, hz, hk⟩, st⟩ := hr T hT X
  cases hv
  rw [h0] at hz hk
  obtain ⟨t2, a1, b1⟩ := kk T'.heap (locs ++ L1) (by rw [e1]; exact hP1) ⟨Nat.le_trans hS.1 (by rw [e1]; exact hz), fun q h1 h2 => by rw [e1, hk q (Nat.lt_of_lt_of_le h1 hS.1) h2]; exact hS.2.1 q h1 h2, fun q hq => by
      rcases List.mem_append.mp hq with h | h
      · exact hS.2.2 q h
      · exact hL q h⟩ T' rfl X'
  exact ⟨t2, st t2 a1, b1⟩
/-- the heap's size, by its cells and by what the method may have made -/
theorem p_size {h : pH} {H : Heap} {locs : List Loc} (hP : va_P D cls (pws B cA h) H) (hS : va_S (fun q => B ≤ q) s.heap H locs) (h0 : s.heap.size = B + n0) (hn : n0 ≤ h.1.length) (hb : H.size ≤ s.heap.size + (h.1.length - n0)) : H.size = B + h.1.length := by
  have h1 : B + h.1.length ≤ H.size := by
    by_cases hz : h.1.length = n0
    · rw [hz, ← h0]; exact hS.1
    · have hlt : h.1.length - 1 < h.1.length := by omega
      have := (hP (h.1.length - 1) _ (pws_get (List.getElem?_eq_getElem hlt))).lt
      dsimp only at this
      omega
  omega
end PW
