/-! String.length and String.charAt of the string constants -/
def yJ_coder : MethodName := ⟨"java/lang/String", "coder", "()B"⟩
theorem wJ_coder : Cond.code yJ_coder prog_17_method_152_code 1 (some .byte) ∈ wsU := mt3 1 rfl
theorem dJ_coder_0 : decode prog_17_method_152_code 0 = .ok (.getstatic 38, 3) := by decide +kernel
theorem dJ_coder_3 : decode prog_17_method_152_code 3 = .ok (.ifCond .eq 10, 3) := by decide +kernel
theorem dJ_coder_6 : decode prog_17_method_152_code 6 = .ok (.aload_n 0, 1) := by decide +kernel
theorem dJ_coder_7 : decode prog_17_method_152_code 7 = .ok (.getfield 15, 3) := by decide +kernel
theorem dJ_coder_10 : decode prog_17_method_152_code 10 = .ok (.goto 4, 3) := by decide +kernel
theorem dJ_coder_13 : decode prog_17_method_152_code 13 = .ok (.iconst 1, 1) := by decide +kernel
theorem dJ_coder_14 : decode prog_17_method_152_code 14 = .ok (.ireturn, 1) := by decide +kernel
def yJ_isLatin1 : MethodName := ⟨"java/lang/String", "isLatin1", "()Z"⟩
theorem wJ_isLatin1 : Cond.code yJ_isLatin1 prog_17_method_154_code 1 (some .boolean) ∈ wsU := mt3 11 rfl
theorem dJ_isLatin1_0 : decode prog_17_method_154_code 0 = .ok (.getstatic 38, 3) := by decide +kernel
theorem dJ_isLatin1_3 : decode prog_17_method_154_code 3 = .ok (.ifCond .eq 14, 3) := by decide +kernel
theorem dJ_isLatin1_6 : decode prog_17_method_154_code 6 = .ok (.aload_n 0, 1) := by decide +kernel
theorem dJ_isLatin1_7 : decode prog_17_method_154_code 7 = .ok (.getfield 15, 3) := by decide +kernel
theorem dJ_isLatin1_10 : decode prog_17_method_154_code 10 = .ok (.ifCond .ne 7, 3) := by decide +kernel
theorem dJ_isLatin1_13 : decode prog_17_method_154_code 13 = .ok (.iconst 1, 1) := by decide +kernel
theorem dJ_isLatin1_14 : decode prog_17_method_154_code 14 = .ok (.goto 4, 3) := by decide +kernel
theorem dJ_isLatin1_17 : decode prog_17_method_154_code 17 = .ok (.iconst 0, 1) := by decide +kernel
theorem dJ_isLatin1_18 : decode prog_17_method_154_code 18 = .ok (.ireturn, 1) := by decide +kernel
def yJ_pchk : MethodName := ⟨"jdk/internal/util/Preconditions", "checkIndex", "(IILjava/util/function/BiFunction;)I"⟩
theorem wJ_pchk : Cond.code yJ_pchk prog_21_method_11_code 3 (some .int) ∈ wsU := mt3 22 rfl
theorem dJ_pchk_0 : decode prog_21_method_11_code 0 = .ok (.iload_n 0, 1) := by decide +kernel
theorem dJ_pchk_1 : decode prog_21_method_11_code 1 = .ok (.ifCond .lt 8, 3) := by decide +kernel
theorem dJ_pchk_4 : decode prog_21_method_11_code 4 = .ok (.iload_n 0, 1) := by decide +kernel
theorem dJ_pchk_5 : decode prog_21_method_11_code 5 = .ok (.iload_n 1, 1) := by decide +kernel
theorem dJ_pchk_6 : decode prog_21_method_11_code 6 = .ok (.if_icmp .lt 10, 3) := by decide +kernel
theorem dJ_pchk_9 : decode prog_21_method_11_code 9 = .ok (.aload_n 2, 1) := by decide +kernel
theorem dJ_pchk_10 : decode prog_21_method_11_code 10 = .ok (.iload_n 0, 1) := by decide +kernel
theorem dJ_pchk_11 : decode prog_21_method_11_code 11 = .ok (.iload_n 1, 1) := by decide +kernel
theorem dJ_pchk_12 : decode prog_21_method_11_code 12 = .ok (.invokestatic 95, 3) := by decide +kernel
theorem dJ_pchk_15 : decode prog_21_method_11_code 15 = .ok (.athrow, 1) := by decide +kernel
theorem dJ_pchk_16 : decode prog_21_method_11_code 16 = .ok (.iload_n 0, 1) := by decide +kernel
theorem dJ_pchk_17 : decode prog_21_method_11_code 17 = .ok (.ireturn, 1) := by decide +kernel
def yJ_schk : MethodName := ⟨"java/lang/String", "checkIndex", "(II)V"⟩
theorem wJ_schk : Cond.code yJ_schk prog_17_method_155_code 2 none ∈ wsU := mt3 17 rfl
theorem dJ_schk_0 : decode prog_17_method_155_code 0 = .ok (.iload_n 0, 1) := by decide +kernel
theorem dJ_schk_1 : decode prog_17_method_155_code 1 = .ok (.iload_n 1, 1) := by decide +kernel
theorem dJ_schk_2 : decode prog_17_method_155_code 2 = .ok (.getstatic 1053, 3) := by decide +kernel
theorem dJ_schk_5 : decode prog_17_method_155_code 5 = .ok (.invokestatic 1059, 3) := by decide +kernel
theorem dJ_schk_8 : decode prog_17_method_155_code 8 = .ok (.pop, 1) := by decide +kernel
theorem dJ_schk_9 : decode prog_17_method_155_code 9 = .ok (.return_, 1) := by decide +kernel
def yJ_lchar : MethodName := ⟨"java/lang/StringLatin1", "charAt", "([BI)C"⟩
theorem wJ_lchar : Cond.code yJ_lchar prog_18_method_2_code 2 (some .char) ∈ wsU := mt3 14 rfl
theorem dJ_lchar_0 : decode prog_18_method_2_code 0 = .ok (.iload_n 1, 1) := by decide +kernel
theorem dJ_lchar_1 : decode prog_18_method_2_code 1 = .ok (.aload_n 0, 1) := by decide +kernel
theorem dJ_lchar_2 : decode prog_18_method_2_code 2 = .ok (.arraylength, 1) := by decide +kernel
theorem dJ_lchar_3 : decode prog_18_method_2_code 3 = .ok (.invokestatic 9, 3) := by decide +kernel
theorem dJ_lchar_6 : decode prog_18_method_2_code 6 = .ok (.aload_n 0, 1) := by decide +kernel
theorem dJ_lchar_7 : decode prog_18_method_2_code 7 = .ok (.iload_n 1, 1) := by decide +kernel
theorem dJ_lchar_8 : decode prog_18_method_2_code 8 = .ok (.baload, 1) := by decide +kernel
theorem dJ_lchar_9 : decode prog_18_method_2_code 9 = .ok (.sipush 255, 3) := by decide +kernel
theorem dJ_lchar_12 : decode prog_18_method_2_code 12 = .ok (.iand, 1) := by decide +kernel
theorem dJ_lchar_13 : decode prog_18_method_2_code 13 = .ok (.i2c, 1) := by decide +kernel
theorem dJ_lchar_14 : decode prog_18_method_2_code 14 = .ok (.ireturn, 1) := by decide +kernel
def yJ_length : MethodName := ⟨"java/lang/String", "length", "()I"⟩
theorem wJ_length : Cond.code yJ_length prog_17_method_54_code 1 (some .int) ∈ wsU := mt2 237 rfl
theorem dJ_length_0 : decode prog_17_method_54_code 0 = .ok (.aload_n 0, 1) := by decide +kernel
theorem dJ_length_1 : decode prog_17_method_54_code 1 = .ok (.getfield 9, 3) := by decide +kernel
theorem dJ_length_4 : decode prog_17_method_54_code 4 = .ok (.arraylength, 1) := by decide +kernel
theorem dJ_length_5 : decode prog_17_method_54_code 5 = .ok (.aload_n 0, 1) := by decide +kernel
theorem dJ_length_6 : decode prog_17_method_54_code 6 = .ok (.invokevirtual 335, 3) := by decide +kernel
theorem dJ_length_9 : decode prog_17_method_54_code 9 = .ok (.ishr, 1) := by decide +kernel
theorem dJ_length_10 : decode prog_17_method_54_code 10 = .ok (.ireturn, 1) := by decide +kernel
def yJ_charAt : MethodName := ⟨"java/lang/String", "charAt", "(I)C"⟩
theorem wJ_charAt : Cond.code yJ_charAt prog_17_method_56_code 2 (some .char) ∈ wsU := mt3 7 rfl
theorem dJ_charAt_0 : decode prog_17_method_56_code 0 = .ok (.aload_n 0, 1) := by decide +kernel
theorem dJ_charAt_1 : decode prog_17_method_56_code 1 = .ok (.invokevirtual 492, 3) := by decide +kernel
theorem dJ_charAt_4 : decode prog_17_method_56_code 4 = .ok (.ifCond .eq 12, 3) := by decide +kernel
theorem dJ_charAt_7 : decode prog_17_method_56_code 7 = .ok (.aload_n 0, 1) := by decide +kernel
theorem dJ_charAt_8 : decode prog_17_method_56_code 8 = .ok (.getfield 9, 3) := by decide +kernel
theorem dJ_charAt_11 : decode prog_17_method_56_code 11 = .ok (.iload_n 1, 1) := by decide +kernel
theorem dJ_charAt_12 : decode prog_17_method_56_code 12 = .ok (.invokestatic 495, 3) := by decide +kernel
theorem dJ_charAt_15 : decode prog_17_method_56_code 15 = .ok (.ireturn, 1) := by decide +kernel
theorem iJ_S : Cond.initialized "java/lang/String" ∈ wsU := mt1 14 rfl
theorem iJ_L : Cond.initialized "java/lang/StringLatin1" ∈ wsU := mt1 15 rfl
theorem iJ_P : Cond.initialized "jdk/internal/util/Preconditions" ∈ wsU := mt1 16 rfl
theorem fJ_9 : Cond.fieldLink "java/lang/String" 9 "java/lang/String" "value" "[B" ∈ wsU := mt9 173 rfl
theorem fJ_15 : Cond.fieldLink "java/lang/String" 15 "java/lang/String" "coder" "B" ∈ wsU := mt9 174 rfl
theorem fJ_38 : Cond.fieldLink "java/lang/String" 38 "java/lang/String" "COMPACT_STRINGS" "Z" ∈ wsU := mt3 2 rfl
theorem fJ_1053 : Cond.fieldLink "java/lang/String" 1053 "jdk/internal/util/Preconditions" "SIOOBE_FORMATTER" "Ljava/util/function/BiFunction;" ∈ wsU := mt3 18 rfl
theorem lJ_coder : Cond.methodLink "java/lang/String" 335 yJ_coder ∈ wsU := mt2 238 rfl
theorem lJ_isLatin1 : Cond.methodLink "java/lang/String" 492 yJ_isLatin1 ∈ wsU := mt3 8 rfl
theorem lJ_lchar : Cond.methodLink "java/lang/String" 495 yJ_lchar ∈ wsU := mt3 12 rfl
theorem lJ_schk : Cond.methodLink "java/lang/StringLatin1" 9 yJ_schk ∈ wsU := mt3 15 rfl
theorem lJ_pchk : Cond.methodLink "java/lang/String" 1059 yJ_pchk ∈ wsU := mt3 20 rfl
theorem nJ_coder : Cond.instanceMethod yJ_coder ∈ wsU := mt2 239 rfl
theorem sJ_coder : Cond.selects "java/lang/String" yJ_coder yJ_coder ∈ wsU := mt3 0 rfl
theorem nJ_isLatin1 : Cond.instanceMethod yJ_isLatin1 ∈ wsU := mt3 9 rfl
theorem sJ_isLatin1 : Cond.selects "java/lang/String" yJ_isLatin1 yJ_isLatin1 ∈ wsU := mt3 10 rfl
theorem tJ_lchar : Cond.static yJ_lchar ∈ wsU := mt3 13 rfl
theorem tJ_schk : Cond.static yJ_schk ∈ wsU := mt3 16 rfl
theorem tJ_pchk : Cond.static yJ_pchk ∈ wsU := mt3 21 rfl

def jWs (y : MethodName) (cc : ByteArray) (mL : Nat) (rt : Option FieldType) : List Cond := Cond.code y cc mL rt :: wsU
theorem good_jWs {y : MethodName} {cc : ByteArray} {mL : Nat} {rt : Option FieldType} (h : Cond.code y cc mL rt ∈ wsU) : GoodIn wsU (jWs y cc mL rt) := by
  intro w hw
  rcases List.mem_cons.mp hw with rfl | hw
  · exact ⟨h, Or.inl rfl⟩
  · exact ⟨hw, good_of_word (List.mem_filter.mp hw).2⟩
def jrm (f : Nat) : Room := { frames := f, cells := 0, slots := 0, locals := 22 * f }
def jPc (B : Nat) (fo adV : Nat → Nat) (L : Nat) (xs : Nat → Int32) (D : va_G) (cA : Nat → ClassId) (av : List Value) : Array Value → State → Prop := va_Pc av (fun U => pKU B fo adV L xs D cA U)
def jQc (v : Option Value) : Array Value → State → Outcome → State → Prop := fun _ st o t => o = .returned v ∧ t.heap = st.heap
theorem jPc_blind {B : Nat} {fo adV : Nat → Nat} {L : Nat} {xs : Nat → Int32} {D : va_G} {cA : Nat → ClassId} {av : List Value} : FrameBlind (jPc B fo adV L xs D cA av) := by
  intro a U g mk q
  exact ⟨q.1, pKU_same (u := U) (U := U.calling g mk a) rfl rfl q.2⟩
theorem j_call {p : Program} {l : Launch} {e : Env} {R : Room} {s : State} {m : MethodId} {args : Array Value} {below : List Frame} {meth : Method} {c : Code} {Q : State → Prop} {H : Heap} {locs : List Loc} {cells slots pc : Nat} {ls : Array Slot} {st0 rest : List Value} {v : Option Value} {a : Array Value} (hr : va_Run p l e R s m args below meth c H locs cells slots 0 0 (F0 m pc ls st0) rest (jQc v a) (fun _ => False))
    (kk : W p l e R s m args below meth c H locs cells slots Q (F0 m (pc + 3) ls (v.toList ++ rest))) : W p l e R s m args below meth c H locs cells slots Q (F0 m pc ls st0) := by
  intro T hT X
  obtain ⟨v', st₀, t, T', L1, h0, X', hL, e1, e2, ⟨hv, hh⟩, st⟩ := hr T hT X
  cases hv
  have hnil : L1 = [] := by
    cases L1 with
    | nil => rfl
    | cons q t => exact (hL q List.mem_cons_self).elim
  subst hnil
  rw [List.append_nil] at X'
  obtain ⟨t2, a1, b1⟩ := kk T' (by rw [e1, hh, h0]) X'
  exact ⟨t2, st t2 a1, b1⟩
section PJ
variable {B : Nat} {fo adV : Nat → Nat} {L : Nat} {xs : Nat → Int32} {D : va_G} {cA : Nat → ClassId}

set_option maxHeartbeats 4000000 in
theorem cJ_coder (l : Launch) {i : Nat} (hi : i < 12) : Met l yJ_coder (jWs yJ_coder prog_17_method_152_code 1 (some .byte)) (jrm 0) (jPc B fo adV L xs D cA [.ref (fo (i + 1))]) (jQc (some (.int 0))) 0 0 (fun _ => False) := by
  refine va_MetF (cc := prog_17_method_152_code) (maxL := 1) (ret := (some .byte)) (by decide +kernel) rfl ?_
  intro p e s m args below meth c s₁ Bd hml hv
  obtain ⟨rfl, hKU⟩ := hv
  have hx := Bd.exec
  have hb := Bd.bytes
  have hr := Bd.returns
  have hts0 := atoms_spec Bd.pre
  have hts : ∀ w ∈ wsU, w.before _ s = true := fun w hw => hts0 w (List.mem_cons_of_mem _ hw)
  have hown : s.vm.findClass "java/lang/String" = some m.cls := findClass_of_methodNamed Bd.named
  have hlocks := Bd.notSynchronized
  have hS : va_S (fun q => B ≤ q) s.heap s.heap [] := va_S.rf
  rw [lg_entry_eq]
  have hl := lv_entry ([.ref (fo (i + 1))]) (n := 1) (Nat.le_of_ble_eq_true rfl)
  generalize (lg_sl ([.ref (fo (i + 1))]) ++ List.replicate (1 - (lg_sl ([.ref (fo (i + 1))])).length) Slot.unset).toArray = ls at hl ⊢
  refine va_gets hx hb hKU.2.2.2.2.2.2.2.1 hS hown (hts _ fJ_38) (fun _ q => q) dJ_coder_0 ?_
  refine lv_if_eq (tgt := 13) hx hb dJ_coder_3 (by decide) (fun h => absurd h (by decide)) (fun _ => ?_)
  refine lv_aload_n hx hb dJ_coder_6 rfl (lv_at hl 0 rfl) ?_
  refine vk_getf hx hb (hKU.2.2.2.2.1.1 i hi).2.1 hS hown (hts _ fJ_15) (fun _ q => q) dJ_coder_7 ?_
  refine lv_goto (tgt := 14) hx hb dJ_coder_10 (by decide) ?_
  exact W.zret hx hb hr rfl (fun t ht _ => ⟨rfl, ht⟩) (fun _ h => by cases h) dJ_coder_14
set_option maxHeartbeats 4000000 in
theorem cJ_isLatin1 (l : Launch) {i : Nat} (hi : i < 12) : Met l yJ_isLatin1 (jWs yJ_isLatin1 prog_17_method_154_code 1 (some .boolean)) (jrm 0) (jPc B fo adV L xs D cA [.ref (fo (i + 1))]) (jQc (some (.int 1))) 0 0 (fun _ => False) := by
  refine va_MetF (cc := prog_17_method_154_code) (maxL := 1) (ret := (some .boolean)) (by decide +kernel) rfl ?_
  intro p e s m args below meth c s₁ Bd hml hv
  obtain ⟨rfl, hKU⟩ := hv
  have hx := Bd.exec
  have hb := Bd.bytes
  have hr := Bd.returns
  have hts0 := atoms_spec Bd.pre
  have hts : ∀ w ∈ wsU, w.before _ s = true := fun w hw => hts0 w (List.mem_cons_of_mem _ hw)
  have hown : s.vm.findClass "java/lang/String" = some m.cls := findClass_of_methodNamed Bd.named
  have hlocks := Bd.notSynchronized
  have hS : va_S (fun q => B ≤ q) s.heap s.heap [] := va_S.rf
  rw [lg_entry_eq]
  have hl := lv_entry ([.ref (fo (i + 1))]) (n := 1) (Nat.le_of_ble_eq_true rfl)
  generalize (lg_sl ([.ref (fo (i + 1))]) ++ List.replicate (1 - (lg_sl ([.ref (fo (i + 1))])).length) Slot.unset).toArray = ls at hl ⊢
  refine va_gets hx hb hKU.2.2.2.2.2.2.2.1 hS hown (hts _ fJ_38) (fun _ q => q) dJ_isLatin1_0 ?_
  refine lv_if_eq (tgt := 17) hx hb dJ_isLatin1_3 (by decide) (fun h => absurd h (by decide)) (fun _ => ?_)
  refine lv_aload_n hx hb dJ_isLatin1_6 rfl (lv_at hl 0 rfl) ?_
  refine vk_getf hx hb (hKU.2.2.2.2.1.1 i hi).2.1 hS hown (hts _ fJ_15) (fun _ q => q) dJ_isLatin1_7 ?_
  refine lv_if_ne (tgt := 17) hx hb dJ_isLatin1_10 (by decide) (fun h => absurd rfl h) (fun _ => ?_)
  refine lv_iconst (v := 1) hx hb dJ_isLatin1_13 (by decide) ?_
  refine lv_goto (tgt := 18) hx hb dJ_isLatin1_14 (by decide) ?_
  exact W.zret hx hb hr rfl (fun t ht _ => ⟨rfl, ht⟩) (fun _ h => by cases h) dJ_isLatin1_18
set_option maxHeartbeats 4000000 in
theorem cJ_pchk (l : Launch) {k n : Int32} {q : Value} (hq : q.category = 1) (h1 : ¬ k < 0) (h2 : k < n) : Met l yJ_pchk (jWs yJ_pchk prog_21_method_11_code 3 (some .int)) (jrm 0) (jPc B fo adV L xs D cA [.int k, .int n, q]) (jQc (some (.int k))) 0 0 (fun _ => False) := by
  refine va_MetF (cc := prog_21_method_11_code) (maxL := 3) (ret := (some .int)) (by decide +kernel) rfl ?_
  intro p e s m args below meth c s₁ Bd hml hv
  obtain ⟨rfl, hKU⟩ := hv
  have hx := Bd.exec
  have hb := Bd.bytes
  have hr := Bd.returns
  have hts0 := atoms_spec Bd.pre
  have hts : ∀ w ∈ wsU, w.before _ s = true := fun w hw => hts0 w (List.mem_cons_of_mem _ hw)
  have hown : s.vm.findClass "jdk/internal/util/Preconditions" = some m.cls := findClass_of_methodNamed Bd.named
  have hlocks := Bd.notSynchronized
  have hS : va_S (fun q => B ≤ q) s.heap s.heap [] := va_S.rf
  rw [lg_entry_eq]
  have hl := lv_entry ([.int k, .int n, q]) (n := 3) (by have e1 : ∀ z : Int32, (Value.int z).category = 1 := fun _ => rfl; simp [lg_sl, e1, hq])
  generalize (lg_sl ([.int k, .int n, q]) ++ List.replicate (3 - (lg_sl ([.int k, .int n, q])).length) Slot.unset).toArray = ls at hl ⊢
  have hl : lv_has ls 3 [(0, .int k), (1, .int n)] := ⟨hl.1, hl.2.1, fun z hz => hl.2.2 z (by
    simp only [lv_args, Value.category]
    rcases List.mem_cons.mp hz with rfl | hz
    · simp
    · rcases List.mem_cons.mp hz with rfl | hz
      · simp
      · cases hz)⟩
  refine lv_iload_n hx hb dJ_pchk_0 rfl (lv_at hl 0 rfl) ?_
  refine lv_if_lt (tgt := 9) hx hb dJ_pchk_1 (by decide) (fun h => absurd h h1) (fun _ => ?_)
  refine lv_iload_n hx hb dJ_pchk_4 rfl (lv_at hl 0 rfl) ?_
  refine lv_iload_n hx hb dJ_pchk_5 rfl (lv_at hl 1 rfl) ?_
  refine lv_icmp_lt (tgt := 16) hx hb dJ_pchk_6 (by decide) (fun _ => ?_) (fun h => absurd h2 h)
  refine lv_iload_n hx hb dJ_pchk_16 rfl (lv_at hl 0 rfl) ?_
  exact W.iret hx hb hr (fun t ht _ => ⟨rfl, ht⟩) (fun _ h => by cases h) dJ_pchk_17
set_option maxHeartbeats 4000000 in
theorem cJ_schk (l : Launch) {k n : Int32} (h1 : ¬ k < 0) (h2 : k < n) : Met l yJ_schk (jWs yJ_schk prog_17_method_155_code 2 none) (jrm 1) (jPc B fo adV L xs D cA [.int k, .int n]) (jQc none) 0 0 (fun _ => False) := by
  refine va_MetF (cc := prog_17_method_155_code) (maxL := 2) (ret := none) (by decide +kernel) rfl ?_
  intro p e s m args below meth c s₁ Bd hml hv
  obtain ⟨rfl, hKU⟩ := hv
  have hx := Bd.exec
  have hb := Bd.bytes
  have hr := Bd.returns
  have hts0 := atoms_spec Bd.pre
  have hts : ∀ w ∈ wsU, w.before _ s = true := fun w hw => hts0 w (List.mem_cons_of_mem _ hw)
  have hown : s.vm.findClass "java/lang/String" = some m.cls := findClass_of_methodNamed Bd.named
  have hlocks := Bd.notSynchronized
  have hS : va_S (fun q => B ≤ q) s.heap s.heap [] := va_S.rf
  rw [lg_entry_eq]
  have hl := lv_entry ([.int k, .int n]) (n := 2) (Nat.le_of_ble_eq_true rfl)
  generalize (lg_sl ([.int k, .int n]) ++ List.replicate (2 - (lg_sl ([.int k, .int n])).length) Slot.unset).toArray = ls at hl ⊢
  refine lv_iload_n hx hb dJ_schk_0 rfl (lv_at hl 0 rfl) ?_
  refine lv_iload_n hx hb dJ_schk_1 rfl (lv_at hl 1 rfl) ?_
  have key : ∀ q : Value, q.category = 1 → va_Z "jdk/internal/util/Preconditions" "SIOOBE_FORMATTER" "Ljava/util/function/BiFunction;" q (fun q => B ≤ q) s s.heap → W p l e (headSpec (jWs yJ_schk prog_17_method_155_code 2 none) (jrm 1)).room s m (List.toArray [.int k, .int n]) below meth c s.heap [] 0 0 (MQ below (jQc none) (List.toArray [.int k, .int n]) s 0 0 (fun _ => False)) (F0 m 2 ls [.int n, .int k]) := by
    intro q hq hZ
    refine va_gets hx hb hZ hS hown (hts _ fJ_1053) (fun _ q => q) dJ_schk_2 ?_
    refine j_call (va_runS (As := [.int k, .int n, q]) (rest := []) (n := 3) ⟨hx, hb, hml, hown, hts⟩ (cJ_pchk (B := B) (fo := fo) (adV := adV) (L := L) (xs := xs) (D := D) (cA := cA) l hq h1 h2) ⟨callB_of 3 hts (good_jWs wJ_pchk) rfl rfl rfl (hts _ iJ_P) (hts _ lJ_pchk) ⟨by decide +kernel, by decide +kernel, by decide +kernel⟩ ⟨by decide, by decide⟩, hts _ tJ_pchk⟩ ⟨jPc_blind, fun U hU hW => ⟨rfl, pKU_warm hW hS hU hKU⟩⟩ rfl rfl hl.1 rfl (lv_room (Nat.le_of_ble_eq_true rfl)) dJ_schk_5 ⟨Nat.zero_le _, Nat.zero_le _⟩) ?_
    refine lv_pop hx hb dJ_schk_8 rfl ?_
    exact W.vret hx hb hr (fun t ht _ => ⟨rfl, ht⟩) (fun _ h => by cases h) dJ_schk_9
  rcases hKU.2.2.2.2.2.2.2.2 with hZ | ⟨t, hZ⟩
  · exact key _ rfl hZ
  · exact key _ rfl hZ
set_option maxHeartbeats 4000000 in
theorem cJ_lchar (l : Launch) {i k : Nat} (hi : i < 12) (hk : k < plen.getD i 0) (hn : plen.getD i 0 < 100) (hc : ((((pbyt.getD i []).getD k 0) &&& 255).toUInt32 % 65536).toInt32 = (pbyt.getD i []).getD k 0) (hc2 : narrow .char (.int ((pbyt.getD i []).getD k 0)) = .int ((pbyt.getD i []).getD k 0)) : Met l yJ_lchar (jWs yJ_lchar prog_18_method_2_code 2 (some .char)) (jrm 2) (jPc B fo adV L xs D cA [.ref (adV i), .int (nI k)]) (jQc (some (.int ((pbyt.getD i []).getD k 0)))) 0 0 (fun _ => False) := by
  refine va_MetF (cc := prog_18_method_2_code) (maxL := 2) (ret := (some .char)) (by decide +kernel) rfl ?_
  intro p e s m args below meth c s₁ Bd hml hv
  obtain ⟨rfl, hKU⟩ := hv
  have hx := Bd.exec
  have hb := Bd.bytes
  have hr := Bd.returns
  have hts0 := atoms_spec Bd.pre
  have hts : ∀ w ∈ wsU, w.before _ s = true := fun w hw => hts0 w (List.mem_cons_of_mem _ hw)
  have hown : s.vm.findClass "java/lang/StringLatin1" = some m.cls := findClass_of_methodNamed Bd.named
  have hlocks := Bd.notSynchronized
  have hS : va_S (fun q => B ≤ q) s.heap s.heap [] := va_S.rf
  rw [lg_entry_eq]
  have hl := lv_entry ([.ref (adV i), .int (nI k)]) (n := 2) (Nat.le_of_ble_eq_true rfl)
  generalize (lg_sl ([.ref (adV i), .int (nI k)]) ++ List.replicate (2 - (lg_sl ([.ref (adV i), .int (nI k)])).length) Slot.unset).toArray = ls at hl ⊢
  have hT := (hKU.2.2.2.2.1.1 i hi).2.2.2
  refine lv_iload_n hx hb dJ_lchar_0 rfl (lv_at hl 1 rfl) ?_
  refine lv_aload_n hx hb dJ_lchar_1 rfl (lv_at hl 0 rfl) ?_
  refine va_tlen hx hb hT hS rfl dJ_lchar_2 ?_
  refine j_call (va_runS (As := [.int (nI k), .int (Int32.ofNat (plen.getD i 0))]) (rest := []) (n := 2) ⟨hx, hb, hml, hown, hts⟩ (cJ_schk (B := B) (fo := fo) (adV := adV) (L := L) (xs := xs) (D := D) (cA := cA) l (nI_pos (by omega)) (nI_lt hk (by omega))) ⟨callB_of 2 hts (good_jWs wJ_schk) rfl rfl rfl (hts _ iJ_S) (hts _ lJ_schk) ⟨by decide +kernel, by decide +kernel, by decide +kernel⟩ ⟨by decide, by decide⟩, hts _ tJ_schk⟩ ⟨jPc_blind, fun U hU hW => ⟨rfl, pKU_warm hW hS hU hKU⟩⟩ rfl rfl hl.1 rfl (lv_room (Nat.le_of_ble_eq_true rfl)) dJ_lchar_3 ⟨Nat.zero_le _, Nat.zero_le _⟩) ?_
  refine lv_aload_n hx hb dJ_lchar_6 rfl (lv_at hl 0 rfl) ?_
  refine lv_iload_n hx hb dJ_lchar_7 rfl (lv_at hl 1 rfl) ?_
  refine va_tb hx hb hT hS (vp_in_nI hk (by omega)) (v := .int ((pbyt.getD i []).getD k 0)) (by rw [nI_clamp (by omega)]) dJ_lchar_8 ?_
  refine lv_sipush (v := 255) hx hb dJ_lchar_9 (by decide) ?_
  refine lv_iand hx hb dJ_lchar_12 ?_
  refine lv_i2c hx hb dJ_lchar_13 hc ?_
  exact W.zret hx hb hr hc2 (fun t ht _ => ⟨rfl, ht⟩) (fun _ h => by cases h) dJ_lchar_14
end PJ
theorem pbyt_ok : ∀ i, i < 12 → plen.getD i 0 < 100 ∧ ∀ k, k < plen.getD i 0 → ((((pbyt.getD i []).getD k 0) &&& 255).toUInt32 % 65536).toInt32 = (pbyt.getD i []).getD k 0 ∧ narrow .char (.int ((pbyt.getD i []).getD k 0)) = .int ((pbyt.getD i []).getD k 0) := by decide +kernel
/-- the two methods of String, on the string constants -/
def ppS : pV := fun id av h => match id, av with
  | 361, [.retAddr b] => if 1 ≤ b ∧ b ≤ 12 then some (some (.int (nI (plen.getD (b - 1) 0))), h) else none
  | 362, [.retAddr b, .int k] => if (1 ≤ b ∧ b ≤ 12) ∧ pin k (plen.getD (b - 1) 0) = true then some (some (.int ((pbyt.getD (b - 1) []).getD k.toNatClampNeg 0)), h) else none
  | _, _ => none
section PJ2
variable {L : Nat} {xs : Nat → Int32}
set_option maxHeartbeats 4000000 in
theorem cJ_length {d b : Nat} {h : pH} (hd : 3 ≤ d) (hb1 : 1 ≤ b) (hb2 : b ≤ 12) : pM pMM L xs (d + 1) 361 [.retAddr b] h (some (.int (nI (plen.getD (b - 1) 0))), h) := by
  intro l B fo adV D cA
  obtain ⟨i, rfl⟩ : ∃ i, b = i + 1 := ⟨b - 1, by omega⟩
  have hi : i < 12 := by omega
  refine va_MetF (cc := prog_17_method_54_code) (maxL := 1) (ret := (some .int)) (by decide +kernel) rfl ?_
  intro p e s m args below meth c s₁ Bd hml hv
  obtain ⟨rfl, hsz, hP, hKU⟩ := hv
  have hx := Bd.exec
  have hb := Bd.bytes
  have hr := Bd.returns
  have hts0 := atoms_spec Bd.pre
  have hts : ∀ w ∈ wsU, w.before _ s = true := fun w hw => hts0 w (List.mem_cons_of_mem _ hw)
  have hown : s.vm.findClass "java/lang/String" = some m.cls := findClass_of_methodNamed Bd.named
  have hlocks := Bd.notSynchronized
  have hS : va_S (fun q => B ≤ q) s.heap s.heap [] := va_S.rf
  rw [lg_entry_eq]
  have hl := lv_entry (List.map (pcv B fo) [.retAddr (i + 1)]) (n := 1) (Nat.le_of_ble_eq_true rfl)
  generalize (lg_sl (List.map (pcv B fo) [.retAddr (i + 1)]) ++ List.replicate (1 - (lg_sl (List.map (pcv B fo) [.retAddr (i + 1)])).length) Slot.unset).toArray = ls at hl ⊢
  have hl : lv_has ls 1 [(0, .ref (fo (i + 1)))] := hl
  refine lv_aload_n hx hb dJ_length_0 rfl (lv_at hl 0 rfl) ?_
  refine vk_getf hx hb (hKU.2.2.2.2.1.1 i hi).2.2.1 hS hown (hts _ fJ_9) (fun _ q => q) dJ_length_1 ?_
  refine va_tlen hx hb (hKU.2.2.2.2.1.1 i hi).2.2.2 hS rfl dJ_length_4 ?_
  refine lv_aload_n hx hb dJ_length_5 rfl (lv_at hl 0 rfl) ?_
  refine j_call (va_runV (As := []) (b := fo (i + 1)) (n := 0) (C := "java/lang/String") ⟨hx, hb, hml, hown, hts⟩ (cJ_coder (B := B) (fo := fo) (adV := adV) (L := L) (xs := xs) (D := D) (cA := cA) l hi) ⟨callB_of 0 hts (good_jWs wJ_coder) rfl rfl rfl (hts _ iJ_S) (hts _ lJ_coder) ⟨by decide +kernel, by decide +kernel, by decide +kernel⟩ ⟨by show 0 + 1 ≤ d + 1; omega, by show 8 + (1 + 11) + 0 ≤ 64 * (d + 1); omega⟩, hts _ nJ_coder, hts _ sJ_coder⟩ ⟨jPc_blind, vk_recv (i := i) hKU.2.2.2.2.1 hi hS, fun U hU hW => ⟨rfl, pKU_warm hW hS hU hKU⟩⟩ rfl rfl hl.1 rfl (lv_room (Nat.le_of_ble_eq_true rfl)) dJ_length_6 ⟨Nat.zero_le _, Nat.zero_le _⟩) ?_
  refine lv_ishr hx hb dJ_length_9 ?_
  have e1 : nI (plen.getD i 0) >>> ((0 : Int32) &&& 31) = nI (plen.getD i 0) := by
    rw [pk_shrN (by have := (pbyt_ok i hi).1; omega) _ 0 (by decide)]; simp
  have e2 : (Int32.ofNat (plen.getD i 0)) >>> ((0 : Int32) &&& 31) = nI (plen.getD i 0) := e1
  show W p l e _ s m _ below meth c s.heap [] 0 0 _ (F0 m 10 ls [.int ((Int32.ofNat (plen.getD i 0)) >>> ((0 : Int32) &&& 31))])
  rw [e2]
  refine W.cs (cells' := h.1.length - h.1.length) (slots' := psz h - psz h) (by omega) (by omega) ?_
  exact W.iret hx hb hr (fun t ht _ => ⟨rfl, ⟨by rw [ht]; exact hP, by rw [ht]; exact hsz⟩, hS.F ht⟩) (fun _ h => by cases h) dJ_length_10
set_option maxHeartbeats 4000000 in
theorem cJ_charAt {d b : Nat} {k : Int32} {h : pH} (hd : 3 ≤ d) (hb1 : 1 ≤ b) (hb2 : b ≤ 12) (hk : pin k (plen.getD (b - 1) 0) = true) : pM pMM L xs (d + 1) 362 [.retAddr b, .int k] h (some (.int ((pbyt.getD (b - 1) []).getD k.toNatClampNeg 0)), h) := by
  intro l B fo adV D cA
  obtain ⟨i, rfl⟩ : ∃ i, b = i + 1 := ⟨b - 1, by omega⟩
  have hi : i < 12 := by omega
  obtain ⟨hn, hch⟩ := pbyt_ok i hi
  obtain ⟨j, hj, rfl⟩ := vp_in_of (pin_in hk) (by show plen.getD i 0 < 2 ^ 31; omega)
  have hj : j < plen.getD i 0 := hj
  refine va_MetF (cc := prog_17_method_56_code) (maxL := 2) (ret := (some .char)) (by decide +kernel) rfl ?_
  intro p e s m args below meth c s₁ Bd hml hv
  obtain ⟨rfl, hsz, hP, hKU⟩ := hv
  have hx := Bd.exec
  have hb := Bd.bytes
  have hr := Bd.returns
  have hts0 := atoms_spec Bd.pre
  have hts : ∀ w ∈ wsU, w.before _ s = true := fun w hw => hts0 w (List.mem_cons_of_mem _ hw)
  have hown : s.vm.findClass "java/lang/String" = some m.cls := findClass_of_methodNamed Bd.named
  have hlocks := Bd.notSynchronized
  have hS : va_S (fun q => B ≤ q) s.heap s.heap [] := va_S.rf
  rw [lg_entry_eq]
  have hl := lv_entry (List.map (pcv B fo) [.retAddr (i + 1), .int (nI j)]) (n := 2) (Nat.le_of_ble_eq_true rfl)
  generalize (lg_sl (List.map (pcv B fo) [.retAddr (i + 1), .int (nI j)]) ++ List.replicate (2 - (lg_sl (List.map (pcv B fo) [.retAddr (i + 1), .int (nI j)])).length) Slot.unset).toArray = ls at hl ⊢
  have hl : lv_has ls 2 [(0, .ref (fo (i + 1))), (1, .int (nI j))] := hl
  refine lv_aload_n hx hb dJ_charAt_0 rfl (lv_at hl 0 rfl) ?_
  refine j_call (va_runV (As := []) (rest := []) (b := fo (i + 1)) (n := 0) (C := "java/lang/String") ⟨hx, hb, hml, hown, hts⟩ (cJ_isLatin1 (B := B) (fo := fo) (adV := adV) (L := L) (xs := xs) (D := D) (cA := cA) l hi) ⟨callB_of 0 hts (good_jWs wJ_isLatin1) rfl rfl rfl (hts _ iJ_S) (hts _ lJ_isLatin1) ⟨by decide +kernel, by decide +kernel, by decide +kernel⟩ ⟨by show 0 + 1 ≤ d + 1; omega, by show 8 + (1 + 11) + 0 ≤ 64 * (d + 1); omega⟩, hts _ nJ_isLatin1, hts _ sJ_isLatin1⟩ ⟨jPc_blind, vk_recv (i := i) hKU.2.2.2.2.1 hi hS, fun U hU hW => ⟨rfl, pKU_warm hW hS hU hKU⟩⟩ rfl rfl hl.1 rfl (lv_room (Nat.le_of_ble_eq_true rfl)) dJ_charAt_1 ⟨Nat.zero_le _, Nat.zero_le _⟩) ?_
  refine lv_if_eq (tgt := 16) hx hb dJ_charAt_4 (by decide) (fun h => absurd h (by decide)) (fun _ => ?_)
  refine lv_aload_n hx hb dJ_charAt_7 rfl (lv_at hl 0 rfl) ?_
  refine vk_getf hx hb (hKU.2.2.2.2.1.1 i hi).2.2.1 hS hown (hts _ fJ_9) (fun _ q => q) dJ_charAt_8 ?_
  refine lv_iload_n hx hb dJ_charAt_11 rfl (lv_at hl 1 rfl) ?_
  refine j_call (va_runS (As := [.ref (adV i), .int (nI j)]) (rest := []) (n := 2) ⟨hx, hb, hml, hown, hts⟩ (cJ_lchar (B := B) (fo := fo) (adV := adV) (L := L) (xs := xs) (D := D) (cA := cA) l hi hj hn (hch j hj).1 (hch j hj).2) ⟨callB_of 2 hts (good_jWs wJ_lchar) rfl rfl rfl (hts _ iJ_L) (hts _ lJ_lchar) ⟨by decide +kernel, by decide +kernel, by decide +kernel⟩ ⟨by show 2 + 1 ≤ d + 1; omega, by show 8 + (2 + 11) + 44 ≤ 64 * (d + 1); omega⟩, hts _ tJ_lchar⟩ ⟨jPc_blind, fun U hU hW => ⟨rfl, pKU_warm hW hS hU hKU⟩⟩ rfl rfl hl.1 rfl (lv_room (Nat.le_of_ble_eq_true rfl)) dJ_charAt_12 ⟨Nat.zero_le _, Nat.zero_le _⟩) ?_
  refine W.cs (cells' := h.1.length - h.1.length) (slots' := psz h - psz h) (by omega) (by omega) ?_
  have e3 : (nI j).toNatClampNeg = j := nI_clamp (by omega)
  exact W.zret hx hb hr (hch j hj).2 (fun t ht _ => ⟨by show _ = Outcome.returned (some (.int ((pbyt.getD i []).getD (nI j).toNatClampNeg 0))); rw [e3], ⟨by rw [ht]; exact hP, by rw [ht]; exact hsz⟩, hS.F ht⟩) (fun _ h => by cases h) dJ_charAt_15
theorem ppS_ok : ∀ d, 3 ≤ d → ∀ id av h r, ppS id av h = some r → (h.1.length ≤ r.2.1.length ∧ psz h ≤ psz r.2) ∧ pM pMM L xs (d + 1) id av h r := by
  intro d hd id av h r hp
  unfold ppS at hp
  split at hp
  · split at hp
    · rename_i hb
      cases hp
      exact ⟨⟨Nat.le_refl _, Nat.le_refl _⟩, cJ_length hd hb.1 hb.2⟩
    · cases hp
  · split at hp
    · rename_i hb
      cases hp
      exact ⟨⟨Nat.le_refl _, Nat.le_refl _⟩, cJ_charAt hd hb.1.1 hb.1.2 hb.2⟩
    · cases hp
  · cases hp
end PJ2
