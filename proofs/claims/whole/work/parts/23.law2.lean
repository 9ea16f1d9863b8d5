/-- all pairs of calls -/
def AllSteps (Ls : Nat) (xs : Nat → Int32) (V : pInv) : Prop := ∀ (a1 a2 a3 a4 a5 : Int32), SOK Ls xs V 113 207 [.int a1, .int a2, .int a3, .int a4, .int a5] ∧
  SOK Ls xs V 114 209 [.int a1] ∧
  SOK Ls xs V 115 233 [] ∧
  SOK Ls xs V 116 222 [.int a1] ∧
  SOK Ls xs V 117 266 [.int a1, .int a2] ∧
  SOK Ls xs V 118 267 [.int a1] ∧
  SOK Ls xs V 119 268 [.int a1, .int a2] ∧
  SOK Ls xs V 120 269 [.int a1] ∧
  SOK Ls xs V 121 270 [.int a1, .int a2] ∧
  SOK Ls xs V 122 271 [.int a1, .int a2, .int a3] ∧
  SOK Ls xs V 123 272 [.int a1, .int a2, .int a3] ∧
  SOK Ls xs V 124 273 [.int a1, .int a2] ∧
  SOK Ls xs V 125 274 [.int a1, .int a2] ∧
  SOK Ls xs V 126 275 [.int a1] ∧
  SOK Ls xs V 127 276 [.int a1] ∧
  SOK Ls xs V 128 278 [.int a1, .int a2] ∧
  SOK Ls xs V 129 279 [.int a1, .int a2] ∧
  SOK Ls xs V 130 281 [.int a1, .int a2] ∧
  SOK Ls xs V 131 282 [.int a1] ∧
  SOK Ls xs V 132 283 [.int a1, .int a2] ∧
  SOK Ls xs V 133 284 [.int a1] ∧
  SOK Ls xs V 134 285 [.int a1] ∧
  SOK Ls xs V 135 286 [.int a1, .int a2] ∧
  SOK Ls xs V 136 299 [.int a1] ∧
  SOK Ls xs V 137 300 [] ∧
  SOK Ls xs V 138 301 [] ∧
  SOK Ls xs V 139 302 [] ∧
  SOK Ls xs V 140 309 [] ∧
  SOK Ls xs V 141 310 [.int a1] ∧
  SOK Ls xs V 142 311 [.int a1] ∧
  SOK Ls xs V 143 312 [] ∧
  SOK Ls xs V 144 314 [] ∧
  SOK Ls xs V 145 315 [] ∧
  SOK Ls xs V 146 316 [] ∧
  SOK Ls xs V 147 317 [.int a1] ∧
  SOK Ls xs V 148 320 [.int a1] ∧
  SOK Ls xs V 149 321 [] ∧
  SOK Ls xs V 150 323 [.int a1] ∧
  SOK Ls xs V 151 324 [] ∧
  SOK Ls xs V 152 328 [.int a1] ∧
  SOK Ls xs V 153 329 [.int a1] ∧
  SOK Ls xs V 154 330 [.int a1] ∧
  SOK Ls xs V 155 331 [.int a1] ∧
  SOK Ls xs V 156 333 [.int a1] ∧
  SOK Ls xs V 157 334 [.int a1] ∧
  SOK Ls xs V 158 335 [] ∧
  SOK Ls xs V 159 338 [.int a1, .int a2] ∧
  SOK Ls xs V 160 339 [.int a1, .int a2, .int a3, .int a4] ∧
  SOK Ls xs V 161 342 [.int a1, .int a2] ∧
  SOK Ls xs V 162 343 [.int a1, .int a2] ∧
  SOK Ls xs V 163 344 [] ∧
  SOK Ls xs V 164 350 [.int a1, .int a2] ∧
  SOK Ls xs V 165 351 [.int a1] ∧
  SOK Ls xs V 166 352 [] ∧
  SOK Ls xs V 167 353 [] ∧
  SOK Ls xs V 168 347 [.int a1, .int a2] ∧
  SOK Ls xs V 169 348 [.int a1, .int a2, .int a3] ∧
  SOK Ls xs V 170 354 [.int a1, .int a2] ∧
  SOK Ls xs V 171 355 [.int a1] ∧
  SOK Ls xs V 172 356 [.int a1] ∧
  SOK Ls xs V 173 357 [.int a1] ∧
  SOK Ls xs V 174 203 [.int a1, .int a2, .int a3] ∧
  SOK Ls xs V 175 205 [.int a1, .int a2, .long ((a3.toInt64 <<< ((32 : Int32).toInt64 &&& 63)) ||| ((a4.toInt64) &&& (4294967295 : Int64)))] ∧
  SOK Ls xs V 176 206 [.int a1, .int a2, .int a3, .int a4, .int a5]
theorem pin_ok {i n : Nat} (h : i < n) (hn : n < 1000) : pin (nI i) n = true := by
  unfold pin
  simp only [Bool.not_eq_true', Bool.or_eq_false_iff, decide_eq_false_iff_not]
  exact ⟨nI_pos (by omega), by rw [nI_clamp (by omega)]; omega⟩
theorem pin_ad {i n c : Nat} (h : i + c < n) (hn : n < 1000) {z : Int32} (hz : z = nI c) : pin (nI i + z) n = true := by
  rw [hz, nI_add]; exact pin_ok h hn
theorem law_exit {Ls i : Nat} (h : ¬ i + 6 ≤ Ls) (hL : Ls ≤ 384) (hi : i ≤ 400) : Int32.ofNat Ls - 6 < nI i := by
  have e1 : (nI i).toInt = (i : Int) := nI_toInt (by omega)
  have e2 : (Int32.ofNat Ls - 6 : Int32).toInt = (Ls : Int) - 6 := pk_sub_toInt (a := Ls) (b := 6) (by omega) (by omega)
  rw [Int32.lt_iff_toInt_lt, e1, e2]; omega
theorem law_stay {Ls i : Nat} (h : i + 6 ≤ Ls) (hL : Ls ≤ 384) : ¬ Int32.ofNat Ls - 6 < nI i := by
  have e1 : (nI i).toInt = (i : Int) := nI_toInt (by omega)
  have e2 : (Int32.ofNat Ls - 6 : Int32).toInt = (Ls : Int) - 6 := pk_sub_toInt (a := Ls) (b := 6) (by omega) (by omega)
  rw [Int32.lt_iff_toInt_lt, e1, e2]; omega
set_option maxHeartbeats 2000000 in
set_option maxRecDepth 20000 in
theorem ldisp_0 {Ls : Nat} {xs : Nat → Int32} {V : pInv} (hs : AllSteps Ls xs V) (hL : Ls ≤ 384) {i : Nat} (hi : i + 6 ≤ Ls) {kp nh rh : Option Nat} {tl : List (Nat × Nat)} {rl : List (List (Option Nat))} {I : FI} {L : FL} (hV : V kp nh rh tl rl I L) {w : Int32} {z : pR → Prop} (K : ∀ kp nh rh tl rl I L, V kp nh rh tl rl I L → ∃ r, z r ∧ Bs cd_law (LF Ls xs) (2026, [some (.retAddr 0), some (.ref 0), some (.ref 89), some (.int (nI i))], [], hp kp nh rh tl rl I L) r) : ∀ k, k < 8 → w = nI (0 + k) → ∃ r, z r ∧ Bs cd_law (LF Ls xs) (33, [some (.retAddr 0), some (.ref 0), some (.ref 89), some (.int (nI i))], [.int w], hp kp nh rh tl rl I L) r
  | 0, _, hw => by
    obtain ⟨v, kp1, nh1, rh1, tl1, rl1, I1, L1, I2, L2, h1, h2, hV2⟩ := (hs (xs (nI i + 1).toNatClampNeg) (xs (nI i + 2).toNatClampNeg) (xs (nI i + 3).toNatClampNeg) (xs (nI i + 4).toNatClampNeg) (xs (nI i + 5).toNatClampNeg)).1 kp nh rh tl rl I L hV
    obtain ⟨r, hz, hr⟩ := K kp1 nh1 rh1 tl1 rl1 I2 L2 hV2
    refine ⟨r, hz, bs_val hw (x' := (304, [some (.retAddr 0), some (.ref 0), some (.ref 89), some (.int (nI i))], [], hp kp nh rh tl rl I L)) rfl ?_⟩
    exact lc_0 (pin_ok (by omega) (by omega)) (pin_ad (c := 1) (by omega) (by omega) rfl) (pin_ad (c := 2) (by omega) (by omega) rfl) (pin_ad (c := 3) (by omega) (by omega) rfl) (pin_ad (c := 4) (by omega) (by omega) rfl) (pin_ad (c := 5) (by omega) (by omega) rfl) h1 h2 hr
  | 1, _, hw => by
    obtain ⟨v, kp1, nh1, rh1, tl1, rl1, I1, L1, I2, L2, h1, h2, hV2⟩ := (hs (xs (nI i + 1).toNatClampNeg) (xs (nI i + 2).toNatClampNeg) (xs (nI i + 3).toNatClampNeg) (xs (nI i + 4).toNatClampNeg) (xs (nI i + 5).toNatClampNeg)).2.1 kp nh rh tl rl I L hV
    obtain ⟨r, hz, hr⟩ := K kp1 nh1 rh1 tl1 rl1 I2 L2 hV2
    refine ⟨r, hz, bs_val hw (x' := (367, [some (.retAddr 0), some (.ref 0), some (.ref 89), some (.int (nI i))], [], hp kp nh rh tl rl I L)) rfl ?_⟩
    exact lc_1 (pin_ok (by omega) (by omega)) (pin_ad (c := 1) (by omega) (by omega) rfl) (pin_ad (c := 2) (by omega) (by omega) rfl) (pin_ad (c := 3) (by omega) (by omega) rfl) (pin_ad (c := 4) (by omega) (by omega) rfl) (pin_ad (c := 5) (by omega) (by omega) rfl) h1 h2 hr
  | 2, _, hw => by
    obtain ⟨v, kp1, nh1, rh1, tl1, rl1, I1, L1, I2, L2, h1, h2, hV2⟩ := (hs (xs (nI i + 1).toNatClampNeg) (xs (nI i + 2).toNatClampNeg) (xs (nI i + 3).toNatClampNeg) (xs (nI i + 4).toNatClampNeg) (xs (nI i + 5).toNatClampNeg)).2.2.1 kp nh rh tl rl I L hV
    obtain ⟨r, hz, hr⟩ := K kp1 nh1 rh1 tl1 rl1 I2 L2 hV2
    refine ⟨r, hz, bs_val hw (x' := (390, [some (.retAddr 0), some (.ref 0), some (.ref 89), some (.int (nI i))], [], hp kp nh rh tl rl I L)) rfl ?_⟩
    exact lc_2 (pin_ok (by omega) (by omega)) (pin_ad (c := 1) (by omega) (by omega) rfl) (pin_ad (c := 2) (by omega) (by omega) rfl) (pin_ad (c := 3) (by omega) (by omega) rfl) (pin_ad (c := 4) (by omega) (by omega) rfl) (pin_ad (c := 5) (by omega) (by omega) rfl) h1 h2 hr
  | 3, _, hw => by
    obtain ⟨v, kp1, nh1, rh1, tl1, rl1, I1, L1, I2, L2, h1, h2, hV2⟩ := (hs (xs (nI i + 1).toNatClampNeg) (xs (nI i + 2).toNatClampNeg) (xs (nI i + 3).toNatClampNeg) (xs (nI i + 4).toNatClampNeg) (xs (nI i + 5).toNatClampNeg)).2.2.2.1 kp nh rh tl rl I L hV
    obtain ⟨r, hz, hr⟩ := K kp1 nh1 rh1 tl1 rl1 I2 L2 hV2
    refine ⟨r, hz, bs_val hw (x' := (403, [some (.retAddr 0), some (.ref 0), some (.ref 89), some (.int (nI i))], [], hp kp nh rh tl rl I L)) rfl ?_⟩
    exact lc_3 (pin_ok (by omega) (by omega)) (pin_ad (c := 1) (by omega) (by omega) rfl) (pin_ad (c := 2) (by omega) (by omega) rfl) (pin_ad (c := 3) (by omega) (by omega) rfl) (pin_ad (c := 4) (by omega) (by omega) rfl) (pin_ad (c := 5) (by omega) (by omega) rfl) h1 h2 hr
  | 4, _, hw => by
    obtain ⟨v, kp1, nh1, rh1, tl1, rl1, I1, L1, I2, L2, h1, h2, hV2⟩ := (hs (xs (nI i + 1).toNatClampNeg) (xs (nI i + 2).toNatClampNeg) (xs (nI i + 3).toNatClampNeg) (xs (nI i + 4).toNatClampNeg) (xs (nI i + 5).toNatClampNeg)).2.2.2.2.1 kp nh rh tl rl I L hV
    obtain ⟨r, hz, hr⟩ := K kp1 nh1 rh1 tl1 rl1 I2 L2 hV2
    refine ⟨r, hz, bs_val hw (x' := (426, [some (.retAddr 0), some (.ref 0), some (.ref 89), some (.int (nI i))], [], hp kp nh rh tl rl I L)) rfl ?_⟩
    exact lc_4 (pin_ok (by omega) (by omega)) (pin_ad (c := 1) (by omega) (by omega) rfl) (pin_ad (c := 2) (by omega) (by omega) rfl) (pin_ad (c := 3) (by omega) (by omega) rfl) (pin_ad (c := 4) (by omega) (by omega) rfl) (pin_ad (c := 5) (by omega) (by omega) rfl) h1 h2 hr
  | 5, _, hw => by
    obtain ⟨v, kp1, nh1, rh1, tl1, rl1, I1, L1, I2, L2, h1, h2, hV2⟩ := (hs (xs (nI i + 1).toNatClampNeg) (xs (nI i + 2).toNatClampNeg) (xs (nI i + 3).toNatClampNeg) (xs (nI i + 4).toNatClampNeg) (xs (nI i + 5).toNatClampNeg)).2.2.2.2.2.1 kp nh rh tl rl I L hV
    obtain ⟨r, hz, hr⟩ := K kp1 nh1 rh1 tl1 rl1 I2 L2 hV2
    refine ⟨r, hz, bs_val hw (x' := (459, [some (.retAddr 0), some (.ref 0), some (.ref 89), some (.int (nI i))], [], hp kp nh rh tl rl I L)) rfl ?_⟩
    exact lc_5 (pin_ok (by omega) (by omega)) (pin_ad (c := 1) (by omega) (by omega) rfl) (pin_ad (c := 2) (by omega) (by omega) rfl) (pin_ad (c := 3) (by omega) (by omega) rfl) (pin_ad (c := 4) (by omega) (by omega) rfl) (pin_ad (c := 5) (by omega) (by omega) rfl) h1 h2 hr
  | 6, _, hw => by
    obtain ⟨v, kp1, nh1, rh1, tl1, rl1, I1, L1, I2, L2, h1, h2, hV2⟩ := (hs (xs (nI i + 1).toNatClampNeg) (xs (nI i + 2).toNatClampNeg) (xs (nI i + 3).toNatClampNeg) (xs (nI i + 4).toNatClampNeg) (xs (nI i + 5).toNatClampNeg)).2.2.2.2.2.2.1 kp nh rh tl rl I L hV
    obtain ⟨r, hz, hr⟩ := K kp1 nh1 rh1 tl1 rl1 I2 L2 hV2
    refine ⟨r, hz, bs_val hw (x' := (482, [some (.retAddr 0), some (.ref 0), some (.ref 89), some (.int (nI i))], [], hp kp nh rh tl rl I L)) rfl ?_⟩
    exact lc_6 (pin_ok (by omega) (by omega)) (pin_ad (c := 1) (by omega) (by omega) rfl) (pin_ad (c := 2) (by omega) (by omega) rfl) (pin_ad (c := 3) (by omega) (by omega) rfl) (pin_ad (c := 4) (by omega) (by omega) rfl) (pin_ad (c := 5) (by omega) (by omega) rfl) h1 h2 hr
  | 7, _, hw => by
    obtain ⟨v, kp1, nh1, rh1, tl1, rl1, I1, L1, I2, L2, h1, h2, hV2⟩ := (hs (xs (nI i + 1).toNatClampNeg) (xs (nI i + 2).toNatClampNeg) (xs (nI i + 3).toNatClampNeg) (xs (nI i + 4).toNatClampNeg) (xs (nI i + 5).toNatClampNeg)).2.2.2.2.2.2.2.1 kp nh rh tl rl I L hV
    obtain ⟨r, hz, hr⟩ := K kp1 nh1 rh1 tl1 rl1 I2 L2 hV2
    refine ⟨r, hz, bs_val hw (x' := (515, [some (.retAddr 0), some (.ref 0), some (.ref 89), some (.int (nI i))], [], hp kp nh rh tl rl I L)) rfl ?_⟩
    exact lc_7 (pin_ok (by omega) (by omega)) (pin_ad (c := 1) (by omega) (by omega) rfl) (pin_ad (c := 2) (by omega) (by omega) rfl) (pin_ad (c := 3) (by omega) (by omega) rfl) (pin_ad (c := 4) (by omega) (by omega) rfl) (pin_ad (c := 5) (by omega) (by omega) rfl) h1 h2 hr
  | n + 8, h, _ => absurd h (by omega)
set_option maxHeartbeats 2000000 in
set_option maxRecDepth 20000 in
theorem ldisp_8 {Ls : Nat} {xs : Nat → Int32} {V : pInv} (hs : AllSteps Ls xs V) (hL : Ls ≤ 384) {i : Nat} (hi : i + 6 ≤ Ls) {kp nh rh : Option Nat} {tl : List (Nat × Nat)} {rl : List (List (Option Nat))} {I : FI} {L : FL} (hV : V kp nh rh tl rl I L) {w : Int32} {z : pR → Prop} (K : ∀ kp nh rh tl rl I L, V kp nh rh tl rl I L → ∃ r, z r ∧ Bs cd_law (LF Ls xs) (2026, [some (.retAddr 0), some (.ref 0), some (.ref 89), some (.int (nI i))], [], hp kp nh rh tl rl I L) r) : ∀ k, k < 8 → w = nI (8 + k) → ∃ r, z r ∧ Bs cd_law (LF Ls xs) (33, [some (.retAddr 0), some (.ref 0), some (.ref 89), some (.int (nI i))], [.int w], hp kp nh rh tl rl I L) r
  | 0, _, hw => by
    obtain ⟨v, kp1, nh1, rh1, tl1, rl1, I1, L1, I2, L2, h1, h2, hV2⟩ := (hs (xs (nI i + 1).toNatClampNeg) (xs (nI i + 2).toNatClampNeg) (xs (nI i + 3).toNatClampNeg) (xs (nI i + 4).toNatClampNeg) (xs (nI i + 5).toNatClampNeg)).2.2.2.2.2.2.2.2.1 kp nh rh tl rl I L hV
    obtain ⟨r, hz, hr⟩ := K kp1 nh1 rh1 tl1 rl1 I2 L2 hV2
    refine ⟨r, hz, bs_val hw (x' := (538, [some (.retAddr 0), some (.ref 0), some (.ref 89), some (.int (nI i))], [], hp kp nh rh tl rl I L)) rfl ?_⟩
    exact lc_8 (pin_ok (by omega) (by omega)) (pin_ad (c := 1) (by omega) (by omega) rfl) (pin_ad (c := 2) (by omega) (by omega) rfl) (pin_ad (c := 3) (by omega) (by omega) rfl) (pin_ad (c := 4) (by omega) (by omega) rfl) (pin_ad (c := 5) (by omega) (by omega) rfl) h1 h2 hr
  | 1, _, hw => by
    obtain ⟨v, kp1, nh1, rh1, tl1, rl1, I1, L1, I2, L2, h1, h2, hV2⟩ := (hs (xs (nI i + 1).toNatClampNeg) (xs (nI i + 2).toNatClampNeg) (xs (nI i + 3).toNatClampNeg) (xs (nI i + 4).toNatClampNeg) (xs (nI i + 5).toNatClampNeg)).2.2.2.2.2.2.2.2.2.1 kp nh rh tl rl I L hV
    obtain ⟨r, hz, hr⟩ := K kp1 nh1 rh1 tl1 rl1 I2 L2 hV2
    refine ⟨r, hz, bs_val hw (x' := (571, [some (.retAddr 0), some (.ref 0), some (.ref 89), some (.int (nI i))], [], hp kp nh rh tl rl I L)) rfl ?_⟩
    exact lc_9 (pin_ok (by omega) (by omega)) (pin_ad (c := 1) (by omega) (by omega) rfl) (pin_ad (c := 2) (by omega) (by omega) rfl) (pin_ad (c := 3) (by omega) (by omega) rfl) (pin_ad (c := 4) (by omega) (by omega) rfl) (pin_ad (c := 5) (by omega) (by omega) rfl) h1 h2 hr
  | 2, _, hw => by
    obtain ⟨v, kp1, nh1, rh1, tl1, rl1, I1, L1, I2, L2, h1, h2, hV2⟩ := (hs (xs (nI i + 1).toNatClampNeg) (xs (nI i + 2).toNatClampNeg) (xs (nI i + 3).toNatClampNeg) (xs (nI i + 4).toNatClampNeg) (xs (nI i + 5).toNatClampNeg)).2.2.2.2.2.2.2.2.2.2.1 kp nh rh tl rl I L hV
    obtain ⟨r, hz, hr⟩ := K kp1 nh1 rh1 tl1 rl1 I2 L2 hV2
    refine ⟨r, hz, bs_val hw (x' := (614, [some (.retAddr 0), some (.ref 0), some (.ref 89), some (.int (nI i))], [], hp kp nh rh tl rl I L)) rfl ?_⟩
    exact lc_10 (pin_ok (by omega) (by omega)) (pin_ad (c := 1) (by omega) (by omega) rfl) (pin_ad (c := 2) (by omega) (by omega) rfl) (pin_ad (c := 3) (by omega) (by omega) rfl) (pin_ad (c := 4) (by omega) (by omega) rfl) (pin_ad (c := 5) (by omega) (by omega) rfl) h1 h2 hr
  | 3, _, hw => by
    obtain ⟨v, kp1, nh1, rh1, tl1, rl1, I1, L1, I2, L2, h1, h2, hV2⟩ := (hs (xs (nI i + 1).toNatClampNeg) (xs (nI i + 2).toNatClampNeg) (xs (nI i + 3).toNatClampNeg) (xs (nI i + 4).toNatClampNeg) (xs (nI i + 5).toNatClampNeg)).2.2.2.2.2.2.2.2.2.2.2.1 kp nh rh tl rl I L hV
    obtain ⟨r, hz, hr⟩ := K kp1 nh1 rh1 tl1 rl1 I2 L2 hV2
    refine ⟨r, hz, bs_val hw (x' := (657, [some (.retAddr 0), some (.ref 0), some (.ref 89), some (.int (nI i))], [], hp kp nh rh tl rl I L)) rfl ?_⟩
    exact lc_11 (pin_ok (by omega) (by omega)) (pin_ad (c := 1) (by omega) (by omega) rfl) (pin_ad (c := 2) (by omega) (by omega) rfl) (pin_ad (c := 3) (by omega) (by omega) rfl) (pin_ad (c := 4) (by omega) (by omega) rfl) (pin_ad (c := 5) (by omega) (by omega) rfl) h1 h2 hr
  | 4, _, hw => by
    obtain ⟨v, kp1, nh1, rh1, tl1, rl1, I1, L1, I2, L2, h1, h2, hV2⟩ := (hs (xs (nI i + 1).toNatClampNeg) (xs (nI i + 2).toNatClampNeg) (xs (nI i + 3).toNatClampNeg) (xs (nI i + 4).toNatClampNeg) (xs (nI i + 5).toNatClampNeg)).2.2.2.2.2.2.2.2.2.2.2.2.1 kp nh rh tl rl I L hV
    obtain ⟨r, hz, hr⟩ := K kp1 nh1 rh1 tl1 rl1 I2 L2 hV2
    refine ⟨r, hz, bs_val hw (x' := (690, [some (.retAddr 0), some (.ref 0), some (.ref 89), some (.int (nI i))], [], hp kp nh rh tl rl I L)) rfl ?_⟩
    exact lc_12 (pin_ok (by omega) (by omega)) (pin_ad (c := 1) (by omega) (by omega) rfl) (pin_ad (c := 2) (by omega) (by omega) rfl) (pin_ad (c := 3) (by omega) (by omega) rfl) (pin_ad (c := 4) (by omega) (by omega) rfl) (pin_ad (c := 5) (by omega) (by omega) rfl) h1 h2 hr
  | 5, _, hw => by
    obtain ⟨v, kp1, nh1, rh1, tl1, rl1, I1, L1, I2, L2, h1, h2, hV2⟩ := (hs (xs (nI i + 1).toNatClampNeg) (xs (nI i + 2).toNatClampNeg) (xs (nI i + 3).toNatClampNeg) (xs (nI i + 4).toNatClampNeg) (xs (nI i + 5).toNatClampNeg)).2.2.2.2.2.2.2.2.2.2.2.2.2.1 kp nh rh tl rl I L hV
    obtain ⟨r, hz, hr⟩ := K kp1 nh1 rh1 tl1 rl1 I2 L2 hV2
    refine ⟨r, hz, bs_val hw (x' := (723, [some (.retAddr 0), some (.ref 0), some (.ref 89), some (.int (nI i))], [], hp kp nh rh tl rl I L)) rfl ?_⟩
    exact lc_13 (pin_ok (by omega) (by omega)) (pin_ad (c := 1) (by omega) (by omega) rfl) (pin_ad (c := 2) (by omega) (by omega) rfl) (pin_ad (c := 3) (by omega) (by omega) rfl) (pin_ad (c := 4) (by omega) (by omega) rfl) (pin_ad (c := 5) (by omega) (by omega) rfl) h1 h2 hr
  | 6, _, hw => by
    obtain ⟨v, kp1, nh1, rh1, tl1, rl1, I1, L1, I2, L2, h1, h2, hV2⟩ := (hs (xs (nI i + 1).toNatClampNeg) (xs (nI i + 2).toNatClampNeg) (xs (nI i + 3).toNatClampNeg) (xs (nI i + 4).toNatClampNeg) (xs (nI i + 5).toNatClampNeg)).2.2.2.2.2.2.2.2.2.2.2.2.2.2.1 kp nh rh tl rl I L hV
    obtain ⟨r, hz, hr⟩ := K kp1 nh1 rh1 tl1 rl1 I2 L2 hV2
    refine ⟨r, hz, bs_val hw (x' := (746, [some (.retAddr 0), some (.ref 0), some (.ref 89), some (.int (nI i))], [], hp kp nh rh tl rl I L)) rfl ?_⟩
    exact lc_14 (pin_ok (by omega) (by omega)) (pin_ad (c := 1) (by omega) (by omega) rfl) (pin_ad (c := 2) (by omega) (by omega) rfl) (pin_ad (c := 3) (by omega) (by omega) rfl) (pin_ad (c := 4) (by omega) (by omega) rfl) (pin_ad (c := 5) (by omega) (by omega) rfl) h1 h2 hr
  | 7, _, hw => by
    obtain ⟨v, kp1, nh1, rh1, tl1, rl1, I1, L1, I2, L2, h1, h2, hV2⟩ := (hs (xs (nI i + 1).toNatClampNeg) (xs (nI i + 2).toNatClampNeg) (xs (nI i + 3).toNatClampNeg) (xs (nI i + 4).toNatClampNeg) (xs (nI i + 5).toNatClampNeg)).2.2.2.2.2.2.2.2.2.2.2.2.2.2.2.1 kp nh rh tl rl I L hV
    obtain ⟨r, hz, hr⟩ := K kp1 nh1 rh1 tl1 rl1 I2 L2 hV2
    refine ⟨r, hz, bs_val hw (x' := (769, [some (.retAddr 0), some (.ref 0), some (.ref 89), some (.int (nI i))], [], hp kp nh rh tl rl I L)) rfl ?_⟩
    exact lc_15 (pin_ok (by omega) (by omega)) (pin_ad (c := 1) (by omega) (by omega) rfl) (pin_ad (c := 2) (by omega) (by omega) rfl) (pin_ad (c := 3) (by omega) (by omega) rfl) (pin_ad (c := 4) (by omega) (by omega) rfl) (pin_ad (c := 5) (by omega) (by omega) rfl) h1 h2 hr
  | n + 8, h, _ => absurd h (by omega)
set_option maxHeartbeats 2000000 in
set_option maxRecDepth 20000 in
theorem ldisp_16 {Ls : Nat} {xs : Nat → Int32} {V : pInv} (hs : AllSteps Ls xs V) (hL : Ls ≤ 384) {i : Nat} (hi : i + 6 ≤ Ls) {kp nh rh : Option Nat} {tl : List (Nat × Nat)} {rl : List (List (Option Nat))} {I : FI} {L : FL} (hV : V kp nh rh tl rl I L) {w : Int32} {z : pR → Prop} (K : ∀ kp nh rh tl rl I L, V kp nh rh tl rl I L → ∃ r, z r ∧ Bs cd_law (LF Ls xs) (2026, [some (.retAddr 0), some (.ref 0), some (.ref 89), some (.int (nI i))], [], hp kp nh rh tl rl I L) r) : ∀ k, k < 8 → w = nI (16 + k) → ∃ r, z r ∧ Bs cd_law (LF Ls xs) (33, [some (.retAddr 0), some (.ref 0), some (.ref 89), some (.int (nI i))], [.int w], hp kp nh rh tl rl I L) r
  | 0, _, hw => by
    obtain ⟨v, kp1, nh1, rh1, tl1, rl1, I1, L1, I2, L2, h1, h2, hV2⟩ := (hs (xs (nI i + 1).toNatClampNeg) (xs (nI i + 2).toNatClampNeg) (xs (nI i + 3).toNatClampNeg) (xs (nI i + 4).toNatClampNeg) (xs (nI i + 5).toNatClampNeg)).2.2.2.2.2.2.2.2.2.2.2.2.2.2.2.2.1 kp nh rh tl rl I L hV
    obtain ⟨r, hz, hr⟩ := K kp1 nh1 rh1 tl1 rl1 I2 L2 hV2
    refine ⟨r, hz, bs_val hw (x' := (802, [some (.retAddr 0), some (.ref 0), some (.ref 89), some (.int (nI i))], [], hp kp nh rh tl rl I L)) rfl ?_⟩
    exact lc_16 (pin_ok (by omega) (by omega)) (pin_ad (c := 1) (by omega) (by omega) rfl) (pin_ad (c := 2) (by omega) (by omega) rfl) (pin_ad (c := 3) (by omega) (by omega) rfl) (pin_ad (c := 4) (by omega) (by omega) rfl) (pin_ad (c := 5) (by omega) (by omega) rfl) h1 h2 hr
  | 1, _, hw => by
    obtain ⟨v, kp1, nh1, rh1, tl1, rl1, I1, L1, I2, L2, h1, h2, hV2⟩ := (hs (xs (nI i + 1).toNatClampNeg) (xs (nI i + 2).toNatClampNeg) (xs (nI i + 3).toNatClampNeg) (xs (nI i + 4).toNatClampNeg) (xs (nI i + 5).toNatClampNeg)).2.2.2.2.2.2.2.2.2.2.2.2.2.2.2.2.2.1 kp nh rh tl rl I L hV
    obtain ⟨r, hz, hr⟩ := K kp1 nh1 rh1 tl1 rl1 I2 L2 hV2
    refine ⟨r, hz, bs_val hw (x' := (835, [some (.retAddr 0), some (.ref 0), some (.ref 89), some (.int (nI i))], [], hp kp nh rh tl rl I L)) rfl ?_⟩
    exact lc_17 (pin_ok (by omega) (by omega)) (pin_ad (c := 1) (by omega) (by omega) rfl) (pin_ad (c := 2) (by omega) (by omega) rfl) (pin_ad (c := 3) (by omega) (by omega) rfl) (pin_ad (c := 4) (by omega) (by omega) rfl) (pin_ad (c := 5) (by omega) (by omega) rfl) h1 h2 hr
  | 2, _, hw => by
    obtain ⟨v, kp1, nh1, rh1, tl1, rl1, I1, L1, I2, L2, h1, h2, hV2⟩ := (hs (xs (nI i + 1).toNatClampNeg) (xs (nI i + 2).toNatClampNeg) (xs (nI i + 3).toNatClampNeg) (xs (nI i + 4).toNatClampNeg) (xs (nI i + 5).toNatClampNeg)).2.2.2.2.2.2.2.2.2.2.2.2.2.2.2.2.2.2.1 kp nh rh tl rl I L hV
    obtain ⟨r, hz, hr⟩ := K kp1 nh1 rh1 tl1 rl1 I2 L2 hV2
    refine ⟨r, hz, bs_val hw (x' := (868, [some (.retAddr 0), some (.ref 0), some (.ref 89), some (.int (nI i))], [], hp kp nh rh tl rl I L)) rfl ?_⟩
    exact lc_18 (pin_ok (by omega) (by omega)) (pin_ad (c := 1) (by omega) (by omega) rfl) (pin_ad (c := 2) (by omega) (by omega) rfl) (pin_ad (c := 3) (by omega) (by omega) rfl) (pin_ad (c := 4) (by omega) (by omega) rfl) (pin_ad (c := 5) (by omega) (by omega) rfl) h1 h2 hr
  | 3, _, hw => by
    obtain ⟨v, kp1, nh1, rh1, tl1, rl1, I1, L1, I2, L2, h1, h2, hV2⟩ := (hs (xs (nI i + 1).toNatClampNeg) (xs (nI i + 2).toNatClampNeg) (xs (nI i + 3).toNatClampNeg) (xs (nI i + 4).toNatClampNeg) (xs (nI i + 5).toNatClampNeg)).2.2.2.2.2.2.2.2.2.2.2.2.2.2.2.2.2.2.2.1 kp nh rh tl rl I L hV
    obtain ⟨r, hz, hr⟩ := K kp1 nh1 rh1 tl1 rl1 I2 L2 hV2
    refine ⟨r, hz, bs_val hw (x' := (891, [some (.retAddr 0), some (.ref 0), some (.ref 89), some (.int (nI i))], [], hp kp nh rh tl rl I L)) rfl ?_⟩
    exact lc_19 (pin_ok (by omega) (by omega)) (pin_ad (c := 1) (by omega) (by omega) rfl) (pin_ad (c := 2) (by omega) (by omega) rfl) (pin_ad (c := 3) (by omega) (by omega) rfl) (pin_ad (c := 4) (by omega) (by omega) rfl) (pin_ad (c := 5) (by omega) (by omega) rfl) h1 h2 hr
  | 4, _, hw => by
    obtain ⟨v, kp1, nh1, rh1, tl1, rl1, I1, L1, I2, L2, h1, h2, hV2⟩ := (hs (xs (nI i + 1).toNatClampNeg) (xs (nI i + 2).toNatClampNeg) (xs (nI i + 3).toNatClampNeg) (xs (nI i + 4).toNatClampNeg) (xs (nI i + 5).toNatClampNeg)).2.2.2.2.2.2.2.2.2.2.2.2.2.2.2.2.2.2.2.2.1 kp nh rh tl rl I L hV
    obtain ⟨r, hz, hr⟩ := K kp1 nh1 rh1 tl1 rl1 I2 L2 hV2
    refine ⟨r, hz, bs_val hw (x' := (924, [some (.retAddr 0), some (.ref 0), some (.ref 89), some (.int (nI i))], [], hp kp nh rh tl rl I L)) rfl ?_⟩
    exact lc_20 (pin_ok (by omega) (by omega)) (pin_ad (c := 1) (by omega) (by omega) rfl) (pin_ad (c := 2) (by omega) (by omega) rfl) (pin_ad (c := 3) (by omega) (by omega) rfl) (pin_ad (c := 4) (by omega) (by omega) rfl) (pin_ad (c := 5) (by omega) (by omega) rfl) h1 h2 hr
  | 5, _, hw => by
    obtain ⟨v, kp1, nh1, rh1, tl1, rl1, I1, L1, I2, L2, h1, h2, hV2⟩ := (hs (xs (nI i + 1).toNatClampNeg) (xs (nI i + 2).toNatClampNeg) (xs (nI i + 3).toNatClampNeg) (xs (nI i + 4).toNatClampNeg) (xs (nI i + 5).toNatClampNeg)).2.2.2.2.2.2.2.2.2.2.2.2.2.2.2.2.2.2.2.2.2.1 kp nh rh tl rl I L hV
    obtain ⟨r, hz, hr⟩ := K kp1 nh1 rh1 tl1 rl1 I2 L2 hV2
    refine ⟨r, hz, bs_val hw (x' := (947, [some (.retAddr 0), some (.ref 0), some (.ref 89), some (.int (nI i))], [], hp kp nh rh tl rl I L)) rfl ?_⟩
    exact lc_21 (pin_ok (by omega) (by omega)) (pin_ad (c := 1) (by omega) (by omega) rfl) (pin_ad (c := 2) (by omega) (by omega) rfl) (pin_ad (c := 3) (by omega) (by omega) rfl) (pin_ad (c := 4) (by omega) (by omega) rfl) (pin_ad (c := 5) (by omega) (by omega) rfl) h1 h2 hr
  | 6, _, hw => by
    obtain ⟨v, kp1, nh1, rh1, tl1, rl1, I1, L1, I2, L2, h1, h2, hV2⟩ := (hs (xs (nI i + 1).toNatClampNeg) (xs (nI i + 2).toNatClampNeg) (xs (nI i + 3).toNatClampNeg) (xs (nI i + 4).toNatClampNeg) (xs (nI i + 5).toNatClampNeg)).2.2.2.2.2.2.2.2.2.2.2.2.2.2.2.2.2.2.2.2.2.2.1 kp nh rh tl rl I L hV
    obtain ⟨r, hz, hr⟩ := K kp1 nh1 rh1 tl1 rl1 I2 L2 hV2
    refine ⟨r, hz, bs_val hw (x' := (970, [some (.retAddr 0), some (.ref 0), some (.ref 89), some (.int (nI i))], [], hp kp nh rh tl rl I L)) rfl ?_⟩
    exact lc_22 (pin_ok (by omega) (by omega)) (pin_ad (c := 1) (by omega) (by omega) rfl) (pin_ad (c := 2) (by omega) (by omega) rfl) (pin_ad (c := 3) (by omega) (by omega) rfl) (pin_ad (c := 4) (by omega) (by omega) rfl) (pin_ad (c := 5) (by omega) (by omega) rfl) h1 h2 hr
  | 7, _, hw => by
    obtain ⟨v, kp1, nh1, rh1, tl1, rl1, I1, L1, I2, L2, h1, h2, hV2⟩ := (hs (xs (nI i + 1).toNatClampNeg) (xs (nI i + 2).toNatClampNeg) (xs (nI i + 3).toNatClampNeg) (xs (nI i + 4).toNatClampNeg) (xs (nI i + 5).toNatClampNeg)).2.2.2.2.2.2.2.2.2.2.2.2.2.2.2.2.2.2.2.2.2.2.2.1 kp nh rh tl rl I L hV
    obtain ⟨r, hz, hr⟩ := K kp1 nh1 rh1 tl1 rl1 I2 L2 hV2
    refine ⟨r, hz, bs_val hw (x' := (1003, [some (.retAddr 0), some (.ref 0), some (.ref 89), some (.int (nI i))], [], hp kp nh rh tl rl I L)) rfl ?_⟩
    exact lc_23 (pin_ok (by omega) (by omega)) (pin_ad (c := 1) (by omega) (by omega) rfl) (pin_ad (c := 2) (by omega) (by omega) rfl) (pin_ad (c := 3) (by omega) (by omega) rfl) (pin_ad (c := 4) (by omega) (by omega) rfl) (pin_ad (c := 5) (by omega) (by omega) rfl) h1 h2 hr
  | n + 8, h, _ => absurd h (by omega)
set_option maxHeartbeats 2000000 in
set_option maxRecDepth 20000 in
theorem ldisp_24 {Ls : Nat} {xs : Nat → Int32} {V : pInv} (hs : AllSteps Ls xs V) (hL : Ls ≤ 384) {i : Nat} (hi : i + 6 ≤ Ls) {kp nh rh : Option Nat} {tl : List (Nat × Nat)} {rl : List (List (Option Nat))} {I : FI} {L : FL} (hV : V kp nh rh tl rl I L) {w : Int32} {z : pR → Prop} (K : ∀ kp nh rh tl rl I L, V kp nh rh tl rl I L → ∃ r, z r ∧ Bs cd_law (LF Ls xs) (2026, [some (.retAddr 0), some (.ref 0), some (.ref 89), some (.int (nI i))], [], hp kp nh rh tl rl I L) r) : ∀ k, k < 8 → w = nI (24 + k) → ∃ r, z r ∧ Bs cd_law (LF Ls xs) (33, [some (.retAddr 0), some (.ref 0), some (.ref 89), some (.int (nI i))], [.int w], hp kp nh rh tl rl I L) r
  | 0, _, hw => by
    obtain ⟨v, kp1, nh1, rh1, tl1, rl1, I1, L1, I2, L2, h1, h2, hV2⟩ := (hs (xs (nI i + 1).toNatClampNeg) (xs (nI i + 2).toNatClampNeg) (xs (nI i + 3).toNatClampNeg) (xs (nI i + 4).toNatClampNeg) (xs (nI i + 5).toNatClampNeg)).2.2.2.2.2.2.2.2.2.2.2.2.2.2.2.2.2.2.2.2.2.2.2.2.1 kp nh rh tl rl I L hV
    obtain ⟨r, hz, hr⟩ := K kp1 nh1 rh1 tl1 rl1 I2 L2 hV2
    refine ⟨r, hz, bs_val hw (x' := (1026, [some (.retAddr 0), some (.ref 0), some (.ref 89), some (.int (nI i))], [], hp kp nh rh tl rl I L)) rfl ?_⟩
    exact lc_24 (pin_ok (by omega) (by omega)) (pin_ad (c := 1) (by omega) (by omega) rfl) (pin_ad (c := 2) (by omega) (by omega) rfl) (pin_ad (c := 3) (by omega) (by omega) rfl) (pin_ad (c := 4) (by omega) (by omega) rfl) (pin_ad (c := 5) (by omega) (by omega) rfl) h1 h2 hr
  | 1, _, hw => by
    obtain ⟨v, kp1, nh1, rh1, tl1, rl1, I1, L1, I2, L2, h1, h2, hV2⟩ := (hs (xs (nI i + 1).toNatClampNeg) (xs (nI i + 2).toNatClampNeg) (xs (nI i + 3).toNatClampNeg) (xs (nI i + 4).toNatClampNeg) (xs (nI i + 5).toNatClampNeg)).2.2.2.2.2.2.2.2.2.2.2.2.2.2.2.2.2.2.2.2.2.2.2.2.2.1 kp nh rh tl rl I L hV
    obtain ⟨r, hz, hr⟩ := K kp1 nh1 rh1 tl1 rl1 I2 L2 hV2
    refine ⟨r, hz, bs_val hw (x' := (1039, [some (.retAddr 0), some (.ref 0), some (.ref 89), some (.int (nI i))], [], hp kp nh rh tl rl I L)) rfl ?_⟩
    exact lc_25 (pin_ok (by omega) (by omega)) (pin_ad (c := 1) (by omega) (by omega) rfl) (pin_ad (c := 2) (by omega) (by omega) rfl) (pin_ad (c := 3) (by omega) (by omega) rfl) (pin_ad (c := 4) (by omega) (by omega) rfl) (pin_ad (c := 5) (by omega) (by omega) rfl) h1 h2 hr
  | 2, _, hw => by
    obtain ⟨v, kp1, nh1, rh1, tl1, rl1, I1, L1, I2, L2, h1, h2, hV2⟩ := (hs (xs (nI i + 1).toNatClampNeg) (xs (nI i + 2).toNatClampNeg) (xs (nI i + 3).toNatClampNeg) (xs (nI i + 4).toNatClampNeg) (xs (nI i + 5).toNatClampNeg)).2.2.2.2.2.2.2.2.2.2.2.2.2.2.2.2.2.2.2.2.2.2.2.2.2.2.1 kp nh rh tl rl I L hV
    obtain ⟨r, hz, hr⟩ := K kp1 nh1 rh1 tl1 rl1 I2 L2 hV2
    refine ⟨r, hz, bs_val hw (x' := (1052, [some (.retAddr 0), some (.ref 0), some (.ref 89), some (.int (nI i))], [], hp kp nh rh tl rl I L)) rfl ?_⟩
    exact lc_26 (pin_ok (by omega) (by omega)) (pin_ad (c := 1) (by omega) (by omega) rfl) (pin_ad (c := 2) (by omega) (by omega) rfl) (pin_ad (c := 3) (by omega) (by omega) rfl) (pin_ad (c := 4) (by omega) (by omega) rfl) (pin_ad (c := 5) (by omega) (by omega) rfl) h1 h2 hr
  | 3, _, hw => by
    obtain ⟨v, kp1, nh1, rh1, tl1, rl1, I1, L1, I2, L2, h1, h2, hV2⟩ := (hs (xs (nI i + 1).toNatClampNeg) (xs (nI i + 2).toNatClampNeg) (xs (nI i + 3).toNatClampNeg) (xs (nI i + 4).toNatClampNeg) (xs (nI i + 5).toNatClampNeg)).2.2.2.2.2.2.2.2.2.2.2.2.2.2.2.2.2.2.2.2.2.2.2.2.2.2.2.1 kp nh rh tl rl I L hV
    obtain ⟨r, hz, hr⟩ := K kp1 nh1 rh1 tl1 rl1 I2 L2 hV2
    refine ⟨r, hz, bs_val hw (x' := (1065, [some (.retAddr 0), some (.ref 0), some (.ref 89), some (.int (nI i))], [], hp kp nh rh tl rl I L)) rfl ?_⟩
    exact lc_27 (pin_ok (by omega) (by omega)) (pin_ad (c := 1) (by omega) (by omega) rfl) (pin_ad (c := 2) (by omega) (by omega) rfl) (pin_ad (c := 3) (by omega) (by omega) rfl) (pin_ad (c := 4) (by omega) (by omega) rfl) (pin_ad (c := 5) (by omega) (by omega) rfl) h1 h2 hr
  | 4, _, hw => by
    obtain ⟨v, kp1, nh1, rh1, tl1, rl1, I1, L1, I2, L2, h1, h2, hV2⟩ := (hs (xs (nI i + 1).toNatClampNeg) (xs (nI i + 2).toNatClampNeg) (xs (nI i + 3).toNatClampNeg) (xs (nI i + 4).toNatClampNeg) (xs (nI i + 5).toNatClampNeg)).2.2.2.2.2.2.2.2.2.2.2.2.2.2.2.2.2.2.2.2.2.2.2.2.2.2.2.2.1 kp nh rh tl rl I L hV
    obtain ⟨r, hz, hr⟩ := K kp1 nh1 rh1 tl1 rl1 I2 L2 hV2
    refine ⟨r, hz, bs_val hw (x' := (1078, [some (.retAddr 0), some (.ref 0), some (.ref 89), some (.int (nI i))], [], hp kp nh rh tl rl I L)) rfl ?_⟩
    exact lc_28 (pin_ok (by omega) (by omega)) (pin_ad (c := 1) (by omega) (by omega) rfl) (pin_ad (c := 2) (by omega) (by omega) rfl) (pin_ad (c := 3) (by omega) (by omega) rfl) (pin_ad (c := 4) (by omega) (by omega) rfl) (pin_ad (c := 5) (by omega) (by omega) rfl) h1 h2 hr
  | 5, _, hw => by
    obtain ⟨v, kp1, nh1, rh1, tl1, rl1, I1, L1, I2, L2, h1, h2, hV2⟩ := (hs (xs (nI i + 1).toNatClampNeg) (xs (nI i + 2).toNatClampNeg) (xs (nI i + 3).toNatClampNeg) (xs (nI i + 4).toNatClampNeg) (xs (nI i + 5).toNatClampNeg)).2.2.2.2.2.2.2.2.2.2.2.2.2.2.2.2.2.2.2.2.2.2.2.2.2.2.2.2.2.1 kp nh rh tl rl I L hV
    obtain ⟨r, hz, hr⟩ := K kp1 nh1 rh1 tl1 rl1 I2 L2 hV2
    refine ⟨r, hz, bs_val hw (x' := (1101, [some (.retAddr 0), some (.ref 0), some (.ref 89), some (.int (nI i))], [], hp kp nh rh tl rl I L)) rfl ?_⟩
    exact lc_29 (pin_ok (by omega) (by omega)) (pin_ad (c := 1) (by omega) (by omega) rfl) (pin_ad (c := 2) (by omega) (by omega) rfl) (pin_ad (c := 3) (by omega) (by omega) rfl) (pin_ad (c := 4) (by omega) (by omega) rfl) (pin_ad (c := 5) (by omega) (by omega) rfl) h1 h2 hr
  | 6, _, hw => by
    obtain ⟨v, kp1, nh1, rh1, tl1, rl1, I1, L1, I2, L2, h1, h2, hV2⟩ := (hs (xs (nI i + 1).toNatClampNeg) (xs (nI i + 2).toNatClampNeg) (xs (nI i + 3).toNatClampNeg) (xs (nI i + 4).toNatClampNeg) (xs (nI i + 5).toNatClampNeg)).2.2.2.2.2.2.2.2.2.2.2.2.2.2.2.2.2.2.2.2.2.2.2.2.2.2.2.2.2.2.1 kp nh rh tl rl I L hV
    obtain ⟨r, hz, hr⟩ := K kp1 nh1 rh1 tl1 rl1 I2 L2 hV2
    refine ⟨r, hz, bs_val hw (x' := (1124, [some (.retAddr 0), some (.ref 0), some (.ref 89), some (.int (nI i))], [], hp kp nh rh tl rl I L)) rfl ?_⟩
    exact lc_30 (pin_ok (by omega) (by omega)) (pin_ad (c := 1) (by omega) (by omega) rfl) (pin_ad (c := 2) (by omega) (by omega) rfl) (pin_ad (c := 3) (by omega) (by omega) rfl) (pin_ad (c := 4) (by omega) (by omega) rfl) (pin_ad (c := 5) (by omega) (by omega) rfl) h1 h2 hr
  | 7, _, hw => by
    obtain ⟨v, kp1, nh1, rh1, tl1, rl1, I1, L1, I2, L2, h1, h2, hV2⟩ := (hs (xs (nI i + 1).toNatClampNeg) (xs (nI i + 2).toNatClampNeg) (xs (nI i + 3).toNatClampNeg) (xs (nI i + 4).toNatClampNeg) (xs (nI i + 5).toNatClampNeg)).2.2.2.2.2.2.2.2.2.2.2.2.2.2.2.2.2.2.2.2.2.2.2.2.2.2.2.2.2.2.2.1 kp nh rh tl rl I L hV
    obtain ⟨r, hz, hr⟩ := K kp1 nh1 rh1 tl1 rl1 I2 L2 hV2
    refine ⟨r, hz, bs_val hw (x' := (1137, [some (.retAddr 0), some (.ref 0), some (.ref 89), some (.int (nI i))], [], hp kp nh rh tl rl I L)) rfl ?_⟩
    exact lc_31 (pin_ok (by omega) (by omega)) (pin_ad (c := 1) (by omega) (by omega) rfl) (pin_ad (c := 2) (by omega) (by omega) rfl) (pin_ad (c := 3) (by omega) (by omega) rfl) (pin_ad (c := 4) (by omega) (by omega) rfl) (pin_ad (c := 5) (by omega) (by omega) rfl) h1 h2 hr
  | n + 8, h, _ => absurd h (by omega)
set_option maxHeartbeats 2000000 in
set_option maxRecDepth 20000 in
theorem ldisp_32 {Ls : Nat} {xs : Nat → Int32} {V : pInv} (hs : AllSteps Ls xs V) (hL : Ls ≤ 384) {i : Nat} (hi : i + 6 ≤ Ls) {kp nh rh : Option Nat} {tl : List (Nat × Nat)} {rl : List (List (Option Nat))} {I : FI} {L : FL} (hV : V kp nh rh tl rl I L) {w : Int32} {z : pR → Prop} (K : ∀ kp nh rh tl rl I L, V kp nh rh tl rl I L → ∃ r, z r ∧ Bs cd_law (LF Ls xs) (2026, [some (.retAddr 0), some (.ref 0), some (.ref 89), some (.int (nI i))], [], hp kp nh rh tl rl I L) r) : ∀ k, k < 8 → w = nI (32 + k) → ∃ r, z r ∧ Bs cd_law (LF Ls xs) (33, [some (.retAddr 0), some (.ref 0), some (.ref 89), some (.int (nI i))], [.int w], hp kp nh rh tl rl I L) r
  | 0, _, hw => by
    obtain ⟨v, kp1, nh1, rh1, tl1, rl1, I1, L1, I2, L2, h1, h2, hV2⟩ := (hs (xs (nI i + 1).toNatClampNeg) (xs (nI i + 2).toNatClampNeg) (xs (nI i + 3).toNatClampNeg) (xs (nI i + 4).toNatClampNeg) (xs (nI i + 5).toNatClampNeg)).2.2.2.2.2.2.2.2.2.2.2.2.2.2.2.2.2.2.2.2.2.2.2.2.2.2.2.2.2.2.2.2.1 kp nh rh tl rl I L hV
    obtain ⟨r, hz, hr⟩ := K kp1 nh1 rh1 tl1 rl1 I2 L2 hV2
    refine ⟨r, hz, bs_val hw (x' := (1150, [some (.retAddr 0), some (.ref 0), some (.ref 89), some (.int (nI i))], [], hp kp nh rh tl rl I L)) rfl ?_⟩
    exact lc_32 (pin_ok (by omega) (by omega)) (pin_ad (c := 1) (by omega) (by omega) rfl) (pin_ad (c := 2) (by omega) (by omega) rfl) (pin_ad (c := 3) (by omega) (by omega) rfl) (pin_ad (c := 4) (by omega) (by omega) rfl) (pin_ad (c := 5) (by omega) (by omega) rfl) h1 h2 hr
  | 1, _, hw => by
    obtain ⟨v, kp1, nh1, rh1, tl1, rl1, I1, L1, I2, L2, h1, h2, hV2⟩ := (hs (xs (nI i + 1).toNatClampNeg) (xs (nI i + 2).toNatClampNeg) (xs (nI i + 3).toNatClampNeg) (xs (nI i + 4).toNatClampNeg) (xs (nI i + 5).toNatClampNeg)).2.2.2.2.2.2.2.2.2.2.2.2.2.2.2.2.2.2.2.2.2.2.2.2.2.2.2.2.2.2.2.2.2.1 kp nh rh tl rl I L hV
    obtain ⟨r, hz, hr⟩ := K kp1 nh1 rh1 tl1 rl1 I2 L2 hV2
    refine ⟨r, hz, bs_val hw (x' := (1163, [some (.retAddr 0), some (.ref 0), some (.ref 89), some (.int (nI i))], [], hp kp nh rh tl rl I L)) rfl ?_⟩
    exact lc_33 (pin_ok (by omega) (by omega)) (pin_ad (c := 1) (by omega) (by omega) rfl) (pin_ad (c := 2) (by omega) (by omega) rfl) (pin_ad (c := 3) (by omega) (by omega) rfl) (pin_ad (c := 4) (by omega) (by omega) rfl) (pin_ad (c := 5) (by omega) (by omega) rfl) h1 h2 hr
  | 2, _, hw => by
    obtain ⟨v, kp1, nh1, rh1, tl1, rl1, I1, L1, I2, L2, h1, h2, hV2⟩ := (hs (xs (nI i + 1).toNatClampNeg) (xs (nI i + 2).toNatClampNeg) (xs (nI i + 3).toNatClampNeg) (xs (nI i + 4).toNatClampNeg) (xs (nI i + 5).toNatClampNeg)).2.2.2.2.2.2.2.2.2.2.2.2.2.2.2.2.2.2.2.2.2.2.2.2.2.2.2.2.2.2.2.2.2.2.1 kp nh rh tl rl I L hV
    obtain ⟨r, hz, hr⟩ := K kp1 nh1 rh1 tl1 rl1 I2 L2 hV2
    refine ⟨r, hz, bs_val hw (x' := (1176, [some (.retAddr 0), some (.ref 0), some (.ref 89), some (.int (nI i))], [], hp kp nh rh tl rl I L)) rfl ?_⟩
    exact lc_34 (pin_ok (by omega) (by omega)) (pin_ad (c := 1) (by omega) (by omega) rfl) (pin_ad (c := 2) (by omega) (by omega) rfl) (pin_ad (c := 3) (by omega) (by omega) rfl) (pin_ad (c := 4) (by omega) (by omega) rfl) (pin_ad (c := 5) (by omega) (by omega) rfl) h1 h2 hr
  | 3, _, hw => by
    obtain ⟨v, kp1, nh1, rh1, tl1, rl1, I1, L1, I2, L2, h1, h2, hV2⟩ := (hs (xs (nI i + 1).toNatClampNeg) (xs (nI i + 2).toNatClampNeg) (xs (nI i + 3).toNatClampNeg) (xs (nI i + 4).toNatClampNeg) (xs (nI i + 5).toNatClampNeg)).2.2.2.2.2.2.2.2.2.2.2.2.2.2.2.2.2.2.2.2.2.2.2.2.2.2.2.2.2.2.2.2.2.2.2.1 kp nh rh tl rl I L hV
    obtain ⟨r, hz, hr⟩ := K kp1 nh1 rh1 tl1 rl1 I2 L2 hV2
    refine ⟨r, hz, bs_val hw (x' := (1199, [some (.retAddr 0), some (.ref 0), some (.ref 89), some (.int (nI i))], [], hp kp nh rh tl rl I L)) rfl ?_⟩
    exact lc_35 (pin_ok (by omega) (by omega)) (pin_ad (c := 1) (by omega) (by omega) rfl) (pin_ad (c := 2) (by omega) (by omega) rfl) (pin_ad (c := 3) (by omega) (by omega) rfl) (pin_ad (c := 4) (by omega) (by omega) rfl) (pin_ad (c := 5) (by omega) (by omega) rfl) h1 h2 hr
  | 4, _, hw => by
    obtain ⟨v, kp1, nh1, rh1, tl1, rl1, I1, L1, I2, L2, h1, h2, hV2⟩ := (hs (xs (nI i + 1).toNatClampNeg) (xs (nI i + 2).toNatClampNeg) (xs (nI i + 3).toNatClampNeg) (xs (nI i + 4).toNatClampNeg) (xs (nI i + 5).toNatClampNeg)).2.2.2.2.2.2.2.2.2.2.2.2.2.2.2.2.2.2.2.2.2.2.2.2.2.2.2.2.2.2.2.2.2.2.2.2.1 kp nh rh tl rl I L hV
    obtain ⟨r, hz, hr⟩ := K kp1 nh1 rh1 tl1 rl1 I2 L2 hV2
    refine ⟨r, hz, bs_val hw (x' := (1222, [some (.retAddr 0), some (.ref 0), some (.ref 89), some (.int (nI i))], [], hp kp nh rh tl rl I L)) rfl ?_⟩
    exact lc_36 (pin_ok (by omega) (by omega)) (pin_ad (c := 1) (by omega) (by omega) rfl) (pin_ad (c := 2) (by omega) (by omega) rfl) (pin_ad (c := 3) (by omega) (by omega) rfl) (pin_ad (c := 4) (by omega) (by omega) rfl) (pin_ad (c := 5) (by omega) (by omega) rfl) h1 h2 hr
  | 5, _, hw => by
    obtain ⟨v, kp1, nh1, rh1, tl1, rl1, I1, L1, I2, L2, h1, h2, hV2⟩ := (hs (xs (nI i + 1).toNatClampNeg) (xs (nI i + 2).toNatClampNeg) (xs (nI i + 3).toNatClampNeg) (xs (nI i + 4).toNatClampNeg) (xs (nI i + 5).toNatClampNeg)).2.2.2.2.2.2.2.2.2.2.2.2.2.2.2.2.2.2.2.2.2.2.2.2.2.2.2.2.2.2.2.2.2.2.2.2.2.1 kp nh rh tl rl I L hV
    obtain ⟨r, hz, hr⟩ := K kp1 nh1 rh1 tl1 rl1 I2 L2 hV2
    refine ⟨r, hz, bs_val hw (x' := (1235, [some (.retAddr 0), some (.ref 0), some (.ref 89), some (.int (nI i))], [], hp kp nh rh tl rl I L)) rfl ?_⟩
    exact lc_37 (pin_ok (by omega) (by omega)) (pin_ad (c := 1) (by omega) (by omega) rfl) (pin_ad (c := 2) (by omega) (by omega) rfl) (pin_ad (c := 3) (by omega) (by omega) rfl) (pin_ad (c := 4) (by omega) (by omega) rfl) (pin_ad (c := 5) (by omega) (by omega) rfl) h1 h2 hr
  | 6, _, hw => by
    obtain ⟨v, kp1, nh1, rh1, tl1, rl1, I1, L1, I2, L2, h1, h2, hV2⟩ := (hs (xs (nI i + 1).toNatClampNeg) (xs (nI i + 2).toNatClampNeg) (xs (nI i + 3).toNatClampNeg) (xs (nI i + 4).toNatClampNeg) (xs (nI i + 5).toNatClampNeg)).2.2.2.2.2.2.2.2.2.2.2.2.2.2.2.2.2.2.2.2.2.2.2.2.2.2.2.2.2.2.2.2.2.2.2.2.2.2.1 kp nh rh tl rl I L hV
    obtain ⟨r, hz, hr⟩ := K kp1 nh1 rh1 tl1 rl1 I2 L2 hV2
    refine ⟨r, hz, bs_val hw (x' := (1258, [some (.retAddr 0), some (.ref 0), some (.ref 89), some (.int (nI i))], [], hp kp nh rh tl rl I L)) rfl ?_⟩
    exact lc_38 (pin_ok (by omega) (by omega)) (pin_ad (c := 1) (by omega) (by omega) rfl) (pin_ad (c := 2) (by omega) (by omega) rfl) (pin_ad (c := 3) (by omega) (by omega) rfl) (pin_ad (c := 4) (by omega) (by omega) rfl) (pin_ad (c := 5) (by omega) (by omega) rfl) h1 h2 hr
  | 7, _, hw => by
    obtain ⟨v, kp1, nh1, rh1, tl1, rl1, I1, L1, I2, L2, h1, h2, hV2⟩ := (hs (xs (nI i + 1).toNatClampNeg) (xs (nI i + 2).toNatClampNeg) (xs (nI i + 3).toNatClampNeg) (xs (nI i + 4).toNatClampNeg) (xs (nI i + 5).toNatClampNeg)).2.2.2.2.2.2.2.2.2.2.2.2.2.2.2.2.2.2.2.2.2.2.2.2.2.2.2.2.2.2.2.2.2.2.2.2.2.2.2.1 kp nh rh tl rl I L hV
    obtain ⟨r, hz, hr⟩ := K kp1 nh1 rh1 tl1 rl1 I2 L2 hV2
    refine ⟨r, hz, bs_val hw (x' := (1271, [some (.retAddr 0), some (.ref 0), some (.ref 89), some (.int (nI i))], [], hp kp nh rh tl rl I L)) rfl ?_⟩
    exact lc_39 (pin_ok (by omega) (by omega)) (pin_ad (c := 1) (by omega) (by omega) rfl) (pin_ad (c := 2) (by omega) (by omega) rfl) (pin_ad (c := 3) (by omega) (by omega) rfl) (pin_ad (c := 4) (by omega) (by omega) rfl) (pin_ad (c := 5) (by omega) (by omega) rfl) h1 h2 hr
  | n + 8, h, _ => absurd h (by omega)
set_option maxHeartbeats 2000000 in
set_option maxRecDepth 20000 in
theorem ldisp_40 {Ls : Nat} {xs : Nat → Int32} {V : pInv} (hs : AllSteps Ls xs V) (hL : Ls ≤ 384) {i : Nat} (hi : i + 6 ≤ Ls) {kp nh rh : Option Nat} {tl : List (Nat × Nat)} {rl : List (List (Option Nat))} {I : FI} {L : FL} (hV : V kp nh rh tl rl I L) {w : Int32} {z : pR → Prop} (K : ∀ kp nh rh tl rl I L, V kp nh rh tl rl I L → ∃ r, z r ∧ Bs cd_law (LF Ls xs) (2026, [some (.retAddr 0), some (.ref 0), some (.ref 89), some (.int (nI i))], [], hp kp nh rh tl rl I L) r) : ∀ k, k < 8 → w = nI (40 + k) → ∃ r, z r ∧ Bs cd_law (LF Ls xs) (33, [some (.retAddr 0), some (.ref 0), some (.ref 89), some (.int (nI i))], [.int w], hp kp nh rh tl rl I L) r
  | 0, _, hw => by
    obtain ⟨v, kp1, nh1, rh1, tl1, rl1, I1, L1, I2, L2, h1, h2, hV2⟩ := (hs (xs (nI i + 1).toNatClampNeg) (xs (nI i + 2).toNatClampNeg) (xs (nI i + 3).toNatClampNeg) (xs (nI i + 4).toNatClampNeg) (xs (nI i + 5).toNatClampNeg)).2.2.2.2.2.2.2.2.2.2.2.2.2.2.2.2.2.2.2.2.2.2.2.2.2.2.2.2.2.2.2.2.2.2.2.2.2.2.2.2.1 kp nh rh tl rl I L hV
    obtain ⟨r, hz, hr⟩ := K kp1 nh1 rh1 tl1 rl1 I2 L2 hV2
    refine ⟨r, hz, bs_val hw (x' := (1294, [some (.retAddr 0), some (.ref 0), some (.ref 89), some (.int (nI i))], [], hp kp nh rh tl rl I L)) rfl ?_⟩
    exact lc_40 (pin_ok (by omega) (by omega)) (pin_ad (c := 1) (by omega) (by omega) rfl) (pin_ad (c := 2) (by omega) (by omega) rfl) (pin_ad (c := 3) (by omega) (by omega) rfl) (pin_ad (c := 4) (by omega) (by omega) rfl) (pin_ad (c := 5) (by omega) (by omega) rfl) h1 h2 hr
  | 1, _, hw => by
    obtain ⟨v, kp1, nh1, rh1, tl1, rl1, I1, L1, I2, L2, h1, h2, hV2⟩ := (hs (xs (nI i + 1).toNatClampNeg) (xs (nI i + 2).toNatClampNeg) (xs (nI i + 3).toNatClampNeg) (xs (nI i + 4).toNatClampNeg) (xs (nI i + 5).toNatClampNeg)).2.2.2.2.2.2.2.2.2.2.2.2.2.2.2.2.2.2.2.2.2.2.2.2.2.2.2.2.2.2.2.2.2.2.2.2.2.2.2.2.2.1 kp nh rh tl rl I L hV
    obtain ⟨r, hz, hr⟩ := K kp1 nh1 rh1 tl1 rl1 I2 L2 hV2
    refine ⟨r, hz, bs_val hw (x' := (1317, [some (.retAddr 0), some (.ref 0), some (.ref 89), some (.int (nI i))], [], hp kp nh rh tl rl I L)) rfl ?_⟩
    exact lc_41 (pin_ok (by omega) (by omega)) (pin_ad (c := 1) (by omega) (by omega) rfl) (pin_ad (c := 2) (by omega) (by omega) rfl) (pin_ad (c := 3) (by omega) (by omega) rfl) (pin_ad (c := 4) (by omega) (by omega) rfl) (pin_ad (c := 5) (by omega) (by omega) rfl) h1 h2 hr
  | 2, _, hw => by
    obtain ⟨v, kp1, nh1, rh1, tl1, rl1, I1, L1, I2, L2, h1, h2, hV2⟩ := (hs (xs (nI i + 1).toNatClampNeg) (xs (nI i + 2).toNatClampNeg) (xs (nI i + 3).toNatClampNeg) (xs (nI i + 4).toNatClampNeg) (xs (nI i + 5).toNatClampNeg)).2.2.2.2.2.2.2.2.2.2.2.2.2.2.2.2.2.2.2.2.2.2.2.2.2.2.2.2.2.2.2.2.2.2.2.2.2.2.2.2.2.2.1 kp nh rh tl rl I L hV
    obtain ⟨r, hz, hr⟩ := K kp1 nh1 rh1 tl1 rl1 I2 L2 hV2
    refine ⟨r, hz, bs_val hw (x' := (1340, [some (.retAddr 0), some (.ref 0), some (.ref 89), some (.int (nI i))], [], hp kp nh rh tl rl I L)) rfl ?_⟩
    exact lc_42 (pin_ok (by omega) (by omega)) (pin_ad (c := 1) (by omega) (by omega) rfl) (pin_ad (c := 2) (by omega) (by omega) rfl) (pin_ad (c := 3) (by omega) (by omega) rfl) (pin_ad (c := 4) (by omega) (by omega) rfl) (pin_ad (c := 5) (by omega) (by omega) rfl) h1 h2 hr
  | 3, _, hw => by
    obtain ⟨v, kp1, nh1, rh1, tl1, rl1, I1, L1, I2, L2, h1, h2, hV2⟩ := (hs (xs (nI i + 1).toNatClampNeg) (xs (nI i + 2).toNatClampNeg) (xs (nI i + 3).toNatClampNeg) (xs (nI i + 4).toNatClampNeg) (xs (nI i + 5).toNatClampNeg)).2.2.2.2.2.2.2.2.2.2.2.2.2.2.2.2.2.2.2.2.2.2.2.2.2.2.2.2.2.2.2.2.2.2.2.2.2.2.2.2.2.2.2.1 kp nh rh tl rl I L hV
    obtain ⟨r, hz, hr⟩ := K kp1 nh1 rh1 tl1 rl1 I2 L2 hV2
    refine ⟨r, hz, bs_val hw (x' := (1363, [some (.retAddr 0), some (.ref 0), some (.ref 89), some (.int (nI i))], [], hp kp nh rh tl rl I L)) rfl ?_⟩
    exact lc_43 (pin_ok (by omega) (by omega)) (pin_ad (c := 1) (by omega) (by omega) rfl) (pin_ad (c := 2) (by omega) (by omega) rfl) (pin_ad (c := 3) (by omega) (by omega) rfl) (pin_ad (c := 4) (by omega) (by omega) rfl) (pin_ad (c := 5) (by omega) (by omega) rfl) h1 h2 hr
  | 4, _, hw => by
    obtain ⟨v, kp1, nh1, rh1, tl1, rl1, I1, L1, I2, L2, h1, h2, hV2⟩ := (hs (xs (nI i + 1).toNatClampNeg) (xs (nI i + 2).toNatClampNeg) (xs (nI i + 3).toNatClampNeg) (xs (nI i + 4).toNatClampNeg) (xs (nI i + 5).toNatClampNeg)).2.2.2.2.2.2.2.2.2.2.2.2.2.2.2.2.2.2.2.2.2.2.2.2.2.2.2.2.2.2.2.2.2.2.2.2.2.2.2.2.2.2.2.2.1 kp nh rh tl rl I L hV
    obtain ⟨r, hz, hr⟩ := K kp1 nh1 rh1 tl1 rl1 I2 L2 hV2
    refine ⟨r, hz, bs_val hw (x' := (1386, [some (.retAddr 0), some (.ref 0), some (.ref 89), some (.int (nI i))], [], hp kp nh rh tl rl I L)) rfl ?_⟩
    exact lc_44 (pin_ok (by omega) (by omega)) (pin_ad (c := 1) (by omega) (by omega) rfl) (pin_ad (c := 2) (by omega) (by omega) rfl) (pin_ad (c := 3) (by omega) (by omega) rfl) (pin_ad (c := 4) (by omega) (by omega) rfl) (pin_ad (c := 5) (by omega) (by omega) rfl) h1 h2 hr
  | 5, _, hw => by
    obtain ⟨v, kp1, nh1, rh1, tl1, rl1, I1, L1, I2, L2, h1, h2, hV2⟩ := (hs (xs (nI i + 1).toNatClampNeg) (xs (nI i + 2).toNatClampNeg) (xs (nI i + 3).toNatClampNeg) (xs (nI i + 4).toNatClampNeg) (xs (nI i + 5).toNatClampNeg)).2.2.2.2.2.2.2.2.2.2.2.2.2.2.2.2.2.2.2.2.2.2.2.2.2.2.2.2.2.2.2.2.2.2.2.2.2.2.2.2.2.2.2.2.2.1 kp nh rh tl rl I L hV
    obtain ⟨r, hz, hr⟩ := K kp1 nh1 rh1 tl1 rl1 I2 L2 hV2
    refine ⟨r, hz, bs_val hw (x' := (1409, [some (.retAddr 0), some (.ref 0), some (.ref 89), some (.int (nI i))], [], hp kp nh rh tl rl I L)) rfl ?_⟩
    exact lc_45 (pin_ok (by omega) (by omega)) (pin_ad (c := 1) (by omega) (by omega) rfl) (pin_ad (c := 2) (by omega) (by omega) rfl) (pin_ad (c := 3) (by omega) (by omega) rfl) (pin_ad (c := 4) (by omega) (by omega) rfl) (pin_ad (c := 5) (by omega) (by omega) rfl) h1 h2 hr
  | 6, _, hw => by
    obtain ⟨v, kp1, nh1, rh1, tl1, rl1, I1, L1, I2, L2, h1, h2, hV2⟩ := (hs (xs (nI i + 1).toNatClampNeg) (xs (nI i + 2).toNatClampNeg) (xs (nI i + 3).toNatClampNeg) (xs (nI i + 4).toNatClampNeg) (xs (nI i + 5).toNatClampNeg)).2.2.2.2.2.2.2.2.2.2.2.2.2.2.2.2.2.2.2.2.2.2.2.2.2.2.2.2.2.2.2.2.2.2.2.2.2.2.2.2.2.2.2.2.2.2.1 kp nh rh tl rl I L hV
    obtain ⟨r, hz, hr⟩ := K kp1 nh1 rh1 tl1 rl1 I2 L2 hV2
    refine ⟨r, hz, bs_val hw (x' := (1422, [some (.retAddr 0), some (.ref 0), some (.ref 89), some (.int (nI i))], [], hp kp nh rh tl rl I L)) rfl ?_⟩
    exact lc_46 (pin_ok (by omega) (by omega)) (pin_ad (c := 1) (by omega) (by omega) rfl) (pin_ad (c := 2) (by omega) (by omega) rfl) (pin_ad (c := 3) (by omega) (by omega) rfl) (pin_ad (c := 4) (by omega) (by omega) rfl) (pin_ad (c := 5) (by omega) (by omega) rfl) h1 h2 hr
  | 7, _, hw => by
    obtain ⟨v, kp1, nh1, rh1, tl1, rl1, I1, L1, I2, L2, h1, h2, hV2⟩ := (hs (xs (nI i + 1).toNatClampNeg) (xs (nI i + 2).toNatClampNeg) (xs (nI i + 3).toNatClampNeg) (xs (nI i + 4).toNatClampNeg) (xs (nI i + 5).toNatClampNeg)).2.2.2.2.2.2.2.2.2.2.2.2.2.2.2.2.2.2.2.2.2.2.2.2.2.2.2.2.2.2.2.2.2.2.2.2.2.2.2.2.2.2.2.2.2.2.2.1 kp nh rh tl rl I L hV
    obtain ⟨r, hz, hr⟩ := K kp1 nh1 rh1 tl1 rl1 I2 L2 hV2
    refine ⟨r, hz, bs_val hw (x' := (1455, [some (.retAddr 0), some (.ref 0), some (.ref 89), some (.int (nI i))], [], hp kp nh rh tl rl I L)) rfl ?_⟩
    exact lc_47 (pin_ok (by omega) (by omega)) (pin_ad (c := 1) (by omega) (by omega) rfl) (pin_ad (c := 2) (by omega) (by omega) rfl) (pin_ad (c := 3) (by omega) (by omega) rfl) (pin_ad (c := 4) (by omega) (by omega) rfl) (pin_ad (c := 5) (by omega) (by omega) rfl) h1 h2 hr
  | n + 8, h, _ => absurd h (by omega)
set_option maxHeartbeats 2000000 in
set_option maxRecDepth 20000 in
theorem ldisp_48 {Ls : Nat} {xs : Nat → Int32} {V : pInv} (hs : AllSteps Ls xs V) (hL : Ls ≤ 384) {i : Nat} (hi : i + 6 ≤ Ls) {kp nh rh : Option Nat} {tl : List (Nat × Nat)} {rl : List (List (Option Nat))} {I : FI} {L : FL} (hV : V kp nh rh tl rl I L) {w : Int32} {z : pR → Prop} (K : ∀ kp nh rh tl rl I L, V kp nh rh tl rl I L → ∃ r, z r ∧ Bs cd_law (LF Ls xs) (2026, [some (.retAddr 0), some (.ref 0), some (.ref 89), some (.int (nI i))], [], hp kp nh rh tl rl I L) r) : ∀ k, k < 8 → w = nI (48 + k) → ∃ r, z r ∧ Bs cd_law (LF Ls xs) (33, [some (.retAddr 0), some (.ref 0), some (.ref 89), some (.int (nI i))], [.int w], hp kp nh rh tl rl I L) r
  | 0, _, hw => by
    obtain ⟨v, kp1, nh1, rh1, tl1, rl1, I1, L1, I2, L2, h1, h2, hV2⟩ := (hs (xs (nI i + 1).toNatClampNeg) (xs (nI i + 2).toNatClampNeg) (xs (nI i + 3).toNatClampNeg) (xs (nI i + 4).toNatClampNeg) (xs (nI i + 5).toNatClampNeg)).2.2.2.2.2.2.2.2.2.2.2.2.2.2.2.2.2.2.2.2.2.2.2.2.2.2.2.2.2.2.2.2.2.2.2.2.2.2.2.2.2.2.2.2.2.2.2.2.1 kp nh rh tl rl I L hV
    obtain ⟨r, hz, hr⟩ := K kp1 nh1 rh1 tl1 rl1 I2 L2 hV2
    refine ⟨r, hz, bs_val hw (x' := (1508, [some (.retAddr 0), some (.ref 0), some (.ref 89), some (.int (nI i))], [], hp kp nh rh tl rl I L)) rfl ?_⟩
    exact lc_48 (pin_ok (by omega) (by omega)) (pin_ad (c := 1) (by omega) (by omega) rfl) (pin_ad (c := 2) (by omega) (by omega) rfl) (pin_ad (c := 3) (by omega) (by omega) rfl) (pin_ad (c := 4) (by omega) (by omega) rfl) (pin_ad (c := 5) (by omega) (by omega) rfl) h1 h2 hr
  | 1, _, hw => by
    obtain ⟨v, kp1, nh1, rh1, tl1, rl1, I1, L1, I2, L2, h1, h2, hV2⟩ := (hs (xs (nI i + 1).toNatClampNeg) (xs (nI i + 2).toNatClampNeg) (xs (nI i + 3).toNatClampNeg) (xs (nI i + 4).toNatClampNeg) (xs (nI i + 5).toNatClampNeg)).2.2.2.2.2.2.2.2.2.2.2.2.2.2.2.2.2.2.2.2.2.2.2.2.2.2.2.2.2.2.2.2.2.2.2.2.2.2.2.2.2.2.2.2.2.2.2.2.2.1 kp nh rh tl rl I L hV
    obtain ⟨r, hz, hr⟩ := K kp1 nh1 rh1 tl1 rl1 I2 L2 hV2
    refine ⟨r, hz, bs_val hw (x' := (1541, [some (.retAddr 0), some (.ref 0), some (.ref 89), some (.int (nI i))], [], hp kp nh rh tl rl I L)) rfl ?_⟩
    exact lc_49 (pin_ok (by omega) (by omega)) (pin_ad (c := 1) (by omega) (by omega) rfl) (pin_ad (c := 2) (by omega) (by omega) rfl) (pin_ad (c := 3) (by omega) (by omega) rfl) (pin_ad (c := 4) (by omega) (by omega) rfl) (pin_ad (c := 5) (by omega) (by omega) rfl) h1 h2 hr
  | 2, _, hw => by
    obtain ⟨v, kp1, nh1, rh1, tl1, rl1, I1, L1, I2, L2, h1, h2, hV2⟩ := (hs (xs (nI i + 1).toNatClampNeg) (xs (nI i + 2).toNatClampNeg) (xs (nI i + 3).toNatClampNeg) (xs (nI i + 4).toNatClampNeg) (xs (nI i + 5).toNatClampNeg)).2.2.2.2.2.2.2.2.2.2.2.2.2.2.2.2.2.2.2.2.2.2.2.2.2.2.2.2.2.2.2.2.2.2.2.2.2.2.2.2.2.2.2.2.2.2.2.2.2.2.1 kp nh rh tl rl I L hV
    obtain ⟨r, hz, hr⟩ := K kp1 nh1 rh1 tl1 rl1 I2 L2 hV2
    refine ⟨r, hz, bs_val hw (x' := (1574, [some (.retAddr 0), some (.ref 0), some (.ref 89), some (.int (nI i))], [], hp kp nh rh tl rl I L)) rfl ?_⟩
    exact lc_50 (pin_ok (by omega) (by omega)) (pin_ad (c := 1) (by omega) (by omega) rfl) (pin_ad (c := 2) (by omega) (by omega) rfl) (pin_ad (c := 3) (by omega) (by omega) rfl) (pin_ad (c := 4) (by omega) (by omega) rfl) (pin_ad (c := 5) (by omega) (by omega) rfl) h1 h2 hr
  | 3, _, hw => by
    obtain ⟨v, kp1, nh1, rh1, tl1, rl1, I1, L1, I2, L2, h1, h2, hV2⟩ := (hs (xs (nI i + 1).toNatClampNeg) (xs (nI i + 2).toNatClampNeg) (xs (nI i + 3).toNatClampNeg) (xs (nI i + 4).toNatClampNeg) (xs (nI i + 5).toNatClampNeg)).2.2.2.2.2.2.2.2.2.2.2.2.2.2.2.2.2.2.2.2.2.2.2.2.2.2.2.2.2.2.2.2.2.2.2.2.2.2.2.2.2.2.2.2.2.2.2.2.2.2.2.1 kp nh rh tl rl I L hV
    obtain ⟨r, hz, hr⟩ := K kp1 nh1 rh1 tl1 rl1 I2 L2 hV2
    refine ⟨r, hz, bs_val hw (x' := (1587, [some (.retAddr 0), some (.ref 0), some (.ref 89), some (.int (nI i))], [], hp kp nh rh tl rl I L)) rfl ?_⟩
    exact lc_51 (pin_ok (by omega) (by omega)) (pin_ad (c := 1) (by omega) (by omega) rfl) (pin_ad (c := 2) (by omega) (by omega) rfl) (pin_ad (c := 3) (by omega) (by omega) rfl) (pin_ad (c := 4) (by omega) (by omega) rfl) (pin_ad (c := 5) (by omega) (by omega) rfl) h1 h2 hr
  | 4, _, hw => by
    obtain ⟨v, kp1, nh1, rh1, tl1, rl1, I1, L1, I2, L2, h1, h2, hV2⟩ := (hs (xs (nI i + 1).toNatClampNeg) (xs (nI i + 2).toNatClampNeg) (xs (nI i + 3).toNatClampNeg) (xs (nI i + 4).toNatClampNeg) (xs (nI i + 5).toNatClampNeg)).2.2.2.2.2.2.2.2.2.2.2.2.2.2.2.2.2.2.2.2.2.2.2.2.2.2.2.2.2.2.2.2.2.2.2.2.2.2.2.2.2.2.2.2.2.2.2.2.2.2.2.2.1 kp nh rh tl rl I L hV
    obtain ⟨r, hz, hr⟩ := K kp1 nh1 rh1 tl1 rl1 I2 L2 hV2
    refine ⟨r, hz, bs_val hw (x' := (1620, [some (.retAddr 0), some (.ref 0), some (.ref 89), some (.int (nI i))], [], hp kp nh rh tl rl I L)) rfl ?_⟩
    exact lc_52 (pin_ok (by omega) (by omega)) (pin_ad (c := 1) (by omega) (by omega) rfl) (pin_ad (c := 2) (by omega) (by omega) rfl) (pin_ad (c := 3) (by omega) (by omega) rfl) (pin_ad (c := 4) (by omega) (by omega) rfl) (pin_ad (c := 5) (by omega) (by omega) rfl) h1 h2 hr
  | 5, _, hw => by
    obtain ⟨v, kp1, nh1, rh1, tl1, rl1, I1, L1, I2, L2, h1, h2, hV2⟩ := (hs (xs (nI i + 1).toNatClampNeg) (xs (nI i + 2).toNatClampNeg) (xs (nI i + 3).toNatClampNeg) (xs (nI i + 4).toNatClampNeg) (xs (nI i + 5).toNatClampNeg)).2.2.2.2.2.2.2.2.2.2.2.2.2.2.2.2.2.2.2.2.2.2.2.2.2.2.2.2.2.2.2.2.2.2.2.2.2.2.2.2.2.2.2.2.2.2.2.2.2.2.2.2.2.1 kp nh rh tl rl I L hV
    obtain ⟨r, hz, hr⟩ := K kp1 nh1 rh1 tl1 rl1 I2 L2 hV2
    refine ⟨r, hz, bs_val hw (x' := (1643, [some (.retAddr 0), some (.ref 0), some (.ref 89), some (.int (nI i))], [], hp kp nh rh tl rl I L)) rfl ?_⟩
    exact lc_53 (pin_ok (by omega) (by omega)) (pin_ad (c := 1) (by omega) (by omega) rfl) (pin_ad (c := 2) (by omega) (by omega) rfl) (pin_ad (c := 3) (by omega) (by omega) rfl) (pin_ad (c := 4) (by omega) (by omega) rfl) (pin_ad (c := 5) (by omega) (by omega) rfl) h1 h2 hr
  | 6, _, hw => by
    obtain ⟨v, kp1, nh1, rh1, tl1, rl1, I1, L1, I2, L2, h1, h2, hV2⟩ := (hs (xs (nI i + 1).toNatClampNeg) (xs (nI i + 2).toNatClampNeg) (xs (nI i + 3).toNatClampNeg) (xs (nI i + 4).toNatClampNeg) (xs (nI i + 5).toNatClampNeg)).2.2.2.2.2.2.2.2.2.2.2.2.2.2.2.2.2.2.2.2.2.2.2.2.2.2.2.2.2.2.2.2.2.2.2.2.2.2.2.2.2.2.2.2.2.2.2.2.2.2.2.2.2.2.1 kp nh rh tl rl I L hV
    obtain ⟨r, hz, hr⟩ := K kp1 nh1 rh1 tl1 rl1 I2 L2 hV2
    refine ⟨r, hz, bs_val hw (x' := (1656, [some (.retAddr 0), some (.ref 0), some (.ref 89), some (.int (nI i))], [], hp kp nh rh tl rl I L)) rfl ?_⟩
    exact lc_54 (pin_ok (by omega) (by omega)) (pin_ad (c := 1) (by omega) (by omega) rfl) (pin_ad (c := 2) (by omega) (by omega) rfl) (pin_ad (c := 3) (by omega) (by omega) rfl) (pin_ad (c := 4) (by omega) (by omega) rfl) (pin_ad (c := 5) (by omega) (by omega) rfl) h1 h2 hr
  | 7, _, hw => by
    obtain ⟨v, kp1, nh1, rh1, tl1, rl1, I1, L1, I2, L2, h1, h2, hV2⟩ := (hs (xs (nI i + 1).toNatClampNeg) (xs (nI i + 2).toNatClampNeg) (xs (nI i + 3).toNatClampNeg) (xs (nI i + 4).toNatClampNeg) (xs (nI i + 5).toNatClampNeg)).2.2.2.2.2.2.2.2.2.2.2.2.2.2.2.2.2.2.2.2.2.2.2.2.2.2.2.2.2.2.2.2.2.2.2.2.2.2.2.2.2.2.2.2.2.2.2.2.2.2.2.2.2.2.2.1 kp nh rh tl rl I L hV
    obtain ⟨r, hz, hr⟩ := K kp1 nh1 rh1 tl1 rl1 I2 L2 hV2
    refine ⟨r, hz, bs_val hw (x' := (1669, [some (.retAddr 0), some (.ref 0), some (.ref 89), some (.int (nI i))], [], hp kp nh rh tl rl I L)) rfl ?_⟩
    exact lc_55 (pin_ok (by omega) (by omega)) (pin_ad (c := 1) (by omega) (by omega) rfl) (pin_ad (c := 2) (by omega) (by omega) rfl) (pin_ad (c := 3) (by omega) (by omega) rfl) (pin_ad (c := 4) (by omega) (by omega) rfl) (pin_ad (c := 5) (by omega) (by omega) rfl) h1 h2 hr
  | n + 8, h, _ => absurd h (by omega)
set_option maxHeartbeats 2000000 in
set_option maxRecDepth 20000 in
theorem ldisp_56 {Ls : Nat} {xs : Nat → Int32} {V : pInv} (hs : AllSteps Ls xs V) (hL : Ls ≤ 384) {i : Nat} (hi : i + 6 ≤ Ls) {kp nh rh : Option Nat} {tl : List (Nat × Nat)} {rl : List (List (Option Nat))} {I : FI} {L : FL} (hV : V kp nh rh tl rl I L) {w : Int32} {z : pR → Prop} (K : ∀ kp nh rh tl rl I L, V kp nh rh tl rl I L → ∃ r, z r ∧ Bs cd_law (LF Ls xs) (2026, [some (.retAddr 0), some (.ref 0), some (.ref 89), some (.int (nI i))], [], hp kp nh rh tl rl I L) r) : ∀ k, k < 8 → w = nI (56 + k) → ∃ r, z r ∧ Bs cd_law (LF Ls xs) (33, [some (.retAddr 0), some (.ref 0), some (.ref 89), some (.int (nI i))], [.int w], hp kp nh rh tl rl I L) r
  | 0, _, hw => by
    obtain ⟨v, kp1, nh1, rh1, tl1, rl1, I1, L1, I2, L2, h1, h2, hV2⟩ := (hs (xs (nI i + 1).toNatClampNeg) (xs (nI i + 2).toNatClampNeg) (xs (nI i + 3).toNatClampNeg) (xs (nI i + 4).toNatClampNeg) (xs (nI i + 5).toNatClampNeg)).2.2.2.2.2.2.2.2.2.2.2.2.2.2.2.2.2.2.2.2.2.2.2.2.2.2.2.2.2.2.2.2.2.2.2.2.2.2.2.2.2.2.2.2.2.2.2.2.2.2.2.2.2.2.2.2.1 kp nh rh tl rl I L hV
    obtain ⟨r, hz, hr⟩ := K kp1 nh1 rh1 tl1 rl1 I2 L2 hV2
    refine ⟨r, hz, bs_val hw (x' := (1702, [some (.retAddr 0), some (.ref 0), some (.ref 89), some (.int (nI i))], [], hp kp nh rh tl rl I L)) rfl ?_⟩
    exact lc_56 (pin_ok (by omega) (by omega)) (pin_ad (c := 1) (by omega) (by omega) rfl) (pin_ad (c := 2) (by omega) (by omega) rfl) (pin_ad (c := 3) (by omega) (by omega) rfl) (pin_ad (c := 4) (by omega) (by omega) rfl) (pin_ad (c := 5) (by omega) (by omega) rfl) h1 h2 hr
  | 1, _, hw => by
    obtain ⟨v, kp1, nh1, rh1, tl1, rl1, I1, L1, I2, L2, h1, h2, hV2⟩ := (hs (xs (nI i + 1).toNatClampNeg) (xs (nI i + 2).toNatClampNeg) (xs (nI i + 3).toNatClampNeg) (xs (nI i + 4).toNatClampNeg) (xs (nI i + 5).toNatClampNeg)).2.2.2.2.2.2.2.2.2.2.2.2.2.2.2.2.2.2.2.2.2.2.2.2.2.2.2.2.2.2.2.2.2.2.2.2.2.2.2.2.2.2.2.2.2.2.2.2.2.2.2.2.2.2.2.2.2.1 kp nh rh tl rl I L hV
    obtain ⟨r, hz, hr⟩ := K kp1 nh1 rh1 tl1 rl1 I2 L2 hV2
    refine ⟨r, hz, bs_val hw (x' := (1745, [some (.retAddr 0), some (.ref 0), some (.ref 89), some (.int (nI i))], [], hp kp nh rh tl rl I L)) rfl ?_⟩
    exact lc_57 (pin_ok (by omega) (by omega)) (pin_ad (c := 1) (by omega) (by omega) rfl) (pin_ad (c := 2) (by omega) (by omega) rfl) (pin_ad (c := 3) (by omega) (by omega) rfl) (pin_ad (c := 4) (by omega) (by omega) rfl) (pin_ad (c := 5) (by omega) (by omega) rfl) h1 h2 hr
  | 2, _, hw => by
    obtain ⟨v, kp1, nh1, rh1, tl1, rl1, I1, L1, I2, L2, h1, h2, hV2⟩ := (hs (xs (nI i + 1).toNatClampNeg) (xs (nI i + 2).toNatClampNeg) (xs (nI i + 3).toNatClampNeg) (xs (nI i + 4).toNatClampNeg) (xs (nI i + 5).toNatClampNeg)).2.2.2.2.2.2.2.2.2.2.2.2.2.2.2.2.2.2.2.2.2.2.2.2.2.2.2.2.2.2.2.2.2.2.2.2.2.2.2.2.2.2.2.2.2.2.2.2.2.2.2.2.2.2.2.2.2.2.1 kp nh rh tl rl I L hV
    obtain ⟨r, hz, hr⟩ := K kp1 nh1 rh1 tl1 rl1 I2 L2 hV2
    refine ⟨r, hz, bs_val hw (x' := (1778, [some (.retAddr 0), some (.ref 0), some (.ref 89), some (.int (nI i))], [], hp kp nh rh tl rl I L)) rfl ?_⟩
    exact lc_58 (pin_ok (by omega) (by omega)) (pin_ad (c := 1) (by omega) (by omega) rfl) (pin_ad (c := 2) (by omega) (by omega) rfl) (pin_ad (c := 3) (by omega) (by omega) rfl) (pin_ad (c := 4) (by omega) (by omega) rfl) (pin_ad (c := 5) (by omega) (by omega) rfl) h1 h2 hr
  | 3, _, hw => by
    obtain ⟨v, kp1, nh1, rh1, tl1, rl1, I1, L1, I2, L2, h1, h2, hV2⟩ := (hs (xs (nI i + 1).toNatClampNeg) (xs (nI i + 2).toNatClampNeg) (xs (nI i + 3).toNatClampNeg) (xs (nI i + 4).toNatClampNeg) (xs (nI i + 5).toNatClampNeg)).2.2.2.2.2.2.2.2.2.2.2.2.2.2.2.2.2.2.2.2.2.2.2.2.2.2.2.2.2.2.2.2.2.2.2.2.2.2.2.2.2.2.2.2.2.2.2.2.2.2.2.2.2.2.2.2.2.2.2.1 kp nh rh tl rl I L hV
    obtain ⟨r, hz, hr⟩ := K kp1 nh1 rh1 tl1 rl1 I2 L2 hV2
    refine ⟨r, hz, bs_val hw (x' := (1801, [some (.retAddr 0), some (.ref 0), some (.ref 89), some (.int (nI i))], [], hp kp nh rh tl rl I L)) rfl ?_⟩
    exact lc_59 (pin_ok (by omega) (by omega)) (pin_ad (c := 1) (by omega) (by omega) rfl) (pin_ad (c := 2) (by omega) (by omega) rfl) (pin_ad (c := 3) (by omega) (by omega) rfl) (pin_ad (c := 4) (by omega) (by omega) rfl) (pin_ad (c := 5) (by omega) (by omega) rfl) h1 h2 hr
  | 4, _, hw => by
    obtain ⟨v, kp1, nh1, rh1, tl1, rl1, I1, L1, I2, L2, h1, h2, hV2⟩ := (hs (xs (nI i + 1).toNatClampNeg) (xs (nI i + 2).toNatClampNeg) (xs (nI i + 3).toNatClampNeg) (xs (nI i + 4).toNatClampNeg) (xs (nI i + 5).toNatClampNeg)).2.2.2.2.2.2.2.2.2.2.2.2.2.2.2.2.2.2.2.2.2.2.2.2.2.2.2.2.2.2.2.2.2.2.2.2.2.2.2.2.2.2.2.2.2.2.2.2.2.2.2.2.2.2.2.2.2.2.2.2.1 kp nh rh tl rl I L hV
    obtain ⟨r, hz, hr⟩ := K kp1 nh1 rh1 tl1 rl1 I2 L2 hV2
    refine ⟨r, hz, bs_val hw (x' := (1824, [some (.retAddr 0), some (.ref 0), some (.ref 89), some (.int (nI i))], [], hp kp nh rh tl rl I L)) rfl ?_⟩
    exact lc_60 (pin_ok (by omega) (by omega)) (pin_ad (c := 1) (by omega) (by omega) rfl) (pin_ad (c := 2) (by omega) (by omega) rfl) (pin_ad (c := 3) (by omega) (by omega) rfl) (pin_ad (c := 4) (by omega) (by omega) rfl) (pin_ad (c := 5) (by omega) (by omega) rfl) h1 h2 hr
  | 5, _, hw => by
    obtain ⟨v, kp1, nh1, rh1, tl1, rl1, I1, L1, I2, L2, h1, h2, hV2⟩ := (hs (xs (nI i + 1).toNatClampNeg) (xs (nI i + 2).toNatClampNeg) (xs (nI i + 3).toNatClampNeg) (xs (nI i + 4).toNatClampNeg) (xs (nI i + 5).toNatClampNeg)).2.2.2.2.2.2.2.2.2.2.2.2.2.2.2.2.2.2.2.2.2.2.2.2.2.2.2.2.2.2.2.2.2.2.2.2.2.2.2.2.2.2.2.2.2.2.2.2.2.2.2.2.2.2.2.2.2.2.2.2.2.1 kp nh rh tl rl I L hV
    obtain ⟨r, hz, hr⟩ := K kp1 nh1 rh1 tl1 rl1 I2 L2 hV2
    refine ⟨r, hz, bs_val hw (x' := (1847, [some (.retAddr 0), some (.ref 0), some (.ref 89), some (.int (nI i))], [], hp kp nh rh tl rl I L)) rfl ?_⟩
    exact lc_61 (pin_ok (by omega) (by omega)) (pin_ad (c := 1) (by omega) (by omega) rfl) (pin_ad (c := 2) (by omega) (by omega) rfl) (pin_ad (c := 3) (by omega) (by omega) rfl) (pin_ad (c := 4) (by omega) (by omega) rfl) (pin_ad (c := 5) (by omega) (by omega) rfl) h1 h2 hr
  | 6, _, hw => by
    obtain ⟨v, kp1, nh1, rh1, tl1, rl1, I1, L1, I2, L2, h1, h2, hV2⟩ := (hs (xs (nI i + 1).toNatClampNeg) (xs (nI i + 2).toNatClampNeg) (xs (nI i + 3).toNatClampNeg) (xs (nI i + 4).toNatClampNeg) (xs (nI i + 5).toNatClampNeg)).2.2.2.2.2.2.2.2.2.2.2.2.2.2.2.2.2.2.2.2.2.2.2.2.2.2.2.2.2.2.2.2.2.2.2.2.2.2.2.2.2.2.2.2.2.2.2.2.2.2.2.2.2.2.2.2.2.2.2.2.2.2.1 kp nh rh tl rl I L hV
    obtain ⟨r, hz, hr⟩ := K kp1 nh1 rh1 tl1 rl1 I2 L2 hV2
    refine ⟨r, hz, bs_val hw (x' := (1890, [some (.retAddr 0), some (.ref 0), some (.ref 89), some (.int (nI i))], [], hp kp nh rh tl rl I L)) rfl ?_⟩
    exact lc_62 (pin_ok (by omega) (by omega)) (pin_ad (c := 1) (by omega) (by omega) rfl) (pin_ad (c := 2) (by omega) (by omega) rfl) (pin_ad (c := 3) (by omega) (by omega) rfl) (pin_ad (c := 4) (by omega) (by omega) rfl) (pin_ad (c := 5) (by omega) (by omega) rfl) h1 h2 hr
  | 7, _, hw => by
    obtain ⟨v, kp1, nh1, rh1, tl1, rl1, I1, L1, I2, L2, h1, h2, hV2⟩ := (hs (xs (nI i + 1).toNatClampNeg) (xs (nI i + 2).toNatClampNeg) (xs (nI i + 3).toNatClampNeg) (xs (nI i + 4).toNatClampNeg) (xs (nI i + 5).toNatClampNeg)).2.2.2.2.2.2.2.2.2.2.2.2.2.2.2.2.2.2.2.2.2.2.2.2.2.2.2.2.2.2.2.2.2.2.2.2.2.2.2.2.2.2.2.2.2.2.2.2.2.2.2.2.2.2.2.2.2.2.2.2.2.2.2 kp nh rh tl rl I L hV
    obtain ⟨r, hz, hr⟩ := K kp1 nh1 rh1 tl1 rl1 I2 L2 hV2
    refine ⟨r, hz, bs_val hw (x' := (1963, [some (.retAddr 0), some (.ref 0), some (.ref 89), some (.int (nI i))], [], hp kp nh rh tl rl I L)) rfl ?_⟩
    exact lc_63 (pin_ok (by omega) (by omega)) (pin_ad (c := 1) (by omega) (by omega) rfl) (pin_ad (c := 2) (by omega) (by omega) rfl) (pin_ad (c := 3) (by omega) (by omega) rfl) (pin_ad (c := 4) (by omega) (by omega) rfl) (pin_ad (c := 5) (by omega) (by omega) rfl) h1 h2 hr
  | n + 8, h, _ => absurd h (by omega)
set_option maxHeartbeats 2000000 in
set_option maxRecDepth 20000 in
theorem lloop {Ls : Nat} {xs : Nat → Int32} {V : pInv} (hs : AllSteps Ls xs V) (hL : Ls ≤ 384) {z : pR → Prop} (hz : ∀ kp nh rh tl rl I L, V kp nh rh tl rl I L → z (some (.int 1), hp kp nh rh tl rl I L)) : ∀ (m i : Nat), Ls < i + m → i ≤ Ls + 6 → ∀ kp nh rh tl rl I L, V kp nh rh tl rl I L → ∃ r, z r ∧ Bs cd_law (LF Ls xs) (18, [some (.retAddr 0), some (.ref 0), some (.ref 89), some (.int (nI i))], [], hp kp nh rh tl rl I L) r
  | 0, i, hm, hi, kp, nh, rh, tl, rl, I, L, hV => by
    refine ⟨_, hz _ _ _ _ _ _ _ hV, ?_⟩
    refine bs_st 5 (x' := (24, [some (.retAddr 0), some (.ref 0), some (.ref 89), some (.int (nI i))], [.int (Int32.ofNat Ls - 6), .int (nI i)], hp kp nh rh tl rl I L)) rfl ?_
    refine bs_ift (t := 2032) (e := 27) (lo := [some (.retAddr 0), some (.ref 0), some (.ref 89), some (.int (nI i))]) (st := []) (h := hp kp nh rh tl rl I L) rfl (law_exit (by omega) hL (by omega)) ?_
    refine bs_st 1 (x' := (2033, [some (.retAddr 0), some (.ref 0), some (.ref 89), some (.int (nI i))], [.int 1], hp kp nh rh tl rl I L)) rfl ?_
    exact bs_ret rfl
  | m + 1, i, hm, hi, kp, nh, rh, tl, rl, I, L, hV => by
    by_cases h6 : i + 6 ≤ Ls
    · have ih := lloop hs hL hz m (i + 6) (by omega) (by omega)
      have hK : ∀ kp nh rh tl rl I L, V kp nh rh tl rl I L → ∃ r, z r ∧ Bs cd_law (LF Ls xs) (2026, [some (.retAddr 0), some (.ref 0), some (.ref 89), some (.int (nI i))], [], hp kp nh rh tl rl I L) r := by
        intro kp nh rh tl rl I L hV
        obtain ⟨r, h1, h2⟩ := ih kp nh rh tl rl I L hV
        refine ⟨r, h1, ?_⟩
        refine bs_st 2 (x' := (18, [some (.retAddr 0), some (.ref 0), some (.ref 89), some (.int (nI i + 6))], [], hp kp nh rh tl rl I L)) rfl ?_
        have e : nI i + 6 = nI (i + 6) := nI_add i 6
        rw [e]
        exact h2
      obtain ⟨k, hk, hw⟩ := pk_andE (xs (nI i).toNatClampNeg) (m := 63) 6 (by decide)
      have key : ∃ r, z r ∧ Bs cd_law (LF Ls xs) (33, [some (.retAddr 0), some (.ref 0), some (.ref 89), some (.int (nI i))], [.int (xs (nI i).toNatClampNeg &&& 63)], hp kp nh rh tl rl I L) r := by
        rcases (show k < 8 ∨ (8 ≤ k ∧ k < 16) ∨ (16 ≤ k ∧ k < 24) ∨ (24 ≤ k ∧ k < 32) ∨ (32 ≤ k ∧ k < 40) ∨ (40 ≤ k ∧ k < 48) ∨ (48 ≤ k ∧ k < 56) ∨ (56 ≤ k ∧ k < 64) by omega) with h | h | h | h | h | h | h | h
        · exact ldisp_0 hs hL h6 hV hK (k - 0) (by omega) (by rw [hw]; congr 1; omega)
        · exact ldisp_8 hs hL h6 hV hK (k - 8) (by omega) (by rw [hw]; congr 1; omega)
        · exact ldisp_16 hs hL h6 hV hK (k - 16) (by omega) (by rw [hw]; congr 1; omega)
        · exact ldisp_24 hs hL h6 hV hK (k - 24) (by omega) (by rw [hw]; congr 1; omega)
        · exact ldisp_32 hs hL h6 hV hK (k - 32) (by omega) (by rw [hw]; congr 1; omega)
        · exact ldisp_40 hs hL h6 hV hK (k - 40) (by omega) (by rw [hw]; congr 1; omega)
        · exact ldisp_48 hs hL h6 hV hK (k - 48) (by omega) (by rw [hw]; congr 1; omega)
        · exact ldisp_56 hs hL h6 hV hK (k - 56) (by omega) (by rw [hw]; congr 1; omega)
      obtain ⟨r, h1, h2⟩ := key
      refine ⟨r, h1, ?_⟩
      refine bs_st 5 (x' := (24, [some (.retAddr 0), some (.ref 0), some (.ref 89), some (.int (nI i))], [.int (Int32.ofNat Ls - 6), .int (nI i)], hp kp nh rh tl rl I L)) rfl ?_
      refine bs_ife (t := 2032) (e := 27) (lo := [some (.retAddr 0), some (.ref 0), some (.ref 89), some (.int (nI i))]) (st := []) (h := hp kp nh rh tl rl I L) rfl (law_stay h6 hL) ?_
      refine bs_st 2 (x' := (29, [some (.retAddr 0), some (.ref 0), some (.ref 89), some (.int (nI i))], [.int (nI i), .retAddr 0], hp kp nh rh tl rl I L)) rfl ?_
      refine bs_gt (x' := (30, [some (.retAddr 0), some (.ref 0), some (.ref 89), some (.int (nI i))], [.int (xs (nI i).toNatClampNeg)], hp kp nh rh tl rl I L)) rfl (pin_ok (by omega) (by omega)) ?_
      refine bs_st 2 (x' := (33, [some (.retAddr 0), some (.ref 0), some (.ref 89), some (.int (nI i))], [.int (xs (nI i).toNatClampNeg &&& 63)], hp kp nh rh tl rl I L)) rfl ?_
      exact h2
    · refine ⟨_, hz _ _ _ _ _ _ _ hV, ?_⟩
      refine bs_st 5 (x' := (24, [some (.retAddr 0), some (.ref 0), some (.ref 89), some (.int (nI i))], [.int (Int32.ofNat Ls - 6), .int (nI i)], hp kp nh rh tl rl I L)) rfl ?_
      refine bs_ift (t := 2032) (e := 27) (lo := [some (.retAddr 0), some (.ref 0), some (.ref 89), some (.int (nI i))]) (st := []) (h := hp kp nh rh tl rl I L) rfl (law_exit h6 hL (by omega)) ?_
      refine bs_st 1 (x' := (2033, [some (.retAddr 0), some (.ref 0), some (.ref 89), some (.int (nI i))], [.int 1], hp kp nh rh tl rl I L)) rfl ?_
      exact bs_ret rfl
set_option maxHeartbeats 4000000 in
set_option maxRecDepth 20000 in
/-- PureLaw out of an invariant: it holds behind the constructors, and every pair of calls keeps it -/
theorem pure_of (V : pInv) (hi : ∀ r1 r2 : FI × FL, f_p112_0 (z2 (fun _ _ => 0) 0 0) (z2 (fun _ _ => 0) 0 0) = some r1 → f_p200_89 (z2 r1.1 89 0) (z2 r1.2 89 0) = some r2 → V none none none [] [] r2.1 r2.2) (hs : ∀ Ls xs, AllSteps Ls xs V) (hsz : ∀ kp nh rh tl rl I L, V kp nh rh tl rl I L → (hp kp nh rh tl rl I L).1.length ≤ 600000 ∧ psz (hp kp nh rh tl rl I L) ≤ 7302250) : PureLaw := by
  intro Ls xs hL
  obtain ⟨r1, h1⟩ : ∃ r, f_p112_0 (z2 (fun _ _ => 0) 0 0) (z2 (fun _ _ => 0) 0 0) = some r := ⟨_, rfl⟩
  obtain ⟨r2, h2⟩ : ∃ r, f_p200_89 (z2 r1.1 89 0) (z2 r1.2 89 0) = some r := ⟨_, rfl⟩
  obtain ⟨r, ⟨h', rfl, g1, g2⟩, n, hn⟩ := lloop (Ls := Ls) (xs := xs) (V := V) (hs Ls xs) hL (z := fun r => ∃ h', r = (some (.int 1), h') ∧ h'.1.length ≤ 600000 ∧ psz h' ≤ 7302250) (fun kp nh rh tl rl I L hV => ⟨_, rfl, hsz _ _ _ _ _ _ _ hV⟩) (Ls + 1) 0 (by omega) (by omega) none none none [] [] r2.1 r2.2 (hi r1 r2 h1 h2)
  have hB : Bs cd_law (LF Ls xs) (0, pen 4 [.retAddr 0], [], ph0) (some (.int 1), h') := by
    refine bs_eq (x' := (0, [some (.retAddr 0), none, none, none], [], hq [] [] (fun _ _ => 0) (fun _ _ => 0))) rfl ?_
    refine bs_new (T := []) (t := []) (q := (17, 10)) rfl rfl 10 ?_
    refine bs_eq (x' := (3, [some (.retAddr 0), none, none, none], [.ref 0], hq [(17, 10)] [[none, none, none, none, none, none, none, none, none, none]] (z2 (fun _ _ => 0) 0 0) (z2 (fun _ _ => 0) 0 0))) rfl ?_
    refine bs_st 1 (x' := (4, [some (.retAddr 0), none, none, none], [.ref 0, .ref 0], hq [(17, 10)] [[none, none, none, none, none, none, none, none, none, none]] (z2 (fun _ _ => 0) 0 0) (z2 (fun _ _ => 0) 0 0))) rfl ?_
    refine bs_call (o := pEN Ls xs 1000 112 [.ref 0] (hq [(17, 10)] [[none, none, none, none, none, none, none, none, none, none]] (z2 (fun _ _ => 0) 0 0) (z2 (fun _ _ => 0) 0 0))) (w := none) (h' := hq [(17, 10), (16, 2), (2, 500), (9, 15), (0, 4), (0, 4), (0, 4), (0, 16), (0, 5), (0, 5), (0, 12), (6, 3), (0, 30), (0, 30), (13, 7), (9, 15), (0, 4), (0, 4), (0, 4), (0, 16), (0, 5), (0, 5), (0, 12), (2, 501), (0, 501), (0, 501), (12, 13), (0, 4), (0, 30), (0, 30), (0, 30), (0, 120), (0, 4), (8, 6), (2, 1440), (14, 11), (0, 10), (7, 3), (0, 4), (0, 11), (0, 13), (0, 13), (0, 13), (4, 3), (5, 4), (10, 3), (9, 15), (0, 4), (0, 4), (0, 4), (0, 16), (0, 5), (0, 5), (0, 12), (6, 3), (0, 30), (0, 30), (10, 3), (9, 15), (0, 4), (0, 4), (0, 4), (0, 16), (0, 5), (0, 5), (0, 12), (6, 3), (0, 30), (0, 30), (10, 3), (9, 15), (0, 4), (0, 4), (0, 4), (0, 16), (0, 5), (0, 5), (0, 12), (6, 3), (0, 30), (0, 30), (15, 4), (1, 60), (15, 4), (1, 60), (15, 4), (1, 60), (15, 4), (1, 60)] [[some 1, some 3, some 11, some 14, some 26, some 33, some 35, some 43, some 44, none], [some 2, none], [], [none, none, none, none, none, none, none, none, some 4, some 5, some 6, some 7, some 8, some 9, some 10], [], [], [], [], [], [], [], [some 12, some 13, none], [], [], [some 15, none, none, some 23, some 24, some 25, none], [none, none, none, none, none, none, none, none, some 16, some 17, some 18, some 19, some 20, some 21, some 22], [], [], [], [], [], [], [], [], [], [], [some 27, some 28, some 29, some 30, some 31, some 32, none, none, none, none, none, none, none], [], [], [], [], [], [], [some 34, none, none, none, none, none], [], [some 36, some 37, some 39, some 40, some 41, some 42, none, none, none, none, none], [], [some 38, none, none], [], [], [], [], [], [some 45, some 57, some 69], [some 81, some 83, some 85, some 87], [some 46, some 54, none], [none, none, none, none, none, none, none, none, some 47, some 48, some 49, some 50, some 51, some 52, some 53], [], [], [], [], [], [], [], [some 55, some 56, none], [], [], [some 58, some 66, none], [none, none, none, none, none, none, none, none, some 59, some 60, some 61, some 62, some 63, some 64, some 65], [], [], [], [], [], [], [], [some 67, some 68, none], [], [], [some 70, some 78, none], [none, none, none, none, none, none, none, none, some 71, some 72, some 73, some 74, some 75, some 76, some 77], [], [], [], [], [], [], [], [some 79, some 80, none], [], [], [some 82, none, none, none], [], [some 84, none, none, none], [], [some 86, none, none, none], [], [some 88, none, none, none], []] r1.1 r1.2) (pc := 7) (lo := [some (.retAddr 0), none, none, none]) (rest := [.ref 0]) rfl (t_p112_0 Ls xs 997 _ _ r1 h1) ?_
    refine bs_st 1 (x' := (8, [some (.retAddr 0), some (.ref 0), none, none], [], hq [(17, 10), (16, 2), (2, 500), (9, 15), (0, 4), (0, 4), (0, 4), (0, 16), (0, 5), (0, 5), (0, 12), (6, 3), (0, 30), (0, 30), (13, 7), (9, 15), (0, 4), (0, 4), (0, 4), (0, 16), (0, 5), (0, 5), (0, 12), (2, 501), (0, 501), (0, 501), (12, 13), (0, 4), (0, 30), (0, 30), (0, 30), (0, 120), (0, 4), (8, 6), (2, 1440), (14, 11), (0, 10), (7, 3), (0, 4), (0, 11), (0, 13), (0, 13), (0, 13), (4, 3), (5, 4), (10, 3), (9, 15), (0, 4), (0, 4), (0, 4), (0, 16), (0, 5), (0, 5), (0, 12), (6, 3), (0, 30), (0, 30), (10, 3), (9, 15), (0, 4), (0, 4), (0, 4), (0, 16), (0, 5), (0, 5), (0, 12), (6, 3), (0, 30), (0, 30), (10, 3), (9, 15), (0, 4), (0, 4), (0, 4), (0, 16), (0, 5), (0, 5), (0, 12), (6, 3), (0, 30), (0, 30), (15, 4), (1, 60), (15, 4), (1, 60), (15, 4), (1, 60), (15, 4), (1, 60)] [[some 1, some 3, some 11, some 14, some 26, some 33, some 35, some 43, some 44, none], [some 2, none], [], [none, none, none, none, none, none, none, none, some 4, some 5, some 6, some 7, some 8, some 9, some 10], [], [], [], [], [], [], [], [some 12, some 13, none], [], [], [some 15, none, none, some 23, some 24, some 25, none], [none, none, none, none, none, none, none, none, some 16, some 17, some 18, some 19, some 20, some 21, some 22], [], [], [], [], [], [], [], [], [], [], [some 27, some 28, some 29, some 30, some 31, some 32, none, none, none, none, none, none, none], [], [], [], [], [], [], [some 34, none, none, none, none, none], [], [some 36, some 37, some 39, some 40, some 41, some 42, none, none, none, none, none], [], [some 38, none, none], [], [], [], [], [], [some 45, some 57, some 69], [some 81, some 83, some 85, some 87], [some 46, some 54, none], [none, none, none, none, none, none, none, none, some 47, some 48, some 49, some 50, some 51, some 52, some 53], [], [], [], [], [], [], [], [some 55, some 56, none], [], [], [some 58, some 66, none], [none, none, none, none, none, none, none, none, some 59, some 60, some 61, some 62, some 63, some 64, some 65], [], [], [], [], [], [], [], [some 67, some 68, none], [], [], [some 70, some 78, none], [none, none, none, none, none, none, none, none, some 71, some 72, some 73, some 74, some 75, some 76, some 77], [], [], [], [], [], [], [], [some 79, some 80, none], [], [], [some 82, none, none, none], [], [some 84, none, none, none], [], [some 86, none, none, none], [], [some 88, none, none, none], []] r1.1 r1.2)) rfl ?_
    refine bs_new rfl rfl 45 ?_
    refine bs_eq (x' := (11, [some (.retAddr 0), some (.ref 0), none, none], [.ref 89], hq [(17, 10), (16, 2), (2, 500), (9, 15), (0, 4), (0, 4), (0, 4), (0, 16), (0, 5), (0, 5), (0, 12), (6, 3), (0, 30), (0, 30), (13, 7), (9, 15), (0, 4), (0, 4), (0, 4), (0, 16), (0, 5), (0, 5), (0, 12), (2, 501), (0, 501), (0, 501), (12, 13), (0, 4), (0, 30), (0, 30), (0, 30), (0, 120), (0, 4), (8, 6), (2, 1440), (14, 11), (0, 10), (7, 3), (0, 4), (0, 11), (0, 13), (0, 13), (0, 13), (4, 3), (5, 4), (10, 3), (9, 15), (0, 4), (0, 4), (0, 4), (0, 16), (0, 5), (0, 5), (0, 12), (6, 3), (0, 30), (0, 30), (10, 3), (9, 15), (0, 4), (0, 4), (0, 4), (0, 16), (0, 5), (0, 5), (0, 12), (6, 3), (0, 30), (0, 30), (10, 3), (9, 15), (0, 4), (0, 4), (0, 4), (0, 16), (0, 5), (0, 5), (0, 12), (6, 3), (0, 30), (0, 30), (15, 4), (1, 60), (15, 4), (1, 60), (15, 4), (1, 60), (15, 4), (1, 60), (18, 45)] [[some 1, some 3, some 11, some 14, some 26, some 33, some 35, some 43, some 44, none], [some 2, none], [], [none, none, none, none, none, none, none, none, some 4, some 5, some 6, some 7, some 8, some 9, some 10], [], [], [], [], [], [], [], [some 12, some 13, none], [], [], [some 15, none, none, some 23, some 24, some 25, none], [none, none, none, none, none, none, none, none, some 16, some 17, some 18, some 19, some 20, some 21, some 22], [], [], [], [], [], [], [], [], [], [], [some 27, some 28, some 29, some 30, some 31, some 32, none, none, none, none, none, none, none], [], [], [], [], [], [], [some 34, none, none, none, none, none], [], [some 36, some 37, some 39, some 40, some 41, some 42, none, none, none, none, none], [], [some 38, none, none], [], [], [], [], [], [some 45, some 57, some 69], [some 81, some 83, some 85, some 87], [some 46, some 54, none], [none, none, none, none, none, none, none, none, some 47, some 48, some 49, some 50, some 51, some 52, some 53], [], [], [], [], [], [], [], [some 55, some 56, none], [], [], [some 58, some 66, none], [none, none, none, none, none, none, none, none, some 59, some 60, some 61, some 62, some 63, some 64, some 65], [], [], [], [], [], [], [], [some 67, some 68, none], [], [], [some 70, some 78, none], [none, none, none, none, none, none, none, none, some 71, some 72, some 73, some 74, some 75, some 76, some 77], [], [], [], [], [], [], [], [some 79, some 80, none], [], [], [some 82, none, none, none], [], [some 84, none, none, none], [], [some 86, none, none, none], [], [some 88, none, none, none], [], [none, none, none, none, none, none, none, none, none, none, none, none, none, none, none, none, none, none, none, none, none, none, none, none, none, none, none, none, none, none, none, none, none, none, none, none, none, none, none, none, none, none, none, none, none]] (z2 r1.1 89 0) (z2 r1.2 89 0))) rfl ?_
    refine bs_st 1 (x' := (12, [some (.retAddr 0), some (.ref 0), none, none], [.ref 89, .ref 89], hq [(17, 10), (16, 2), (2, 500), (9, 15), (0, 4), (0, 4), (0, 4), (0, 16), (0, 5), (0, 5), (0, 12), (6, 3), (0, 30), (0, 30), (13, 7), (9, 15), (0, 4), (0, 4), (0, 4), (0, 16), (0, 5), (0, 5), (0, 12), (2, 501), (0, 501), (0, 501), (12, 13), (0, 4), (0, 30), (0, 30), (0, 30), (0, 120), (0, 4), (8, 6), (2, 1440), (14, 11), (0, 10), (7, 3), (0, 4), (0, 11), (0, 13), (0, 13), (0, 13), (4, 3), (5, 4), (10, 3), (9, 15), (0, 4), (0, 4), (0, 4), (0, 16), (0, 5), (0, 5), (0, 12), (6, 3), (0, 30), (0, 30), (10, 3), (9, 15), (0, 4), (0, 4), (0, 4), (0, 16), (0, 5), (0, 5), (0, 12), (6, 3), (0, 30), (0, 30), (10, 3), (9, 15), (0, 4), (0, 4), (0, 4), (0, 16), (0, 5), (0, 5), (0, 12), (6, 3), (0, 30), (0, 30), (15, 4), (1, 60), (15, 4), (1, 60), (15, 4), (1, 60), (15, 4), (1, 60), (18, 45)] [[some 1, some 3, some 11, some 14, some 26, some 33, some 35, some 43, some 44, none], [some 2, none], [], [none, none, none, none, none, none, none, none, some 4, some 5, some 6, some 7, some 8, some 9, some 10], [], [], [], [], [], [], [], [some 12, some 13, none], [], [], [some 15, none, none, some 23, some 24, some 25, none], [none, none, none, none, none, none, none, none, some 16, some 17, some 18, some 19, some 20, some 21, some 22], [], [], [], [], [], [], [], [], [], [], [some 27, some 28, some 29, some 30, some 31, some 32, none, none, none, none, none, none, none], [], [], [], [], [], [], [some 34, none, none, none, none, none], [], [some 36, some 37, some 39, some 40, some 41, some 42, none, none, none, none, none], [], [some 38, none, none], [], [], [], [], [], [some 45, some 57, some 69], [some 81, some 83, some 85, some 87], [some 46, some 54, none], [none, none, none, none, none, none, none, none, some 47, some 48, some 49, some 50, some 51, some 52, some 53], [], [], [], [], [], [], [], [some 55, some 56, none], [], [], [some 58, some 66, none], [none, none, none, none, none, none, none, none, some 59, some 60, some 61, some 62, some 63, some 64, some 65], [], [], [], [], [], [], [], [some 67, some 68, none], [], [], [some 70, some 78, none], [none, none, none, none, none, none, none, none, some 71, some 72, some 73, some 74, some 75, some 76, some 77], [], [], [], [], [], [], [], [some 79, some 80, none], [], [], [some 82, none, none, none], [], [some 84, none, none, none], [], [some 86, none, none, none], [], [some 88, none, none, none], [], [none, none, none, none, none, none, none, none, none, none, none, none, none, none, none, none, none, none, none, none, none, none, none, none, none, none, none, none, none, none, none, none, none, none, none, none, none, none, none, none, none, none, none, none, none]] (z2 r1.1 89 0) (z2 r1.2 89 0))) rfl ?_
    refine bs_call (o := pEN Ls xs 1000 200 [.ref 89] (hq [(17, 10), (16, 2), (2, 500), (9, 15), (0, 4), (0, 4), (0, 4), (0, 16), (0, 5), (0, 5), (0, 12), (6, 3), (0, 30), (0, 30), (13, 7), (9, 15), (0, 4), (0, 4), (0, 4), (0, 16), (0, 5), (0, 5), (0, 12), (2, 501), (0, 501), (0, 501), (12, 13), (0, 4), (0, 30), (0, 30), (0, 30), (0, 120), (0, 4), (8, 6), (2, 1440), (14, 11), (0, 10), (7, 3), (0, 4), (0, 11), (0, 13), (0, 13), (0, 13), (4, 3), (5, 4), (10, 3), (9, 15), (0, 4), (0, 4), (0, 4), (0, 16), (0, 5), (0, 5), (0, 12), (6, 3), (0, 30), (0, 30), (10, 3), (9, 15), (0, 4), (0, 4), (0, 4), (0, 16), (0, 5), (0, 5), (0, 12), (6, 3), (0, 30), (0, 30), (10, 3), (9, 15), (0, 4), (0, 4), (0, 4), (0, 16), (0, 5), (0, 5), (0, 12), (6, 3), (0, 30), (0, 30), (15, 4), (1, 60), (15, 4), (1, 60), (15, 4), (1, 60), (15, 4), (1, 60), (18, 45)] [[some 1, some 3, some 11, some 14, some 26, some 33, some 35, some 43, some 44, none], [some 2, none], [], [none, none, none, none, none, none, none, none, some 4, some 5, some 6, some 7, some 8, some 9, some 10], [], [], [], [], [], [], [], [some 12, some 13, none], [], [], [some 15, none, none, some 23, some 24, some 25, none], [none, none, none, none, none, none, none, none, some 16, some 17, some 18, some 19, some 20, some 21, some 22], [], [], [], [], [], [], [], [], [], [], [some 27, some 28, some 29, some 30, some 31, some 32, none, none, none, none, none, none, none], [], [], [], [], [], [], [some 34, none, none, none, none, none], [], [some 36, some 37, some 39, some 40, some 41, some 42, none, none, none, none, none], [], [some 38, none, none], [], [], [], [], [], [some 45, some 57, some 69], [some 81, some 83, some 85, some 87], [some 46, some 54, none], [none, none, none, none, none, none, none, none, some 47, some 48, some 49, some 50, some 51, some 52, some 53], [], [], [], [], [], [], [], [some 55, some 56, none], [], [], [some 58, some 66, none], [none, none, none, none, none, none, none, none, some 59, some 60, some 61, some 62, some 63, some 64, some 65], [], [], [], [], [], [], [], [some 67, some 68, none], [], [], [some 70, some 78, none], [none, none, none, none, none, none, none, none, some 71, some 72, some 73, some 74, some 75, some 76, some 77], [], [], [], [], [], [], [], [some 79, some 80, none], [], [], [some 82, none, none, none], [], [some 84, none, none, none], [], [some 86, none, none, none], [], [some 88, none, none, none], [], [none, none, none, none, none, none, none, none, none, none, none, none, none, none, none, none, none, none, none, none, none, none, none, none, none, none, none, none, none, none, none, none, none, none, none, none, none, none, none, none, none, none, none, none, none]] (z2 r1.1 89 0) (z2 r1.2 89 0))) (w := none) (h' := hq [(17, 10), (16, 2), (2, 500), (9, 15), (0, 4), (0, 4), (0, 4), (0, 16), (0, 5), (0, 5), (0, 12), (6, 3), (0, 30), (0, 30), (13, 7), (9, 15), (0, 4), (0, 4), (0, 4), (0, 16), (0, 5), (0, 5), (0, 12), (2, 501), (0, 501), (0, 501), (12, 13), (0, 4), (0, 30), (0, 30), (0, 30), (0, 120), (0, 4), (8, 6), (2, 1440), (14, 11), (0, 10), (7, 3), (0, 4), (0, 11), (0, 13), (0, 13), (0, 13), (4, 3), (5, 4), (10, 3), (9, 15), (0, 4), (0, 4), (0, 4), (0, 16), (0, 5), (0, 5), (0, 12), (6, 3), (0, 30), (0, 30), (10, 3), (9, 15), (0, 4), (0, 4), (0, 4), (0, 16), (0, 5), (0, 5), (0, 12), (6, 3), (0, 30), (0, 30), (10, 3), (9, 15), (0, 4), (0, 4), (0, 4), (0, 16), (0, 5), (0, 5), (0, 12), (6, 3), (0, 30), (0, 30), (15, 4), (1, 60), (15, 4), (1, 60), (15, 4), (1, 60), (15, 4), (1, 60), (18, 45), (0, 4), (0, 4), (1, 240), (1, 60), (2, 500), (0, 5), (0, 45), (0, 40), (0, 60), (0, 50), (0, 60), (0, 300), (3, 3), (0, 4), (0, 4), (0, 4), (0, 120), (0, 30), (0, 30), (3, 16384), (3, 16384), (0, 12), (0, 12), (0, 1200)] [[some 1, some 3, some 11, some 14, some 26, some 33, some 35, some 43, some 44, none], [some 2, none], [], [none, none, none, none, none, none, none, none, some 4, some 5, some 6, some 7, some 8, some 9, some 10], [], [], [], [], [], [], [], [some 12, some 13, none], [], [], [some 15, none, none, some 23, some 24, some 25, none], [none, none, none, none, none, none, none, none, some 16, some 17, some 18, some 19, some 20, some 21, some 22], [], [], [], [], [], [], [], [], [], [], [some 27, some 28, some 29, some 30, some 31, some 32, none, none, none, none, none, none, none], [], [], [], [], [], [], [some 34, none, none, none, none, none], [], [some 36, some 37, some 39, some 40, some 41, some 42, none, none, none, none, none], [], [some 38, none, none], [], [], [], [], [], [some 45, some 57, some 69], [some 81, some 83, some 85, some 87], [some 46, some 54, none], [none, none, none, none, none, none, none, none, some 47, some 48, some 49, some 50, some 51, some 52, some 53], [], [], [], [], [], [], [], [some 55, some 56, none], [], [], [some 58, some 66, none], [none, none, none, none, none, none, none, none, some 59, some 60, some 61, some 62, some 63, some 64, some 65], [], [], [], [], [], [], [], [some 67, some 68, none], [], [], [some 70, some 78, none], [none, none, none, none, none, none, none, none, some 71, some 72, some 73, some 74, some 75, some 76, some 77], [], [], [], [], [], [], [], [some 79, some 80, none], [], [], [some 82, none, none, none], [], [some 84, none, none, none], [], [some 86, none, none, none], [], [some 88, none, none, none], [], [none, some 90, some 91, some 92, some 93, some 94, none, none, none, none, none, none, none, none, none, none, some 95, some 96, some 97, some 98, some 99, some 100, some 101, some 102, some 103, none, none, none, none, none, some 104, some 105, some 106, some 107, some 108, some 109, some 110, some 111, some 112, none, none, none, none, none, some 113], [], [], [], [], [], [], [], [], [], [], [], [], [], [], [], [], [], [], [], [], [], [], [], []] r2.1 r2.2) (pc := 15) (lo := [some (.retAddr 0), some (.ref 0), none, none]) (rest := [.ref 89]) rfl (t_p200_89 Ls xs 999 _ _ r2 h2) ?_
    refine bs_st 3 (x' := (18, [some (.retAddr 0), some (.ref 0), some (.ref 89), some (.int 0)], [], hq [(17, 10), (16, 2), (2, 500), (9, 15), (0, 4), (0, 4), (0, 4), (0, 16), (0, 5), (0, 5), (0, 12), (6, 3), (0, 30), (0, 30), (13, 7), (9, 15), (0, 4), (0, 4), (0, 4), (0, 16), (0, 5), (0, 5), (0, 12), (2, 501), (0, 501), (0, 501), (12, 13), (0, 4), (0, 30), (0, 30), (0, 30), (0, 120), (0, 4), (8, 6), (2, 1440), (14, 11), (0, 10), (7, 3), (0, 4), (0, 11), (0, 13), (0, 13), (0, 13), (4, 3), (5, 4), (10, 3), (9, 15), (0, 4), (0, 4), (0, 4), (0, 16), (0, 5), (0, 5), (0, 12), (6, 3), (0, 30), (0, 30), (10, 3), (9, 15), (0, 4), (0, 4), (0, 4), (0, 16), (0, 5), (0, 5), (0, 12), (6, 3), (0, 30), (0, 30), (10, 3), (9, 15), (0, 4), (0, 4), (0, 4), (0, 16), (0, 5), (0, 5), (0, 12), (6, 3), (0, 30), (0, 30), (15, 4), (1, 60), (15, 4), (1, 60), (15, 4), (1, 60), (15, 4), (1, 60), (18, 45), (0, 4), (0, 4), (1, 240), (1, 60), (2, 500), (0, 5), (0, 45), (0, 40), (0, 60), (0, 50), (0, 60), (0, 300), (3, 3), (0, 4), (0, 4), (0, 4), (0, 120), (0, 30), (0, 30), (3, 16384), (3, 16384), (0, 12), (0, 12), (0, 1200)] [[some 1, some 3, some 11, some 14, some 26, some 33, some 35, some 43, some 44, none], [some 2, none], [], [none, none, none, none, none, none, none, none, some 4, some 5, some 6, some 7, some 8, some 9, some 10], [], [], [], [], [], [], [], [some 12, some 13, none], [], [], [some 15, none, none, some 23, some 24, some 25, none], [none, none, none, none, none, none, none, none, some 16, some 17, some 18, some 19, some 20, some 21, some 22], [], [], [], [], [], [], [], [], [], [], [some 27, some 28, some 29, some 30, some 31, some 32, none, none, none, none, none, none, none], [], [], [], [], [], [], [some 34, none, none, none, none, none], [], [some 36, some 37, some 39, some 40, some 41, some 42, none, none, none, none, none], [], [some 38, none, none], [], [], [], [], [], [some 45, some 57, some 69], [some 81, some 83, some 85, some 87], [some 46, some 54, none], [none, none, none, none, none, none, none, none, some 47, some 48, some 49, some 50, some 51, some 52, some 53], [], [], [], [], [], [], [], [some 55, some 56, none], [], [], [some 58, some 66, none], [none, none, none, none, none, none, none, none, some 59, some 60, some 61, some 62, some 63, some 64, some 65], [], [], [], [], [], [], [], [some 67, some 68, none], [], [], [some 70, some 78, none], [none, none, none, none, none, none, none, none, some 71, some 72, some 73, some 74, some 75, some 76, some 77], [], [], [], [], [], [], [], [some 79, some 80, none], [], [], [some 82, none, none, none], [], [some 84, none, none, none], [], [some 86, none, none, none], [], [some 88, none, none, none], [], [none, some 90, some 91, some 92, some 93, some 94, none, none, none, none, none, none, none, none, none, none, some 95, some 96, some 97, some 98, some 99, some 100, some 101, some 102, some 103, none, none, none, none, none, some 104, some 105, some 106, some 107, some 108, some 109, some 110, some 111, some 112, none, none, none, none, none, some 113], [], [], [], [], [], [], [], [], [], [], [], [], [], [], [], [], [], [], [], [], [], [], [], []] r2.1 r2.2)) rfl ?_
    refine bs_eq (x' := (18, [some (.retAddr 0), some (.ref 0), some (.ref 89), some (.int (nI 0))], [], hp none none none [] [] r2.1 r2.2)) rfl ?_
    exact ⟨n, hn⟩
  obtain ⟨n2, hn2⟩ := hB
  exact ⟨n2, h', hn2, g1, g2⟩
