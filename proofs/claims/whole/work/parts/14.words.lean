/-! the words of every method and of every index: printed by wip/whole/gen14.py -/
set_option maxRecDepth 100000 in
theorem pmk_0 : pmk pMM 0 0 := ⟨mt1 148 rfl, mt1 4 rfl, ⟨by decide +kernel, by decide +kernel, by decide +kernel⟩, by decide +kernel⟩
set_option maxRecDepth 100000 in
theorem pim_0 : Cond.instanceMethod (pMM.1 0) ∈ wsU := mt1 147 rfl
set_option maxRecDepth 100000 in
theorem pmk_1 : pmk pMM 1 2 := ⟨mt6 19 rfl, mt1 4 rfl, ⟨by decide +kernel, by decide +kernel, by decide +kernel⟩, by decide +kernel⟩
set_option maxRecDepth 100000 in
theorem pim_1 : Cond.instanceMethod (pMM.1 1) ∈ wsU := mt6 17 rfl
set_option maxRecDepth 100000 in
theorem psl_1 : Cond.selects (cN (pMM.2.2.2.2 1)) (pMM.1 1) (pMM.1 1) ∈ wsU := mt6 18 rfl
set_option maxRecDepth 100000 in
theorem pmk_2 : pmk pMM 2 1 := ⟨mt6 72 rfl, mt1 4 rfl, ⟨by decide +kernel, by decide +kernel, by decide +kernel⟩, by decide +kernel⟩
set_option maxRecDepth 100000 in
theorem pim_2 : Cond.instanceMethod (pMM.1 2) ∈ wsU := mt6 70 rfl
set_option maxRecDepth 100000 in
theorem psl_2 : Cond.selects (cN (pMM.2.2.2.2 2)) (pMM.1 2) (pMM.1 2) ∈ wsU := mt6 71 rfl
set_option maxRecDepth 100000 in
theorem pmk_3 : pmk pMM 3 0 := ⟨mt2 48 rfl, mt1 9 rfl, ⟨by decide +kernel, by decide +kernel, by decide +kernel⟩, by decide +kernel⟩
set_option maxRecDepth 100000 in
theorem pim_3 : Cond.instanceMethod (pMM.1 3) ∈ wsU := mt2 47 rfl
set_option maxRecDepth 100000 in
theorem pmk_4 : pmk pMM 4 2 := ⟨mt4 146 rfl, mt1 9 rfl, ⟨by decide +kernel, by decide +kernel, by decide +kernel⟩, by decide +kernel⟩
set_option maxRecDepth 100000 in
theorem pim_4 : Cond.instanceMethod (pMM.1 4) ∈ wsU := mt4 144 rfl
set_option maxRecDepth 100000 in
theorem psl_4 : Cond.selects (cN (pMM.2.2.2.2 4)) (pMM.1 4) (pMM.1 4) ∈ wsU := mt4 145 rfl
set_option maxRecDepth 100000 in
theorem pmk_5 : pmk pMM 5 2 := ⟨mt5 97 rfl, mt1 9 rfl, ⟨by decide +kernel, by decide +kernel, by decide +kernel⟩, by decide +kernel⟩
set_option maxRecDepth 100000 in
theorem pim_5 : Cond.instanceMethod (pMM.1 5) ∈ wsU := mt5 95 rfl
set_option maxRecDepth 100000 in
theorem psl_5 : Cond.selects (cN (pMM.2.2.2.2 5)) (pMM.1 5) (pMM.1 5) ∈ wsU := mt5 96 rfl
set_option maxRecDepth 100000 in
theorem pmk_6 : pmk pMM 6 1 := ⟨mt4 225 rfl, mt1 9 rfl, ⟨by decide +kernel, by decide +kernel, by decide +kernel⟩, by decide +kernel⟩
set_option maxRecDepth 100000 in
theorem pim_6 : Cond.instanceMethod (pMM.1 6) ∈ wsU := mt4 223 rfl
set_option maxRecDepth 100000 in
theorem psl_6 : Cond.selects (cN (pMM.2.2.2.2 6)) (pMM.1 6) (pMM.1 6) ∈ wsU := mt4 224 rfl
set_option maxRecDepth 100000 in
theorem pmk_7 : pmk pMM 7 3 := ⟨mt4 159 rfl, mt1 9 rfl, ⟨by decide +kernel, by decide +kernel, by decide +kernel⟩, by decide +kernel⟩
set_option maxRecDepth 100000 in
theorem pim_7 : Cond.instanceMethod (pMM.1 7) ∈ wsU := mt4 157 rfl
set_option maxRecDepth 100000 in
theorem psl_7 : Cond.selects (cN (pMM.2.2.2.2 7)) (pMM.1 7) (pMM.1 7) ∈ wsU := mt4 158 rfl
set_option maxRecDepth 100000 in
theorem pmk_8 : pmk pMM 8 0 := ⟨mt2 14 rfl, mt1 7 rfl, ⟨by decide +kernel, by decide +kernel, by decide +kernel⟩, by decide +kernel⟩
set_option maxRecDepth 100000 in
theorem pim_8 : Cond.instanceMethod (pMM.1 8) ∈ wsU := mt2 13 rfl
set_option maxRecDepth 100000 in
theorem pmk_9 : pmk pMM 9 1 := ⟨mt5 146 rfl, mt1 7 rfl, ⟨by decide +kernel, by decide +kernel, by decide +kernel⟩, by decide +kernel⟩
set_option maxRecDepth 100000 in
theorem pim_9 : Cond.instanceMethod (pMM.1 9) ∈ wsU := mt5 144 rfl
set_option maxRecDepth 100000 in
theorem psl_9 : Cond.selects (cN (pMM.2.2.2.2 9)) (pMM.1 9) (pMM.1 9) ∈ wsU := mt5 145 rfl
set_option maxRecDepth 100000 in
theorem pmk_10 : pmk pMM 10 2 := ⟨mt5 154 rfl, mt1 7 rfl, ⟨by decide +kernel, by decide +kernel, by decide +kernel⟩, by decide +kernel⟩
set_option maxRecDepth 100000 in
theorem pim_10 : Cond.instanceMethod (pMM.1 10) ∈ wsU := mt5 152 rfl
set_option maxRecDepth 100000 in
theorem psl_10 : Cond.selects (cN (pMM.2.2.2.2 10)) (pMM.1 10) (pMM.1 10) ∈ wsU := mt5 153 rfl
set_option maxRecDepth 100000 in
theorem pmk_11 : pmk pMM 11 0 := ⟨mt5 176 rfl, mt1 7 rfl, ⟨by decide +kernel, by decide +kernel, by decide +kernel⟩, by decide +kernel⟩
set_option maxRecDepth 100000 in
theorem pim_11 : Cond.instanceMethod (pMM.1 11) ∈ wsU := mt5 174 rfl
set_option maxRecDepth 100000 in
theorem psl_11 : Cond.selects (cN (pMM.2.2.2.2 11)) (pMM.1 11) (pMM.1 11) ∈ wsU := mt5 175 rfl
set_option maxRecDepth 100000 in
theorem pmk_12 : pmk pMM 12 0 := ⟨mt5 158 rfl, mt1 7 rfl, ⟨by decide +kernel, by decide +kernel, by decide +kernel⟩, by decide +kernel⟩
set_option maxRecDepth 100000 in
theorem pim_12 : Cond.instanceMethod (pMM.1 12) ∈ wsU := mt5 156 rfl
set_option maxRecDepth 100000 in
theorem psl_12 : Cond.selects (cN (pMM.2.2.2.2 12)) (pMM.1 12) (pMM.1 12) ∈ wsU := mt5 157 rfl
set_option maxRecDepth 100000 in
theorem pmk_13 : pmk pMM 13 1 := ⟨mt5 163 rfl, mt1 7 rfl, ⟨by decide +kernel, by decide +kernel, by decide +kernel⟩, by decide +kernel⟩
set_option maxRecDepth 100000 in
theorem pim_13 : Cond.instanceMethod (pMM.1 13) ∈ wsU := mt5 162 rfl
set_option maxRecDepth 100000 in
theorem psl_13 : Cond.selects (cN (pMM.2.2.2.2 13)) (pMM.1 13) (pMM.1 13) ∈ wsU := mp3 (q := (⟨"LampRounds$Clues", "largestClass", "(I)I"⟩, 6)) 15 rfl
set_option maxRecDepth 100000 in
theorem pmk_14 : pmk pMM 14 2 := ⟨mt5 167 rfl, mt1 7 rfl, ⟨by decide +kernel, by decide +kernel, by decide +kernel⟩, by decide +kernel⟩
set_option maxRecDepth 100000 in
theorem pim_14 : Cond.instanceMethod (pMM.1 14) ∈ wsU := mt5 166 rfl
set_option maxRecDepth 100000 in
theorem psl_14 : Cond.selects (cN (pMM.2.2.2.2 14)) (pMM.1 14) (pMM.1 14) ∈ wsU := mp4 (q := (⟨"LampRounds$Clues", "alike", "(II)I"⟩, 6)) 0 rfl
set_option maxRecDepth 100000 in
theorem pmk_15 : pmk pMM 15 0 := ⟨mt1 50 rfl, mt1 3 rfl, ⟨by decide +kernel, by decide +kernel, by decide +kernel⟩, by decide +kernel⟩
set_option maxRecDepth 100000 in
theorem pim_15 : Cond.instanceMethod (pMM.1 15) ∈ wsU := mt1 49 rfl
set_option maxRecDepth 100000 in
theorem pmk_16 : pmk pMM 16 0 := ⟨mt3 49 rfl, mt1 3 rfl, ⟨by decide +kernel, by decide +kernel, by decide +kernel⟩, by decide +kernel⟩
set_option maxRecDepth 100000 in
theorem pim_16 : Cond.instanceMethod (pMM.1 16) ∈ wsU := mt3 47 rfl
set_option maxRecDepth 100000 in
theorem psl_16 : Cond.selects (cN (pMM.2.2.2.2 16)) (pMM.1 16) (pMM.1 16) ∈ wsU := mt3 48 rfl
set_option maxRecDepth 100000 in
theorem pmk_17 : pmk pMM 17 1 := ⟨mt3 97 rfl, mt1 3 rfl, ⟨by decide +kernel, by decide +kernel, by decide +kernel⟩, by decide +kernel⟩
set_option maxRecDepth 100000 in
theorem pim_17 : Cond.instanceMethod (pMM.1 17) ∈ wsU := mt3 95 rfl
set_option maxRecDepth 100000 in
theorem psl_17 : Cond.selects (cN (pMM.2.2.2.2 17)) (pMM.1 17) (pMM.1 17) ∈ wsU := mt3 96 rfl
set_option maxRecDepth 100000 in
theorem pmk_18 : pmk pMM 18 0 := ⟨mt3 104 rfl, mt1 3 rfl, ⟨by decide +kernel, by decide +kernel, by decide +kernel⟩, by decide +kernel⟩
set_option maxRecDepth 100000 in
theorem pim_18 : Cond.instanceMethod (pMM.1 18) ∈ wsU := mt3 102 rfl
set_option maxRecDepth 100000 in
theorem psl_18 : Cond.selects (cN (pMM.2.2.2.2 18)) (pMM.1 18) (pMM.1 18) ∈ wsU := mt3 103 rfl
set_option maxRecDepth 100000 in
theorem pmk_19 : pmk pMM 19 1 := ⟨mt3 108 rfl, mt1 3 rfl, ⟨by decide +kernel, by decide +kernel, by decide +kernel⟩, by decide +kernel⟩
set_option maxRecDepth 100000 in
theorem pim_19 : Cond.instanceMethod (pMM.1 19) ∈ wsU := mt3 107 rfl
set_option maxRecDepth 100000 in
theorem psl_19 : Cond.selects (cN (pMM.2.2.2.2 19)) (pMM.1 19) (pMM.1 19) ∈ wsU := mp1 (q := (⟨"LampRounds$House", "spread", "(I)V"⟩, 15)) 12 rfl
set_option maxRecDepth 100000 in
theorem pmk_20 : pmk pMM 20 2 := ⟨mt3 147 rfl, mt1 3 rfl, ⟨by decide +kernel, by decide +kernel, by decide +kernel⟩, by decide +kernel⟩
set_option maxRecDepth 100000 in
theorem pim_20 : Cond.instanceMethod (pMM.1 20) ∈ wsU := mt3 145 rfl
set_option maxRecDepth 100000 in
theorem psl_20 : Cond.selects (cN (pMM.2.2.2.2 20)) (pMM.1 20) (pMM.1 20) ∈ wsU := mt3 146 rfl
set_option maxRecDepth 100000 in
theorem pmk_21 : pmk pMM 21 2 := ⟨mt3 205 rfl, mt1 3 rfl, ⟨by decide +kernel, by decide +kernel, by decide +kernel⟩, by decide +kernel⟩
set_option maxRecDepth 100000 in
theorem pim_21 : Cond.instanceMethod (pMM.1 21) ∈ wsU := mt3 203 rfl
set_option maxRecDepth 100000 in
theorem psl_21 : Cond.selects (cN (pMM.2.2.2.2 21)) (pMM.1 21) (pMM.1 21) ∈ wsU := mt3 204 rfl
set_option maxRecDepth 100000 in
theorem pmk_22 : pmk pMM 22 2 := ⟨mt3 200 rfl, mt1 3 rfl, ⟨by decide +kernel, by decide +kernel, by decide +kernel⟩, by decide +kernel⟩
set_option maxRecDepth 100000 in
theorem pim_22 : Cond.instanceMethod (pMM.1 22) ∈ wsU := mt3 198 rfl
set_option maxRecDepth 100000 in
theorem psl_22 : Cond.selects (cN (pMM.2.2.2.2 22)) (pMM.1 22) (pMM.1 22) ∈ wsU := mt3 199 rfl
set_option maxRecDepth 100000 in
theorem pmk_23 : pmk pMM 23 0 := ⟨mt4 94 rfl, mt1 3 rfl, ⟨by decide +kernel, by decide +kernel, by decide +kernel⟩, by decide +kernel⟩
set_option maxRecDepth 100000 in
theorem pim_23 : Cond.instanceMethod (pMM.1 23) ∈ wsU := mt4 92 rfl
set_option maxRecDepth 100000 in
theorem psl_23 : Cond.selects (cN (pMM.2.2.2.2 23)) (pMM.1 23) (pMM.1 23) ∈ wsU := mt4 93 rfl
set_option maxRecDepth 100000 in
theorem pmk_24 : pmk pMM 24 0 := ⟨mt4 90 rfl, mt1 3 rfl, ⟨by decide +kernel, by decide +kernel, by decide +kernel⟩, by decide +kernel⟩
set_option maxRecDepth 100000 in
theorem pim_24 : Cond.instanceMethod (pMM.1 24) ∈ wsU := mt4 88 rfl
set_option maxRecDepth 100000 in
theorem psl_24 : Cond.selects (cN (pMM.2.2.2.2 24)) (pMM.1 24) (pMM.1 24) ∈ wsU := mt4 89 rfl
set_option maxRecDepth 100000 in
theorem pmk_25 : pmk pMM 25 1 := ⟨mt4 43 rfl, mt1 3 rfl, ⟨by decide +kernel, by decide +kernel, by decide +kernel⟩, by decide +kernel⟩
set_option maxRecDepth 100000 in
theorem pim_25 : Cond.instanceMethod (pMM.1 25) ∈ wsU := mt4 41 rfl
set_option maxRecDepth 100000 in
theorem psl_25 : Cond.selects (cN (pMM.2.2.2.2 25)) (pMM.1 25) (pMM.1 25) ∈ wsU := mt4 42 rfl
set_option maxRecDepth 100000 in
theorem pmk_26 : pmk pMM 26 1 := ⟨mt5 235 rfl, mt1 3 rfl, ⟨by decide +kernel, by decide +kernel, by decide +kernel⟩, by decide +kernel⟩
set_option maxRecDepth 100000 in
theorem pim_26 : Cond.instanceMethod (pMM.1 26) ∈ wsU := mt5 233 rfl
set_option maxRecDepth 100000 in
theorem psl_26 : Cond.selects (cN (pMM.2.2.2.2 26)) (pMM.1 26) (pMM.1 26) ∈ wsU := mt5 234 rfl
set_option maxRecDepth 100000 in
theorem pmk_27 : pmk pMM 27 0 := ⟨mt5 239 rfl, mt1 3 rfl, ⟨by decide +kernel, by decide +kernel, by decide +kernel⟩, by decide +kernel⟩
set_option maxRecDepth 100000 in
theorem pim_27 : Cond.instanceMethod (pMM.1 27) ∈ wsU := mt5 237 rfl
set_option maxRecDepth 100000 in
theorem psl_27 : Cond.selects (cN (pMM.2.2.2.2 27)) (pMM.1 27) (pMM.1 27) ∈ wsU := mt5 238 rfl
set_option maxRecDepth 100000 in
theorem pmk_28 : pmk pMM 28 1 := ⟨mt6 43 rfl, mt1 3 rfl, ⟨by decide +kernel, by decide +kernel, by decide +kernel⟩, by decide +kernel⟩
set_option maxRecDepth 100000 in
theorem pim_28 : Cond.instanceMethod (pMM.1 28) ∈ wsU := mt6 41 rfl
set_option maxRecDepth 100000 in
theorem psl_28 : Cond.selects (cN (pMM.2.2.2.2 28)) (pMM.1 28) (pMM.1 28) ∈ wsU := mt6 42 rfl
set_option maxRecDepth 100000 in
theorem pmk_29 : pmk pMM 29 0 := ⟨mt2 102 rfl, mt1 10 rfl, ⟨by decide +kernel, by decide +kernel, by decide +kernel⟩, by decide +kernel⟩
set_option maxRecDepth 100000 in
theorem pim_29 : Cond.instanceMethod (pMM.1 29) ∈ wsU := mt2 101 rfl
set_option maxRecDepth 100000 in
theorem pmk_30 : pmk pMM 30 0 := ⟨mt4 103 rfl, mt1 19 rfl, ⟨by decide +kernel, by decide +kernel, by decide +kernel⟩, by decide +kernel⟩
set_option maxRecDepth 100000 in
theorem pim_30 : Cond.instanceMethod (pMM.1 30) ∈ wsU := mt4 102 rfl
set_option maxRecDepth 100000 in
theorem pmk_31 : pmk pMM 31 1 := ⟨mt3 120 rfl, mt1 19 rfl, ⟨by decide +kernel, by decide +kernel, by decide +kernel⟩, by decide +kernel⟩
set_option maxRecDepth 100000 in
theorem pim_31 : Cond.instanceMethod (pMM.1 31) ∈ wsU := mt3 118 rfl
set_option maxRecDepth 100000 in
theorem psl_31 : Cond.selects (cN (pMM.2.2.2.2 31)) (pMM.1 31) (pMM.1 31) ∈ wsU := mt3 119 rfl
set_option maxRecDepth 100000 in
theorem pmk_32 : pmk pMM 32 1 := ⟨mt4 138 rfl, mt1 19 rfl, ⟨by decide +kernel, by decide +kernel, by decide +kernel⟩, by decide +kernel⟩
set_option maxRecDepth 100000 in
theorem pim_32 : Cond.instanceMethod (pMM.1 32) ∈ wsU := mt4 136 rfl
set_option maxRecDepth 100000 in
theorem psl_32 : Cond.selects (cN (pMM.2.2.2.2 32)) (pMM.1 32) (pMM.1 32) ∈ wsU := mt4 137 rfl
set_option maxRecDepth 100000 in
theorem pmk_33 : pmk pMM 33 0 := ⟨mt4 217 rfl, mt1 19 rfl, ⟨by decide +kernel, by decide +kernel, by decide +kernel⟩, by decide +kernel⟩
set_option maxRecDepth 100000 in
theorem pim_33 : Cond.instanceMethod (pMM.1 33) ∈ wsU := mt4 215 rfl
set_option maxRecDepth 100000 in
theorem psl_33 : Cond.selects (cN (pMM.2.2.2.2 33)) (pMM.1 33) (pMM.1 33) ∈ wsU := mt4 216 rfl
set_option maxRecDepth 100000 in
theorem pmk_34 : pmk pMM 34 0 := ⟨mt4 233 rfl, mt1 19 rfl, ⟨by decide +kernel, by decide +kernel, by decide +kernel⟩, by decide +kernel⟩
set_option maxRecDepth 100000 in
theorem pim_34 : Cond.instanceMethod (pMM.1 34) ∈ wsU := mt4 231 rfl
set_option maxRecDepth 100000 in
theorem psl_34 : Cond.selects (cN (pMM.2.2.2.2 34)) (pMM.1 34) (pMM.1 34) ∈ wsU := mt4 232 rfl
set_option maxRecDepth 100000 in
theorem pmk_35 : pmk pMM 35 0 := ⟨mt5 2 rfl, mt1 19 rfl, ⟨by decide +kernel, by decide +kernel, by decide +kernel⟩, by decide +kernel⟩
set_option maxRecDepth 100000 in
theorem pim_35 : Cond.instanceMethod (pMM.1 35) ∈ wsU := mt5 0 rfl
set_option maxRecDepth 100000 in
theorem psl_35 : Cond.selects (cN (pMM.2.2.2.2 35)) (pMM.1 35) (pMM.1 35) ∈ wsU := mt5 1 rfl
set_option maxRecDepth 100000 in
theorem pmk_36 : pmk pMM 36 1 := ⟨mt5 89 rfl, mt1 19 rfl, ⟨by decide +kernel, by decide +kernel, by decide +kernel⟩, by decide +kernel⟩
set_option maxRecDepth 100000 in
theorem pim_36 : Cond.instanceMethod (pMM.1 36) ∈ wsU := mt5 87 rfl
set_option maxRecDepth 100000 in
theorem psl_36 : Cond.selects (cN (pMM.2.2.2.2 36)) (pMM.1 36) (pMM.1 36) ∈ wsU := mt5 88 rfl
set_option maxRecDepth 100000 in
theorem pmk_37 : pmk pMM 37 2 := ⟨mt5 93 rfl, mt1 19 rfl, ⟨by decide +kernel, by decide +kernel, by decide +kernel⟩, by decide +kernel⟩
set_option maxRecDepth 100000 in
theorem pim_37 : Cond.instanceMethod (pMM.1 37) ∈ wsU := mt5 92 rfl
set_option maxRecDepth 100000 in
theorem psl_37 : Cond.selects (cN (pMM.2.2.2.2 37)) (pMM.1 37) (pMM.1 37) ∈ wsU := mp3 (q := (⟨"LampRounds$Keeper", "isKeptWith", "(II)Z"⟩, 9)) 11 rfl
set_option maxRecDepth 100000 in
theorem pmk_38 : pmk pMM 38 1 := ⟨mt4 142 rfl, mt1 19 rfl, ⟨by decide +kernel, by decide +kernel, by decide +kernel⟩, by decide +kernel⟩
set_option maxRecDepth 100000 in
theorem pim_38 : Cond.instanceMethod (pMM.1 38) ∈ wsU := mt4 141 rfl
set_option maxRecDepth 100000 in
theorem psl_38 : Cond.selects (cN (pMM.2.2.2.2 38)) (pMM.1 38) (pMM.1 38) ∈ wsU := mp2 (q := (⟨"LampRounds$Keeper", "makeReady", "(I)V"⟩, 9)) 8 rfl
set_option maxRecDepth 100000 in
theorem pmk_39 : pmk pMM 39 0 := ⟨mt4 151 rfl, mt1 19 rfl, ⟨by decide +kernel, by decide +kernel, by decide +kernel⟩, by decide +kernel⟩
set_option maxRecDepth 100000 in
theorem pim_39 : Cond.instanceMethod (pMM.1 39) ∈ wsU := mt4 150 rfl
set_option maxRecDepth 100000 in
theorem psl_39 : Cond.selects (cN (pMM.2.2.2.2 39)) (pMM.1 39) (pMM.1 39) ∈ wsU := mp2 (q := (⟨"LampRounds$Keeper", "wipe", "()V"⟩, 9)) 9 rfl
set_option maxRecDepth 100000 in
theorem pmk_40 : pmk pMM 40 1 := ⟨mt4 155 rfl, mt1 19 rfl, ⟨by decide +kernel, by decide +kernel, by decide +kernel⟩, by decide +kernel⟩
set_option maxRecDepth 100000 in
theorem pim_40 : Cond.instanceMethod (pMM.1 40) ∈ wsU := mt4 154 rfl
set_option maxRecDepth 100000 in
theorem psl_40 : Cond.selects (cN (pMM.2.2.2.2 40)) (pMM.1 40) (pMM.1 40) ∈ wsU := mp2 (q := (⟨"LampRounds$Keeper", "startIn", "(I)I"⟩, 9)) 10 rfl
set_option maxRecDepth 100000 in
theorem pmk_41 : pmk pMM 41 2 := ⟨mt4 200 rfl, mt1 19 rfl, ⟨by decide +kernel, by decide +kernel, by decide +kernel⟩, by decide +kernel⟩
set_option maxRecDepth 100000 in
theorem pim_41 : Cond.instanceMethod (pMM.1 41) ∈ wsU := mt4 199 rfl
set_option maxRecDepth 100000 in
theorem psl_41 : Cond.selects (cN (pMM.2.2.2.2 41)) (pMM.1 41) (pMM.1 41) ∈ wsU := mp3 (q := (⟨"LampRounds$Keeper", "follow", "(II)I"⟩, 9)) 2 rfl
set_option maxRecDepth 100000 in
theorem pmk_42 : pmk pMM 42 1 := ⟨mt4 165 rfl, mt1 19 rfl, ⟨by decide +kernel, by decide +kernel, by decide +kernel⟩, by decide +kernel⟩
set_option maxRecDepth 100000 in
theorem pim_42 : Cond.instanceMethod (pMM.1 42) ∈ wsU := mt4 164 rfl
set_option maxRecDepth 100000 in
theorem psl_42 : Cond.selects (cN (pMM.2.2.2.2 42)) (pMM.1 42) (pMM.1 42) ∈ wsU := mp2 (q := (⟨"LampRounds$Keeper", "canKeep", "(I)Z"⟩, 9)) 11 rfl
set_option maxRecDepth 100000 in
theorem pmk_43 : pmk pMM 43 1 := ⟨mt4 176 rfl, mt1 19 rfl, ⟨by decide +kernel, by decide +kernel, by decide +kernel⟩, by decide +kernel⟩
set_option maxRecDepth 100000 in
theorem pim_43 : Cond.instanceMethod (pMM.1 43) ∈ wsU := mt4 175 rfl
set_option maxRecDepth 100000 in
theorem psl_43 : Cond.selects (cN (pMM.2.2.2.2 43)) (pMM.1 43) (pMM.1 43) ∈ wsU := mp2 (q := (⟨"LampRounds$Keeper", "search", "(I)V"⟩, 9)) 13 rfl
set_option maxRecDepth 100000 in
theorem pmk_44 : pmk pMM 44 2 := ⟨mt4 180 rfl, mt1 19 rfl, ⟨by decide +kernel, by decide +kernel, by decide +kernel⟩, by decide +kernel⟩
set_option maxRecDepth 100000 in
theorem pim_44 : Cond.instanceMethod (pMM.1 44) ∈ wsU := mt4 179 rfl
set_option maxRecDepth 100000 in
theorem psl_44 : Cond.selects (cN (pMM.2.2.2.2 44)) (pMM.1 44) (pMM.1 44) ∈ wsU := mp2 (q := (⟨"LampRounds$Keeper", "push", "(II)V"⟩, 9)) 14 rfl
set_option maxRecDepth 100000 in
theorem pmk_45 : pmk pMM 45 1 := ⟨mt4 191 rfl, mt1 19 rfl, ⟨by decide +kernel, by decide +kernel, by decide +kernel⟩, by decide +kernel⟩
set_option maxRecDepth 100000 in
theorem pim_45 : Cond.instanceMethod (pMM.1 45) ∈ wsU := mt4 190 rfl
set_option maxRecDepth 100000 in
theorem psl_45 : Cond.selects (cN (pMM.2.2.2.2 45)) (pMM.1 45) (pMM.1 45) ∈ wsU := mp3 (q := (⟨"LampRounds$Keeper", "lose", "(I)I"⟩, 9)) 0 rfl
set_option maxRecDepth 100000 in
theorem pmk_46 : pmk pMM 46 2 := ⟨mt4 196 rfl, mt1 19 rfl, ⟨by decide +kernel, by decide +kernel, by decide +kernel⟩, by decide +kernel⟩
set_option maxRecDepth 100000 in
theorem pim_46 : Cond.instanceMethod (pMM.1 46) ∈ wsU := mt4 195 rfl
set_option maxRecDepth 100000 in
theorem psl_46 : Cond.selects (cN (pMM.2.2.2.2 46)) (pMM.1 46) (pMM.1 46) ∈ wsU := mp3 (q := (⟨"LampRounds$Keeper", "outlast", "(II)V"⟩, 9)) 1 rfl
set_option maxRecDepth 100000 in
theorem pmk_47 : pmk pMM 47 1 := ⟨mt4 206 rfl, mt1 19 rfl, ⟨by decide +kernel, by decide +kernel, by decide +kernel⟩, by decide +kernel⟩
set_option maxRecDepth 100000 in
theorem pim_47 : Cond.instanceMethod (pMM.1 47) ∈ wsU := mt4 205 rfl
set_option maxRecDepth 100000 in
theorem psl_47 : Cond.selects (cN (pMM.2.2.2.2 47)) (pMM.1 47) (pMM.1 47) ∈ wsU := mp3 (q := (⟨"LampRounds$Keeper", "keepTrail", "(I)V"⟩, 9)) 3 rfl
set_option maxRecDepth 100000 in
theorem pmk_48 : pmk pMM 48 1 := ⟨mt4 168 rfl, mt1 19 rfl, ⟨by decide +kernel, by decide +kernel, by decide +kernel⟩, by decide +kernel⟩
set_option maxRecDepth 100000 in
theorem pst_48 : Cond.static (pMM.1 48) ∈ wsU := mt4 167 rfl
set_option maxRecDepth 100000 in
theorem pmk_49 : pmk pMM 49 1 := ⟨mt4 221 rfl, mt1 19 rfl, ⟨by decide +kernel, by decide +kernel, by decide +kernel⟩, by decide +kernel⟩
set_option maxRecDepth 100000 in
theorem pst_49 : Cond.static (pMM.1 49) ∈ wsU := mt4 220 rfl
set_option maxRecDepth 100000 in
theorem pmk_50 : pmk pMM 50 1 := ⟨mt4 172 rfl, mt1 19 rfl, ⟨by decide +kernel, by decide +kernel, by decide +kernel⟩, by decide +kernel⟩
set_option maxRecDepth 100000 in
theorem pim_50 : Cond.instanceMethod (pMM.1 50) ∈ wsU := mt4 171 rfl
set_option maxRecDepth 100000 in
theorem psl_50 : Cond.selects (cN (pMM.2.2.2.2 50)) (pMM.1 50) (pMM.1 50) ∈ wsU := mp2 (q := (⟨"LampRounds$Keeper", "markAt", "(I)I"⟩, 9)) 12 rfl
set_option maxRecDepth 100000 in
theorem pmk_51 : pmk pMM 51 2 := ⟨mt4 184 rfl, mt1 19 rfl, ⟨by decide +kernel, by decide +kernel, by decide +kernel⟩, by decide +kernel⟩
set_option maxRecDepth 100000 in
theorem pim_51 : Cond.instanceMethod (pMM.1 51) ∈ wsU := mt4 183 rfl
set_option maxRecDepth 100000 in
theorem psl_51 : Cond.selects (cN (pMM.2.2.2.2 51)) (pMM.1 51) (pMM.1 51) ∈ wsU := mp2 (q := (⟨"LampRounds$Keeper", "mark", "(II)V"⟩, 9)) 15 rfl
set_option maxRecDepth 100000 in
theorem pmk_52 : pmk pMM 52 0 := ⟨mt1 201 rfl, mt1 6 rfl, ⟨by decide +kernel, by decide +kernel, by decide +kernel⟩, by decide +kernel⟩
set_option maxRecDepth 100000 in
theorem pim_52 : Cond.instanceMethod (pMM.1 52) ∈ wsU := mt1 200 rfl
set_option maxRecDepth 100000 in
theorem pmk_53 : pmk pMM 53 3 := ⟨mt3 175 rfl, mt1 6 rfl, ⟨by decide +kernel, by decide +kernel, by decide +kernel⟩, by decide +kernel⟩
set_option maxRecDepth 100000 in
theorem pim_53 : Cond.instanceMethod (pMM.1 53) ∈ wsU := mt3 173 rfl
set_option maxRecDepth 100000 in
theorem psl_53 : Cond.selects (cN (pMM.2.2.2.2 53)) (pMM.1 53) (pMM.1 53) ∈ wsU := mt3 174 rfl
set_option maxRecDepth 100000 in
theorem pmk_54 : pmk pMM 54 2 := ⟨mt5 219 rfl, mt1 6 rfl, ⟨by decide +kernel, by decide +kernel, by decide +kernel⟩, by decide +kernel⟩
set_option maxRecDepth 100000 in
theorem pim_54 : Cond.instanceMethod (pMM.1 54) ∈ wsU := mt5 217 rfl
set_option maxRecDepth 100000 in
theorem psl_54 : Cond.selects (cN (pMM.2.2.2.2 54)) (pMM.1 54) (pMM.1 54) ∈ wsU := mt5 218 rfl
set_option maxRecDepth 100000 in
theorem pmk_55 : pmk pMM 55 0 := ⟨mt3 180 rfl, mt1 6 rfl, ⟨by decide +kernel, by decide +kernel, by decide +kernel⟩, by decide +kernel⟩
set_option maxRecDepth 100000 in
theorem pim_55 : Cond.instanceMethod (pMM.1 55) ∈ wsU := mt3 178 rfl
set_option maxRecDepth 100000 in
theorem psl_55 : Cond.selects (cN (pMM.2.2.2.2 55)) (pMM.1 55) (pMM.1 55) ∈ wsU := mt3 179 rfl
set_option maxRecDepth 100000 in
theorem pmk_56 : pmk pMM 56 1 := ⟨mt3 184 rfl, mt1 6 rfl, ⟨by decide +kernel, by decide +kernel, by decide +kernel⟩, by decide +kernel⟩
set_option maxRecDepth 100000 in
theorem pim_56 : Cond.instanceMethod (pMM.1 56) ∈ wsU := mt3 183 rfl
set_option maxRecDepth 100000 in
theorem psl_56 : Cond.selects (cN (pMM.2.2.2.2 56)) (pMM.1 56) (pMM.1 56) ∈ wsU := mp2 (q := (⟨"LampRounds$Night", "whereabouts", "(I)I"⟩, 13)) 3 rfl
set_option maxRecDepth 100000 in
theorem pmk_57 : pmk pMM 57 1 := ⟨mt3 213 rfl, mt1 6 rfl, ⟨by decide +kernel, by decide +kernel, by decide +kernel⟩, by decide +kernel⟩
set_option maxRecDepth 100000 in
theorem pim_57 : Cond.instanceMethod (pMM.1 57) ∈ wsU := mt3 212 rfl
set_option maxRecDepth 100000 in
theorem psl_57 : Cond.selects (cN (pMM.2.2.2.2 57)) (pMM.1 57) (pMM.1 57) ∈ wsU := mp2 (q := (⟨"LampRounds$Night", "watching", "(I)I"⟩, 13)) 5 rfl
set_option maxRecDepth 100000 in
theorem pmk_58 : pmk pMM 58 1 := ⟨mt3 209 rfl, mt1 6 rfl, ⟨by decide +kernel, by decide +kernel, by decide +kernel⟩, by decide +kernel⟩
set_option maxRecDepth 100000 in
theorem pim_58 : Cond.instanceMethod (pMM.1 58) ∈ wsU := mt3 208 rfl
set_option maxRecDepth 100000 in
theorem psl_58 : Cond.selects (cN (pMM.2.2.2.2 58)) (pMM.1 58) (pMM.1 58) ∈ wsU := mp2 (q := (⟨"LampRounds$Night", "ageFlames", "(I)V"⟩, 13)) 4 rfl
set_option maxRecDepth 100000 in
theorem pmk_59 : pmk pMM 59 3 := ⟨mt3 217 rfl, mt1 6 rfl, ⟨by decide +kernel, by decide +kernel, by decide +kernel⟩, by decide +kernel⟩
set_option maxRecDepth 100000 in
theorem pim_59 : Cond.instanceMethod (pMM.1 59) ∈ wsU := mt3 216 rfl
set_option maxRecDepth 100000 in
theorem psl_59 : Cond.selects (cN (pMM.2.2.2.2 59)) (pMM.1 59) (pMM.1 59) ∈ wsU := mp2 (q := (⟨"LampRounds$Night", "agedFlame", "(III)I"⟩, 13)) 6 rfl
set_option maxRecDepth 100000 in
theorem pmk_60 : pmk pMM 60 2 := ⟨mt3 196 rfl, mt1 6 rfl, ⟨by decide +kernel, by decide +kernel, by decide +kernel⟩, by decide +kernel⟩
set_option maxRecDepth 100000 in
theorem pim_60 : Cond.instanceMethod (pMM.1 60) ∈ wsU := mt3 194 rfl
set_option maxRecDepth 100000 in
theorem psl_60 : Cond.selects (cN (pMM.2.2.2.2 60)) (pMM.1 60) (pMM.1 60) ∈ wsU := mt3 195 rfl
set_option maxRecDepth 100000 in
theorem pmk_61 : pmk pMM 61 2 := ⟨mt3 192 rfl, mt1 6 rfl, ⟨by decide +kernel, by decide +kernel, by decide +kernel⟩, by decide +kernel⟩
set_option maxRecDepth 100000 in
theorem pim_61 : Cond.instanceMethod (pMM.1 61) ∈ wsU := mt3 190 rfl
set_option maxRecDepth 100000 in
theorem psl_61 : Cond.selects (cN (pMM.2.2.2.2 61)) (pMM.1 61) (pMM.1 61) ∈ wsU := mt3 191 rfl
set_option maxRecDepth 100000 in
theorem pmk_62 : pmk pMM 62 1 := ⟨mt3 188 rfl, mt1 6 rfl, ⟨by decide +kernel, by decide +kernel, by decide +kernel⟩, by decide +kernel⟩
set_option maxRecDepth 100000 in
theorem pim_62 : Cond.instanceMethod (pMM.1 62) ∈ wsU := mt3 186 rfl
set_option maxRecDepth 100000 in
theorem psl_62 : Cond.selects (cN (pMM.2.2.2.2 62)) (pMM.1 62) (pMM.1 62) ∈ wsU := mt3 187 rfl
set_option maxRecDepth 100000 in
theorem pmk_63 : pmk pMM 63 1 := ⟨mt3 235 rfl, mt1 6 rfl, ⟨by decide +kernel, by decide +kernel, by decide +kernel⟩, by decide +kernel⟩
set_option maxRecDepth 100000 in
theorem pim_63 : Cond.instanceMethod (pMM.1 63) ∈ wsU := mt3 233 rfl
set_option maxRecDepth 100000 in
theorem psl_63 : Cond.selects (cN (pMM.2.2.2.2 63)) (pMM.1 63) (pMM.1 63) ∈ wsU := mt3 234 rfl
set_option maxRecDepth 100000 in
theorem pmk_64 : pmk pMM 64 0 := ⟨mt4 72 rfl, mt1 6 rfl, ⟨by decide +kernel, by decide +kernel, by decide +kernel⟩, by decide +kernel⟩
set_option maxRecDepth 100000 in
theorem pim_64 : Cond.instanceMethod (pMM.1 64) ∈ wsU := mt4 70 rfl
set_option maxRecDepth 100000 in
theorem psl_64 : Cond.selects (cN (pMM.2.2.2.2 64)) (pMM.1 64) (pMM.1 64) ∈ wsU := mt4 71 rfl
set_option maxRecDepth 100000 in
theorem pmk_65 : pmk pMM 65 0 := ⟨mt4 11 rfl, mt1 6 rfl, ⟨by decide +kernel, by decide +kernel, by decide +kernel⟩, by decide +kernel⟩
set_option maxRecDepth 100000 in
theorem pim_65 : Cond.instanceMethod (pMM.1 65) ∈ wsU := mt4 9 rfl
set_option maxRecDepth 100000 in
theorem psl_65 : Cond.selects (cN (pMM.2.2.2.2 65)) (pMM.1 65) (pMM.1 65) ∈ wsU := mt4 10 rfl
set_option maxRecDepth 100000 in
theorem pmk_66 : pmk pMM 66 0 := ⟨mt4 7 rfl, mt1 6 rfl, ⟨by decide +kernel, by decide +kernel, by decide +kernel⟩, by decide +kernel⟩
set_option maxRecDepth 100000 in
theorem pim_66 : Cond.instanceMethod (pMM.1 66) ∈ wsU := mt4 5 rfl
set_option maxRecDepth 100000 in
theorem psl_66 : Cond.selects (cN (pMM.2.2.2.2 66)) (pMM.1 66) (pMM.1 66) ∈ wsU := mt4 6 rfl
set_option maxRecDepth 100000 in
theorem pmk_67 : pmk pMM 67 1 := ⟨mt4 24 rfl, mt1 6 rfl, ⟨by decide +kernel, by decide +kernel, by decide +kernel⟩, by decide +kernel⟩
set_option maxRecDepth 100000 in
theorem pim_67 : Cond.instanceMethod (pMM.1 67) ∈ wsU := mt4 22 rfl
set_option maxRecDepth 100000 in
theorem psl_67 : Cond.selects (cN (pMM.2.2.2.2 67)) (pMM.1 67) (pMM.1 67) ∈ wsU := mt4 23 rfl
set_option maxRecDepth 100000 in
theorem pmk_68 : pmk pMM 68 1 := ⟨mt4 32 rfl, mt1 6 rfl, ⟨by decide +kernel, by decide +kernel, by decide +kernel⟩, by decide +kernel⟩
set_option maxRecDepth 100000 in
theorem pim_68 : Cond.instanceMethod (pMM.1 68) ∈ wsU := mt4 30 rfl
set_option maxRecDepth 100000 in
theorem psl_68 : Cond.selects (cN (pMM.2.2.2.2 68)) (pMM.1 68) (pMM.1 68) ∈ wsU := mt4 31 rfl
set_option maxRecDepth 100000 in
theorem pmk_69 : pmk pMM 69 1 := ⟨mt4 81 rfl, mt1 6 rfl, ⟨by decide +kernel, by decide +kernel, by decide +kernel⟩, by decide +kernel⟩
set_option maxRecDepth 100000 in
theorem pim_69 : Cond.instanceMethod (pMM.1 69) ∈ wsU := mt4 79 rfl
set_option maxRecDepth 100000 in
theorem psl_69 : Cond.selects (cN (pMM.2.2.2.2 69)) (pMM.1 69) (pMM.1 69) ∈ wsU := mt4 80 rfl
set_option maxRecDepth 100000 in
theorem pmk_70 : pmk pMM 70 0 := ⟨mt4 51 rfl, mt1 6 rfl, ⟨by decide +kernel, by decide +kernel, by decide +kernel⟩, by decide +kernel⟩
set_option maxRecDepth 100000 in
theorem pim_70 : Cond.instanceMethod (pMM.1 70) ∈ wsU := mt4 49 rfl
set_option maxRecDepth 100000 in
theorem psl_70 : Cond.selects (cN (pMM.2.2.2.2 70)) (pMM.1 70) (pMM.1 70) ∈ wsU := mt4 50 rfl
set_option maxRecDepth 100000 in
theorem pmk_71 : pmk pMM 71 0 := ⟨mt4 64 rfl, mt1 6 rfl, ⟨by decide +kernel, by decide +kernel, by decide +kernel⟩, by decide +kernel⟩
set_option maxRecDepth 100000 in
theorem pim_71 : Cond.instanceMethod (pMM.1 71) ∈ wsU := mt4 62 rfl
set_option maxRecDepth 100000 in
theorem psl_71 : Cond.selects (cN (pMM.2.2.2.2 71)) (pMM.1 71) (pMM.1 71) ∈ wsU := mt4 63 rfl
set_option maxRecDepth 100000 in
theorem pmk_72 : pmk pMM 72 1 := ⟨mt5 150 rfl, mt1 6 rfl, ⟨by decide +kernel, by decide +kernel, by decide +kernel⟩, by decide +kernel⟩
set_option maxRecDepth 100000 in
theorem pim_72 : Cond.instanceMethod (pMM.1 72) ∈ wsU := mt5 148 rfl
set_option maxRecDepth 100000 in
theorem psl_72 : Cond.selects (cN (pMM.2.2.2.2 72)) (pMM.1 72) (pMM.1 72) ∈ wsU := mt5 149 rfl
set_option maxRecDepth 100000 in
theorem pmk_73 : pmk pMM 73 0 := ⟨mt1 168 rfl, mt1 5 rfl, ⟨by decide +kernel, by decide +kernel, by decide +kernel⟩, by decide +kernel⟩
set_option maxRecDepth 100000 in
theorem pim_73 : Cond.instanceMethod (pMM.1 73) ∈ wsU := mt1 167 rfl
set_option maxRecDepth 100000 in
theorem pmk_74 : pmk pMM 74 1 := ⟨mt2 196 rfl, mt1 5 rfl, ⟨by decide +kernel, by decide +kernel, by decide +kernel⟩, by decide +kernel⟩
set_option maxRecDepth 100000 in
theorem pim_74 : Cond.instanceMethod (pMM.1 74) ∈ wsU := mt2 194 rfl
set_option maxRecDepth 100000 in
theorem psl_74 : Cond.selects (cN (pMM.2.2.2.2 74)) (pMM.1 74) (pMM.1 74) ∈ wsU := mt2 195 rfl
set_option maxRecDepth 100000 in
theorem pmk_75 : pmk pMM 75 0 := ⟨mt3 53 rfl, mt1 5 rfl, ⟨by decide +kernel, by decide +kernel, by decide +kernel⟩, by decide +kernel⟩
set_option maxRecDepth 100000 in
theorem pim_75 : Cond.instanceMethod (pMM.1 75) ∈ wsU := mt3 52 rfl
set_option maxRecDepth 100000 in
theorem psl_75 : Cond.selects (cN (pMM.2.2.2.2 75)) (pMM.1 75) (pMM.1 75) ∈ wsU := mp1 (q := (⟨"LampRounds$Reader", "readLine", "()V"⟩, 7)) 1 rfl
set_option maxRecDepth 100000 in
theorem pmk_76 : pmk pMM 76 0 := ⟨mt3 61 rfl, mt1 5 rfl, ⟨by decide +kernel, by decide +kernel, by decide +kernel⟩, by decide +kernel⟩
set_option maxRecDepth 100000 in
theorem pim_76 : Cond.instanceMethod (pMM.1 76) ∈ wsU := mt3 60 rfl
set_option maxRecDepth 100000 in
theorem psl_76 : Cond.selects (cN (pMM.2.2.2.2 76)) (pMM.1 76) (pMM.1 76) ∈ wsU := mp1 (q := (⟨"LampRounds$Reader", "readHead", "()V"⟩, 7)) 3 rfl
set_option maxRecDepth 100000 in
theorem pmk_77 : pmk pMM 77 0 := ⟨mt3 77 rfl, mt1 5 rfl, ⟨by decide +kernel, by decide +kernel, by decide +kernel⟩, by decide +kernel⟩
set_option maxRecDepth 100000 in
theorem pim_77 : Cond.instanceMethod (pMM.1 77) ∈ wsU := mt3 76 rfl
set_option maxRecDepth 100000 in
theorem psl_77 : Cond.selects (cN (pMM.2.2.2.2 77)) (pMM.1 77) (pMM.1 77) ∈ wsU := mp1 (q := (⟨"LampRounds$Reader", "readRoom", "()V"⟩, 7)) 7 rfl
set_option maxRecDepth 100000 in
theorem pmk_78 : pmk pMM 78 0 := ⟨mt3 81 rfl, mt1 5 rfl, ⟨by decide +kernel, by decide +kernel, by decide +kernel⟩, by decide +kernel⟩
set_option maxRecDepth 100000 in
theorem pim_78 : Cond.instanceMethod (pMM.1 78) ∈ wsU := mt3 80 rfl
set_option maxRecDepth 100000 in
theorem psl_78 : Cond.selects (cN (pMM.2.2.2.2 78)) (pMM.1 78) (pMM.1 78) ∈ wsU := mp1 (q := (⟨"LampRounds$Reader", "readWay", "()V"⟩, 7)) 8 rfl
set_option maxRecDepth 100000 in
theorem pmk_79 : pmk pMM 79 0 := ⟨mt3 85 rfl, mt1 5 rfl, ⟨by decide +kernel, by decide +kernel, by decide +kernel⟩, by decide +kernel⟩
set_option maxRecDepth 100000 in
theorem pim_79 : Cond.instanceMethod (pMM.1 79) ∈ wsU := mt3 84 rfl
set_option maxRecDepth 100000 in
theorem psl_79 : Cond.selects (cN (pMM.2.2.2.2 79)) (pMM.1 79) (pMM.1 79) ∈ wsU := mp1 (q := (⟨"LampRounds$Reader", "readVisitor", "()V"⟩, 7)) 9 rfl
set_option maxRecDepth 100000 in
theorem pmk_80 : pmk pMM 80 0 := ⟨mt3 89 rfl, mt1 5 rfl, ⟨by decide +kernel, by decide +kernel, by decide +kernel⟩, by decide +kernel⟩
set_option maxRecDepth 100000 in
theorem pim_80 : Cond.instanceMethod (pMM.1 80) ∈ wsU := mt3 88 rfl
set_option maxRecDepth 100000 in
theorem psl_80 : Cond.selects (cN (pMM.2.2.2.2 80)) (pMM.1 80) (pMM.1 80) ∈ wsU := mp1 (q := (⟨"LampRounds$Reader", "readRound", "()V"⟩, 7)) 10 rfl
set_option maxRecDepth 100000 in
theorem pmk_81 : pmk pMM 81 0 := ⟨mt3 93 rfl, mt1 5 rfl, ⟨by decide +kernel, by decide +kernel, by decide +kernel⟩, by decide +kernel⟩
set_option maxRecDepth 100000 in
theorem pim_81 : Cond.instanceMethod (pMM.1 81) ∈ wsU := mt3 92 rfl
set_option maxRecDepth 100000 in
theorem psl_81 : Cond.selects (cN (pMM.2.2.2.2 81)) (pMM.1 81) (pMM.1 81) ∈ wsU := mp1 (q := (⟨"LampRounds$Reader", "readPlace", "()V"⟩, 7)) 11 rfl
set_option maxRecDepth 100000 in
theorem pmk_82 : pmk pMM 82 2 := ⟨mt3 73 rfl, mt1 5 rfl, ⟨by decide +kernel, by decide +kernel, by decide +kernel⟩, by decide +kernel⟩
set_option maxRecDepth 100000 in
theorem pim_82 : Cond.instanceMethod (pMM.1 82) ∈ wsU := mt3 72 rfl
set_option maxRecDepth 100000 in
theorem psl_82 : Cond.selects (cN (pMM.2.2.2.2 82)) (pMM.1 82) (pMM.1 82) ∈ wsU := mp1 (q := (⟨"LampRounds$Reader", "number", "(II)I"⟩, 7)) 6 rfl
set_option maxRecDepth 100000 in
theorem pmk_83 : pmk pMM 83 1 := ⟨mt3 65 rfl, mt1 5 rfl, ⟨by decide +kernel, by decide +kernel, by decide +kernel⟩, by decide +kernel⟩
set_option maxRecDepth 100000 in
theorem pim_83 : Cond.instanceMethod (pMM.1 83) ∈ wsU := mt3 64 rfl
set_option maxRecDepth 100000 in
theorem psl_83 : Cond.selects (cN (pMM.2.2.2.2 83)) (pMM.1 83) (pMM.1 83) ∈ wsU := mp1 (q := (⟨"LampRounds$Reader", "expect", "(I)V"⟩, 7)) 4 rfl
set_option maxRecDepth 100000 in
theorem pmk_84 : pmk pMM 84 0 := ⟨mt3 69 rfl, mt1 5 rfl, ⟨by decide +kernel, by decide +kernel, by decide +kernel⟩, by decide +kernel⟩
set_option maxRecDepth 100000 in
theorem pim_84 : Cond.instanceMethod (pMM.1 84) ∈ wsU := mt3 68 rfl
set_option maxRecDepth 100000 in
theorem psl_84 : Cond.selects (cN (pMM.2.2.2.2 84)) (pMM.1 84) (pMM.1 84) ∈ wsU := mp1 (q := (⟨"LampRounds$Reader", "goOn", "()V"⟩, 7)) 5 rfl
set_option maxRecDepth 100000 in
theorem pmk_85 : pmk pMM 85 1 := ⟨mt3 57 rfl, mt1 5 rfl, ⟨by decide +kernel, by decide +kernel, by decide +kernel⟩, by decide +kernel⟩
set_option maxRecDepth 100000 in
theorem pim_85 : Cond.instanceMethod (pMM.1 85) ∈ wsU := mt3 56 rfl
set_option maxRecDepth 100000 in
theorem psl_85 : Cond.selects (cN (pMM.2.2.2.2 85)) (pMM.1 85) (pMM.1 85) ∈ wsU := mp1 (q := (⟨"LampRounds$Reader", "fail", "(I)V"⟩, 7)) 2 rfl
set_option maxRecDepth 100000 in
theorem pmk_86 : pmk pMM 86 2 := ⟨mt2 203 rfl, mt1 5 rfl, ⟨by decide +kernel, by decide +kernel, by decide +kernel⟩, by decide +kernel⟩
set_option maxRecDepth 100000 in
theorem pim_86 : Cond.instanceMethod (pMM.1 86) ∈ wsU := mt2 202 rfl
set_option maxRecDepth 100000 in
theorem psl_86 : Cond.selects (cN (pMM.2.2.2.2 86)) (pMM.1 86) (pMM.1 86) ∈ wsU := mp1 (q := (⟨"LampRounds$Reader", "takeTokens", "([BI)V"⟩, 7)) 0 rfl
set_option maxRecDepth 100000 in
theorem pmk_87 : pmk pMM 87 3 := ⟨mt2 206 rfl, mt1 5 rfl, ⟨by decide +kernel, by decide +kernel, by decide +kernel⟩, by decide +kernel⟩
set_option maxRecDepth 100000 in
theorem pst_87 : Cond.static (pMM.1 87) ∈ wsU := mt2 205 rfl
set_option maxRecDepth 100000 in
theorem pmk_88 : pmk pMM 88 3 := ⟨mt3 44 rfl, mt1 5 rfl, ⟨by decide +kernel, by decide +kernel, by decide +kernel⟩, by decide +kernel⟩
set_option maxRecDepth 100000 in
theorem pst_88 : Cond.static (pMM.1 88) ∈ wsU := mt3 43 rfl
set_option maxRecDepth 100000 in
theorem pmk_89 : pmk pMM 89 3 := ⟨mt2 215 rfl, mt1 5 rfl, ⟨by decide +kernel, by decide +kernel, by decide +kernel⟩, by decide +kernel⟩
set_option maxRecDepth 100000 in
theorem pst_89 : Cond.static (pMM.1 89) ∈ wsU := mt2 214 rfl
set_option maxRecDepth 100000 in
theorem pmk_90 : pmk pMM 90 1 := ⟨mt2 218 rfl, mt1 5 rfl, ⟨by decide +kernel, by decide +kernel, by decide +kernel⟩, by decide +kernel⟩
set_option maxRecDepth 100000 in
theorem pst_90 : Cond.static (pMM.1 90) ∈ wsU := mt2 217 rfl
set_option maxRecDepth 100000 in
theorem pmk_91 : pmk pMM 91 4 := ⟨mt2 233 rfl, mt1 5 rfl, ⟨by decide +kernel, by decide +kernel, by decide +kernel⟩, by decide +kernel⟩
set_option maxRecDepth 100000 in
theorem pst_91 : Cond.static (pMM.1 91) ∈ wsU := mt2 232 rfl
set_option maxRecDepth 100000 in
theorem pmk_92 : pmk pMM 92 1 := ⟨mt2 209 rfl, mt1 5 rfl, ⟨by decide +kernel, by decide +kernel, by decide +kernel⟩, by decide +kernel⟩
set_option maxRecDepth 100000 in
theorem pst_92 : Cond.static (pMM.1 92) ∈ wsU := mt2 208 rfl
set_option maxRecDepth 100000 in
theorem pmk_93 : pmk pMM 93 1 := ⟨mt2 212 rfl, mt1 5 rfl, ⟨by decide +kernel, by decide +kernel, by decide +kernel⟩, by decide +kernel⟩
set_option maxRecDepth 100000 in
theorem pst_93 : Cond.static (pMM.1 93) ∈ wsU := mt2 211 rfl
set_option maxRecDepth 100000 in
theorem pmk_94 : pmk pMM 94 0 := ⟨mt2 42 rfl, mt1 8 rfl, ⟨by decide +kernel, by decide +kernel, by decide +kernel⟩, by decide +kernel⟩
set_option maxRecDepth 100000 in
theorem pim_94 : Cond.instanceMethod (pMM.1 94) ∈ wsU := mt2 41 rfl
set_option maxRecDepth 100000 in
theorem pmk_95 : pmk pMM 95 1 := ⟨mt3 116 rfl, mt1 8 rfl, ⟨by decide +kernel, by decide +kernel, by decide +kernel⟩, by decide +kernel⟩
set_option maxRecDepth 100000 in
theorem pim_95 : Cond.instanceMethod (pMM.1 95) ∈ wsU := mt3 114 rfl
set_option maxRecDepth 100000 in
theorem psl_95 : Cond.selects (cN (pMM.2.2.2.2 95)) (pMM.1 95) (pMM.1 95) ∈ wsU := mt3 115 rfl
set_option maxRecDepth 100000 in
theorem pmk_96 : pmk pMM 96 1 := ⟨mt5 51 rfl, mt1 8 rfl, ⟨by decide +kernel, by decide +kernel, by decide +kernel⟩, by decide +kernel⟩
set_option maxRecDepth 100000 in
theorem pim_96 : Cond.instanceMethod (pMM.1 96) ∈ wsU := mt5 49 rfl
set_option maxRecDepth 100000 in
theorem psl_96 : Cond.selects (cN (pMM.2.2.2.2 96)) (pMM.1 96) (pMM.1 96) ∈ wsU := mt5 50 rfl
set_option maxRecDepth 100000 in
theorem pmk_97 : pmk pMM 97 0 := ⟨mt5 10 rfl, mt1 8 rfl, ⟨by decide +kernel, by decide +kernel, by decide +kernel⟩, by decide +kernel⟩
set_option maxRecDepth 100000 in
theorem pim_97 : Cond.instanceMethod (pMM.1 97) ∈ wsU := mt5 8 rfl
set_option maxRecDepth 100000 in
theorem psl_97 : Cond.selects (cN (pMM.2.2.2.2 97)) (pMM.1 97) (pMM.1 97) ∈ wsU := mt5 9 rfl
set_option maxRecDepth 100000 in
theorem pmk_98 : pmk pMM 98 0 := ⟨mt5 59 rfl, mt1 8 rfl, ⟨by decide +kernel, by decide +kernel, by decide +kernel⟩, by decide +kernel⟩
set_option maxRecDepth 100000 in
theorem pim_98 : Cond.instanceMethod (pMM.1 98) ∈ wsU := mt5 57 rfl
set_option maxRecDepth 100000 in
theorem psl_98 : Cond.selects (cN (pMM.2.2.2.2 98)) (pMM.1 98) (pMM.1 98) ∈ wsU := mt5 58 rfl
set_option maxRecDepth 100000 in
theorem pmk_99 : pmk pMM 99 2 := ⟨mt5 14 rfl, mt1 8 rfl, ⟨by decide +kernel, by decide +kernel, by decide +kernel⟩, by decide +kernel⟩
set_option maxRecDepth 100000 in
theorem pim_99 : Cond.instanceMethod (pMM.1 99) ∈ wsU := mt5 13 rfl
set_option maxRecDepth 100000 in
theorem psl_99 : Cond.selects (cN (pMM.2.2.2.2 99)) (pMM.1 99) (pMM.1 99) ∈ wsU := mp3 (q := (⟨"LampRounds$RingSearch", "search", "(IZ)I"⟩, 11)) 4 rfl
set_option maxRecDepth 100000 in
theorem pmk_100 : pmk pMM 100 1 := ⟨mt5 18 rfl, mt1 8 rfl, ⟨by decide +kernel, by decide +kernel, by decide +kernel⟩, by decide +kernel⟩
set_option maxRecDepth 100000 in
theorem pim_100 : Cond.instanceMethod (pMM.1 100) ∈ wsU := mt5 17 rfl
set_option maxRecDepth 100000 in
theorem psl_100 : Cond.selects (cN (pMM.2.2.2.2 100)) (pMM.1 100) (pMM.1 100) ∈ wsU := mp3 (q := (⟨"LampRounds$RingSearch", "begin", "(I)V"⟩, 11)) 5 rfl
set_option maxRecDepth 100000 in
theorem pmk_101 : pmk pMM 101 2 := ⟨mt5 24 rfl, mt1 8 rfl, ⟨by decide +kernel, by decide +kernel, by decide +kernel⟩, by decide +kernel⟩
set_option maxRecDepth 100000 in
theorem pim_101 : Cond.instanceMethod (pMM.1 101) ∈ wsU := mt5 23 rfl
set_option maxRecDepth 100000 in
theorem psl_101 : Cond.selects (cN (pMM.2.2.2.2 101)) (pMM.1 101) (pMM.1 101) ∈ wsU := mp3 (q := (⟨"LampRounds$RingSearch", "grow", "(II)V"⟩, 11)) 6 rfl
set_option maxRecDepth 100000 in
theorem pmk_102 : pmk pMM 102 1 := ⟨mt5 35 rfl, mt1 8 rfl, ⟨by decide +kernel, by decide +kernel, by decide +kernel⟩, by decide +kernel⟩
set_option maxRecDepth 100000 in
theorem pim_102 : Cond.instanceMethod (pMM.1 102) ∈ wsU := mt5 34 rfl
set_option maxRecDepth 100000 in
theorem psl_102 : Cond.selects (cN (pMM.2.2.2.2 102)) (pMM.1 102) (pMM.1 102) ∈ wsU := mp3 (q := (⟨"LampRounds$RingSearch", "take", "(I)V"⟩, 11)) 8 rfl
set_option maxRecDepth 100000 in
theorem pmk_103 : pmk pMM 103 2 := ⟨mt5 39 rfl, mt1 8 rfl, ⟨by decide +kernel, by decide +kernel, by decide +kernel⟩, by decide +kernel⟩
set_option maxRecDepth 100000 in
theorem pim_103 : Cond.instanceMethod (pMM.1 103) ∈ wsU := mt5 38 rfl
set_option maxRecDepth 100000 in
theorem psl_103 : Cond.selects (cN (pMM.2.2.2.2 103)) (pMM.1 103) (pMM.1 103) ∈ wsU := mp3 (q := (⟨"LampRounds$RingSearch", "enter", "(II)Z"⟩, 11)) 9 rfl
set_option maxRecDepth 100000 in
theorem pmk_104 : pmk pMM 104 0 := ⟨mt5 28 rfl, mt1 8 rfl, ⟨by decide +kernel, by decide +kernel, by decide +kernel⟩, by decide +kernel⟩
set_option maxRecDepth 100000 in
theorem pim_104 : Cond.instanceMethod (pMM.1 104) ∈ wsU := mt5 27 rfl
set_option maxRecDepth 100000 in
theorem psl_104 : Cond.selects (cN (pMM.2.2.2.2 104)) (pMM.1 104) (pMM.1 104) ∈ wsU := mp3 (q := (⟨"LampRounds$RingSearch", "closes", "()Z"⟩, 11)) 7 rfl
set_option maxRecDepth 100000 in
theorem pmk_105 : pmk pMM 105 0 := ⟨mt2 124 rfl, mt1 11 rfl, ⟨by decide +kernel, by decide +kernel, by decide +kernel⟩, by decide +kernel⟩
set_option maxRecDepth 100000 in
theorem pim_105 : Cond.instanceMethod (pMM.1 105) ∈ wsU := mt2 123 rfl
set_option maxRecDepth 100000 in
theorem pmk_106 : pmk pMM 106 2 := ⟨mt6 85 rfl, mt1 11 rfl, ⟨by decide +kernel, by decide +kernel, by decide +kernel⟩, by decide +kernel⟩
set_option maxRecDepth 100000 in
theorem pim_106 : Cond.instanceMethod (pMM.1 106) ∈ wsU := mt6 83 rfl
set_option maxRecDepth 100000 in
theorem psl_106 : Cond.selects (cN (pMM.2.2.2.2 106)) (pMM.1 106) (pMM.1 106) ∈ wsU := mt6 84 rfl
set_option maxRecDepth 100000 in
theorem pmk_107 : pmk pMM 107 1 := ⟨mt6 93 rfl, mt1 11 rfl, ⟨by decide +kernel, by decide +kernel, by decide +kernel⟩, by decide +kernel⟩
set_option maxRecDepth 100000 in
theorem pim_107 : Cond.instanceMethod (pMM.1 107) ∈ wsU := mt6 91 rfl
set_option maxRecDepth 100000 in
theorem psl_107 : Cond.selects (cN (pMM.2.2.2.2 107)) (pMM.1 107) (pMM.1 107) ∈ wsU := mt6 92 rfl
set_option maxRecDepth 100000 in
theorem pmk_108 : pmk pMM 108 2 := ⟨mt6 101 rfl, mt1 11 rfl, ⟨by decide +kernel, by decide +kernel, by decide +kernel⟩, by decide +kernel⟩
set_option maxRecDepth 100000 in
theorem pim_108 : Cond.instanceMethod (pMM.1 108) ∈ wsU := mt6 99 rfl
set_option maxRecDepth 100000 in
theorem psl_108 : Cond.selects (cN (pMM.2.2.2.2 108)) (pMM.1 108) (pMM.1 108) ∈ wsU := mt6 100 rfl
set_option maxRecDepth 100000 in
theorem pmk_109 : pmk pMM 109 2 := ⟨mt5 138 rfl, mt1 11 rfl, ⟨by decide +kernel, by decide +kernel, by decide +kernel⟩, by decide +kernel⟩
set_option maxRecDepth 100000 in
theorem pim_109 : Cond.instanceMethod (pMM.1 109) ∈ wsU := mt5 136 rfl
set_option maxRecDepth 100000 in
theorem psl_109 : Cond.selects (cN (pMM.2.2.2.2 109)) (pMM.1 109) (pMM.1 109) ∈ wsU := mt5 137 rfl
set_option maxRecDepth 100000 in
theorem pmk_110 : pmk pMM 110 0 := ⟨mt1 33 rfl, mt1 2 rfl, ⟨by decide +kernel, by decide +kernel, by decide +kernel⟩, by decide +kernel⟩
set_option maxRecDepth 100000 in
theorem pim_110 : Cond.instanceMethod (pMM.1 110) ∈ wsU := mt1 32 rfl
set_option maxRecDepth 100000 in
theorem pmk_111 : pmk pMM 111 1 := ⟨mt2 184 rfl, mt1 2 rfl, ⟨by decide +kernel, by decide +kernel, by decide +kernel⟩, by decide +kernel⟩
set_option maxRecDepth 100000 in
theorem pim_111 : Cond.instanceMethod (pMM.1 111) ∈ wsU := mt2 182 rfl
set_option maxRecDepth 100000 in
theorem psl_111 : Cond.selects (cN (pMM.2.2.2.2 111)) (pMM.1 111) (pMM.1 111) ∈ wsU := mt2 183 rfl
set_option maxRecDepth 100000 in
theorem pmk_112 : pmk pMM 112 0 := ⟨mt1 25 rfl, mt1 1 rfl, ⟨by decide +kernel, by decide +kernel, by decide +kernel⟩, by decide +kernel⟩
set_option maxRecDepth 100000 in
theorem pim_112 : Cond.instanceMethod (pMM.1 112) ∈ wsU := mt1 24 rfl
set_option maxRecDepth 100000 in
theorem pmk_113 : pmk pMM 113 5 := ⟨mt2 180 rfl, mt1 1 rfl, ⟨by decide +kernel, by decide +kernel, by decide +kernel⟩, by decide +kernel⟩
set_option maxRecDepth 100000 in
theorem pim_113 : Cond.instanceMethod (pMM.1 113) ∈ wsU := mt2 178 rfl
set_option maxRecDepth 100000 in
theorem psl_113 : Cond.selects (cN (pMM.2.2.2.2 113)) (pMM.1 113) (pMM.1 113) ∈ wsU := mt2 179 rfl
set_option maxRecDepth 100000 in
theorem pmk_114 : pmk pMM 114 1 := ⟨mt2 188 rfl, mt1 1 rfl, ⟨by decide +kernel, by decide +kernel, by decide +kernel⟩, by decide +kernel⟩
set_option maxRecDepth 100000 in
theorem pim_114 : Cond.instanceMethod (pMM.1 114) ∈ wsU := mt2 186 rfl
set_option maxRecDepth 100000 in
theorem psl_114 : Cond.selects (cN (pMM.2.2.2.2 114)) (pMM.1 114) (pMM.1 114) ∈ wsU := mt2 187 rfl
set_option maxRecDepth 100000 in
theorem pmk_115 : pmk pMM 115 0 := ⟨mt2 192 rfl, mt1 1 rfl, ⟨by decide +kernel, by decide +kernel, by decide +kernel⟩, by decide +kernel⟩
set_option maxRecDepth 100000 in
theorem pim_115 : Cond.instanceMethod (pMM.1 115) ∈ wsU := mt2 190 rfl
set_option maxRecDepth 100000 in
theorem psl_115 : Cond.selects (cN (pMM.2.2.2.2 115)) (pMM.1 115) (pMM.1 115) ∈ wsU := mt2 191 rfl
set_option maxRecDepth 100000 in
theorem pmk_116 : pmk pMM 116 1 := ⟨mt3 124 rfl, mt1 1 rfl, ⟨by decide +kernel, by decide +kernel, by decide +kernel⟩, by decide +kernel⟩
set_option maxRecDepth 100000 in
theorem pim_116 : Cond.instanceMethod (pMM.1 116) ∈ wsU := mt3 122 rfl
set_option maxRecDepth 100000 in
theorem psl_116 : Cond.selects (cN (pMM.2.2.2.2 116)) (pMM.1 116) (pMM.1 116) ∈ wsU := mt3 123 rfl
set_option maxRecDepth 100000 in
theorem pmk_117 : pmk pMM 117 2 := ⟨mt3 128 rfl, mt1 1 rfl, ⟨by decide +kernel, by decide +kernel, by decide +kernel⟩, by decide +kernel⟩
set_option maxRecDepth 100000 in
theorem pim_117 : Cond.instanceMethod (pMM.1 117) ∈ wsU := mt3 126 rfl
set_option maxRecDepth 100000 in
theorem psl_117 : Cond.selects (cN (pMM.2.2.2.2 117)) (pMM.1 117) (pMM.1 117) ∈ wsU := mt3 127 rfl
set_option maxRecDepth 100000 in
theorem pmk_118 : pmk pMM 118 1 := ⟨mt3 139 rfl, mt1 1 rfl, ⟨by decide +kernel, by decide +kernel, by decide +kernel⟩, by decide +kernel⟩
set_option maxRecDepth 100000 in
theorem pim_118 : Cond.instanceMethod (pMM.1 118) ∈ wsU := mt3 137 rfl
set_option maxRecDepth 100000 in
theorem psl_118 : Cond.selects (cN (pMM.2.2.2.2 118)) (pMM.1 118) (pMM.1 118) ∈ wsU := mt3 138 rfl
set_option maxRecDepth 100000 in
theorem pmk_119 : pmk pMM 119 2 := ⟨mt3 143 rfl, mt1 1 rfl, ⟨by decide +kernel, by decide +kernel, by decide +kernel⟩, by decide +kernel⟩
set_option maxRecDepth 100000 in
theorem pim_119 : Cond.instanceMethod (pMM.1 119) ∈ wsU := mt3 141 rfl
set_option maxRecDepth 100000 in
theorem psl_119 : Cond.selects (cN (pMM.2.2.2.2 119)) (pMM.1 119) (pMM.1 119) ∈ wsU := mt3 142 rfl
set_option maxRecDepth 100000 in
theorem pmk_120 : pmk pMM 120 1 := ⟨mt3 151 rfl, mt1 1 rfl, ⟨by decide +kernel, by decide +kernel, by decide +kernel⟩, by decide +kernel⟩
set_option maxRecDepth 100000 in
theorem pim_120 : Cond.instanceMethod (pMM.1 120) ∈ wsU := mt3 149 rfl
set_option maxRecDepth 100000 in
theorem psl_120 : Cond.selects (cN (pMM.2.2.2.2 120)) (pMM.1 120) (pMM.1 120) ∈ wsU := mt3 150 rfl
set_option maxRecDepth 100000 in
theorem pmk_121 : pmk pMM 121 2 := ⟨mt3 159 rfl, mt1 1 rfl, ⟨by decide +kernel, by decide +kernel, by decide +kernel⟩, by decide +kernel⟩
set_option maxRecDepth 100000 in
theorem pim_121 : Cond.instanceMethod (pMM.1 121) ∈ wsU := mt3 157 rfl
set_option maxRecDepth 100000 in
theorem psl_121 : Cond.selects (cN (pMM.2.2.2.2 121)) (pMM.1 121) (pMM.1 121) ∈ wsU := mt3 158 rfl
set_option maxRecDepth 100000 in
theorem pmk_122 : pmk pMM 122 3 := ⟨mt3 221 rfl, mt1 1 rfl, ⟨by decide +kernel, by decide +kernel, by decide +kernel⟩, by decide +kernel⟩
set_option maxRecDepth 100000 in
theorem pim_122 : Cond.instanceMethod (pMM.1 122) ∈ wsU := mt3 219 rfl
set_option maxRecDepth 100000 in
theorem psl_122 : Cond.selects (cN (pMM.2.2.2.2 122)) (pMM.1 122) (pMM.1 122) ∈ wsU := mt3 220 rfl
set_option maxRecDepth 100000 in
theorem pmk_123 : pmk pMM 123 3 := ⟨mt3 226 rfl, mt1 1 rfl, ⟨by decide +kernel, by decide +kernel, by decide +kernel⟩, by decide +kernel⟩
set_option maxRecDepth 100000 in
theorem pim_123 : Cond.instanceMethod (pMM.1 123) ∈ wsU := mt3 224 rfl
set_option maxRecDepth 100000 in
theorem psl_123 : Cond.selects (cN (pMM.2.2.2.2 123)) (pMM.1 123) (pMM.1 123) ∈ wsU := mt3 225 rfl
set_option maxRecDepth 100000 in
theorem pmk_124 : pmk pMM 124 2 := ⟨mt3 231 rfl, mt1 1 rfl, ⟨by decide +kernel, by decide +kernel, by decide +kernel⟩, by decide +kernel⟩
set_option maxRecDepth 100000 in
theorem pim_124 : Cond.instanceMethod (pMM.1 124) ∈ wsU := mt3 229 rfl
set_option maxRecDepth 100000 in
theorem psl_124 : Cond.selects (cN (pMM.2.2.2.2 124)) (pMM.1 124) (pMM.1 124) ∈ wsU := mt3 230 rfl
set_option maxRecDepth 100000 in
theorem pmk_125 : pmk pMM 125 2 := ⟨mt3 239 rfl, mt1 1 rfl, ⟨by decide +kernel, by decide +kernel, by decide +kernel⟩, by decide +kernel⟩
set_option maxRecDepth 100000 in
theorem pim_125 : Cond.instanceMethod (pMM.1 125) ∈ wsU := mt3 237 rfl
set_option maxRecDepth 100000 in
theorem psl_125 : Cond.selects (cN (pMM.2.2.2.2 125)) (pMM.1 125) (pMM.1 125) ∈ wsU := mt3 238 rfl
set_option maxRecDepth 100000 in
theorem pmk_126 : pmk pMM 126 1 := ⟨mt4 3 rfl, mt1 1 rfl, ⟨by decide +kernel, by decide +kernel, by decide +kernel⟩, by decide +kernel⟩
set_option maxRecDepth 100000 in
theorem pim_126 : Cond.instanceMethod (pMM.1 126) ∈ wsU := mt4 1 rfl
set_option maxRecDepth 100000 in
theorem psl_126 : Cond.selects (cN (pMM.2.2.2.2 126)) (pMM.1 126) (pMM.1 126) ∈ wsU := mt4 2 rfl
set_option maxRecDepth 100000 in
theorem pmk_127 : pmk pMM 127 1 := ⟨mt4 15 rfl, mt1 1 rfl, ⟨by decide +kernel, by decide +kernel, by decide +kernel⟩, by decide +kernel⟩
set_option maxRecDepth 100000 in
theorem pim_127 : Cond.instanceMethod (pMM.1 127) ∈ wsU := mt4 13 rfl
set_option maxRecDepth 100000 in
theorem psl_127 : Cond.selects (cN (pMM.2.2.2.2 127)) (pMM.1 127) (pMM.1 127) ∈ wsU := mt4 14 rfl
set_option maxRecDepth 100000 in
theorem pmk_128 : pmk pMM 128 2 := ⟨mt4 20 rfl, mt1 1 rfl, ⟨by decide +kernel, by decide +kernel, by decide +kernel⟩, by decide +kernel⟩
set_option maxRecDepth 100000 in
theorem pim_128 : Cond.instanceMethod (pMM.1 128) ∈ wsU := mt4 18 rfl
set_option maxRecDepth 100000 in
theorem psl_128 : Cond.selects (cN (pMM.2.2.2.2 128)) (pMM.1 128) (pMM.1 128) ∈ wsU := mt4 19 rfl
set_option maxRecDepth 100000 in
theorem pmk_129 : pmk pMM 129 2 := ⟨mt4 28 rfl, mt1 1 rfl, ⟨by decide +kernel, by decide +kernel, by decide +kernel⟩, by decide +kernel⟩
set_option maxRecDepth 100000 in
theorem pim_129 : Cond.instanceMethod (pMM.1 129) ∈ wsU := mt4 26 rfl
set_option maxRecDepth 100000 in
theorem psl_129 : Cond.selects (cN (pMM.2.2.2.2 129)) (pMM.1 129) (pMM.1 129) ∈ wsU := mt4 27 rfl
set_option maxRecDepth 100000 in
theorem pmk_130 : pmk pMM 130 2 := ⟨mt4 39 rfl, mt1 1 rfl, ⟨by decide +kernel, by decide +kernel, by decide +kernel⟩, by decide +kernel⟩
set_option maxRecDepth 100000 in
theorem pim_130 : Cond.instanceMethod (pMM.1 130) ∈ wsU := mt4 37 rfl
set_option maxRecDepth 100000 in
theorem psl_130 : Cond.selects (cN (pMM.2.2.2.2 130)) (pMM.1 130) (pMM.1 130) ∈ wsU := mt4 38 rfl
set_option maxRecDepth 100000 in
theorem pmk_131 : pmk pMM 131 1 := ⟨mt4 47 rfl, mt1 1 rfl, ⟨by decide +kernel, by decide +kernel, by decide +kernel⟩, by decide +kernel⟩
set_option maxRecDepth 100000 in
theorem pim_131 : Cond.instanceMethod (pMM.1 131) ∈ wsU := mt4 45 rfl
set_option maxRecDepth 100000 in
theorem psl_131 : Cond.selects (cN (pMM.2.2.2.2 131)) (pMM.1 131) (pMM.1 131) ∈ wsU := mt4 46 rfl
set_option maxRecDepth 100000 in
theorem pmk_132 : pmk pMM 132 2 := ⟨mt4 55 rfl, mt1 1 rfl, ⟨by decide +kernel, by decide +kernel, by decide +kernel⟩, by decide +kernel⟩
set_option maxRecDepth 100000 in
theorem pim_132 : Cond.instanceMethod (pMM.1 132) ∈ wsU := mt4 53 rfl
set_option maxRecDepth 100000 in
theorem psl_132 : Cond.selects (cN (pMM.2.2.2.2 132)) (pMM.1 132) (pMM.1 132) ∈ wsU := mt4 54 rfl
set_option maxRecDepth 100000 in
theorem pmk_133 : pmk pMM 133 1 := ⟨mt4 60 rfl, mt1 1 rfl, ⟨by decide +kernel, by decide +kernel, by decide +kernel⟩, by decide +kernel⟩
set_option maxRecDepth 100000 in
theorem pim_133 : Cond.instanceMethod (pMM.1 133) ∈ wsU := mt4 58 rfl
set_option maxRecDepth 100000 in
theorem psl_133 : Cond.selects (cN (pMM.2.2.2.2 133)) (pMM.1 133) (pMM.1 133) ∈ wsU := mt4 59 rfl
set_option maxRecDepth 100000 in
theorem pmk_134 : pmk pMM 134 1 := ⟨mt4 68 rfl, mt1 1 rfl, ⟨by decide +kernel, by decide +kernel, by decide +kernel⟩, by decide +kernel⟩
set_option maxRecDepth 100000 in
theorem pim_134 : Cond.instanceMethod (pMM.1 134) ∈ wsU := mt4 66 rfl
set_option maxRecDepth 100000 in
theorem psl_134 : Cond.selects (cN (pMM.2.2.2.2 134)) (pMM.1 134) (pMM.1 134) ∈ wsU := mt4 67 rfl
set_option maxRecDepth 100000 in
theorem pmk_135 : pmk pMM 135 2 := ⟨mt4 77 rfl, mt1 1 rfl, ⟨by decide +kernel, by decide +kernel, by decide +kernel⟩, by decide +kernel⟩
set_option maxRecDepth 100000 in
theorem pim_135 : Cond.instanceMethod (pMM.1 135) ∈ wsU := mt4 75 rfl
set_option maxRecDepth 100000 in
theorem psl_135 : Cond.selects (cN (pMM.2.2.2.2 135)) (pMM.1 135) (pMM.1 135) ∈ wsU := mt4 76 rfl
set_option maxRecDepth 100000 in
theorem pmk_136 : pmk pMM 136 1 := ⟨mt4 86 rfl, mt1 1 rfl, ⟨by decide +kernel, by decide +kernel, by decide +kernel⟩, by decide +kernel⟩
set_option maxRecDepth 100000 in
theorem pim_136 : Cond.instanceMethod (pMM.1 136) ∈ wsU := mt4 84 rfl
set_option maxRecDepth 100000 in
theorem psl_136 : Cond.selects (cN (pMM.2.2.2.2 136)) (pMM.1 136) (pMM.1 136) ∈ wsU := mt4 85 rfl
set_option maxRecDepth 100000 in
theorem pmk_137 : pmk pMM 137 0 := ⟨mt4 213 rfl, mt1 1 rfl, ⟨by decide +kernel, by decide +kernel, by decide +kernel⟩, by decide +kernel⟩
set_option maxRecDepth 100000 in
theorem pim_137 : Cond.instanceMethod (pMM.1 137) ∈ wsU := mt4 211 rfl
set_option maxRecDepth 100000 in
theorem psl_137 : Cond.selects (cN (pMM.2.2.2.2 137)) (pMM.1 137) (pMM.1 137) ∈ wsU := mt4 212 rfl
set_option maxRecDepth 100000 in
theorem pmk_138 : pmk pMM 138 0 := ⟨mt4 229 rfl, mt1 1 rfl, ⟨by decide +kernel, by decide +kernel, by decide +kernel⟩, by decide +kernel⟩
set_option maxRecDepth 100000 in
theorem pim_138 : Cond.instanceMethod (pMM.1 138) ∈ wsU := mt4 227 rfl
set_option maxRecDepth 100000 in
theorem psl_138 : Cond.selects (cN (pMM.2.2.2.2 138)) (pMM.1 138) (pMM.1 138) ∈ wsU := mt4 228 rfl
set_option maxRecDepth 100000 in
theorem pmk_139 : pmk pMM 139 0 := ⟨mt4 238 rfl, mt1 1 rfl, ⟨by decide +kernel, by decide +kernel, by decide +kernel⟩, by decide +kernel⟩
set_option maxRecDepth 100000 in
theorem pim_139 : Cond.instanceMethod (pMM.1 139) ∈ wsU := mt4 236 rfl
set_option maxRecDepth 100000 in
theorem psl_139 : Cond.selects (cN (pMM.2.2.2.2 139)) (pMM.1 139) (pMM.1 139) ∈ wsU := mt4 237 rfl
set_option maxRecDepth 100000 in
theorem pmk_140 : pmk pMM 140 0 := ⟨mt5 6 rfl, mt1 1 rfl, ⟨by decide +kernel, by decide +kernel, by decide +kernel⟩, by decide +kernel⟩
set_option maxRecDepth 100000 in
theorem pim_140 : Cond.instanceMethod (pMM.1 140) ∈ wsU := mt5 4 rfl
set_option maxRecDepth 100000 in
theorem psl_140 : Cond.selects (cN (pMM.2.2.2.2 140)) (pMM.1 140) (pMM.1 140) ∈ wsU := mt5 5 rfl
set_option maxRecDepth 100000 in
theorem pmk_141 : pmk pMM 141 1 := ⟨mt5 43 rfl, mt1 1 rfl, ⟨by decide +kernel, by decide +kernel, by decide +kernel⟩, by decide +kernel⟩
set_option maxRecDepth 100000 in
theorem pim_141 : Cond.instanceMethod (pMM.1 141) ∈ wsU := mt5 41 rfl
set_option maxRecDepth 100000 in
theorem psl_141 : Cond.selects (cN (pMM.2.2.2.2 141)) (pMM.1 141) (pMM.1 141) ∈ wsU := mt5 42 rfl
set_option maxRecDepth 100000 in
theorem pmk_142 : pmk pMM 142 1 := ⟨mt5 47 rfl, mt1 1 rfl, ⟨by decide +kernel, by decide +kernel, by decide +kernel⟩, by decide +kernel⟩
set_option maxRecDepth 100000 in
theorem pim_142 : Cond.instanceMethod (pMM.1 142) ∈ wsU := mt5 45 rfl
set_option maxRecDepth 100000 in
theorem psl_142 : Cond.selects (cN (pMM.2.2.2.2 142)) (pMM.1 142) (pMM.1 142) ∈ wsU := mt5 46 rfl
set_option maxRecDepth 100000 in
theorem pmk_143 : pmk pMM 143 0 := ⟨mt5 55 rfl, mt1 1 rfl, ⟨by decide +kernel, by decide +kernel, by decide +kernel⟩, by decide +kernel⟩
set_option maxRecDepth 100000 in
theorem pim_143 : Cond.instanceMethod (pMM.1 143) ∈ wsU := mt5 53 rfl
set_option maxRecDepth 100000 in
theorem psl_143 : Cond.selects (cN (pMM.2.2.2.2 143)) (pMM.1 143) (pMM.1 143) ∈ wsU := mt5 54 rfl
set_option maxRecDepth 100000 in
theorem pmk_144 : pmk pMM 144 0 := ⟨mt5 63 rfl, mt1 1 rfl, ⟨by decide +kernel, by decide +kernel, by decide +kernel⟩, by decide +kernel⟩
set_option maxRecDepth 100000 in
theorem pim_144 : Cond.instanceMethod (pMM.1 144) ∈ wsU := mt5 61 rfl
set_option maxRecDepth 100000 in
theorem psl_144 : Cond.selects (cN (pMM.2.2.2.2 144)) (pMM.1 144) (pMM.1 144) ∈ wsU := mt5 62 rfl
set_option maxRecDepth 100000 in
theorem pmk_145 : pmk pMM 145 0 := ⟨mt5 71 rfl, mt1 1 rfl, ⟨by decide +kernel, by decide +kernel, by decide +kernel⟩, by decide +kernel⟩
set_option maxRecDepth 100000 in
theorem pim_145 : Cond.instanceMethod (pMM.1 145) ∈ wsU := mt5 69 rfl
set_option maxRecDepth 100000 in
theorem psl_145 : Cond.selects (cN (pMM.2.2.2.2 145)) (pMM.1 145) (pMM.1 145) ∈ wsU := mt5 70 rfl
set_option maxRecDepth 100000 in
theorem pmk_146 : pmk pMM 146 0 := ⟨mt5 75 rfl, mt1 1 rfl, ⟨by decide +kernel, by decide +kernel, by decide +kernel⟩, by decide +kernel⟩
set_option maxRecDepth 100000 in
theorem pim_146 : Cond.instanceMethod (pMM.1 146) ∈ wsU := mt5 73 rfl
set_option maxRecDepth 100000 in
theorem psl_146 : Cond.selects (cN (pMM.2.2.2.2 146)) (pMM.1 146) (pMM.1 146) ∈ wsU := mt5 74 rfl
set_option maxRecDepth 100000 in
theorem pmk_147 : pmk pMM 147 1 := ⟨mt5 85 rfl, mt1 1 rfl, ⟨by decide +kernel, by decide +kernel, by decide +kernel⟩, by decide +kernel⟩
set_option maxRecDepth 100000 in
theorem pim_147 : Cond.instanceMethod (pMM.1 147) ∈ wsU := mt5 83 rfl
set_option maxRecDepth 100000 in
theorem psl_147 : Cond.selects (cN (pMM.2.2.2.2 147)) (pMM.1 147) (pMM.1 147) ∈ wsU := mt5 84 rfl
set_option maxRecDepth 100000 in
theorem pmk_148 : pmk pMM 148 1 := ⟨mt5 102 rfl, mt1 1 rfl, ⟨by decide +kernel, by decide +kernel, by decide +kernel⟩, by decide +kernel⟩
set_option maxRecDepth 100000 in
theorem pim_148 : Cond.instanceMethod (pMM.1 148) ∈ wsU := mt5 100 rfl
set_option maxRecDepth 100000 in
theorem psl_148 : Cond.selects (cN (pMM.2.2.2.2 148)) (pMM.1 148) (pMM.1 148) ∈ wsU := mt5 101 rfl
set_option maxRecDepth 100000 in
theorem pmk_149 : pmk pMM 149 0 := ⟨mt5 109 rfl, mt1 1 rfl, ⟨by decide +kernel, by decide +kernel, by decide +kernel⟩, by decide +kernel⟩
set_option maxRecDepth 100000 in
theorem pim_149 : Cond.instanceMethod (pMM.1 149) ∈ wsU := mt5 107 rfl
set_option maxRecDepth 100000 in
theorem psl_149 : Cond.selects (cN (pMM.2.2.2.2 149)) (pMM.1 149) (pMM.1 149) ∈ wsU := mt5 108 rfl
set_option maxRecDepth 100000 in
theorem pmk_150 : pmk pMM 150 1 := ⟨mt5 115 rfl, mt1 1 rfl, ⟨by decide +kernel, by decide +kernel, by decide +kernel⟩, by decide +kernel⟩
set_option maxRecDepth 100000 in
theorem pim_150 : Cond.instanceMethod (pMM.1 150) ∈ wsU := mt5 113 rfl
set_option maxRecDepth 100000 in
theorem psl_150 : Cond.selects (cN (pMM.2.2.2.2 150)) (pMM.1 150) (pMM.1 150) ∈ wsU := mt5 114 rfl
set_option maxRecDepth 100000 in
theorem pmk_151 : pmk pMM 151 0 := ⟨mt5 123 rfl, mt1 1 rfl, ⟨by decide +kernel, by decide +kernel, by decide +kernel⟩, by decide +kernel⟩
set_option maxRecDepth 100000 in
theorem pim_151 : Cond.instanceMethod (pMM.1 151) ∈ wsU := mt5 121 rfl
set_option maxRecDepth 100000 in
theorem psl_151 : Cond.selects (cN (pMM.2.2.2.2 151)) (pMM.1 151) (pMM.1 151) ∈ wsU := mt5 122 rfl
set_option maxRecDepth 100000 in
theorem pmk_152 : pmk pMM 152 1 := ⟨mt5 127 rfl, mt1 1 rfl, ⟨by decide +kernel, by decide +kernel, by decide +kernel⟩, by decide +kernel⟩
set_option maxRecDepth 100000 in
theorem pim_152 : Cond.instanceMethod (pMM.1 152) ∈ wsU := mt5 125 rfl
set_option maxRecDepth 100000 in
theorem psl_152 : Cond.selects (cN (pMM.2.2.2.2 152)) (pMM.1 152) (pMM.1 152) ∈ wsU := mt5 126 rfl
set_option maxRecDepth 100000 in
theorem pmk_153 : pmk pMM 153 1 := ⟨mt5 172 rfl, mt1 1 rfl, ⟨by decide +kernel, by decide +kernel, by decide +kernel⟩, by decide +kernel⟩
set_option maxRecDepth 100000 in
theorem pim_153 : Cond.instanceMethod (pMM.1 153) ∈ wsU := mt5 170 rfl
set_option maxRecDepth 100000 in
theorem psl_153 : Cond.selects (cN (pMM.2.2.2.2 153)) (pMM.1 153) (pMM.1 153) ∈ wsU := mt5 171 rfl
set_option maxRecDepth 100000 in
theorem pmk_154 : pmk pMM 154 1 := ⟨mt5 180 rfl, mt1 1 rfl, ⟨by decide +kernel, by decide +kernel, by decide +kernel⟩, by decide +kernel⟩
set_option maxRecDepth 100000 in
theorem pim_154 : Cond.instanceMethod (pMM.1 154) ∈ wsU := mt5 178 rfl
set_option maxRecDepth 100000 in
theorem psl_154 : Cond.selects (cN (pMM.2.2.2.2 154)) (pMM.1 154) (pMM.1 154) ∈ wsU := mt5 179 rfl
set_option maxRecDepth 100000 in
theorem pmk_155 : pmk pMM 155 1 := ⟨mt5 184 rfl, mt1 1 rfl, ⟨by decide +kernel, by decide +kernel, by decide +kernel⟩, by decide +kernel⟩
set_option maxRecDepth 100000 in
theorem pim_155 : Cond.instanceMethod (pMM.1 155) ∈ wsU := mt5 182 rfl
set_option maxRecDepth 100000 in
theorem psl_155 : Cond.selects (cN (pMM.2.2.2.2 155)) (pMM.1 155) (pMM.1 155) ∈ wsU := mt5 183 rfl
set_option maxRecDepth 100000 in
theorem pmk_156 : pmk pMM 156 1 := ⟨mt5 188 rfl, mt1 1 rfl, ⟨by decide +kernel, by decide +kernel, by decide +kernel⟩, by decide +kernel⟩
set_option maxRecDepth 100000 in
theorem pim_156 : Cond.instanceMethod (pMM.1 156) ∈ wsU := mt5 186 rfl
set_option maxRecDepth 100000 in
theorem psl_156 : Cond.selects (cN (pMM.2.2.2.2 156)) (pMM.1 156) (pMM.1 156) ∈ wsU := mt5 187 rfl
set_option maxRecDepth 100000 in
theorem pmk_157 : pmk pMM 157 1 := ⟨mt5 196 rfl, mt1 1 rfl, ⟨by decide +kernel, by decide +kernel, by decide +kernel⟩, by decide +kernel⟩
set_option maxRecDepth 100000 in
theorem pim_157 : Cond.instanceMethod (pMM.1 157) ∈ wsU := mt5 194 rfl
set_option maxRecDepth 100000 in
theorem psl_157 : Cond.selects (cN (pMM.2.2.2.2 157)) (pMM.1 157) (pMM.1 157) ∈ wsU := mt5 195 rfl
set_option maxRecDepth 100000 in
theorem pmk_158 : pmk pMM 158 0 := ⟨mt5 200 rfl, mt1 1 rfl, ⟨by decide +kernel, by decide +kernel, by decide +kernel⟩, by decide +kernel⟩
set_option maxRecDepth 100000 in
theorem pim_158 : Cond.instanceMethod (pMM.1 158) ∈ wsU := mt5 198 rfl
set_option maxRecDepth 100000 in
theorem psl_158 : Cond.selects (cN (pMM.2.2.2.2 158)) (pMM.1 158) (pMM.1 158) ∈ wsU := mt5 199 rfl
set_option maxRecDepth 100000 in
theorem pmk_159 : pmk pMM 159 2 := ⟨mt5 207 rfl, mt1 1 rfl, ⟨by decide +kernel, by decide +kernel, by decide +kernel⟩, by decide +kernel⟩
set_option maxRecDepth 100000 in
theorem pim_159 : Cond.instanceMethod (pMM.1 159) ∈ wsU := mt5 205 rfl
set_option maxRecDepth 100000 in
theorem psl_159 : Cond.selects (cN (pMM.2.2.2.2 159)) (pMM.1 159) (pMM.1 159) ∈ wsU := mt5 206 rfl
set_option maxRecDepth 100000 in
theorem pmk_160 : pmk pMM 160 4 := ⟨mt5 223 rfl, mt1 1 rfl, ⟨by decide +kernel, by decide +kernel, by decide +kernel⟩, by decide +kernel⟩
set_option maxRecDepth 100000 in
theorem pim_160 : Cond.instanceMethod (pMM.1 160) ∈ wsU := mt5 221 rfl
set_option maxRecDepth 100000 in
theorem psl_160 : Cond.selects (cN (pMM.2.2.2.2 160)) (pMM.1 160) (pMM.1 160) ∈ wsU := mt5 222 rfl
set_option maxRecDepth 100000 in
theorem pmk_161 : pmk pMM 161 2 := ⟨mt5 227 rfl, mt1 1 rfl, ⟨by decide +kernel, by decide +kernel, by decide +kernel⟩, by decide +kernel⟩
set_option maxRecDepth 100000 in
theorem pim_161 : Cond.instanceMethod (pMM.1 161) ∈ wsU := mt5 225 rfl
set_option maxRecDepth 100000 in
theorem psl_161 : Cond.selects (cN (pMM.2.2.2.2 161)) (pMM.1 161) (pMM.1 161) ∈ wsU := mt5 226 rfl
set_option maxRecDepth 100000 in
theorem pmk_162 : pmk pMM 162 2 := ⟨mt6 3 rfl, mt1 1 rfl, ⟨by decide +kernel, by decide +kernel, by decide +kernel⟩, by decide +kernel⟩
set_option maxRecDepth 100000 in
theorem pim_162 : Cond.instanceMethod (pMM.1 162) ∈ wsU := mt6 1 rfl
set_option maxRecDepth 100000 in
theorem psl_162 : Cond.selects (cN (pMM.2.2.2.2 162)) (pMM.1 162) (pMM.1 162) ∈ wsU := mt6 2 rfl
set_option maxRecDepth 100000 in
theorem pmk_163 : pmk pMM 163 0 := ⟨mt6 7 rfl, mt1 1 rfl, ⟨by decide +kernel, by decide +kernel, by decide +kernel⟩, by decide +kernel⟩
set_option maxRecDepth 100000 in
theorem pim_163 : Cond.instanceMethod (pMM.1 163) ∈ wsU := mt6 5 rfl
set_option maxRecDepth 100000 in
theorem psl_163 : Cond.selects (cN (pMM.2.2.2.2 163)) (pMM.1 163) (pMM.1 163) ∈ wsU := mt6 6 rfl
set_option maxRecDepth 100000 in
theorem pmk_164 : pmk pMM 164 2 := ⟨mt6 15 rfl, mt1 1 rfl, ⟨by decide +kernel, by decide +kernel, by decide +kernel⟩, by decide +kernel⟩
set_option maxRecDepth 100000 in
theorem pim_164 : Cond.instanceMethod (pMM.1 164) ∈ wsU := mt6 13 rfl
set_option maxRecDepth 100000 in
theorem psl_164 : Cond.selects (cN (pMM.2.2.2.2 164)) (pMM.1 164) (pMM.1 164) ∈ wsU := mt6 14 rfl
set_option maxRecDepth 100000 in
theorem pmk_165 : pmk pMM 165 1 := ⟨mt6 23 rfl, mt1 1 rfl, ⟨by decide +kernel, by decide +kernel, by decide +kernel⟩, by decide +kernel⟩
set_option maxRecDepth 100000 in
theorem pim_165 : Cond.instanceMethod (pMM.1 165) ∈ wsU := mt6 21 rfl
set_option maxRecDepth 100000 in
theorem psl_165 : Cond.selects (cN (pMM.2.2.2.2 165)) (pMM.1 165) (pMM.1 165) ∈ wsU := mt6 22 rfl
set_option maxRecDepth 100000 in
theorem pmk_166 : pmk pMM 166 0 := ⟨mt6 27 rfl, mt1 1 rfl, ⟨by decide +kernel, by decide +kernel, by decide +kernel⟩, by decide +kernel⟩
set_option maxRecDepth 100000 in
theorem pim_166 : Cond.instanceMethod (pMM.1 166) ∈ wsU := mt6 25 rfl
set_option maxRecDepth 100000 in
theorem psl_166 : Cond.selects (cN (pMM.2.2.2.2 166)) (pMM.1 166) (pMM.1 166) ∈ wsU := mt6 26 rfl
set_option maxRecDepth 100000 in
theorem pmk_167 : pmk pMM 167 0 := ⟨mt6 31 rfl, mt1 1 rfl, ⟨by decide +kernel, by decide +kernel, by decide +kernel⟩, by decide +kernel⟩
set_option maxRecDepth 100000 in
theorem pim_167 : Cond.instanceMethod (pMM.1 167) ∈ wsU := mt6 29 rfl
set_option maxRecDepth 100000 in
theorem psl_167 : Cond.selects (cN (pMM.2.2.2.2 167)) (pMM.1 167) (pMM.1 167) ∈ wsU := mt6 30 rfl
set_option maxRecDepth 100000 in
theorem pmk_168 : pmk pMM 168 2 := ⟨mt6 35 rfl, mt1 1 rfl, ⟨by decide +kernel, by decide +kernel, by decide +kernel⟩, by decide +kernel⟩
set_option maxRecDepth 100000 in
theorem pim_168 : Cond.instanceMethod (pMM.1 168) ∈ wsU := mt6 33 rfl
set_option maxRecDepth 100000 in
theorem psl_168 : Cond.selects (cN (pMM.2.2.2.2 168)) (pMM.1 168) (pMM.1 168) ∈ wsU := mt6 34 rfl
set_option maxRecDepth 100000 in
theorem pmk_169 : pmk pMM 169 3 := ⟨mt6 52 rfl, mt1 1 rfl, ⟨by decide +kernel, by decide +kernel, by decide +kernel⟩, by decide +kernel⟩
set_option maxRecDepth 100000 in
theorem pim_169 : Cond.instanceMethod (pMM.1 169) ∈ wsU := mt6 50 rfl
set_option maxRecDepth 100000 in
theorem psl_169 : Cond.selects (cN (pMM.2.2.2.2 169)) (pMM.1 169) (pMM.1 169) ∈ wsU := mt6 51 rfl
set_option maxRecDepth 100000 in
theorem pmk_170 : pmk pMM 170 2 := ⟨mt6 56 rfl, mt1 1 rfl, ⟨by decide +kernel, by decide +kernel, by decide +kernel⟩, by decide +kernel⟩
set_option maxRecDepth 100000 in
theorem pim_170 : Cond.instanceMethod (pMM.1 170) ∈ wsU := mt6 54 rfl
set_option maxRecDepth 100000 in
theorem psl_170 : Cond.selects (cN (pMM.2.2.2.2 170)) (pMM.1 170) (pMM.1 170) ∈ wsU := mt6 55 rfl
set_option maxRecDepth 100000 in
theorem pmk_171 : pmk pMM 171 1 := ⟨mt6 60 rfl, mt1 1 rfl, ⟨by decide +kernel, by decide +kernel, by decide +kernel⟩, by decide +kernel⟩
set_option maxRecDepth 100000 in
theorem pim_171 : Cond.instanceMethod (pMM.1 171) ∈ wsU := mt6 58 rfl
set_option maxRecDepth 100000 in
theorem psl_171 : Cond.selects (cN (pMM.2.2.2.2 171)) (pMM.1 171) (pMM.1 171) ∈ wsU := mt6 59 rfl
set_option maxRecDepth 100000 in
theorem pmk_172 : pmk pMM 172 1 := ⟨mt6 68 rfl, mt1 1 rfl, ⟨by decide +kernel, by decide +kernel, by decide +kernel⟩, by decide +kernel⟩
set_option maxRecDepth 100000 in
theorem pim_172 : Cond.instanceMethod (pMM.1 172) ∈ wsU := mt6 66 rfl
set_option maxRecDepth 100000 in
theorem psl_172 : Cond.selects (cN (pMM.2.2.2.2 172)) (pMM.1 172) (pMM.1 172) ∈ wsU := mt6 67 rfl
set_option maxRecDepth 100000 in
theorem pmk_173 : pmk pMM 173 1 := ⟨mt6 77 rfl, mt1 1 rfl, ⟨by decide +kernel, by decide +kernel, by decide +kernel⟩, by decide +kernel⟩
set_option maxRecDepth 100000 in
theorem pim_173 : Cond.instanceMethod (pMM.1 173) ∈ wsU := mt6 75 rfl
set_option maxRecDepth 100000 in
theorem psl_173 : Cond.selects (cN (pMM.2.2.2.2 173)) (pMM.1 173) (pMM.1 173) ∈ wsU := mt6 76 rfl
set_option maxRecDepth 100000 in
theorem pmk_174 : pmk pMM 174 3 := ⟨mt6 81 rfl, mt1 1 rfl, ⟨by decide +kernel, by decide +kernel, by decide +kernel⟩, by decide +kernel⟩
set_option maxRecDepth 100000 in
theorem pim_174 : Cond.instanceMethod (pMM.1 174) ∈ wsU := mt6 79 rfl
set_option maxRecDepth 100000 in
theorem psl_174 : Cond.selects (cN (pMM.2.2.2.2 174)) (pMM.1 174) (pMM.1 174) ∈ wsU := mt6 80 rfl
set_option maxRecDepth 100000 in
theorem pmk_175 : pmk pMM 175 3 := ⟨mt6 89 rfl, mt1 1 rfl, ⟨by decide +kernel, by decide +kernel, by decide +kernel⟩, by decide +kernel⟩
set_option maxRecDepth 100000 in
theorem pim_175 : Cond.instanceMethod (pMM.1 175) ∈ wsU := mt6 87 rfl
set_option maxRecDepth 100000 in
theorem psl_175 : Cond.selects (cN (pMM.2.2.2.2 175)) (pMM.1 175) (pMM.1 175) ∈ wsU := mt6 88 rfl
set_option maxRecDepth 100000 in
theorem pmk_176 : pmk pMM 176 5 := ⟨mt6 97 rfl, mt1 1 rfl, ⟨by decide +kernel, by decide +kernel, by decide +kernel⟩, by decide +kernel⟩
set_option maxRecDepth 100000 in
theorem pim_176 : Cond.instanceMethod (pMM.1 176) ∈ wsU := mt6 95 rfl
set_option maxRecDepth 100000 in
theorem psl_176 : Cond.selects (cN (pMM.2.2.2.2 176)) (pMM.1 176) (pMM.1 176) ∈ wsU := mt6 96 rfl
set_option maxRecDepth 100000 in
theorem pmk_177 : pmk pMM 177 0 := ⟨mt3 155 rfl, mt1 1 rfl, ⟨by decide +kernel, by decide +kernel, by decide +kernel⟩, by decide +kernel⟩
set_option maxRecDepth 100000 in
theorem pim_177 : Cond.instanceMethod (pMM.1 177) ∈ wsU := mt3 154 rfl
set_option maxRecDepth 100000 in
theorem psl_177 : Cond.selects (cN (pMM.2.2.2.2 177)) (pMM.1 177) (pMM.1 177) ∈ wsU := mp1 (q := (⟨"LampRounds", "hasHouse", "()Z"⟩, 10)) 15 rfl
set_option maxRecDepth 100000 in
theorem pmk_178 : pmk pMM 178 1 := ⟨mt3 132 rfl, mt1 1 rfl, ⟨by decide +kernel, by decide +kernel, by decide +kernel⟩, by decide +kernel⟩
set_option maxRecDepth 100000 in
theorem pim_178 : Cond.instanceMethod (pMM.1 178) ∈ wsU := mt3 131 rfl
set_option maxRecDepth 100000 in
theorem psl_178 : Cond.selects (cN (pMM.2.2.2.2 178)) (pMM.1 178) (pMM.1 178) ∈ wsU := mp1 (q := (⟨"LampRounds", "isRoom", "(I)Z"⟩, 10)) 14 rfl
set_option maxRecDepth 100000 in
theorem pmk_179 : pmk pMM 179 2 := ⟨mt5 211 rfl, mt1 1 rfl, ⟨by decide +kernel, by decide +kernel, by decide +kernel⟩, by decide +kernel⟩
set_option maxRecDepth 100000 in
theorem pim_179 : Cond.instanceMethod (pMM.1 179) ∈ wsU := mt5 210 rfl
set_option maxRecDepth 100000 in
theorem psl_179 : Cond.selects (cN (pMM.2.2.2.2 179)) (pMM.1 179) (pMM.1 179) ∈ wsU := mp4 (q := (⟨"LampRounds", "arePair", "(II)Z"⟩, 10)) 2 rfl
set_option maxRecDepth 100000 in
theorem pmk_180 : pmk pMM 180 1 := ⟨mt3 167 rfl, mt1 1 rfl, ⟨by decide +kernel, by decide +kernel, by decide +kernel⟩, by decide +kernel⟩
set_option maxRecDepth 100000 in
theorem pim_180 : Cond.instanceMethod (pMM.1 180) ∈ wsU := mt3 166 rfl
set_option maxRecDepth 100000 in
theorem psl_180 : Cond.selects (cN (pMM.2.2.2.2 180)) (pMM.1 180) (pMM.1 180) ∈ wsU := mp2 (q := (⟨"LampRounds", "isMinute", "(I)Z"⟩, 10)) 1 rfl
set_option maxRecDepth 100000 in
theorem pmk_181 : pmk pMM 181 1 := ⟨mt3 163 rfl, mt1 1 rfl, ⟨by decide +kernel, by decide +kernel, by decide +kernel⟩, by decide +kernel⟩
set_option maxRecDepth 100000 in
theorem pim_181 : Cond.instanceMethod (pMM.1 181) ∈ wsU := mt3 162 rfl
set_option maxRecDepth 100000 in
theorem psl_181 : Cond.selects (cN (pMM.2.2.2.2 181)) (pMM.1 181) (pMM.1 181) ∈ wsU := mp2 (q := (⟨"LampRounds", "isMode", "(I)Z"⟩, 10)) 0 rfl
set_option maxRecDepth 100000 in
theorem pmk_182 : pmk pMM 182 1 := ⟨mt3 135 rfl, mt1 1 rfl, ⟨by decide +kernel, by decide +kernel, by decide +kernel⟩, by decide +kernel⟩
set_option maxRecDepth 100000 in
theorem pst_182 : Cond.static (pMM.1 182) ∈ wsU := mt3 134 rfl
set_option maxRecDepth 100000 in
theorem pmk_183 : pmk pMM 183 1 := ⟨mt6 38 rfl, mt1 1 rfl, ⟨by decide +kernel, by decide +kernel, by decide +kernel⟩, by decide +kernel⟩
set_option maxRecDepth 100000 in
theorem pst_183 : Cond.static (pMM.1 183) ∈ wsU := mt6 37 rfl
set_option maxRecDepth 100000 in
theorem pmk_184 : pmk pMM 184 1 := ⟨mt5 134 rfl, mt1 1 rfl, ⟨by decide +kernel, by decide +kernel, by decide +kernel⟩, by decide +kernel⟩
set_option maxRecDepth 100000 in
theorem pst_184 : Cond.static (pMM.1 184) ∈ wsU := mt5 133 rfl
set_option maxRecDepth 100000 in
theorem pmk_185 : pmk pMM 185 0 := ⟨mt6 64 rfl, mt1 1 rfl, ⟨by decide +kernel, by decide +kernel, by decide +kernel⟩, by decide +kernel⟩
set_option maxRecDepth 100000 in
theorem pim_185 : Cond.instanceMethod (pMM.1 185) ∈ wsU := mt6 63 rfl
set_option maxRecDepth 100000 in
theorem psl_185 : Cond.selects (cN (pMM.2.2.2.2 185)) (pMM.1 185) (pMM.1 185) ∈ wsU := mp4 (q := (⟨"LampRounds", "rowsKept", "()I"⟩, 10)) 6 rfl
set_option maxRecDepth 100000 in
theorem pmk_186 : pmk pMM 186 0 := ⟨mt3 112 rfl, mt1 1 rfl, ⟨by decide +kernel, by decide +kernel, by decide +kernel⟩, by decide +kernel⟩
set_option maxRecDepth 100000 in
theorem pim_186 : Cond.instanceMethod (pMM.1 186) ∈ wsU := mt3 111 rfl
set_option maxRecDepth 100000 in
theorem psl_186 : Cond.selects (cN (pMM.2.2.2.2 186)) (pMM.1 186) (pMM.1 186) ∈ wsU := mp1 (q := (⟨"LampRounds", "forgetFindings", "()V"⟩, 10)) 13 rfl
set_option maxRecDepth 100000 in
theorem pmk_187 : pmk pMM 187 0 := ⟨mt4 98 rfl, mt1 1 rfl, ⟨by decide +kernel, by decide +kernel, by decide +kernel⟩, by decide +kernel⟩
set_option maxRecDepth 100000 in
theorem pim_187 : Cond.instanceMethod (pMM.1 187) ∈ wsU := mt4 97 rfl
set_option maxRecDepth 100000 in
theorem psl_187 : Cond.selects (cN (pMM.2.2.2.2 187)) (pMM.1 187) (pMM.1 187) ∈ wsU := mp2 (q := (⟨"LampRounds", "findings", "()LLampRounds$Keeper;"⟩, 10)) 7 rfl
set_option maxRecDepth 100000 in
theorem pmk_188 : pmk pMM 188 2 := ⟨mt4 209 rfl, mt1 1 rfl, ⟨by decide +kernel, by decide +kernel, by decide +kernel⟩, by decide +kernel⟩
set_option maxRecDepth 100000 in
theorem pst_188 : Cond.static (pMM.1 188) ∈ wsU := mt4 208 rfl
set_option maxRecDepth 100000 in
theorem pmk_189 : pmk pMM 189 0 := ⟨mt5 67 rfl, mt1 1 rfl, ⟨by decide +kernel, by decide +kernel, by decide +kernel⟩, by decide +kernel⟩
set_option maxRecDepth 100000 in
theorem pim_189 : Cond.instanceMethod (pMM.1 189) ∈ wsU := mt5 66 rfl
set_option maxRecDepth 100000 in
theorem psl_189 : Cond.selects (cN (pMM.2.2.2.2 189)) (pMM.1 189) (pMM.1 189) ∈ wsU := mp3 (q := (⟨"LampRounds", "bestKeptSet", "()I"⟩, 10)) 10 rfl
set_option maxRecDepth 100000 in
theorem pmk_190 : pmk pMM 190 1 := ⟨mt5 119 rfl, mt1 1 rfl, ⟨by decide +kernel, by decide +kernel, by decide +kernel⟩, by decide +kernel⟩
set_option maxRecDepth 100000 in
theorem pim_190 : Cond.instanceMethod (pMM.1 190) ∈ wsU := mt5 118 rfl
set_option maxRecDepth 100000 in
theorem psl_190 : Cond.selects (cN (pMM.2.2.2.2 190)) (pMM.1 190) (pMM.1 190) ∈ wsU := mp3 (q := (⟨"LampRounds", "leastShare", "(I)I"⟩, 10)) 12 rfl
set_option maxRecDepth 100000 in
theorem pmk_191 : pmk pMM 191 1 := ⟨mt3 171 rfl, mt1 1 rfl, ⟨by decide +kernel, by decide +kernel, by decide +kernel⟩, by decide +kernel⟩
set_option maxRecDepth 100000 in
theorem pim_191 : Cond.instanceMethod (pMM.1 191) ∈ wsU := mt3 170 rfl
set_option maxRecDepth 100000 in
theorem psl_191 : Cond.selects (cN (pMM.2.2.2.2 191)) (pMM.1 191) (pMM.1 191) ∈ wsU := mp2 (q := (⟨"LampRounds", "tonight", "(I)LLampRounds$Night;"⟩, 10)) 2 rfl
set_option maxRecDepth 100000 in
theorem pmk_192 : pmk pMM 192 1 := ⟨mt5 192 rfl, mt1 1 rfl, ⟨by decide +kernel, by decide +kernel, by decide +kernel⟩, by decide +kernel⟩
set_option maxRecDepth 100000 in
theorem pim_192 : Cond.instanceMethod (pMM.1 192) ∈ wsU := mt5 191 rfl
set_option maxRecDepth 100000 in
theorem psl_192 : Cond.selects (cN (pMM.2.2.2.2 192)) (pMM.1 192) (pMM.1 192) ∈ wsU := mp4 (q := (⟨"LampRounds", "nightByLaw", "(I)LLampRounds$Night;"⟩, 10)) 1 rfl
set_option maxRecDepth 100000 in
theorem pmk_193 : pmk pMM 193 1 := ⟨mt5 231 rfl, mt1 1 rfl, ⟨by decide +kernel, by decide +kernel, by decide +kernel⟩, by decide +kernel⟩
set_option maxRecDepth 100000 in
theorem pim_193 : Cond.instanceMethod (pMM.1 193) ∈ wsU := mt5 230 rfl
set_option maxRecDepth 100000 in
theorem psl_193 : Cond.selects (cN (pMM.2.2.2.2 193)) (pMM.1 193) (pMM.1 193) ∈ wsU := mp4 (q := (⟨"LampRounds", "nightOf", "(I)LLampRounds$Night;"⟩, 10)) 4 rfl
set_option maxRecDepth 100000 in
theorem pmk_194 : pmk pMM 194 2 := ⟨mt6 11 rfl, mt1 1 rfl, ⟨by decide +kernel, by decide +kernel, by decide +kernel⟩, by decide +kernel⟩
set_option maxRecDepth 100000 in
theorem pim_194 : Cond.instanceMethod (pMM.1 194) ∈ wsU := mt6 10 rfl
set_option maxRecDepth 100000 in
theorem psl_194 : Cond.selects (cN (pMM.2.2.2.2 194)) (pMM.1 194) (pMM.1 194) ∈ wsU := mp4 (q := (⟨"LampRounds", "nightWithGuest", "(II)LLampRounds$Night;"⟩, 10)) 5 rfl
set_option maxRecDepth 100000 in
theorem pmk_195 : pmk pMM 195 4 := ⟨mt5 215 rfl, mt1 1 rfl, ⟨by decide +kernel, by decide +kernel, by decide +kernel⟩, by decide +kernel⟩
set_option maxRecDepth 100000 in
theorem pim_195 : Cond.instanceMethod (pMM.1 195) ∈ wsU := mt5 214 rfl
set_option maxRecDepth 100000 in
theorem psl_195 : Cond.selects (cN (pMM.2.2.2.2 195)) (pMM.1 195) (pMM.1 195) ∈ wsU := mp4 (q := (⟨"LampRounds", "getting", "(IIII)I"⟩, 10)) 3 rfl
set_option maxRecDepth 100000 in
theorem pmk_196 : pmk pMM 196 1 := ⟨mt5 203 rfl, mt1 1 rfl, ⟨by decide +kernel, by decide +kernel, by decide +kernel⟩, by decide +kernel⟩
set_option maxRecDepth 100000 in
theorem pst_196 : Cond.static (pMM.1 196) ∈ wsU := mt5 202 rfl
set_option maxRecDepth 100000 in
theorem pmk_197 : pmk pMM 197 3 := ⟨mt5 105 rfl, mt1 1 rfl, ⟨by decide +kernel, by decide +kernel, by decide +kernel⟩, by decide +kernel⟩
set_option maxRecDepth 100000 in
theorem pst_197 : Cond.static (pMM.1 197) ∈ wsU := mt5 104 rfl
set_option maxRecDepth 100000 in
theorem pmk_198 : pmk pMM 198 1 := ⟨mt5 131 rfl, mt1 1 rfl, ⟨by decide +kernel, by decide +kernel, by decide +kernel⟩, by decide +kernel⟩
set_option maxRecDepth 100000 in
theorem pim_198 : Cond.instanceMethod (pMM.1 198) ∈ wsU := mt5 130 rfl
set_option maxRecDepth 100000 in
theorem psl_198 : Cond.selects (cN (pMM.2.2.2.2 198)) (pMM.1 198) (pMM.1 198) ∈ wsU := mp3 (q := (⟨"LampRounds", "refusalOf", "(I)I"⟩, 10)) 13 rfl
set_option maxRecDepth 100000 in
theorem pmk_199 : pmk pMM 199 1 := ⟨mt5 142 rfl, mt1 1 rfl, ⟨by decide +kernel, by decide +kernel, by decide +kernel⟩, by decide +kernel⟩
set_option maxRecDepth 100000 in
theorem pim_199 : Cond.instanceMethod (pMM.1 199) ∈ wsU := mt5 141 rfl
set_option maxRecDepth 100000 in
theorem psl_199 : Cond.selects (cN (pMM.2.2.2.2 199)) (pMM.1 199) (pMM.1 199) ∈ wsU := mp3 (q := (⟨"LampRounds", "cluesOf", "(I)LLampRounds$Clues;"⟩, 10)) 14 rfl
set_option maxRecDepth 100000 in
theorem pmk_200 : pmk pMM 200 0 := ⟨mt6 107 rfl, mt1 12 rfl, ⟨by decide +kernel, by decide +kernel, by decide +kernel⟩, by decide +kernel⟩
set_option maxRecDepth 100000 in
theorem pim_200 : Cond.instanceMethod (pMM.1 200) ∈ wsU := mt6 106 rfl
set_option maxRecDepth 100000 in
theorem pmk_201 : pmk pMM 201 3 := ⟨mt7 16 rfl, mt1 12 rfl, ⟨by decide +kernel, by decide +kernel, by decide +kernel⟩, by decide +kernel⟩
set_option maxRecDepth 100000 in
theorem pst_201 : Cond.static (pMM.1 201) ∈ wsU := mt7 15 rfl
set_option maxRecDepth 100000 in
theorem pmk_202 : pmk pMM 202 1 := ⟨mt7 12 rfl, mt1 12 rfl, ⟨by decide +kernel, by decide +kernel, by decide +kernel⟩, by decide +kernel⟩
set_option maxRecDepth 100000 in
theorem pst_202 : Cond.static (pMM.1 202) ∈ wsU := mt7 11 rfl
set_option maxRecDepth 100000 in
theorem pmk_203 : pmk pMM 203 3 := ⟨mt7 9 rfl, mt1 12 rfl, ⟨by decide +kernel, by decide +kernel, by decide +kernel⟩, by decide +kernel⟩
set_option maxRecDepth 100000 in
theorem pim_203 : Cond.instanceMethod (pMM.1 203) ∈ wsU := mt7 7 rfl
set_option maxRecDepth 100000 in
theorem psl_203 : Cond.selects (cN (pMM.2.2.2.2 203)) (pMM.1 203) (pMM.1 203) ∈ wsU := mt7 8 rfl
set_option maxRecDepth 100000 in
theorem pmk_204 : pmk pMM 204 2 := ⟨mt7 23 rfl, mt1 12 rfl, ⟨by decide +kernel, by decide +kernel, by decide +kernel⟩, by decide +kernel⟩
set_option maxRecDepth 100000 in
theorem pst_204 : Cond.static (pMM.1 204) ∈ wsU := mt7 22 rfl
set_option maxRecDepth 100000 in
theorem pmk_205 : pmk pMM 205 3 := ⟨mt7 20 rfl, mt1 12 rfl, ⟨by decide +kernel, by decide +kernel, by decide +kernel⟩, by decide +kernel⟩
set_option maxRecDepth 100000 in
theorem pim_205 : Cond.instanceMethod (pMM.1 205) ∈ wsU := mt7 18 rfl
set_option maxRecDepth 100000 in
theorem psl_205 : Cond.selects (cN (pMM.2.2.2.2 205)) (pMM.1 205) (pMM.1 205) ∈ wsU := mt7 19 rfl
set_option maxRecDepth 100000 in
theorem pmk_206 : pmk pMM 206 5 := ⟨mt7 27 rfl, mt1 12 rfl, ⟨by decide +kernel, by decide +kernel, by decide +kernel⟩, by decide +kernel⟩
set_option maxRecDepth 100000 in
theorem pim_206 : Cond.instanceMethod (pMM.1 206) ∈ wsU := mt7 25 rfl
set_option maxRecDepth 100000 in
theorem psl_206 : Cond.selects (cN (pMM.2.2.2.2 206)) (pMM.1 206) (pMM.1 206) ∈ wsU := mt7 26 rfl
set_option maxRecDepth 100000 in
theorem pmk_207 : pmk pMM 207 5 := ⟨mt7 31 rfl, mt1 12 rfl, ⟨by decide +kernel, by decide +kernel, by decide +kernel⟩, by decide +kernel⟩
set_option maxRecDepth 100000 in
theorem pim_207 : Cond.instanceMethod (pMM.1 207) ∈ wsU := mt7 29 rfl
set_option maxRecDepth 100000 in
theorem psl_207 : Cond.selects (cN (pMM.2.2.2.2 207)) (pMM.1 207) (pMM.1 207) ∈ wsU := mt7 30 rfl
set_option maxRecDepth 100000 in
theorem pmk_208 : pmk pMM 208 1 := ⟨mt7 35 rfl, mt1 12 rfl, ⟨by decide +kernel, by decide +kernel, by decide +kernel⟩, by decide +kernel⟩
set_option maxRecDepth 100000 in
theorem pim_208 : Cond.instanceMethod (pMM.1 208) ∈ wsU := mt7 34 rfl
set_option maxRecDepth 100000 in
theorem psl_208 : Cond.selects (cN (pMM.2.2.2.2 208)) (pMM.1 208) (pMM.1 208) ∈ wsU := mp4 (q := (⟨"LampRoundsModel", "four", "(I)V"⟩, 45)) 7 rfl
set_option maxRecDepth 100000 in
theorem pmk_209 : pmk pMM 209 1 := ⟨mt7 39 rfl, mt1 12 rfl, ⟨by decide +kernel, by decide +kernel, by decide +kernel⟩, by decide +kernel⟩
set_option maxRecDepth 100000 in
theorem pim_209 : Cond.instanceMethod (pMM.1 209) ∈ wsU := mt7 37 rfl
set_option maxRecDepth 100000 in
theorem psl_209 : Cond.selects (cN (pMM.2.2.2.2 209)) (pMM.1 209) (pMM.1 209) ∈ wsU := mt7 38 rfl
set_option maxRecDepth 100000 in
theorem pmk_210 : pmk pMM 210 3 := ⟨mt7 67 rfl, mt1 12 rfl, ⟨by decide +kernel, by decide +kernel, by decide +kernel⟩, by decide +kernel⟩
set_option maxRecDepth 100000 in
theorem pim_210 : Cond.instanceMethod (pMM.1 210) ∈ wsU := mt7 66 rfl
set_option maxRecDepth 100000 in
theorem psl_210 : Cond.selects (cN (pMM.2.2.2.2 210)) (pMM.1 210) (pMM.1 210) ∈ wsU := mp4 (q := (⟨"LampRoundsModel", "isByte", "(III)Z"⟩, 45)) 12 rfl
set_option maxRecDepth 100000 in
theorem pmk_211 : pmk pMM 211 0 := ⟨mt7 63 rfl, mt1 12 rfl, ⟨by decide +kernel, by decide +kernel, by decide +kernel⟩, by decide +kernel⟩
set_option maxRecDepth 100000 in
theorem pim_211 : Cond.instanceMethod (pMM.1 211) ∈ wsU := mt7 62 rfl
set_option maxRecDepth 100000 in
theorem psl_211 : Cond.selects (cN (pMM.2.2.2.2 211)) (pMM.1 211) (pMM.1 211) ∈ wsU := mp4 (q := (⟨"LampRoundsModel", "follows", "()V"⟩, 45)) 11 rfl
set_option maxRecDepth 100000 in
theorem pmk_212 : pmk pMM 212 0 := ⟨mt7 76 rfl, mt1 12 rfl, ⟨by decide +kernel, by decide +kernel, by decide +kernel⟩, by decide +kernel⟩
set_option maxRecDepth 100000 in
theorem pim_212 : Cond.instanceMethod (pMM.1 212) ∈ wsU := mt7 75 rfl
set_option maxRecDepth 100000 in
theorem psl_212 : Cond.selects (cN (pMM.2.2.2.2 212)) (pMM.1 212) (pMM.1 212) ∈ wsU := mp4 (q := (⟨"LampRoundsModel", "isGood", "()Z"⟩, 45)) 13 rfl
set_option maxRecDepth 100000 in
theorem pmk_213 : pmk pMM 213 1 := ⟨mt7 93 rfl, mt1 12 rfl, ⟨by decide +kernel, by decide +kernel, by decide +kernel⟩, by decide +kernel⟩
set_option maxRecDepth 100000 in
theorem pim_213 : Cond.instanceMethod (pMM.1 213) ∈ wsU := mt7 92 rfl
set_option maxRecDepth 100000 in
theorem psl_213 : Cond.selects (cN (pMM.2.2.2.2 213)) (pMM.1 213) (pMM.1 213) ∈ wsU := mp5 (q := (⟨"LampRoundsModel", "fails", "(I)V"⟩, 45)) 1 rfl
set_option maxRecDepth 100000 in
theorem pmk_214 : pmk pMM 214 1 := ⟨mt7 89 rfl, mt1 12 rfl, ⟨by decide +kernel, by decide +kernel, by decide +kernel⟩, by decide +kernel⟩
set_option maxRecDepth 100000 in
theorem pim_214 : Cond.instanceMethod (pMM.1 214) ∈ wsU := mt7 88 rfl
set_option maxRecDepth 100000 in
theorem psl_214 : Cond.selects (cN (pMM.2.2.2.2 214)) (pMM.1 214) (pMM.1 214) ∈ wsU := mp5 (q := (⟨"LampRoundsModel", "is", "(J)Z"⟩, 45)) 0 rfl
set_option maxRecDepth 100000 in
theorem pmk_215 : pmk pMM 215 1 := ⟨mt7 85 rfl, mt1 12 rfl, ⟨by decide +kernel, by decide +kernel, by decide +kernel⟩, by decide +kernel⟩
set_option maxRecDepth 100000 in
theorem pim_215 : Cond.instanceMethod (pMM.1 215) ∈ wsU := mt7 84 rfl
set_option maxRecDepth 100000 in
theorem psl_215 : Cond.selects (cN (pMM.2.2.2.2 215)) (pMM.1 215) (pMM.1 215) ∈ wsU := mp4 (q := (⟨"LampRoundsModel", "takes", "(J)Z"⟩, 45)) 15 rfl
set_option maxRecDepth 100000 in
theorem pmk_216 : pmk pMM 216 1 := ⟨mt7 81 rfl, mt1 12 rfl, ⟨by decide +kernel, by decide +kernel, by decide +kernel⟩, by decide +kernel⟩
set_option maxRecDepth 100000 in
theorem pim_216 : Cond.instanceMethod (pMM.1 216) ∈ wsU := mt7 80 rfl
set_option maxRecDepth 100000 in
theorem psl_216 : Cond.selects (cN (pMM.2.2.2.2 216)) (pMM.1 216) (pMM.1 216) ∈ wsU := mp4 (q := (⟨"LampRoundsModel", "asks", "(J)V"⟩, 45)) 14 rfl
set_option maxRecDepth 100000 in
theorem pmk_217 : pmk pMM 217 2 := ⟨mt7 102 rfl, mt1 12 rfl, ⟨by decide +kernel, by decide +kernel, by decide +kernel⟩, by decide +kernel⟩
set_option maxRecDepth 100000 in
theorem pim_217 : Cond.instanceMethod (pMM.1 217) ∈ wsU := mt7 101 rfl
set_option maxRecDepth 100000 in
theorem psl_217 : Cond.selects (cN (pMM.2.2.2.2 217)) (pMM.1 217) (pMM.1 217) ∈ wsU := mp5 (q := (⟨"LampRoundsModel", "number", "(II)I"⟩, 45)) 3 rfl
set_option maxRecDepth 100000 in
theorem pmk_218 : pmk pMM 218 3 := ⟨mt7 98 rfl, mt1 12 rfl, ⟨by decide +kernel, by decide +kernel, by decide +kernel⟩, by decide +kernel⟩
set_option maxRecDepth 100000 in
theorem pim_218 : Cond.instanceMethod (pMM.1 218) ∈ wsU := mt7 97 rfl
set_option maxRecDepth 100000 in
theorem psl_218 : Cond.selects (cN (pMM.2.2.2.2 218)) (pMM.1 218) (pMM.1 218) ∈ wsU := mp5 (q := (⟨"LampRoundsModel", "number", "(JII)I"⟩, 45)) 2 rfl
set_option maxRecDepth 100000 in
theorem pmk_219 : pmk pMM 219 0 := ⟨mt7 148 rfl, mt1 12 rfl, ⟨by decide +kernel, by decide +kernel, by decide +kernel⟩, by decide +kernel⟩
set_option maxRecDepth 100000 in
theorem pim_219 : Cond.instanceMethod (pMM.1 219) ∈ wsU := mt7 147 rfl
set_option maxRecDepth 100000 in
theorem psl_219 : Cond.selects (cN (pMM.2.2.2.2 219)) (pMM.1 219) (pMM.1 219) ∈ wsU := mp5 (q := (⟨"LampRoundsModel", "ends", "()V"⟩, 45)) 12 rfl
set_option maxRecDepth 100000 in
theorem pmk_220 : pmk pMM 220 0 := ⟨mt7 59 rfl, mt1 12 rfl, ⟨by decide +kernel, by decide +kernel, by decide +kernel⟩, by decide +kernel⟩
set_option maxRecDepth 100000 in
theorem pim_220 : Cond.instanceMethod (pMM.1 220) ∈ wsU := mt7 58 rfl
set_option maxRecDepth 100000 in
theorem psl_220 : Cond.selects (cN (pMM.2.2.2.2 220)) (pMM.1 220) (pMM.1 220) ∈ wsU := mp4 (q := (⟨"LampRoundsModel", "begins", "()V"⟩, 45)) 10 rfl
set_option maxRecDepth 100000 in
theorem pmk_221 : pmk pMM 221 0 := ⟨mt7 152 rfl, mt1 12 rfl, ⟨by decide +kernel, by decide +kernel, by decide +kernel⟩, by decide +kernel⟩
set_option maxRecDepth 100000 in
theorem pim_221 : Cond.instanceMethod (pMM.1 221) ∈ wsU := mt7 151 rfl
set_option maxRecDepth 100000 in
theorem psl_221 : Cond.selects (cN (pMM.2.2.2.2 221)) (pMM.1 221) (pMM.1 221) ∈ wsU := mp5 (q := (⟨"LampRoundsModel", "isOver", "()V"⟩, 45)) 13 rfl
set_option maxRecDepth 100000 in
theorem pmk_222 : pmk pMM 222 1 := ⟨mt7 43 rfl, mt1 12 rfl, ⟨by decide +kernel, by decide +kernel, by decide +kernel⟩, by decide +kernel⟩
set_option maxRecDepth 100000 in
theorem pim_222 : Cond.instanceMethod (pMM.1 222) ∈ wsU := mt7 41 rfl
set_option maxRecDepth 100000 in
theorem psl_222 : Cond.selects (cN (pMM.2.2.2.2 222)) (pMM.1 222) (pMM.1 222) ∈ wsU := mt7 42 rfl
set_option maxRecDepth 100000 in
theorem pmk_223 : pmk pMM 223 1 := ⟨mt7 117 rfl, mt1 12 rfl, ⟨by decide +kernel, by decide +kernel, by decide +kernel⟩, by decide +kernel⟩
set_option maxRecDepth 100000 in
theorem pim_223 : Cond.instanceMethod (pMM.1 223) ∈ wsU := mt7 116 rfl
set_option maxRecDepth 100000 in
theorem psl_223 : Cond.selects (cN (pMM.2.2.2.2 223)) (pMM.1 223) (pMM.1 223) ∈ wsU := mp5 (q := (⟨"LampRoundsModel", "hasRead", "(I)I"⟩, 45)) 6 rfl
set_option maxRecDepth 100000 in
theorem pmk_224 : pmk pMM 224 2 := ⟨mt7 55 rfl, mt1 12 rfl, ⟨by decide +kernel, by decide +kernel, by decide +kernel⟩, by decide +kernel⟩
set_option maxRecDepth 100000 in
theorem pim_224 : Cond.instanceMethod (pMM.1 224) ∈ wsU := mt7 54 rfl
set_option maxRecDepth 100000 in
theorem psl_224 : Cond.selects (cN (pMM.2.2.2.2 224)) (pMM.1 224) (pMM.1 224) ∈ wsU := mp4 (q := (⟨"LampRoundsModel", "tells", "(II)V"⟩, 45)) 9 rfl
set_option maxRecDepth 100000 in
theorem pmk_225 : pmk pMM 225 0 := ⟨mt7 132 rfl, mt1 12 rfl, ⟨by decide +kernel, by decide +kernel, by decide +kernel⟩, by decide +kernel⟩
set_option maxRecDepth 100000 in
theorem pim_225 : Cond.instanceMethod (pMM.1 225) ∈ wsU := mt7 131 rfl
set_option maxRecDepth 100000 in
theorem psl_225 : Cond.selects (cN (pMM.2.2.2.2 225)) (pMM.1 225) (pMM.1 225) ∈ wsU := mp5 (q := (⟨"LampRoundsModel", "roomHere", "()I"⟩, 45)) 9 rfl
set_option maxRecDepth 100000 in
theorem pmk_226 : pmk pMM 226 0 := ⟨mt7 121 rfl, mt1 12 rfl, ⟨by decide +kernel, by decide +kernel, by decide +kernel⟩, by decide +kernel⟩
set_option maxRecDepth 100000 in
theorem pim_226 : Cond.instanceMethod (pMM.1 226) ∈ wsU := mt7 120 rfl
set_option maxRecDepth 100000 in
theorem psl_226 : Cond.selects (cN (pMM.2.2.2.2 226)) (pMM.1 226) (pMM.1 226) ∈ wsU := mp5 (q := (⟨"LampRoundsModel", "roomLine", "()V"⟩, 45)) 7 rfl
set_option maxRecDepth 100000 in
theorem pmk_227 : pmk pMM 227 0 := ⟨mt7 128 rfl, mt1 12 rfl, ⟨by decide +kernel, by decide +kernel, by decide +kernel⟩, by decide +kernel⟩
set_option maxRecDepth 100000 in
theorem pim_227 : Cond.instanceMethod (pMM.1 227) ∈ wsU := mt7 127 rfl
set_option maxRecDepth 100000 in
theorem psl_227 : Cond.selects (cN (pMM.2.2.2.2 227)) (pMM.1 227) (pMM.1 227) ∈ wsU := mp5 (q := (⟨"LampRoundsModel", "wayLine", "()V"⟩, 45)) 8 rfl
set_option maxRecDepth 100000 in
theorem pmk_228 : pmk pMM 228 0 := ⟨mt7 137 rfl, mt1 12 rfl, ⟨by decide +kernel, by decide +kernel, by decide +kernel⟩, by decide +kernel⟩
set_option maxRecDepth 100000 in
theorem pim_228 : Cond.instanceMethod (pMM.1 228) ∈ wsU := mt7 136 rfl
set_option maxRecDepth 100000 in
theorem psl_228 : Cond.selects (cN (pMM.2.2.2.2 228)) (pMM.1 228) (pMM.1 228) ∈ wsU := mp5 (q := (⟨"LampRoundsModel", "visitorLine", "()V"⟩, 45)) 10 rfl
set_option maxRecDepth 100000 in
theorem pmk_229 : pmk pMM 229 0 := ⟨mt7 144 rfl, mt1 12 rfl, ⟨by decide +kernel, by decide +kernel, by decide +kernel⟩, by decide +kernel⟩
set_option maxRecDepth 100000 in
theorem pim_229 : Cond.instanceMethod (pMM.1 229) ∈ wsU := mt7 143 rfl
set_option maxRecDepth 100000 in
theorem psl_229 : Cond.selects (cN (pMM.2.2.2.2 229)) (pMM.1 229) (pMM.1 229) ∈ wsU := mp5 (q := (⟨"LampRoundsModel", "roundLine", "()V"⟩, 45)) 11 rfl
set_option maxRecDepth 100000 in
theorem pmk_230 : pmk pMM 230 3 := ⟨mt7 113 rfl, mt1 12 rfl, ⟨by decide +kernel, by decide +kernel, by decide +kernel⟩, by decide +kernel⟩
set_option maxRecDepth 100000 in
theorem pim_230 : Cond.instanceMethod (pMM.1 230) ∈ wsU := mt7 112 rfl
set_option maxRecDepth 100000 in
theorem psl_230 : Cond.selects (cN (pMM.2.2.2.2 230)) (pMM.1 230) (pMM.1 230) ∈ wsU := mp5 (q := (⟨"LampRoundsModel", "isRoom", "(ZII)Z"⟩, 45)) 5 rfl
set_option maxRecDepth 100000 in
theorem pmk_231 : pmk pMM 231 0 := ⟨mt7 108 rfl, mt1 12 rfl, ⟨by decide +kernel, by decide +kernel, by decide +kernel⟩, by decide +kernel⟩
set_option maxRecDepth 100000 in
theorem pim_231 : Cond.instanceMethod (pMM.1 231) ∈ wsU := mt7 107 rfl
set_option maxRecDepth 100000 in
theorem psl_231 : Cond.selects (cN (pMM.2.2.2.2 231)) (pMM.1 231) (pMM.1 231) ∈ wsU := mp5 (q := (⟨"LampRoundsModel", "lineHere", "()V"⟩, 45)) 4 rfl
set_option maxRecDepth 100000 in
theorem pmk_232 : pmk pMM 232 0 := ⟨mt7 51 rfl, mt1 12 rfl, ⟨by decide +kernel, by decide +kernel, by decide +kernel⟩, by decide +kernel⟩
set_option maxRecDepth 100000 in
theorem pim_232 : Cond.instanceMethod (pMM.1 232) ∈ wsU := mt7 50 rfl
set_option maxRecDepth 100000 in
theorem psl_232 : Cond.selects (cN (pMM.2.2.2.2 232)) (pMM.1 232) (pMM.1 232) ∈ wsU := mp4 (q := (⟨"LampRoundsModel", "clears", "()V"⟩, 45)) 8 rfl
set_option maxRecDepth 100000 in
theorem pmk_233 : pmk pMM 233 0 := ⟨mt7 47 rfl, mt1 12 rfl, ⟨by decide +kernel, by decide +kernel, by decide +kernel⟩, by decide +kernel⟩
set_option maxRecDepth 100000 in
theorem pim_233 : Cond.instanceMethod (pMM.1 233) ∈ wsU := mt7 45 rfl
set_option maxRecDepth 100000 in
theorem psl_233 : Cond.selects (cN (pMM.2.2.2.2 233)) (pMM.1 233) (pMM.1 233) ∈ wsU := mt7 46 rfl
set_option maxRecDepth 100000 in
theorem pmk_234 : pmk pMM 234 4 := ⟨mt7 159 rfl, mt1 12 rfl, ⟨by decide +kernel, by decide +kernel, by decide +kernel⟩, by decide +kernel⟩
set_option maxRecDepth 100000 in
theorem pst_234 : Cond.static (pMM.1 234) ∈ wsU := mt7 158 rfl
set_option maxRecDepth 100000 in
theorem pmk_235 : pmk pMM 235 2 := ⟨mt7 156 rfl, mt1 12 rfl, ⟨by decide +kernel, by decide +kernel, by decide +kernel⟩, by decide +kernel⟩
set_option maxRecDepth 100000 in
theorem pim_235 : Cond.instanceMethod (pMM.1 235) ∈ wsU := mt7 155 rfl
set_option maxRecDepth 100000 in
theorem psl_235 : Cond.selects (cN (pMM.2.2.2.2 235)) (pMM.1 235) (pMM.1 235) ∈ wsU := mp5 (q := (⟨"LampRoundsModel", "copyHouse", "(II)V"⟩, 45)) 14 rfl
set_option maxRecDepth 100000 in
theorem pmk_236 : pmk pMM 236 0 := ⟨mt7 198 rfl, mt1 12 rfl, ⟨by decide +kernel, by decide +kernel, by decide +kernel⟩, by decide +kernel⟩
set_option maxRecDepth 100000 in
theorem pim_236 : Cond.instanceMethod (pMM.1 236) ∈ wsU := mt7 197 rfl
set_option maxRecDepth 100000 in
theorem psl_236 : Cond.selects (cN (pMM.2.2.2.2 236)) (pMM.1 236) (pMM.1 236) ∈ wsU := mp6 (q := (⟨"LampRoundsModel", "isHouse", "()Z"⟩, 45)) 3 rfl
set_option maxRecDepth 100000 in
theorem pmk_237 : pmk pMM 237 0 := ⟨mt7 171 rfl, mt1 12 rfl, ⟨by decide +kernel, by decide +kernel, by decide +kernel⟩, by decide +kernel⟩
set_option maxRecDepth 100000 in
theorem pim_237 : Cond.instanceMethod (pMM.1 237) ∈ wsU := mt7 170 rfl
set_option maxRecDepth 100000 in
theorem psl_237 : Cond.selects (cN (pMM.2.2.2.2 237)) (pMM.1 237) (pMM.1 237) ∈ wsU := mp6 (q := (⟨"LampRoundsModel", "rooms", "()I"⟩, 45)) 0 rfl
set_option maxRecDepth 100000 in
theorem pmk_238 : pmk pMM 238 0 := ⟨mt7 214 rfl, mt1 12 rfl, ⟨by decide +kernel, by decide +kernel, by decide +kernel⟩, by decide +kernel⟩
set_option maxRecDepth 100000 in
theorem pim_238 : Cond.instanceMethod (pMM.1 238) ∈ wsU := mt7 213 rfl
set_option maxRecDepth 100000 in
theorem psl_238 : Cond.selects (cN (pMM.2.2.2.2 238)) (pMM.1 238) (pMM.1 238) ∈ wsU := mp6 (q := (⟨"LampRoundsModel", "minutes", "()I"⟩, 45)) 6 rfl
set_option maxRecDepth 100000 in
theorem pmk_239 : pmk pMM 239 1 := ⟨mt7 167 rfl, mt1 12 rfl, ⟨by decide +kernel, by decide +kernel, by decide +kernel⟩, by decide +kernel⟩
set_option maxRecDepth 100000 in
theorem pim_239 : Cond.instanceMethod (pMM.1 239) ∈ wsU := mt7 166 rfl
set_option maxRecDepth 100000 in
theorem psl_239 : Cond.selects (cN (pMM.2.2.2.2 239)) (pMM.1 239) (pMM.1 239) ∈ wsU := mp5 (q := (⟨"LampRoundsModel", "isIn", "(J)Z"⟩, 45)) 15 rfl
set_option maxRecDepth 100000 in
theorem pmk_240 : pmk pMM 240 2 := ⟨mt9 80 rfl, mt1 12 rfl, ⟨by decide +kernel, by decide +kernel, by decide +kernel⟩, by decide +kernel⟩
set_option maxRecDepth 100000 in
theorem pim_240 : Cond.instanceMethod (pMM.1 240) ∈ wsU := mt9 79 rfl
set_option maxRecDepth 100000 in
theorem psl_240 : Cond.selects (cN (pMM.2.2.2.2 240)) (pMM.1 240) (pMM.1 240) ∈ wsU := mp9 (q := (⟨"LampRoundsModel", "areTwo", "(II)Z"⟩, 45)) 3 rfl
set_option maxRecDepth 100000 in
theorem pmk_241 : pmk pMM 241 1 := ⟨mt7 210 rfl, mt1 12 rfl, ⟨by decide +kernel, by decide +kernel, by decide +kernel⟩, by decide +kernel⟩
set_option maxRecDepth 100000 in
theorem pim_241 : Cond.instanceMethod (pMM.1 241) ∈ wsU := mt7 209 rfl
set_option maxRecDepth 100000 in
theorem psl_241 : Cond.selects (cN (pMM.2.2.2.2 241)) (pMM.1 241) (pMM.1 241) ∈ wsU := mp6 (q := (⟨"LampRoundsModel", "isMinute", "(J)Z"⟩, 45)) 5 rfl
set_option maxRecDepth 100000 in
theorem pmk_242 : pmk pMM 242 1 := ⟨mt7 174 rfl, mt1 12 rfl, ⟨by decide +kernel, by decide +kernel, by decide +kernel⟩, by decide +kernel⟩
set_option maxRecDepth 100000 in
theorem pst_242 : Cond.static (pMM.1 242) ∈ wsU := mt7 173 rfl
set_option maxRecDepth 100000 in
theorem pmk_243 : pmk pMM 243 2 := ⟨mt7 206 rfl, mt1 12 rfl, ⟨by decide +kernel, by decide +kernel, by decide +kernel⟩, by decide +kernel⟩
set_option maxRecDepth 100000 in
theorem pim_243 : Cond.instanceMethod (pMM.1 243) ∈ wsU := mt7 205 rfl
set_option maxRecDepth 100000 in
theorem psl_243 : Cond.selects (cN (pMM.2.2.2.2 243)) (pMM.1 243) (pMM.1 243) ∈ wsU := mp6 (q := (⟨"LampRoundsModel", "isThen", "(II)Z"⟩, 45)) 4 rfl
set_option maxRecDepth 100000 in
theorem pmk_244 : pmk pMM 244 2 := ⟨mt8 29 rfl, mt1 12 rfl, ⟨by decide +kernel, by decide +kernel, by decide +kernel⟩, by decide +kernel⟩
set_option maxRecDepth 100000 in
theorem pim_244 : Cond.instanceMethod (pMM.1 244) ∈ wsU := mt8 28 rfl
set_option maxRecDepth 100000 in
theorem psl_244 : Cond.selects (cN (pMM.2.2.2.2 244)) (pMM.1 244) (pMM.1 244) ∈ wsU := mp7 (q := (⟨"LampRoundsModel", "isFlame", "(II)Z"⟩, 45)) 2 rfl
set_option maxRecDepth 100000 in
theorem pmk_245 : pmk pMM 245 1 := ⟨mt8 61 rfl, mt1 12 rfl, ⟨by decide +kernel, by decide +kernel, by decide +kernel⟩, by decide +kernel⟩
set_option maxRecDepth 100000 in
theorem pim_245 : Cond.instanceMethod (pMM.1 245) ∈ wsU := mt8 60 rfl
set_option maxRecDepth 100000 in
theorem psl_245 : Cond.selects (cN (pMM.2.2.2.2 245)) (pMM.1 245) (pMM.1 245) ∈ wsU := mp7 (q := (⟨"LampRoundsModel", "isMode", "(I)Z"⟩, 45)) 6 rfl
set_option maxRecDepth 100000 in
theorem pmk_246 : pmk pMM 246 1 := ⟨mt8 117 rfl, mt1 12 rfl, ⟨by decide +kernel, by decide +kernel, by decide +kernel⟩, by decide +kernel⟩
set_option maxRecDepth 100000 in
theorem pim_246 : Cond.instanceMethod (pMM.1 246) ∈ wsU := mt8 116 rfl
set_option maxRecDepth 100000 in
theorem psl_246 : Cond.selects (cN (pMM.2.2.2.2 246)) (pMM.1 246) (pMM.1 246) ∈ wsU := mp7 (q := (⟨"LampRoundsModel", "isSet", "(I)Z"⟩, 45)) 10 rfl
set_option maxRecDepth 100000 in
theorem pmk_247 : pmk pMM 247 2 := ⟨mt8 17 rfl, mt1 12 rfl, ⟨by decide +kernel, by decide +kernel, by decide +kernel⟩, by decide +kernel⟩
set_option maxRecDepth 100000 in
theorem pst_247 : Cond.static (pMM.1 247) ∈ wsU := mt8 16 rfl
set_option maxRecDepth 100000 in
theorem pmk_248 : pmk pMM 248 1 := ⟨mt8 237 rfl, mt1 12 rfl, ⟨by decide +kernel, by decide +kernel, by decide +kernel⟩, by decide +kernel⟩
set_option maxRecDepth 100000 in
theorem pst_248 : Cond.static (pMM.1 248) ∈ wsU := mt8 236 rfl
set_option maxRecDepth 100000 in
theorem pmk_249 : pmk pMM 249 2 := ⟨mt7 182 rfl, mt1 12 rfl, ⟨by decide +kernel, by decide +kernel, by decide +kernel⟩, by decide +kernel⟩
set_option maxRecDepth 100000 in
theorem pim_249 : Cond.instanceMethod (pMM.1 249) ∈ wsU := mt7 181 rfl
set_option maxRecDepth 100000 in
theorem psl_249 : Cond.selects (cN (pMM.2.2.2.2 249)) (pMM.1 249) (pMM.1 249) ∈ wsU := mp6 (q := (⟨"LampRoundsModel", "isWay", "(II)Z"⟩, 45)) 1 rfl
set_option maxRecDepth 100000 in
theorem pmk_250 : pmk pMM 250 2 := ⟨mt8 6 rfl, mt1 12 rfl, ⟨by decide +kernel, by decide +kernel, by decide +kernel⟩, by decide +kernel⟩
set_option maxRecDepth 100000 in
theorem pim_250 : Cond.instanceMethod (pMM.1 250) ∈ wsU := mt8 5 rfl
set_option maxRecDepth 100000 in
theorem psl_250 : Cond.selects (cN (pMM.2.2.2.2 250)) (pMM.1 250) (pMM.1 250) ∈ wsU := mp6 (q := (⟨"LampRoundsModel", "isStep", "(II)Z"⟩, 45)) 14 rfl
set_option maxRecDepth 100000 in
theorem pmk_251 : pmk pMM 251 2 := ⟨mt7 190 rfl, mt1 12 rfl, ⟨by decide +kernel, by decide +kernel, by decide +kernel⟩, by decide +kernel⟩
set_option maxRecDepth 100000 in
theorem pim_251 : Cond.instanceMethod (pMM.1 251) ∈ wsU := mt7 189 rfl
set_option maxRecDepth 100000 in
theorem psl_251 : Cond.selects (cN (pMM.2.2.2.2 251)) (pMM.1 251) (pMM.1 251) ∈ wsU := mp6 (q := (⟨"LampRoundsModel", "farOf", "(II)I"⟩, 45)) 2 rfl
set_option maxRecDepth 100000 in
theorem pmk_252 : pmk pMM 252 0 := ⟨mt7 222 rfl, mt1 12 rfl, ⟨by decide +kernel, by decide +kernel, by decide +kernel⟩, by decide +kernel⟩
set_option maxRecDepth 100000 in
theorem pim_252 : Cond.instanceMethod (pMM.1 252) ∈ wsU := mt7 221 rfl
set_option maxRecDepth 100000 in
theorem psl_252 : Cond.selects (cN (pMM.2.2.2.2 252)) (pMM.1 252) (pMM.1 252) ∈ wsU := mp6 (q := (⟨"LampRoundsModel", "lays", "()V"⟩, 45)) 8 rfl
set_option maxRecDepth 100000 in
theorem pmk_253 : pmk pMM 253 3 := ⟨mt8 21 rfl, mt1 12 rfl, ⟨by decide +kernel, by decide +kernel, by decide +kernel⟩, by decide +kernel⟩
set_option maxRecDepth 100000 in
theorem pim_253 : Cond.instanceMethod (pMM.1 253) ∈ wsU := mt8 20 rfl
set_option maxRecDepth 100000 in
theorem psl_253 : Cond.selects (cN (pMM.2.2.2.2 253)) (pMM.1 253) (pMM.1 253) ∈ wsU := mp7 (q := (⟨"LampRoundsModel", "ages", "(III)V"⟩, 45)) 1 rfl
set_option maxRecDepth 100000 in
theorem pmk_254 : pmk pMM 254 0 := ⟨mt7 238 rfl, mt1 12 rfl, ⟨by decide +kernel, by decide +kernel, by decide +kernel⟩, by decide +kernel⟩
set_option maxRecDepth 100000 in
theorem pim_254 : Cond.instanceMethod (pMM.1 254) ∈ wsU := mt7 237 rfl
set_option maxRecDepth 100000 in
theorem psl_254 : Cond.selects (cN (pMM.2.2.2.2 254)) (pMM.1 254) (pMM.1 254) ∈ wsU := mp6 (q := (⟨"LampRoundsModel", "urgentNow", "()I"⟩, 45)) 12 rfl
set_option maxRecDepth 100000 in
theorem pmk_255 : pmk pMM 255 2 := ⟨mt8 2 rfl, mt1 12 rfl, ⟨by decide +kernel, by decide +kernel, by decide +kernel⟩, by decide +kernel⟩
set_option maxRecDepth 100000 in
theorem pim_255 : Cond.instanceMethod (pMM.1 255) ∈ wsU := mt8 1 rfl
set_option maxRecDepth 100000 in
theorem psl_255 : Cond.selects (cN (pMM.2.2.2.2 255)) (pMM.1 255) (pMM.1 255) ∈ wsU := mp6 (q := (⟨"LampRoundsModel", "goesTo", "(II)I"⟩, 45)) 13 rfl
set_option maxRecDepth 100000 in
theorem pmk_256 : pmk pMM 256 0 := ⟨mt7 230 rfl, mt1 12 rfl, ⟨by decide +kernel, by decide +kernel, by decide +kernel⟩, by decide +kernel⟩
set_option maxRecDepth 100000 in
theorem pim_256 : Cond.instanceMethod (pMM.1 256) ∈ wsU := mt7 229 rfl
set_option maxRecDepth 100000 in
theorem psl_256 : Cond.selects (cN (pMM.2.2.2.2 256)) (pMM.1 256) (pMM.1 256) ∈ wsU := mp6 (q := (⟨"LampRoundsModel", "begin", "()I"⟩, 45)) 10 rfl
set_option maxRecDepth 100000 in
theorem pmk_257 : pmk pMM 257 3 := ⟨mt7 234 rfl, mt1 12 rfl, ⟨by decide +kernel, by decide +kernel, by decide +kernel⟩, by decide +kernel⟩
set_option maxRecDepth 100000 in
theorem pim_257 : Cond.instanceMethod (pMM.1 257) ∈ wsU := mt7 233 rfl
set_option maxRecDepth 100000 in
theorem psl_257 : Cond.selects (cN (pMM.2.2.2.2 257)) (pMM.1 257) (pMM.1 257) ∈ wsU := mp6 (q := (⟨"LampRoundsModel", "nextOf", "(III)I"⟩, 45)) 11 rfl
set_option maxRecDepth 100000 in
theorem pmk_258 : pmk pMM 258 1 := ⟨mt8 10 rfl, mt1 12 rfl, ⟨by decide +kernel, by decide +kernel, by decide +kernel⟩, by decide +kernel⟩
set_option maxRecDepth 100000 in
theorem pim_258 : Cond.instanceMethod (pMM.1 258) ∈ wsU := mt8 9 rfl
set_option maxRecDepth 100000 in
theorem psl_258 : Cond.selects (cN (pMM.2.2.2.2 258)) (pMM.1 258) (pMM.1 258) ∈ wsU := mp6 (q := (⟨"LampRoundsModel", "isNodding", "(I)Z"⟩, 45)) 15 rfl
set_option maxRecDepth 100000 in
theorem pmk_259 : pmk pMM 259 1 := ⟨mt8 14 rfl, mt1 12 rfl, ⟨by decide +kernel, by decide +kernel, by decide +kernel⟩, by decide +kernel⟩
set_option maxRecDepth 100000 in
theorem pim_259 : Cond.instanceMethod (pMM.1 259) ∈ wsU := mt8 13 rfl
set_option maxRecDepth 100000 in
theorem psl_259 : Cond.selects (cN (pMM.2.2.2.2 259)) (pMM.1 259) (pMM.1 259) ∈ wsU := mp7 (q := (⟨"LampRoundsModel", "visitsAt", "(I)I"⟩, 45)) 0 rfl
set_option maxRecDepth 100000 in
theorem pmk_260 : pmk pMM 260 1 := ⟨mt7 226 rfl, mt1 12 rfl, ⟨by decide +kernel, by decide +kernel, by decide +kernel⟩, by decide +kernel⟩
set_option maxRecDepth 100000 in
theorem pim_260 : Cond.instanceMethod (pMM.1 260) ∈ wsU := mt7 225 rfl
set_option maxRecDepth 100000 in
theorem psl_260 : Cond.selects (cN (pMM.2.2.2.2 260)) (pMM.1 260) (pMM.1 260) ∈ wsU := mp6 (q := (⟨"LampRoundsModel", "runs", "(I)V"⟩, 45)) 9 rfl
set_option maxRecDepth 100000 in
theorem pmk_261 : pmk pMM 261 1 := ⟨mt7 218 rfl, mt1 12 rfl, ⟨by decide +kernel, by decide +kernel, by decide +kernel⟩, by decide +kernel⟩
set_option maxRecDepth 100000 in
theorem pim_261 : Cond.instanceMethod (pMM.1 261) ∈ wsU := mt7 217 rfl
set_option maxRecDepth 100000 in
theorem psl_261 : Cond.selects (cN (pMM.2.2.2.2 261)) (pMM.1 261) (pMM.1 261) ∈ wsU := mp6 (q := (⟨"LampRoundsModel", "laysNow", "(I)V"⟩, 45)) 7 rfl
set_option maxRecDepth 100000 in
theorem pmk_262 : pmk pMM 262 1 := ⟨mt8 41 rfl, mt1 12 rfl, ⟨by decide +kernel, by decide +kernel, by decide +kernel⟩, by decide +kernel⟩
set_option maxRecDepth 100000 in
theorem pim_262 : Cond.instanceMethod (pMM.1 262) ∈ wsU := mt8 40 rfl
set_option maxRecDepth 100000 in
theorem psl_262 : Cond.selects (cN (pMM.2.2.2.2 262)) (pMM.1 262) (pMM.1 262) ∈ wsU := mp7 (q := (⟨"LampRoundsModel", "burnsAt", "(I)I"⟩, 45)) 3 rfl
set_option maxRecDepth 100000 in
theorem pmk_263 : pmk pMM 263 1 := ⟨mt8 49 rfl, mt1 12 rfl, ⟨by decide +kernel, by decide +kernel, by decide +kernel⟩, by decide +kernel⟩
set_option maxRecDepth 100000 in
theorem pim_263 : Cond.instanceMethod (pMM.1 263) ∈ wsU := mt8 48 rfl
set_option maxRecDepth 100000 in
theorem psl_263 : Cond.selects (cN (pMM.2.2.2.2 263)) (pMM.1 263) (pMM.1 263) ∈ wsU := mp7 (q := (⟨"LampRoundsModel", "outOf", "(I)I"⟩, 45)) 4 rfl
set_option maxRecDepth 100000 in
theorem pmk_264 : pmk pMM 264 0 := ⟨mt8 65 rfl, mt1 12 rfl, ⟨by decide +kernel, by decide +kernel, by decide +kernel⟩, by decide +kernel⟩
set_option maxRecDepth 100000 in
theorem pim_264 : Cond.instanceMethod (pMM.1 264) ∈ wsU := mt8 64 rfl
set_option maxRecDepth 100000 in
theorem psl_264 : Cond.selects (cN (pMM.2.2.2.2 264)) (pMM.1 264) (pMM.1 264) ∈ wsU := mp7 (q := (⟨"LampRoundsModel", "darkOf", "()I"⟩, 45)) 7 rfl
set_option maxRecDepth 100000 in
theorem pmk_265 : pmk pMM 265 1 := ⟨mt8 53 rfl, mt1 12 rfl, ⟨by decide +kernel, by decide +kernel, by decide +kernel⟩, by decide +kernel⟩
set_option maxRecDepth 100000 in
theorem pim_265 : Cond.instanceMethod (pMM.1 265) ∈ wsU := mt8 52 rfl
set_option maxRecDepth 100000 in
theorem psl_265 : Cond.selects (cN (pMM.2.2.2.2 265)) (pMM.1 265) (pMM.1 265) ∈ wsU := mp7 (q := (⟨"LampRoundsModel", "orNone", "(I)I"⟩, 45)) 5 rfl
set_option maxRecDepth 100000 in
theorem pmk_266 : pmk pMM 266 2 := ⟨mt7 163 rfl, mt1 12 rfl, ⟨by decide +kernel, by decide +kernel, by decide +kernel⟩, by decide +kernel⟩
set_option maxRecDepth 100000 in
theorem pim_266 : Cond.instanceMethod (pMM.1 266) ∈ wsU := mt7 161 rfl
set_option maxRecDepth 100000 in
theorem psl_266 : Cond.selects (cN (pMM.2.2.2.2 266)) (pMM.1 266) (pMM.1 266) ∈ wsU := mt7 162 rfl
set_option maxRecDepth 100000 in
theorem pmk_267 : pmk pMM 267 1 := ⟨mt7 178 rfl, mt1 12 rfl, ⟨by decide +kernel, by decide +kernel, by decide +kernel⟩, by decide +kernel⟩
set_option maxRecDepth 100000 in
theorem pim_267 : Cond.instanceMethod (pMM.1 267) ∈ wsU := mt7 176 rfl
set_option maxRecDepth 100000 in
theorem psl_267 : Cond.selects (cN (pMM.2.2.2.2 267)) (pMM.1 267) (pMM.1 267) ∈ wsU := mt7 177 rfl
set_option maxRecDepth 100000 in
theorem pmk_268 : pmk pMM 268 2 := ⟨mt7 186 rfl, mt1 12 rfl, ⟨by decide +kernel, by decide +kernel, by decide +kernel⟩, by decide +kernel⟩
set_option maxRecDepth 100000 in
theorem pim_268 : Cond.instanceMethod (pMM.1 268) ∈ wsU := mt7 184 rfl
set_option maxRecDepth 100000 in
theorem psl_268 : Cond.selects (cN (pMM.2.2.2.2 268)) (pMM.1 268) (pMM.1 268) ∈ wsU := mt7 185 rfl
set_option maxRecDepth 100000 in
theorem pmk_269 : pmk pMM 269 1 := ⟨mt7 194 rfl, mt1 12 rfl, ⟨by decide +kernel, by decide +kernel, by decide +kernel⟩, by decide +kernel⟩
set_option maxRecDepth 100000 in
theorem pim_269 : Cond.instanceMethod (pMM.1 269) ∈ wsU := mt7 192 rfl
set_option maxRecDepth 100000 in
theorem psl_269 : Cond.selects (cN (pMM.2.2.2.2 269)) (pMM.1 269) (pMM.1 269) ∈ wsU := mt7 193 rfl
set_option maxRecDepth 100000 in
theorem pmk_270 : pmk pMM 270 2 := ⟨mt7 202 rfl, mt1 12 rfl, ⟨by decide +kernel, by decide +kernel, by decide +kernel⟩, by decide +kernel⟩
set_option maxRecDepth 100000 in
theorem pim_270 : Cond.instanceMethod (pMM.1 270) ∈ wsU := mt7 200 rfl
set_option maxRecDepth 100000 in
theorem psl_270 : Cond.selects (cN (pMM.2.2.2.2 270)) (pMM.1 270) (pMM.1 270) ∈ wsU := mt7 201 rfl
set_option maxRecDepth 100000 in
theorem pmk_271 : pmk pMM 271 3 := ⟨mt8 25 rfl, mt1 12 rfl, ⟨by decide +kernel, by decide +kernel, by decide +kernel⟩, by decide +kernel⟩
set_option maxRecDepth 100000 in
theorem pim_271 : Cond.instanceMethod (pMM.1 271) ∈ wsU := mt8 23 rfl
set_option maxRecDepth 100000 in
theorem psl_271 : Cond.selects (cN (pMM.2.2.2.2 271)) (pMM.1 271) (pMM.1 271) ∈ wsU := mt8 24 rfl
set_option maxRecDepth 100000 in
theorem pmk_272 : pmk pMM 272 3 := ⟨mt8 33 rfl, mt1 12 rfl, ⟨by decide +kernel, by decide +kernel, by decide +kernel⟩, by decide +kernel⟩
set_option maxRecDepth 100000 in
theorem pim_272 : Cond.instanceMethod (pMM.1 272) ∈ wsU := mt8 31 rfl
set_option maxRecDepth 100000 in
theorem psl_272 : Cond.selects (cN (pMM.2.2.2.2 272)) (pMM.1 272) (pMM.1 272) ∈ wsU := mt8 32 rfl
set_option maxRecDepth 100000 in
theorem pmk_273 : pmk pMM 273 2 := ⟨mt8 37 rfl, mt1 12 rfl, ⟨by decide +kernel, by decide +kernel, by decide +kernel⟩, by decide +kernel⟩
set_option maxRecDepth 100000 in
theorem pim_273 : Cond.instanceMethod (pMM.1 273) ∈ wsU := mt8 35 rfl
set_option maxRecDepth 100000 in
theorem psl_273 : Cond.selects (cN (pMM.2.2.2.2 273)) (pMM.1 273) (pMM.1 273) ∈ wsU := mt8 36 rfl
set_option maxRecDepth 100000 in
theorem pmk_274 : pmk pMM 274 2 := ⟨mt8 45 rfl, mt1 12 rfl, ⟨by decide +kernel, by decide +kernel, by decide +kernel⟩, by decide +kernel⟩
set_option maxRecDepth 100000 in
theorem pim_274 : Cond.instanceMethod (pMM.1 274) ∈ wsU := mt8 43 rfl
set_option maxRecDepth 100000 in
theorem psl_274 : Cond.selects (cN (pMM.2.2.2.2 274)) (pMM.1 274) (pMM.1 274) ∈ wsU := mt8 44 rfl
set_option maxRecDepth 100000 in
theorem pmk_275 : pmk pMM 275 1 := ⟨mt8 57 rfl, mt1 12 rfl, ⟨by decide +kernel, by decide +kernel, by decide +kernel⟩, by decide +kernel⟩
set_option maxRecDepth 100000 in
theorem pim_275 : Cond.instanceMethod (pMM.1 275) ∈ wsU := mt8 55 rfl
set_option maxRecDepth 100000 in
theorem psl_275 : Cond.selects (cN (pMM.2.2.2.2 275)) (pMM.1 275) (pMM.1 275) ∈ wsU := mt8 56 rfl
set_option maxRecDepth 100000 in
theorem pmk_276 : pmk pMM 276 1 := ⟨mt8 69 rfl, mt1 12 rfl, ⟨by decide +kernel, by decide +kernel, by decide +kernel⟩, by decide +kernel⟩
set_option maxRecDepth 100000 in
theorem pim_276 : Cond.instanceMethod (pMM.1 276) ∈ wsU := mt8 67 rfl
set_option maxRecDepth 100000 in
theorem psl_276 : Cond.selects (cN (pMM.2.2.2.2 276)) (pMM.1 276) (pMM.1 276) ∈ wsU := mt8 68 rfl
set_option maxRecDepth 100000 in
theorem pmk_277 : pmk pMM 277 1 := ⟨mt8 77 rfl, mt1 12 rfl, ⟨by decide +kernel, by decide +kernel, by decide +kernel⟩, by decide +kernel⟩
set_option maxRecDepth 100000 in
theorem pim_277 : Cond.instanceMethod (pMM.1 277) ∈ wsU := mt8 76 rfl
set_option maxRecDepth 100000 in
theorem psl_277 : Cond.selects (cN (pMM.2.2.2.2 277)) (pMM.1 277) (pMM.1 277) ∈ wsU := mp7 (q := (⟨"LampRoundsModel", "looksOf", "(I)I"⟩, 45)) 8 rfl
set_option maxRecDepth 100000 in
theorem pmk_278 : pmk pMM 278 2 := ⟨mt8 73 rfl, mt1 12 rfl, ⟨by decide +kernel, by decide +kernel, by decide +kernel⟩, by decide +kernel⟩
set_option maxRecDepth 100000 in
theorem pim_278 : Cond.instanceMethod (pMM.1 278) ∈ wsU := mt8 71 rfl
set_option maxRecDepth 100000 in
theorem psl_278 : Cond.selects (cN (pMM.2.2.2.2 278)) (pMM.1 278) (pMM.1 278) ∈ wsU := mt8 72 rfl
set_option maxRecDepth 100000 in
theorem pmk_279 : pmk pMM 279 2 := ⟨mt8 81 rfl, mt1 12 rfl, ⟨by decide +kernel, by decide +kernel, by decide +kernel⟩, by decide +kernel⟩
set_option maxRecDepth 100000 in
theorem pim_279 : Cond.instanceMethod (pMM.1 279) ∈ wsU := mt8 79 rfl
set_option maxRecDepth 100000 in
theorem psl_279 : Cond.selects (cN (pMM.2.2.2.2 279)) (pMM.1 279) (pMM.1 279) ∈ wsU := mt8 80 rfl
set_option maxRecDepth 100000 in
theorem pmk_280 : pmk pMM 280 1 := ⟨mt8 89 rfl, mt1 12 rfl, ⟨by decide +kernel, by decide +kernel, by decide +kernel⟩, by decide +kernel⟩
set_option maxRecDepth 100000 in
theorem pim_280 : Cond.instanceMethod (pMM.1 280) ∈ wsU := mt8 88 rfl
set_option maxRecDepth 100000 in
theorem psl_280 : Cond.selects (cN (pMM.2.2.2.2 280)) (pMM.1 280) (pMM.1 280) ∈ wsU := mp7 (q := (⟨"LampRoundsModel", "worthOf", "(I)I"⟩, 45)) 9 rfl
set_option maxRecDepth 100000 in
theorem pmk_281 : pmk pMM 281 2 := ⟨mt8 85 rfl, mt1 12 rfl, ⟨by decide +kernel, by decide +kernel, by decide +kernel⟩, by decide +kernel⟩
set_option maxRecDepth 100000 in
theorem pim_281 : Cond.instanceMethod (pMM.1 281) ∈ wsU := mt8 83 rfl
set_option maxRecDepth 100000 in
theorem psl_281 : Cond.selects (cN (pMM.2.2.2.2 281)) (pMM.1 281) (pMM.1 281) ∈ wsU := mt8 84 rfl
set_option maxRecDepth 100000 in
theorem pmk_282 : pmk pMM 282 1 := ⟨mt8 93 rfl, mt1 12 rfl, ⟨by decide +kernel, by decide +kernel, by decide +kernel⟩, by decide +kernel⟩
set_option maxRecDepth 100000 in
theorem pim_282 : Cond.instanceMethod (pMM.1 282) ∈ wsU := mt8 91 rfl
set_option maxRecDepth 100000 in
theorem psl_282 : Cond.selects (cN (pMM.2.2.2.2 282)) (pMM.1 282) (pMM.1 282) ∈ wsU := mt8 92 rfl
set_option maxRecDepth 100000 in
theorem pmk_283 : pmk pMM 283 2 := ⟨mt8 97 rfl, mt1 12 rfl, ⟨by decide +kernel, by decide +kernel, by decide +kernel⟩, by decide +kernel⟩
set_option maxRecDepth 100000 in
theorem pim_283 : Cond.instanceMethod (pMM.1 283) ∈ wsU := mt8 95 rfl
set_option maxRecDepth 100000 in
theorem psl_283 : Cond.selects (cN (pMM.2.2.2.2 283)) (pMM.1 283) (pMM.1 283) ∈ wsU := mt8 96 rfl
set_option maxRecDepth 100000 in
theorem pmk_284 : pmk pMM 284 1 := ⟨mt8 101 rfl, mt1 12 rfl, ⟨by decide +kernel, by decide +kernel, by decide +kernel⟩, by decide +kernel⟩
set_option maxRecDepth 100000 in
theorem pim_284 : Cond.instanceMethod (pMM.1 284) ∈ wsU := mt8 99 rfl
set_option maxRecDepth 100000 in
theorem psl_284 : Cond.selects (cN (pMM.2.2.2.2 284)) (pMM.1 284) (pMM.1 284) ∈ wsU := mt8 100 rfl
set_option maxRecDepth 100000 in
theorem pmk_285 : pmk pMM 285 1 := ⟨mt8 105 rfl, mt1 12 rfl, ⟨by decide +kernel, by decide +kernel, by decide +kernel⟩, by decide +kernel⟩
set_option maxRecDepth 100000 in
theorem pim_285 : Cond.instanceMethod (pMM.1 285) ∈ wsU := mt8 103 rfl
set_option maxRecDepth 100000 in
theorem psl_285 : Cond.selects (cN (pMM.2.2.2.2 285)) (pMM.1 285) (pMM.1 285) ∈ wsU := mt8 104 rfl
set_option maxRecDepth 100000 in
theorem pmk_286 : pmk pMM 286 2 := ⟨mt8 109 rfl, mt1 12 rfl, ⟨by decide +kernel, by decide +kernel, by decide +kernel⟩, by decide +kernel⟩
set_option maxRecDepth 100000 in
theorem pim_286 : Cond.instanceMethod (pMM.1 286) ∈ wsU := mt8 107 rfl
set_option maxRecDepth 100000 in
theorem psl_286 : Cond.selects (cN (pMM.2.2.2.2 286)) (pMM.1 286) (pMM.1 286) ∈ wsU := mt8 108 rfl
set_option maxRecDepth 100000 in
theorem pmk_287 : pmk pMM 287 2 := ⟨mt8 157 rfl, mt1 12 rfl, ⟨by decide +kernel, by decide +kernel, by decide +kernel⟩, by decide +kernel⟩
set_option maxRecDepth 100000 in
theorem pim_287 : Cond.instanceMethod (pMM.1 287) ∈ wsU := mt8 156 rfl
set_option maxRecDepth 100000 in
theorem psl_287 : Cond.selects (cN (pMM.2.2.2.2 287)) (pMM.1 287) (pMM.1 287) ∈ wsU := mp8 (q := (⟨"LampRoundsModel", "stateOf", "(II)I"⟩, 45)) 4 rfl
set_option maxRecDepth 100000 in
theorem pmk_288 : pmk pMM 288 1 := ⟨mt8 137 rfl, mt1 12 rfl, ⟨by decide +kernel, by decide +kernel, by decide +kernel⟩, by decide +kernel⟩
set_option maxRecDepth 100000 in
theorem pim_288 : Cond.instanceMethod (pMM.1 288) ∈ wsU := mt8 136 rfl
set_option maxRecDepth 100000 in
theorem psl_288 : Cond.selects (cN (pMM.2.2.2.2 288)) (pMM.1 288) (pMM.1 288) ∈ wsU := mp7 (q := (⟨"LampRoundsModel", "ageOf", "(I)V"⟩, 45)) 15 rfl
set_option maxRecDepth 100000 in
theorem pmk_289 : pmk pMM 289 1 := ⟨mt8 149 rfl, mt1 12 rfl, ⟨by decide +kernel, by decide +kernel, by decide +kernel⟩, by decide +kernel⟩
set_option maxRecDepth 100000 in
theorem pim_289 : Cond.instanceMethod (pMM.1 289) ∈ wsU := mt8 148 rfl
set_option maxRecDepth 100000 in
theorem psl_289 : Cond.selects (cN (pMM.2.2.2.2 289)) (pMM.1 289) (pMM.1 289) ∈ wsU := mp8 (q := (⟨"LampRoundsModel", "heOf", "(I)I"⟩, 45)) 2 rfl
set_option maxRecDepth 100000 in
theorem pmk_290 : pmk pMM 290 1 := ⟨mt8 153 rfl, mt1 12 rfl, ⟨by decide +kernel, by decide +kernel, by decide +kernel⟩, by decide +kernel⟩
set_option maxRecDepth 100000 in
theorem pim_290 : Cond.instanceMethod (pMM.1 290) ∈ wsU := mt8 152 rfl
set_option maxRecDepth 100000 in
theorem psl_290 : Cond.selects (cN (pMM.2.2.2.2 290)) (pMM.1 290) (pMM.1 290) ∈ wsU := mp8 (q := (⟨"LampRoundsModel", "allBurn", "(I)Z"⟩, 45)) 3 rfl
set_option maxRecDepth 100000 in
theorem pmk_291 : pmk pMM 291 3 := ⟨mt8 145 rfl, mt1 12 rfl, ⟨by decide +kernel, by decide +kernel, by decide +kernel⟩, by decide +kernel⟩
set_option maxRecDepth 100000 in
theorem pim_291 : Cond.instanceMethod (pMM.1 291) ∈ wsU := mt8 144 rfl
set_option maxRecDepth 100000 in
theorem psl_291 : Cond.selects (cN (pMM.2.2.2.2 291)) (pMM.1 291) (pMM.1 291) ∈ wsU := mp8 (q := (⟨"LampRoundsModel", "isGoing", "(III)Z"⟩, 45)) 1 rfl
set_option maxRecDepth 100000 in
theorem pmk_292 : pmk pMM 292 2 := ⟨mt8 141 rfl, mt1 12 rfl, ⟨by decide +kernel, by decide +kernel, by decide +kernel⟩, by decide +kernel⟩
set_option maxRecDepth 100000 in
theorem pim_292 : Cond.instanceMethod (pMM.1 292) ∈ wsU := mt8 140 rfl
set_option maxRecDepth 100000 in
theorem psl_292 : Cond.selects (cN (pMM.2.2.2.2 292)) (pMM.1 292) (pMM.1 292) ∈ wsU := mp8 (q := (⟨"LampRoundsModel", "isLiving", "(II)Z"⟩, 45)) 0 rfl
set_option maxRecDepth 100000 in
theorem pmk_293 : pmk pMM 293 0 := ⟨mt8 129 rfl, mt1 12 rfl, ⟨by decide +kernel, by decide +kernel, by decide +kernel⟩, by decide +kernel⟩
set_option maxRecDepth 100000 in
theorem pim_293 : Cond.instanceMethod (pMM.1 293) ∈ wsU := mt8 128 rfl
set_option maxRecDepth 100000 in
theorem psl_293 : Cond.selects (cN (pMM.2.2.2.2 293)) (pMM.1 293) (pMM.1 293) ∈ wsU := mp7 (q := (⟨"LampRoundsModel", "statesAll", "()I"⟩, 45)) 13 rfl
set_option maxRecDepth 100000 in
theorem pmk_294 : pmk pMM 294 2 := ⟨mt8 133 rfl, mt1 12 rfl, ⟨by decide +kernel, by decide +kernel, by decide +kernel⟩, by decide +kernel⟩
set_option maxRecDepth 100000 in
theorem pim_294 : Cond.instanceMethod (pMM.1 294) ∈ wsU := mt8 132 rfl
set_option maxRecDepth 100000 in
theorem psl_294 : Cond.selects (cN (pMM.2.2.2.2 294)) (pMM.1 294) (pMM.1 294) ∈ wsU := mp7 (q := (⟨"LampRoundsModel", "isState", "(II)Z"⟩, 45)) 14 rfl
set_option maxRecDepth 100000 in
theorem pmk_295 : pmk pMM 295 1 := ⟨mt8 125 rfl, mt1 12 rfl, ⟨by decide +kernel, by decide +kernel, by decide +kernel⟩, by decide +kernel⟩
set_option maxRecDepth 100000 in
theorem pim_295 : Cond.instanceMethod (pMM.1 295) ∈ wsU := mt8 124 rfl
set_option maxRecDepth 100000 in
theorem psl_295 : Cond.selects (cN (pMM.2.2.2.2 295)) (pMM.1 295) (pMM.1 295) ∈ wsU := mp7 (q := (⟨"LampRoundsModel", "laysLives", "(I)V"⟩, 45)) 12 rfl
set_option maxRecDepth 100000 in
theorem pmk_296 : pmk pMM 296 2 := ⟨mt8 161 rfl, mt1 12 rfl, ⟨by decide +kernel, by decide +kernel, by decide +kernel⟩, by decide +kernel⟩
set_option maxRecDepth 100000 in
theorem pim_296 : Cond.instanceMethod (pMM.1 296) ∈ wsU := mt8 160 rfl
set_option maxRecDepth 100000 in
theorem psl_296 : Cond.selects (cN (pMM.2.2.2.2 296)) (pMM.1 296) (pMM.1 296) ∈ wsU := mp8 (q := (⟨"LampRoundsModel", "firstState", "(II)I"⟩, 45)) 5 rfl
set_option maxRecDepth 100000 in
theorem pmk_297 : pmk pMM 297 2 := ⟨mt8 121 rfl, mt1 12 rfl, ⟨by decide +kernel, by decide +kernel, by decide +kernel⟩, by decide +kernel⟩
set_option maxRecDepth 100000 in
theorem pim_297 : Cond.instanceMethod (pMM.1 297) ∈ wsU := mt8 120 rfl
set_option maxRecDepth 100000 in
theorem psl_297 : Cond.selects (cN (pMM.2.2.2.2 297)) (pMM.1 297) (pMM.1 297) ∈ wsU := mp7 (q := (⟨"LampRoundsModel", "keepsFrom", "(II)Z"⟩, 45)) 11 rfl
set_option maxRecDepth 100000 in
theorem pmk_298 : pmk pMM 298 0 := ⟨mt8 169 rfl, mt1 12 rfl, ⟨by decide +kernel, by decide +kernel, by decide +kernel⟩, by decide +kernel⟩
set_option maxRecDepth 100000 in
theorem pim_298 : Cond.instanceMethod (pMM.1 298) ∈ wsU := mt8 168 rfl
set_option maxRecDepth 100000 in
theorem psl_298 : Cond.selects (cN (pMM.2.2.2.2 298)) (pMM.1 298) (pMM.1 298) ∈ wsU := mp8 (q := (⟨"LampRoundsModel", "all", "()I"⟩, 45)) 6 rfl
set_option maxRecDepth 100000 in
theorem pmk_299 : pmk pMM 299 1 := ⟨mt8 113 rfl, mt1 12 rfl, ⟨by decide +kernel, by decide +kernel, by decide +kernel⟩, by decide +kernel⟩
set_option maxRecDepth 100000 in
theorem pim_299 : Cond.instanceMethod (pMM.1 299) ∈ wsU := mt8 111 rfl
set_option maxRecDepth 100000 in
theorem psl_299 : Cond.selects (cN (pMM.2.2.2.2 299)) (pMM.1 299) (pMM.1 299) ∈ wsU := mt8 112 rfl
set_option maxRecDepth 100000 in
theorem pmk_300 : pmk pMM 300 0 := ⟨mt8 165 rfl, mt1 12 rfl, ⟨by decide +kernel, by decide +kernel, by decide +kernel⟩, by decide +kernel⟩
set_option maxRecDepth 100000 in
theorem pim_300 : Cond.instanceMethod (pMM.1 300) ∈ wsU := mt8 163 rfl
set_option maxRecDepth 100000 in
theorem psl_300 : Cond.selects (cN (pMM.2.2.2.2 300)) (pMM.1 300) (pMM.1 300) ∈ wsU := mt8 164 rfl
set_option maxRecDepth 100000 in
theorem pmk_301 : pmk pMM 301 0 := ⟨mt8 173 rfl, mt1 12 rfl, ⟨by decide +kernel, by decide +kernel, by decide +kernel⟩, by decide +kernel⟩
set_option maxRecDepth 100000 in
theorem pim_301 : Cond.instanceMethod (pMM.1 301) ∈ wsU := mt8 171 rfl
set_option maxRecDepth 100000 in
theorem psl_301 : Cond.selects (cN (pMM.2.2.2.2 301)) (pMM.1 301) (pMM.1 301) ∈ wsU := mt8 172 rfl
set_option maxRecDepth 100000 in
theorem pmk_302 : pmk pMM 302 0 := ⟨mt8 177 rfl, mt1 12 rfl, ⟨by decide +kernel, by decide +kernel, by decide +kernel⟩, by decide +kernel⟩
set_option maxRecDepth 100000 in
theorem pim_302 : Cond.instanceMethod (pMM.1 302) ∈ wsU := mt8 175 rfl
set_option maxRecDepth 100000 in
theorem psl_302 : Cond.selects (cN (pMM.2.2.2.2 302)) (pMM.1 302) (pMM.1 302) ∈ wsU := mt8 176 rfl
set_option maxRecDepth 100000 in
theorem pmk_303 : pmk pMM 303 0 := ⟨mt8 181 rfl, mt1 12 rfl, ⟨by decide +kernel, by decide +kernel, by decide +kernel⟩, by decide +kernel⟩
set_option maxRecDepth 100000 in
theorem pim_303 : Cond.instanceMethod (pMM.1 303) ∈ wsU := mt8 180 rfl
set_option maxRecDepth 100000 in
theorem psl_303 : Cond.selects (cN (pMM.2.2.2.2 303)) (pMM.1 303) (pMM.1 303) ∈ wsU := mp8 (q := (⟨"LampRoundsModel", "goesOn", "()Z"⟩, 45)) 7 rfl
set_option maxRecDepth 100000 in
theorem pmk_304 : pmk pMM 304 2 := ⟨mt8 205 rfl, mt1 12 rfl, ⟨by decide +kernel, by decide +kernel, by decide +kernel⟩, by decide +kernel⟩
set_option maxRecDepth 100000 in
theorem pim_304 : Cond.instanceMethod (pMM.1 304) ∈ wsU := mt8 204 rfl
set_option maxRecDepth 100000 in
theorem psl_304 : Cond.selects (cN (pMM.2.2.2.2 304)) (pMM.1 304) (pMM.1 304) ∈ wsU := mp8 (q := (⟨"LampRoundsModel", "goesRound", "(II)Z"⟩, 45)) 12 rfl
set_option maxRecDepth 100000 in
theorem pmk_305 : pmk pMM 305 1 := ⟨mt8 201 rfl, mt1 12 rfl, ⟨by decide +kernel, by decide +kernel, by decide +kernel⟩, by decide +kernel⟩
set_option maxRecDepth 100000 in
theorem pim_305 : Cond.instanceMethod (pMM.1 305) ∈ wsU := mt8 200 rfl
set_option maxRecDepth 100000 in
theorem psl_305 : Cond.selects (cN (pMM.2.2.2.2 305)) (pMM.1 305) (pMM.1 305) ∈ wsU := mp8 (q := (⟨"LampRoundsModel", "isRinging", "(I)Z"⟩, 45)) 11 rfl
set_option maxRecDepth 100000 in
theorem pmk_306 : pmk pMM 306 2 := ⟨mt8 197 rfl, mt1 12 rfl, ⟨by decide +kernel, by decide +kernel, by decide +kernel⟩, by decide +kernel⟩
set_option maxRecDepth 100000 in
theorem pim_306 : Cond.instanceMethod (pMM.1 306) ∈ wsU := mt8 196 rfl
set_option maxRecDepth 100000 in
theorem psl_306 : Cond.selects (cN (pMM.2.2.2.2 306)) (pMM.1 306) (pMM.1 306) ∈ wsU := mp8 (q := (⟨"LampRoundsModel", "ringsFrom", "(II)V"⟩, 45)) 10 rfl
set_option maxRecDepth 100000 in
theorem pmk_307 : pmk pMM 307 1 := ⟨mt8 193 rfl, mt1 12 rfl, ⟨by decide +kernel, by decide +kernel, by decide +kernel⟩, by decide +kernel⟩
set_option maxRecDepth 100000 in
theorem pim_307 : Cond.instanceMethod (pMM.1 307) ∈ wsU := mt8 192 rfl
set_option maxRecDepth 100000 in
theorem psl_307 : Cond.selects (cN (pMM.2.2.2.2 307)) (pMM.1 307) (pMM.1 307) ∈ wsU := mp8 (q := (⟨"LampRoundsModel", "ringsOf", "(I)I"⟩, 45)) 9 rfl
set_option maxRecDepth 100000 in
theorem pmk_308 : pmk pMM 308 0 := ⟨mt8 189 rfl, mt1 12 rfl, ⟨by decide +kernel, by decide +kernel, by decide +kernel⟩, by decide +kernel⟩
set_option maxRecDepth 100000 in
theorem pim_308 : Cond.instanceMethod (pMM.1 308) ∈ wsU := mt8 188 rfl
set_option maxRecDepth 100000 in
theorem psl_308 : Cond.selects (cN (pMM.2.2.2.2 308)) (pMM.1 308) (pMM.1 308) ∈ wsU := mp8 (q := (⟨"LampRoundsModel", "ringOf", "()I"⟩, 45)) 8 rfl
set_option maxRecDepth 100000 in
theorem pmk_309 : pmk pMM 309 0 := ⟨mt8 185 rfl, mt1 12 rfl, ⟨by decide +kernel, by decide +kernel, by decide +kernel⟩, by decide +kernel⟩
set_option maxRecDepth 100000 in
theorem pim_309 : Cond.instanceMethod (pMM.1 309) ∈ wsU := mt8 183 rfl
set_option maxRecDepth 100000 in
theorem psl_309 : Cond.selects (cN (pMM.2.2.2.2 309)) (pMM.1 309) (pMM.1 309) ∈ wsU := mt8 184 rfl
set_option maxRecDepth 100000 in
theorem pmk_310 : pmk pMM 310 1 := ⟨mt8 209 rfl, mt1 12 rfl, ⟨by decide +kernel, by decide +kernel, by decide +kernel⟩, by decide +kernel⟩
set_option maxRecDepth 100000 in
theorem pim_310 : Cond.instanceMethod (pMM.1 310) ∈ wsU := mt8 207 rfl
set_option maxRecDepth 100000 in
theorem psl_310 : Cond.selects (cN (pMM.2.2.2.2 310)) (pMM.1 310) (pMM.1 310) ∈ wsU := mt8 208 rfl
set_option maxRecDepth 100000 in
theorem pmk_311 : pmk pMM 311 1 := ⟨mt8 213 rfl, mt1 12 rfl, ⟨by decide +kernel, by decide +kernel, by decide +kernel⟩, by decide +kernel⟩
set_option maxRecDepth 100000 in
theorem pim_311 : Cond.instanceMethod (pMM.1 311) ∈ wsU := mt8 211 rfl
set_option maxRecDepth 100000 in
theorem psl_311 : Cond.selects (cN (pMM.2.2.2.2 311)) (pMM.1 311) (pMM.1 311) ∈ wsU := mt8 212 rfl
set_option maxRecDepth 100000 in
theorem pmk_312 : pmk pMM 312 0 := ⟨mt8 218 rfl, mt1 12 rfl, ⟨by decide +kernel, by decide +kernel, by decide +kernel⟩, by decide +kernel⟩
set_option maxRecDepth 100000 in
theorem pim_312 : Cond.instanceMethod (pMM.1 312) ∈ wsU := mt8 216 rfl
set_option maxRecDepth 100000 in
theorem psl_312 : Cond.selects (cN (pMM.2.2.2.2 312)) (pMM.1 312) (pMM.1 312) ∈ wsU := mt8 217 rfl
set_option maxRecDepth 100000 in
theorem pmk_313 : pmk pMM 313 0 := ⟨mt8 226 rfl, mt1 12 rfl, ⟨by decide +kernel, by decide +kernel, by decide +kernel⟩, by decide +kernel⟩
set_option maxRecDepth 100000 in
theorem pim_313 : Cond.instanceMethod (pMM.1 313) ∈ wsU := mt8 225 rfl
set_option maxRecDepth 100000 in
theorem psl_313 : Cond.selects (cN (pMM.2.2.2.2 313)) (pMM.1 313) (pMM.1 313) ∈ wsU := mp8 (q := (⟨"LampRoundsModel", "savedOf", "()I"⟩, 45)) 13 rfl
set_option maxRecDepth 100000 in
theorem pmk_314 : pmk pMM 314 0 := ⟨mt8 222 rfl, mt1 12 rfl, ⟨by decide +kernel, by decide +kernel, by decide +kernel⟩, by decide +kernel⟩
set_option maxRecDepth 100000 in
theorem pim_314 : Cond.instanceMethod (pMM.1 314) ∈ wsU := mt8 220 rfl
set_option maxRecDepth 100000 in
theorem psl_314 : Cond.selects (cN (pMM.2.2.2.2 314)) (pMM.1 314) (pMM.1 314) ∈ wsU := mt8 221 rfl
set_option maxRecDepth 100000 in
theorem pmk_315 : pmk pMM 315 0 := ⟨mt8 230 rfl, mt1 12 rfl, ⟨by decide +kernel, by decide +kernel, by decide +kernel⟩, by decide +kernel⟩
set_option maxRecDepth 100000 in
theorem pim_315 : Cond.instanceMethod (pMM.1 315) ∈ wsU := mt8 228 rfl
set_option maxRecDepth 100000 in
theorem psl_315 : Cond.selects (cN (pMM.2.2.2.2 315)) (pMM.1 315) (pMM.1 315) ∈ wsU := mt8 229 rfl
set_option maxRecDepth 100000 in
theorem pmk_316 : pmk pMM 316 0 := ⟨mt8 234 rfl, mt1 12 rfl, ⟨by decide +kernel, by decide +kernel, by decide +kernel⟩, by decide +kernel⟩
set_option maxRecDepth 100000 in
theorem pim_316 : Cond.instanceMethod (pMM.1 316) ∈ wsU := mt8 232 rfl
set_option maxRecDepth 100000 in
theorem psl_316 : Cond.selects (cN (pMM.2.2.2.2 316)) (pMM.1 316) (pMM.1 316) ∈ wsU := mt8 233 rfl
set_option maxRecDepth 100000 in
theorem pmk_317 : pmk pMM 317 1 := ⟨mt9 1 rfl, mt1 12 rfl, ⟨by decide +kernel, by decide +kernel, by decide +kernel⟩, by decide +kernel⟩
set_option maxRecDepth 100000 in
theorem pim_317 : Cond.instanceMethod (pMM.1 317) ∈ wsU := mt8 239 rfl
set_option maxRecDepth 100000 in
theorem psl_317 : Cond.selects (cN (pMM.2.2.2.2 317)) (pMM.1 317) (pMM.1 317) ∈ wsU := mt9 0 rfl
set_option maxRecDepth 100000 in
theorem pmk_318 : pmk pMM 318 2 := ⟨mt9 11 rfl, mt1 12 rfl, ⟨by decide +kernel, by decide +kernel, by decide +kernel⟩, by decide +kernel⟩
set_option maxRecDepth 100000 in
theorem pst_318 : Cond.static (pMM.1 318) ∈ wsU := mt9 10 rfl
set_option maxRecDepth 100000 in
theorem pmk_319 : pmk pMM 319 3 := ⟨mt9 8 rfl, mt1 12 rfl, ⟨by decide +kernel, by decide +kernel, by decide +kernel⟩, by decide +kernel⟩
set_option maxRecDepth 100000 in
theorem pst_319 : Cond.static (pMM.1 319) ∈ wsU := mt9 7 rfl
set_option maxRecDepth 100000 in
theorem pmk_320 : pmk pMM 320 1 := ⟨mt9 5 rfl, mt1 12 rfl, ⟨by decide +kernel, by decide +kernel, by decide +kernel⟩, by decide +kernel⟩
set_option maxRecDepth 100000 in
theorem pim_320 : Cond.instanceMethod (pMM.1 320) ∈ wsU := mt9 3 rfl
set_option maxRecDepth 100000 in
theorem psl_320 : Cond.selects (cN (pMM.2.2.2.2 320)) (pMM.1 320) (pMM.1 320) ∈ wsU := mt9 4 rfl
set_option maxRecDepth 100000 in
theorem pmk_321 : pmk pMM 321 0 := ⟨mt9 15 rfl, mt1 12 rfl, ⟨by decide +kernel, by decide +kernel, by decide +kernel⟩, by decide +kernel⟩
set_option maxRecDepth 100000 in
theorem pim_321 : Cond.instanceMethod (pMM.1 321) ∈ wsU := mt9 13 rfl
set_option maxRecDepth 100000 in
theorem psl_321 : Cond.selects (cN (pMM.2.2.2.2 321)) (pMM.1 321) (pMM.1 321) ∈ wsU := mt9 14 rfl
set_option maxRecDepth 100000 in
theorem pmk_322 : pmk pMM 322 1 := ⟨mt9 23 rfl, mt1 12 rfl, ⟨by decide +kernel, by decide +kernel, by decide +kernel⟩, by decide +kernel⟩
set_option maxRecDepth 100000 in
theorem pim_322 : Cond.instanceMethod (pMM.1 322) ∈ wsU := mt9 22 rfl
set_option maxRecDepth 100000 in
theorem psl_322 : Cond.selects (cN (pMM.2.2.2.2 322)) (pMM.1 322) (pMM.1 322) ∈ wsU := mp8 (q := (⟨"LampRoundsModel", "sharesOf", "(I)I"⟩, 45)) 14 rfl
set_option maxRecDepth 100000 in
theorem pmk_323 : pmk pMM 323 1 := ⟨mt9 19 rfl, mt1 12 rfl, ⟨by decide +kernel, by decide +kernel, by decide +kernel⟩, by decide +kernel⟩
set_option maxRecDepth 100000 in
theorem pim_323 : Cond.instanceMethod (pMM.1 323) ∈ wsU := mt9 17 rfl
set_option maxRecDepth 100000 in
theorem psl_323 : Cond.selects (cN (pMM.2.2.2.2 323)) (pMM.1 323) (pMM.1 323) ∈ wsU := mt9 18 rfl
set_option maxRecDepth 100000 in
theorem pmk_324 : pmk pMM 324 0 := ⟨mt9 27 rfl, mt1 12 rfl, ⟨by decide +kernel, by decide +kernel, by decide +kernel⟩, by decide +kernel⟩
set_option maxRecDepth 100000 in
theorem pim_324 : Cond.instanceMethod (pMM.1 324) ∈ wsU := mt9 25 rfl
set_option maxRecDepth 100000 in
theorem psl_324 : Cond.selects (cN (pMM.2.2.2.2 324)) (pMM.1 324) (pMM.1 324) ∈ wsU := mt9 26 rfl
set_option maxRecDepth 100000 in
theorem pmk_325 : pmk pMM 325 1 := ⟨mt9 35 rfl, mt1 12 rfl, ⟨by decide +kernel, by decide +kernel, by decide +kernel⟩, by decide +kernel⟩
set_option maxRecDepth 100000 in
theorem pim_325 : Cond.instanceMethod (pMM.1 325) ∈ wsU := mt9 34 rfl
set_option maxRecDepth 100000 in
theorem psl_325 : Cond.selects (cN (pMM.2.2.2.2 325)) (pMM.1 325) (pMM.1 325) ∈ wsU := mp8 (q := (⟨"LampRoundsModel", "whyNot", "(I)I"⟩, 45)) 15 rfl
set_option maxRecDepth 100000 in
theorem pmk_326 : pmk pMM 326 1 := ⟨mt9 44 rfl, mt1 12 rfl, ⟨by decide +kernel, by decide +kernel, by decide +kernel⟩, by decide +kernel⟩
set_option maxRecDepth 100000 in
theorem pim_326 : Cond.instanceMethod (pMM.1 326) ∈ wsU := mt9 43 rfl
set_option maxRecDepth 100000 in
theorem psl_326 : Cond.selects (cN (pMM.2.2.2.2 326)) (pMM.1 326) (pMM.1 326) ∈ wsU := mp9 (q := (⟨"LampRoundsModel", "isSo", "(I)Z"⟩, 45)) 1 rfl
set_option maxRecDepth 100000 in
theorem pmk_327 : pmk pMM 327 1 := ⟨mt9 40 rfl, mt1 12 rfl, ⟨by decide +kernel, by decide +kernel, by decide +kernel⟩, by decide +kernel⟩
set_option maxRecDepth 100000 in
theorem pim_327 : Cond.instanceMethod (pMM.1 327) ∈ wsU := mt9 39 rfl
set_option maxRecDepth 100000 in
theorem psl_327 : Cond.selects (cN (pMM.2.2.2.2 327)) (pMM.1 327) (pMM.1 327) ∈ wsU := mp9 (q := (⟨"LampRoundsModel", "laysBegins", "(I)V"⟩, 45)) 0 rfl
set_option maxRecDepth 100000 in
theorem pmk_328 : pmk pMM 328 1 := ⟨mt9 31 rfl, mt1 12 rfl, ⟨by decide +kernel, by decide +kernel, by decide +kernel⟩, by decide +kernel⟩
set_option maxRecDepth 100000 in
theorem pim_328 : Cond.instanceMethod (pMM.1 328) ∈ wsU := mt9 29 rfl
set_option maxRecDepth 100000 in
theorem psl_328 : Cond.selects (cN (pMM.2.2.2.2 328)) (pMM.1 328) (pMM.1 328) ∈ wsU := mt9 30 rfl
set_option maxRecDepth 100000 in
theorem pmk_329 : pmk pMM 329 1 := ⟨mt9 48 rfl, mt1 12 rfl, ⟨by decide +kernel, by decide +kernel, by decide +kernel⟩, by decide +kernel⟩
set_option maxRecDepth 100000 in
theorem pim_329 : Cond.instanceMethod (pMM.1 329) ∈ wsU := mt9 46 rfl
set_option maxRecDepth 100000 in
theorem psl_329 : Cond.selects (cN (pMM.2.2.2.2 329)) (pMM.1 329) (pMM.1 329) ∈ wsU := mt9 47 rfl
set_option maxRecDepth 100000 in
theorem pmk_330 : pmk pMM 330 1 := ⟨mt9 52 rfl, mt1 12 rfl, ⟨by decide +kernel, by decide +kernel, by decide +kernel⟩, by decide +kernel⟩
set_option maxRecDepth 100000 in
theorem pim_330 : Cond.instanceMethod (pMM.1 330) ∈ wsU := mt9 50 rfl
set_option maxRecDepth 100000 in
theorem psl_330 : Cond.selects (cN (pMM.2.2.2.2 330)) (pMM.1 330) (pMM.1 330) ∈ wsU := mt9 51 rfl
set_option maxRecDepth 100000 in
theorem pmk_331 : pmk pMM 331 1 := ⟨mt9 56 rfl, mt1 12 rfl, ⟨by decide +kernel, by decide +kernel, by decide +kernel⟩, by decide +kernel⟩
set_option maxRecDepth 100000 in
theorem pim_331 : Cond.instanceMethod (pMM.1 331) ∈ wsU := mt9 54 rfl
set_option maxRecDepth 100000 in
theorem psl_331 : Cond.selects (cN (pMM.2.2.2.2 331)) (pMM.1 331) (pMM.1 331) ∈ wsU := mt9 55 rfl
set_option maxRecDepth 100000 in
theorem pmk_332 : pmk pMM 332 1 := ⟨mt9 64 rfl, mt1 12 rfl, ⟨by decide +kernel, by decide +kernel, by decide +kernel⟩, by decide +kernel⟩
set_option maxRecDepth 100000 in
theorem pim_332 : Cond.instanceMethod (pMM.1 332) ∈ wsU := mt9 63 rfl
set_option maxRecDepth 100000 in
theorem psl_332 : Cond.selects (cN (pMM.2.2.2.2 332)) (pMM.1 332) (pMM.1 332) ∈ wsU := mp9 (q := (⟨"LampRoundsModel", "darkBy", "(I)I"⟩, 45)) 2 rfl
set_option maxRecDepth 100000 in
theorem pmk_333 : pmk pMM 333 1 := ⟨mt9 60 rfl, mt1 12 rfl, ⟨by decide +kernel, by decide +kernel, by decide +kernel⟩, by decide +kernel⟩
set_option maxRecDepth 100000 in
theorem pim_333 : Cond.instanceMethod (pMM.1 333) ∈ wsU := mt9 58 rfl
set_option maxRecDepth 100000 in
theorem psl_333 : Cond.selects (cN (pMM.2.2.2.2 333)) (pMM.1 333) (pMM.1 333) ∈ wsU := mt9 59 rfl
set_option maxRecDepth 100000 in
theorem pmk_334 : pmk pMM 334 1 := ⟨mt9 68 rfl, mt1 12 rfl, ⟨by decide +kernel, by decide +kernel, by decide +kernel⟩, by decide +kernel⟩
set_option maxRecDepth 100000 in
theorem pim_334 : Cond.instanceMethod (pMM.1 334) ∈ wsU := mt9 66 rfl
set_option maxRecDepth 100000 in
theorem psl_334 : Cond.selects (cN (pMM.2.2.2.2 334)) (pMM.1 334) (pMM.1 334) ∈ wsU := mt9 67 rfl
set_option maxRecDepth 100000 in
theorem pmk_335 : pmk pMM 335 0 := ⟨mt9 72 rfl, mt1 12 rfl, ⟨by decide +kernel, by decide +kernel, by decide +kernel⟩, by decide +kernel⟩
set_option maxRecDepth 100000 in
theorem pim_335 : Cond.instanceMethod (pMM.1 335) ∈ wsU := mt9 70 rfl
set_option maxRecDepth 100000 in
theorem psl_335 : Cond.selects (cN (pMM.2.2.2.2 335)) (pMM.1 335) (pMM.1 335) ∈ wsU := mt9 71 rfl
set_option maxRecDepth 100000 in
theorem pmk_336 : pmk pMM 336 2 := ⟨mt9 88 rfl, mt1 12 rfl, ⟨by decide +kernel, by decide +kernel, by decide +kernel⟩, by decide +kernel⟩
set_option maxRecDepth 100000 in
theorem pim_336 : Cond.instanceMethod (pMM.1 336) ∈ wsU := mt9 87 rfl
set_option maxRecDepth 100000 in
theorem psl_336 : Cond.selects (cN (pMM.2.2.2.2 336)) (pMM.1 336) (pMM.1 336) ∈ wsU := mp9 (q := (⟨"LampRoundsModel", "less", "(II)I"⟩, 45)) 5 rfl
set_option maxRecDepth 100000 in
theorem pmk_337 : pmk pMM 337 5 := ⟨mt9 84 rfl, mt1 12 rfl, ⟨by decide +kernel, by decide +kernel, by decide +kernel⟩, by decide +kernel⟩
set_option maxRecDepth 100000 in
theorem pim_337 : Cond.instanceMethod (pMM.1 337) ∈ wsU := mt9 83 rfl
set_option maxRecDepth 100000 in
theorem psl_337 : Cond.selects (cN (pMM.2.2.2.2 337)) (pMM.1 337) (pMM.1 337) ∈ wsU := mp9 (q := (⟨"LampRoundsModel", "getsBy", "(IIIII)I"⟩, 45)) 4 rfl
set_option maxRecDepth 100000 in
theorem pmk_338 : pmk pMM 338 2 := ⟨mt9 76 rfl, mt1 12 rfl, ⟨by decide +kernel, by decide +kernel, by decide +kernel⟩, by decide +kernel⟩
set_option maxRecDepth 100000 in
theorem pim_338 : Cond.instanceMethod (pMM.1 338) ∈ wsU := mt9 74 rfl
set_option maxRecDepth 100000 in
theorem psl_338 : Cond.selects (cN (pMM.2.2.2.2 338)) (pMM.1 338) (pMM.1 338) ∈ wsU := mt9 75 rfl
set_option maxRecDepth 100000 in
theorem pmk_339 : pmk pMM 339 4 := ⟨mt9 92 rfl, mt1 12 rfl, ⟨by decide +kernel, by decide +kernel, by decide +kernel⟩, by decide +kernel⟩
set_option maxRecDepth 100000 in
theorem pim_339 : Cond.instanceMethod (pMM.1 339) ∈ wsU := mt9 90 rfl
set_option maxRecDepth 100000 in
theorem psl_339 : Cond.selects (cN (pMM.2.2.2.2 339)) (pMM.1 339) (pMM.1 339) ∈ wsU := mt9 91 rfl
set_option maxRecDepth 100000 in
theorem pmk_340 : pmk pMM 340 0 := ⟨mt9 104 rfl, mt1 12 rfl, ⟨by decide +kernel, by decide +kernel, by decide +kernel⟩, by decide +kernel⟩
set_option maxRecDepth 100000 in
theorem pim_340 : Cond.instanceMethod (pMM.1 340) ∈ wsU := mt9 103 rfl
set_option maxRecDepth 100000 in
theorem psl_340 : Cond.selects (cN (pMM.2.2.2.2 340)) (pMM.1 340) (pMM.1 340) ∈ wsU := mp9 (q := (⟨"LampRoundsModel", "tens", "()I"⟩, 45)) 7 rfl
set_option maxRecDepth 100000 in
theorem pmk_341 : pmk pMM 341 2 := ⟨mt9 100 rfl, mt1 12 rfl, ⟨by decide +kernel, by decide +kernel, by decide +kernel⟩, by decide +kernel⟩
set_option maxRecDepth 100000 in
theorem pim_341 : Cond.instanceMethod (pMM.1 341) ∈ wsU := mt9 99 rfl
set_option maxRecDepth 100000 in
theorem psl_341 : Cond.selects (cN (pMM.2.2.2.2 341)) (pMM.1 341) (pMM.1 341) ∈ wsU := mp9 (q := (⟨"LampRoundsModel", "weightOf", "(IZ)I"⟩, 45)) 6 rfl
set_option maxRecDepth 100000 in
theorem pmk_342 : pmk pMM 342 2 := ⟨mt9 96 rfl, mt1 12 rfl, ⟨by decide +kernel, by decide +kernel, by decide +kernel⟩, by decide +kernel⟩
set_option maxRecDepth 100000 in
theorem pim_342 : Cond.instanceMethod (pMM.1 342) ∈ wsU := mt9 94 rfl
set_option maxRecDepth 100000 in
theorem psl_342 : Cond.selects (cN (pMM.2.2.2.2 342)) (pMM.1 342) (pMM.1 342) ∈ wsU := mt9 95 rfl
set_option maxRecDepth 100000 in
theorem pmk_343 : pmk pMM 343 2 := ⟨mt9 108 rfl, mt1 12 rfl, ⟨by decide +kernel, by decide +kernel, by decide +kernel⟩, by decide +kernel⟩
set_option maxRecDepth 100000 in
theorem pim_343 : Cond.instanceMethod (pMM.1 343) ∈ wsU := mt9 106 rfl
set_option maxRecDepth 100000 in
theorem psl_343 : Cond.selects (cN (pMM.2.2.2.2 343)) (pMM.1 343) (pMM.1 343) ∈ wsU := mt9 107 rfl
set_option maxRecDepth 100000 in
theorem pmk_344 : pmk pMM 344 0 := ⟨mt9 112 rfl, mt1 12 rfl, ⟨by decide +kernel, by decide +kernel, by decide +kernel⟩, by decide +kernel⟩
set_option maxRecDepth 100000 in
theorem pim_344 : Cond.instanceMethod (pMM.1 344) ∈ wsU := mt9 110 rfl
set_option maxRecDepth 100000 in
theorem psl_344 : Cond.selects (cN (pMM.2.2.2.2 344)) (pMM.1 344) (pMM.1 344) ∈ wsU := mt9 111 rfl
set_option maxRecDepth 100000 in
theorem pmk_345 : pmk pMM 345 1 := ⟨mt9 124 rfl, mt1 12 rfl, ⟨by decide +kernel, by decide +kernel, by decide +kernel⟩, by decide +kernel⟩
set_option maxRecDepth 100000 in
theorem pim_345 : Cond.instanceMethod (pMM.1 345) ∈ wsU := mt9 123 rfl
set_option maxRecDepth 100000 in
theorem psl_345 : Cond.selects (cN (pMM.2.2.2.2 345)) (pMM.1 345) (pMM.1 345) ∈ wsU := mp9 (q := (⟨"LampRoundsModel", "draws", "(J)V"⟩, 45)) 8 rfl
set_option maxRecDepth 100000 in
theorem pmk_346 : pmk pMM 346 1 := ⟨mt9 119 rfl, mt1 12 rfl, ⟨by decide +kernel, by decide +kernel, by decide +kernel⟩, by decide +kernel⟩
set_option maxRecDepth 100000 in
theorem pst_346 : Cond.static (pMM.1 346) ∈ wsU := mt9 118 rfl
set_option maxRecDepth 100000 in
theorem pmk_347 : pmk pMM 347 2 := ⟨mt9 116 rfl, mt1 12 rfl, ⟨by decide +kernel, by decide +kernel, by decide +kernel⟩, by decide +kernel⟩
set_option maxRecDepth 100000 in
theorem pim_347 : Cond.instanceMethod (pMM.1 347) ∈ wsU := mt9 114 rfl
set_option maxRecDepth 100000 in
theorem psl_347 : Cond.selects (cN (pMM.2.2.2.2 347)) (pMM.1 347) (pMM.1 347) ∈ wsU := mt9 115 rfl
set_option maxRecDepth 100000 in
theorem pmk_348 : pmk pMM 348 3 := ⟨mt9 132 rfl, mt1 12 rfl, ⟨by decide +kernel, by decide +kernel, by decide +kernel⟩, by decide +kernel⟩
set_option maxRecDepth 100000 in
theorem pim_348 : Cond.instanceMethod (pMM.1 348) ∈ wsU := mt9 130 rfl
set_option maxRecDepth 100000 in
theorem psl_348 : Cond.selects (cN (pMM.2.2.2.2 348)) (pMM.1 348) (pMM.1 348) ∈ wsU := mt9 131 rfl
set_option maxRecDepth 100000 in
theorem pmk_349 : pmk pMM 349 2 := ⟨mt9 141 rfl, mt1 12 rfl, ⟨by decide +kernel, by decide +kernel, by decide +kernel⟩, by decide +kernel⟩
set_option maxRecDepth 100000 in
theorem pim_349 : Cond.instanceMethod (pMM.1 349) ∈ wsU := mt9 140 rfl
set_option maxRecDepth 100000 in
theorem psl_349 : Cond.selects (cN (pMM.2.2.2.2 349)) (pMM.1 349) (pMM.1 349) ∈ wsU := mp9 (q := (⟨"LampRoundsModel", "does", "(II)V"⟩, 45)) 9 rfl
set_option maxRecDepth 100000 in
theorem pmk_350 : pmk pMM 350 2 := ⟨mt9 137 rfl, mt1 12 rfl, ⟨by decide +kernel, by decide +kernel, by decide +kernel⟩, by decide +kernel⟩
set_option maxRecDepth 100000 in
theorem pim_350 : Cond.instanceMethod (pMM.1 350) ∈ wsU := mt9 135 rfl
set_option maxRecDepth 100000 in
theorem psl_350 : Cond.selects (cN (pMM.2.2.2.2 350)) (pMM.1 350) (pMM.1 350) ∈ wsU := mt9 136 rfl
set_option maxRecDepth 100000 in
theorem pmk_351 : pmk pMM 351 1 := ⟨mt9 145 rfl, mt1 12 rfl, ⟨by decide +kernel, by decide +kernel, by decide +kernel⟩, by decide +kernel⟩
set_option maxRecDepth 100000 in
theorem pim_351 : Cond.instanceMethod (pMM.1 351) ∈ wsU := mt9 143 rfl
set_option maxRecDepth 100000 in
theorem psl_351 : Cond.selects (cN (pMM.2.2.2.2 351)) (pMM.1 351) (pMM.1 351) ∈ wsU := mt9 144 rfl
set_option maxRecDepth 100000 in
theorem pmk_352 : pmk pMM 352 0 := ⟨mt9 149 rfl, mt1 12 rfl, ⟨by decide +kernel, by decide +kernel, by decide +kernel⟩, by decide +kernel⟩
set_option maxRecDepth 100000 in
theorem pim_352 : Cond.instanceMethod (pMM.1 352) ∈ wsU := mt9 147 rfl
set_option maxRecDepth 100000 in
theorem psl_352 : Cond.selects (cN (pMM.2.2.2.2 352)) (pMM.1 352) (pMM.1 352) ∈ wsU := mt9 148 rfl
set_option maxRecDepth 100000 in
theorem pmk_353 : pmk pMM 353 0 := ⟨mt9 153 rfl, mt1 12 rfl, ⟨by decide +kernel, by decide +kernel, by decide +kernel⟩, by decide +kernel⟩
set_option maxRecDepth 100000 in
theorem pim_353 : Cond.instanceMethod (pMM.1 353) ∈ wsU := mt9 151 rfl
set_option maxRecDepth 100000 in
theorem psl_353 : Cond.selects (cN (pMM.2.2.2.2 353)) (pMM.1 353) (pMM.1 353) ∈ wsU := mt9 152 rfl
set_option maxRecDepth 100000 in
theorem pmk_354 : pmk pMM 354 2 := ⟨mt9 157 rfl, mt1 12 rfl, ⟨by decide +kernel, by decide +kernel, by decide +kernel⟩, by decide +kernel⟩
set_option maxRecDepth 100000 in
theorem pim_354 : Cond.instanceMethod (pMM.1 354) ∈ wsU := mt9 155 rfl
set_option maxRecDepth 100000 in
theorem psl_354 : Cond.selects (cN (pMM.2.2.2.2 354)) (pMM.1 354) (pMM.1 354) ∈ wsU := mt9 156 rfl
set_option maxRecDepth 100000 in
theorem pmk_355 : pmk pMM 355 1 := ⟨mt9 161 rfl, mt1 12 rfl, ⟨by decide +kernel, by decide +kernel, by decide +kernel⟩, by decide +kernel⟩
set_option maxRecDepth 100000 in
theorem pim_355 : Cond.instanceMethod (pMM.1 355) ∈ wsU := mt9 159 rfl
set_option maxRecDepth 100000 in
theorem psl_355 : Cond.selects (cN (pMM.2.2.2.2 355)) (pMM.1 355) (pMM.1 355) ∈ wsU := mt9 160 rfl
set_option maxRecDepth 100000 in
theorem pmk_356 : pmk pMM 356 1 := ⟨mt9 166 rfl, mt1 12 rfl, ⟨by decide +kernel, by decide +kernel, by decide +kernel⟩, by decide +kernel⟩
set_option maxRecDepth 100000 in
theorem pim_356 : Cond.instanceMethod (pMM.1 356) ∈ wsU := mt9 164 rfl
set_option maxRecDepth 100000 in
theorem psl_356 : Cond.selects (cN (pMM.2.2.2.2 356)) (pMM.1 356) (pMM.1 356) ∈ wsU := mt9 165 rfl
set_option maxRecDepth 100000 in
theorem pmk_357 : pmk pMM 357 1 := ⟨mt9 171 rfl, mt1 12 rfl, ⟨by decide +kernel, by decide +kernel, by decide +kernel⟩, by decide +kernel⟩
set_option maxRecDepth 100000 in
theorem pim_357 : Cond.instanceMethod (pMM.1 357) ∈ wsU := mt9 169 rfl
set_option maxRecDepth 100000 in
theorem psl_357 : Cond.selects (cN (pMM.2.2.2.2 357)) (pMM.1 357) (pMM.1 357) ∈ wsU := mt9 170 rfl
set_option maxRecDepth 100000 in
theorem pmk_358 : pmk pMM 358 2 := ⟨mt4 35 rfl, mt1 13 rfl, ⟨by decide +kernel, by decide +kernel, by decide +kernel⟩, by decide +kernel⟩
set_option maxRecDepth 100000 in
theorem pst_358 : Cond.static (pMM.1 358) ∈ wsU := mt4 34 rfl
set_option maxRecDepth 100000 in
theorem pmk_359 : pmk pMM 359 2 := ⟨mt2 199 rfl, mt1 13 rfl, ⟨by decide +kernel, by decide +kernel, by decide +kernel⟩, by decide +kernel⟩
set_option maxRecDepth 100000 in
theorem pst_359 : Cond.static (pMM.1 359) ∈ wsU := mt2 198 rfl
set_option maxRecDepth 100000 in
theorem pmk_360 : pmk pMM 360 1 := ⟨mt5 78 rfl, mt1 20 rfl, ⟨by decide +kernel, by decide +kernel, by decide +kernel⟩, by decide +kernel⟩
set_option maxRecDepth 100000 in
theorem pst_360 : Cond.static (pMM.1 360) ∈ wsU := mt5 77 rfl
set_option maxRecDepth 100000 in
theorem pmk_361 : pmk pMM 361 0 := ⟨mt2 237 rfl, mt1 14 rfl, ⟨by decide +kernel, by decide +kernel, by decide +kernel⟩, by decide +kernel⟩
set_option maxRecDepth 100000 in
theorem pim_361 : Cond.instanceMethod (pMM.1 361) ∈ wsU := mt2 235 rfl
set_option maxRecDepth 100000 in
theorem psl_361 : Cond.selects "java/lang/String" (pMM.1 361) (pMM.1 361) ∈ wsU := mt2 236 rfl
set_option maxRecDepth 100000 in
theorem pmk_362 : pmk pMM 362 1 := ⟨mt3 7 rfl, mt1 14 rfl, ⟨by decide +kernel, by decide +kernel, by decide +kernel⟩, by decide +kernel⟩
set_option maxRecDepth 100000 in
theorem pim_362 : Cond.instanceMethod (pMM.1 362) ∈ wsU := mt3 5 rfl
set_option maxRecDepth 100000 in
theorem psl_362 : Cond.selects "java/lang/String" (pMM.1 362) (pMM.1 362) ∈ wsU := mt3 6 rfl
set_option maxRecDepth 100000 in
theorem rk_0_3 : RsOK pMM 0 3 (4, 0, 0) := show _ from mt1 149 rfl
set_option maxRecDepth 100000 in
theorem rk_0_9 : RsOK pMM 0 9 (0, 0, 0) := show _ ∧ _ ∧ _ from ⟨by decide, by decide, mt1 150 rfl⟩
set_option maxRecDepth 100000 in
theorem rk_0_15 : RsOK pMM 0 15 (0, 0, 1) := show _ ∧ _ ∧ _ from ⟨by decide, by decide, mt1 152 rfl⟩
set_option maxRecDepth 100000 in
theorem rk_0_18 : RsOK pMM 0 18 (0, 0, 2) := show _ ∧ _ ∧ _ from ⟨by decide, by decide, mt1 154 rfl⟩
set_option maxRecDepth 100000 in
theorem rk_0_22 : RsOK pMM 0 22 (7, 0, 0) := show _ from mt6 73 rfl
set_option maxRecDepth 100000 in
theorem rk_1_3 : RsOK pMM 1 3 (4, 0, 0) := show _ from mt2 49 rfl
set_option maxRecDepth 100000 in
theorem rk_1_9 : RsOK pMM 1 9 (0, 1, 0) := show _ ∧ _ ∧ _ from ⟨by decide, by decide, mt2 50 rfl⟩
set_option maxRecDepth 100000 in
theorem rk_1_15 : RsOK pMM 1 15 (0, 1, 1) := show _ ∧ _ ∧ _ from ⟨by decide, by decide, mt2 51 rfl⟩
set_option maxRecDepth 100000 in
theorem rk_1_19 : RsOK pMM 1 19 (0, 1, 2) := show _ ∧ _ ∧ _ from ⟨by decide, by decide, mt2 52 rfl⟩
set_option maxRecDepth 100000 in
theorem rk_1_22 : RsOK pMM 1 22 (0, 3, 1) := show _ ∧ _ ∧ _ from ⟨by decide, by decide, mt1 56 rfl⟩
set_option maxRecDepth 100000 in
theorem rk_1_25 : RsOK pMM 1 25 (0, 3, 8) := show _ ∧ _ ∧ _ from ⟨by decide, by decide, mt1 89 rfl⟩
set_option maxRecDepth 100000 in
theorem rk_1_28 : RsOK pMM 1 28 (0, 3, 4) := show _ ∧ _ ∧ _ from ⟨by decide, by decide, mt1 71 rfl⟩
set_option maxRecDepth 100000 in
theorem rk_1_31 : RsOK pMM 1 31 (1, 21, 2) := show _ ∧ _ ∧ _ ∧ _ ∧ _ from ⟨mt4 147 rfl, pim_21, psl_21, by decide, pmk_21⟩
set_option maxRecDepth 100000 in
theorem rk_1_35 : RsOK pMM 1 35 (2, 359, 2) := show _ ∧ _ ∧ _ from ⟨mt5 98 rfl, pst_359, pmk_359⟩
set_option maxRecDepth 100000 in
theorem rk_1_41 : RsOK pMM 1 41 (12, 0, 34952) := show _ from mt4 160 rfl
set_option maxRecDepth 100000 in
theorem rk_2_3 : RsOK pMM 2 3 (4, 0, 0) := show _ from mt2 15 rfl
set_option maxRecDepth 100000 in
theorem rk_2_9 : RsOK pMM 2 9 (0, 2, 0) := show _ ∧ _ ∧ _ from ⟨by decide, by decide, mt2 16 rfl⟩
set_option maxRecDepth 100000 in
theorem rk_2_15 : RsOK pMM 2 15 (0, 2, 1) := show _ ∧ _ ∧ _ from ⟨by decide, by decide, mt2 17 rfl⟩
set_option maxRecDepth 100000 in
theorem rk_2_19 : RsOK pMM 2 19 (0, 2, 2) := show _ ∧ _ ∧ _ from ⟨by decide, by decide, mt2 19 rfl⟩
set_option maxRecDepth 100000 in
theorem rk_2_22 : RsOK pMM 2 22 (0, 2, 3) := show _ ∧ _ ∧ _ from ⟨by decide, by decide, mt2 21 rfl⟩
set_option maxRecDepth 100000 in
theorem rk_2_25 : RsOK pMM 2 25 (0, 2, 4) := show _ ∧ _ ∧ _ from ⟨by decide, by decide, mt2 23 rfl⟩
set_option maxRecDepth 100000 in
theorem rk_2_28 : RsOK pMM 2 28 (0, 2, 5) := show _ ∧ _ ∧ _ from ⟨by decide, by decide, mt2 24 rfl⟩
set_option maxRecDepth 100000 in
theorem rk_2_31 : RsOK pMM 2 31 (0, 3, 4) := show _ ∧ _ ∧ _ from ⟨by decide, by decide, mt1 69 rfl⟩
set_option maxRecDepth 100000 in
theorem rk_2_34 : RsOK pMM 2 34 (0, 3, 3) := show _ ∧ _ ∧ _ from ⟨by decide, by decide, mt1 64 rfl⟩
set_option maxRecDepth 100000 in
theorem rk_2_35 : RsOK pMM 2 35 (0, 6, 4) := show _ ∧ _ ∧ _ from ⟨by decide, by decide, mt1 210 rfl⟩
set_option maxRecDepth 100000 in
theorem rk_2_41 : RsOK pMM 2 41 (2, 360, 1) := show _ ∧ _ ∧ _ from ⟨mt5 159 rfl, pst_360, pmk_360⟩
set_option maxRecDepth 100000 in
theorem rk_2_47 : RsOK pMM 2 47 (1, 13, 1) := show _ ∧ _ ∧ _ ∧ _ ∧ _ from ⟨mt5 160 rfl, pim_13, psl_13, by decide, pmk_13⟩
set_option maxRecDepth 100000 in
theorem rk_2_50 : RsOK pMM 2 50 (1, 14, 2) := show _ ∧ _ ∧ _ ∧ _ ∧ _ from ⟨mt5 164 rfl, pim_14, psl_14, by decide, pmk_14⟩
set_option maxRecDepth 100000 in
theorem rk_2_54 : RsOK pMM 2 54 (2, 358, 2) := show _ ∧ _ ∧ _ from ⟨mt5 168 rfl, pst_358, pmk_358⟩
set_option maxRecDepth 100000 in
theorem rk_3_3 : RsOK pMM 3 3 (4, 0, 0) := show _ from mt1 51 rfl
set_option maxRecDepth 100000 in
theorem rk_3_9 : RsOK pMM 3 9 (0, 3, 0) := show _ ∧ _ ∧ _ from ⟨by decide, by decide, mt1 52 rfl⟩
set_option maxRecDepth 100000 in
theorem rk_3_15 : RsOK pMM 3 15 (0, 3, 1) := show _ ∧ _ ∧ _ from ⟨by decide, by decide, mt1 55 rfl⟩
set_option maxRecDepth 100000 in
theorem rk_3_18 : RsOK pMM 3 18 (0, 3, 2) := show _ ∧ _ ∧ _ from ⟨by decide, by decide, mt1 60 rfl⟩
set_option maxRecDepth 100000 in
theorem rk_3_21 : RsOK pMM 3 21 (0, 3, 3) := show _ ∧ _ ∧ _ from ⟨by decide, by decide, mt1 63 rfl⟩
set_option maxRecDepth 100000 in
theorem rk_3_24 : RsOK pMM 3 24 (0, 3, 4) := show _ ∧ _ ∧ _ from ⟨by decide, by decide, mt1 68 rfl⟩
set_option maxRecDepth 100000 in
theorem rk_3_27 : RsOK pMM 3 27 (0, 3, 5) := show _ ∧ _ ∧ _ from ⟨by decide, by decide, mt1 76 rfl⟩
set_option maxRecDepth 100000 in
theorem rk_3_30 : RsOK pMM 3 30 (0, 3, 6) := show _ ∧ _ ∧ _ from ⟨by decide, by decide, mt1 79 rfl⟩
set_option maxRecDepth 100000 in
theorem rk_3_33 : RsOK pMM 3 33 (0, 3, 7) := show _ ∧ _ ∧ _ from ⟨by decide, by decide, mt1 83 rfl⟩
set_option maxRecDepth 100000 in
theorem rk_3_36 : RsOK pMM 3 36 (0, 3, 8) := show _ ∧ _ ∧ _ from ⟨by decide, by decide, mt1 88 rfl⟩
set_option maxRecDepth 100000 in
theorem rk_3_40 : RsOK pMM 3 40 (0, 3, 9) := show _ ∧ _ ∧ _ from ⟨by decide, by decide, mt1 94 rfl⟩
set_option maxRecDepth 100000 in
theorem rk_3_43 : RsOK pMM 3 43 (0, 3, 10) := show _ ∧ _ ∧ _ from ⟨by decide, by decide, mt1 97 rfl⟩
set_option maxRecDepth 100000 in
theorem rk_3_46 : RsOK pMM 3 46 (0, 3, 11) := show _ ∧ _ ∧ _ from ⟨by decide, by decide, mt1 100 rfl⟩
set_option maxRecDepth 100000 in
theorem rk_3_49 : RsOK pMM 3 49 (0, 3, 12) := show _ ∧ _ ∧ _ from ⟨by decide, by decide, mt1 101 rfl⟩
set_option maxRecDepth 100000 in
theorem rk_3_52 : RsOK pMM 3 52 (0, 3, 13) := show _ ∧ _ ∧ _ from ⟨by decide, by decide, mt1 104 rfl⟩
set_option maxRecDepth 100000 in
theorem rk_3_55 : RsOK pMM 3 55 (0, 3, 14) := show _ ∧ _ ∧ _ from ⟨by decide, by decide, mt1 107 rfl⟩
set_option maxRecDepth 100000 in
theorem rk_3_58 : RsOK pMM 3 58 (7, 0, 0) := show _ from mt3 98 rfl
set_option maxRecDepth 100000 in
theorem rk_3_64 : RsOK pMM 3 64 (1, 19, 1) := show _ ∧ _ ∧ _ ∧ _ ∧ _ from ⟨mt3 105 rfl, pim_19, psl_19, by decide, pmk_19⟩
set_option maxRecDepth 100000 in
theorem rk_3_68 : RsOK pMM 3 68 (1, 20, 2) := show _ ∧ _ ∧ _ ∧ _ ∧ _ from ⟨mt3 201 rfl, pim_20, psl_20, by decide, pmk_20⟩
set_option maxRecDepth 100000 in
theorem rk_3_72 : RsOK pMM 3 72 (13, 0, 1103515245) := show _ from mt6 44 rfl
set_option maxRecDepth 100000 in
theorem rk_3_74 : RsOK pMM 3 74 (13, 0, 12345) := show _ from mt6 45 rfl
set_option maxRecDepth 100000 in
theorem rk_3_76 : RsOK pMM 3 76 (13, 0, 2147483647) := show _ from mt6 46 rfl
set_option maxRecDepth 100000 in
theorem rk_3_78 : RsOK pMM 3 78 (13, 0, 65536) := show _ from mt6 47 rfl
set_option maxRecDepth 100000 in
theorem rk_3_80 : RsOK pMM 3 80 (13, 0, 10) := show _ from mt6 48 rfl
set_option maxRecDepth 100000 in
theorem rk_4_1 : RsOK pMM 4 1 (4, 0, 0) := show _ from mt2 103 rfl
set_option maxRecDepth 100000 in
theorem rk_4_7 : RsOK pMM 4 7 (5, 3, 0) := show _ ∧ _ from ⟨by decide, mt2 104 rfl⟩
set_option maxRecDepth 100000 in
theorem rk_4_9 : RsOK pMM 4 9 (3, 15, 0) := show _ ∧ _ ∧ _ ∧ _ ∧ _ from ⟨Or.inr (List.mem_of_getElem? (i := 10) rfl), pim_15, rfl, rfl, pmk_15⟩
set_option maxRecDepth 100000 in
theorem rk_4_10 : RsOK pMM 4 10 (0, 4, 0) := show _ ∧ _ ∧ _ from ⟨by decide, by decide, mt2 108 rfl⟩
set_option maxRecDepth 100000 in
theorem rk_4_16 : RsOK pMM 4 16 (5, 0, 0) := show _ ∧ _ from ⟨by decide, mt2 106 rfl⟩
set_option maxRecDepth 100000 in
theorem rk_4_18 : RsOK pMM 4 18 (3, 0, 0) := show _ ∧ _ ∧ _ ∧ _ ∧ _ from ⟨Or.inr (List.mem_of_getElem? (i := 11) rfl), pim_0, rfl, rfl, pmk_0⟩
set_option maxRecDepth 100000 in
theorem rk_4_19 : RsOK pMM 4 19 (0, 4, 1) := show _ ∧ _ ∧ _ from ⟨by decide, by decide, mt2 110 rfl⟩
set_option maxRecDepth 100000 in
theorem rk_4_23 : RsOK pMM 4 23 (0, 4, 2) := show _ ∧ _ ∧ _ from ⟨by decide, by decide, mt2 112 rfl⟩
set_option maxRecDepth 100000 in
theorem rk_5_3 : RsOK pMM 5 3 (4, 0, 0) := show _ from mt4 104 rfl
set_option maxRecDepth 100000 in
theorem rk_5_9 : RsOK pMM 5 9 (5, 1, 0) := show _ ∧ _ from ⟨by decide, mt4 105 rfl⟩
set_option maxRecDepth 100000 in
theorem rk_5_11 : RsOK pMM 5 11 (3, 3, 0) := show _ ∧ _ ∧ _ ∧ _ ∧ _ from ⟨Or.inr (List.mem_of_getElem? (i := 14) rfl), pim_3, rfl, rfl, pmk_3⟩
set_option maxRecDepth 100000 in
theorem rk_5_12 : RsOK pMM 5 12 (0, 5, 0) := show _ ∧ _ ∧ _ from ⟨by decide, by decide, mt4 107 rfl⟩
set_option maxRecDepth 100000 in
theorem rk_5_18 : RsOK pMM 5 18 (0, 5, 1) := show _ ∧ _ ∧ _ from ⟨by decide, by decide, mt4 108 rfl⟩
set_option maxRecDepth 100000 in
theorem rk_5_22 : RsOK pMM 5 22 (0, 5, 2) := show _ ∧ _ ∧ _ from ⟨by decide, by decide, mt4 109 rfl⟩
set_option maxRecDepth 100000 in
theorem rk_5_26 : RsOK pMM 5 26 (0, 5, 3) := show _ ∧ _ ∧ _ from ⟨by decide, by decide, mt4 110 rfl⟩
set_option maxRecDepth 100000 in
theorem rk_5_30 : RsOK pMM 5 30 (0, 5, 4) := show _ ∧ _ ∧ _ from ⟨by decide, by decide, mt4 111 rfl⟩
set_option maxRecDepth 100000 in
theorem rk_5_33 : RsOK pMM 5 33 (0, 5, 5) := show _ ∧ _ ∧ _ from ⟨by decide, by decide, mt4 112 rfl⟩
set_option maxRecDepth 100000 in
theorem rk_5_36 : RsOK pMM 5 36 (0, 5, 6) := show _ ∧ _ ∧ _ from ⟨by decide, by decide, mt4 113 rfl⟩
set_option maxRecDepth 100000 in
theorem rk_5_40 : RsOK pMM 5 40 (0, 5, 7) := show _ ∧ _ ∧ _ from ⟨by decide, by decide, mt4 114 rfl⟩
set_option maxRecDepth 100000 in
theorem rk_5_44 : RsOK pMM 5 44 (0, 5, 8) := show _ ∧ _ ∧ _ from ⟨by decide, by decide, mt4 115 rfl⟩
set_option maxRecDepth 100000 in
theorem rk_5_47 : RsOK pMM 5 47 (1, 38, 1) := show _ ∧ _ ∧ _ ∧ _ ∧ _ from ⟨mt4 139 rfl, pim_38, psl_38, by decide, pmk_38⟩
set_option maxRecDepth 100000 in
theorem rk_5_51 : RsOK pMM 5 51 (0, 3, 4) := show _ ∧ _ ∧ _ from ⟨by decide, by decide, mt1 72 rfl⟩
set_option maxRecDepth 100000 in
theorem rk_5_56 : RsOK pMM 5 56 (1, 40, 1) := show _ ∧ _ ∧ _ ∧ _ ∧ _ from ⟨mt4 152 rfl, pim_40, psl_40, by decide, pmk_40⟩
set_option maxRecDepth 100000 in
theorem rk_5_60 : RsOK pMM 5 60 (1, 42, 1) := show _ ∧ _ ∧ _ ∧ _ ∧ _ from ⟨mt4 162 rfl, pim_42, psl_42, by decide, pmk_42⟩
set_option maxRecDepth 100000 in
theorem rk_5_64 : RsOK pMM 5 64 (1, 24, 0) := show _ ∧ _ ∧ _ ∧ _ ∧ _ from ⟨mt4 218 rfl, pim_24, psl_24, by decide, pmk_24⟩
set_option maxRecDepth 100000 in
theorem rk_5_68 : RsOK pMM 5 68 (2, 49, 1) := show _ ∧ _ ∧ _ from ⟨mt4 219 rfl, pst_49, pmk_49⟩
set_option maxRecDepth 100000 in
theorem rk_5_71 : RsOK pMM 5 71 (12, 0, 65535) := show _ from mt4 202 rfl
set_option maxRecDepth 100000 in
theorem rk_5_72 : RsOK pMM 5 72 (1, 6, 1) := show _ ∧ _ ∧ _ ∧ _ ∧ _ from ⟨mt4 222 rfl, pim_6, psl_6, by decide, pmk_6⟩
set_option maxRecDepth 100000 in
theorem rk_5_75 : RsOK pMM 5 75 (1, 23, 0) := show _ ∧ _ ∧ _ ∧ _ ∧ _ from ⟨mt4 234 rfl, pim_23, psl_23, by decide, pmk_23⟩
set_option maxRecDepth 100000 in
theorem rk_5_78 : RsOK pMM 5 78 (1, 41, 2) := show _ ∧ _ ∧ _ ∧ _ ∧ _ from ⟨mt4 197 rfl, pim_41, psl_41, by decide, pmk_41⟩
set_option maxRecDepth 100000 in
theorem rk_5_82 : RsOK pMM 5 82 (2, 48, 1) := show _ ∧ _ ∧ _ from ⟨mt4 166 rfl, pst_48, pmk_48⟩
set_option maxRecDepth 100000 in
theorem rk_5_85 : RsOK pMM 5 85 (0, 3, 8) := show _ ∧ _ ∧ _ from ⟨by decide, by decide, mt1 93 rfl⟩
set_option maxRecDepth 100000 in
theorem rk_5_88 : RsOK pMM 5 88 (1, 37, 2) := show _ ∧ _ ∧ _ ∧ _ ∧ _ from ⟨mt5 90 rfl, pim_37, psl_37, by decide, pmk_37⟩
set_option maxRecDepth 100000 in
theorem rk_5_92 : RsOK pMM 5 92 (1, 4, 2) := show _ ∧ _ ∧ _ ∧ _ ∧ _ from ⟨mt4 143 rfl, pim_4, psl_4, by decide, pmk_4⟩
set_option maxRecDepth 100000 in
theorem rk_5_96 : RsOK pMM 5 96 (1, 5, 2) := show _ ∧ _ ∧ _ ∧ _ ∧ _ from ⟨mt5 94 rfl, pim_5, psl_5, by decide, pmk_5⟩
set_option maxRecDepth 100000 in
theorem rk_5_100 : RsOK pMM 5 100 (1, 39, 0) := show _ ∧ _ ∧ _ ∧ _ ∧ _ from ⟨mt4 148 rfl, pim_39, psl_39, by decide, pmk_39⟩
set_option maxRecDepth 100000 in
theorem rk_5_103 : RsOK pMM 5 103 (1, 7, 3) := show _ ∧ _ ∧ _ ∧ _ ∧ _ from ⟨mt4 156 rfl, pim_7, psl_7, by decide, pmk_7⟩
set_option maxRecDepth 100000 in
theorem rk_5_107 : RsOK pMM 5 107 (2, 358, 2) := show _ ∧ _ ∧ _ from ⟨mt4 161 rfl, pst_358, pmk_358⟩
set_option maxRecDepth 100000 in
theorem rk_5_112 : RsOK pMM 5 112 (1, 21, 2) := show _ ∧ _ ∧ _ ∧ _ ∧ _ from ⟨mt4 201 rfl, pim_21, psl_21, by decide, pmk_21⟩
set_option maxRecDepth 100000 in
theorem rk_5_115 : RsOK pMM 5 115 (1, 50, 1) := show _ ∧ _ ∧ _ ∧ _ ∧ _ from ⟨mt4 169 rfl, pim_50, psl_50, by decide, pmk_50⟩
set_option maxRecDepth 100000 in
theorem rk_5_118 : RsOK pMM 5 118 (1, 43, 1) := show _ ∧ _ ∧ _ ∧ _ ∧ _ from ⟨mt4 173 rfl, pim_43, psl_43, by decide, pmk_43⟩
set_option maxRecDepth 100000 in
theorem rk_5_121 : RsOK pMM 5 121 (1, 44, 2) := show _ ∧ _ ∧ _ ∧ _ ∧ _ from ⟨mt4 177 rfl, pim_44, psl_44, by decide, pmk_44⟩
set_option maxRecDepth 100000 in
theorem rk_5_124 : RsOK pMM 5 124 (12, 0, 1000000) := show _ from mt4 187 rfl
set_option maxRecDepth 100000 in
theorem rk_5_125 : RsOK pMM 5 125 (1, 45, 1) := show _ ∧ _ ∧ _ ∧ _ ∧ _ from ⟨mt4 188 rfl, pim_45, psl_45, by decide, pmk_45⟩
set_option maxRecDepth 100000 in
theorem rk_5_128 : RsOK pMM 5 128 (1, 46, 2) := show _ ∧ _ ∧ _ ∧ _ ∧ _ from ⟨mt4 193 rfl, pim_46, psl_46, by decide, pmk_46⟩
set_option maxRecDepth 100000 in
theorem rk_5_131 : RsOK pMM 5 131 (1, 47, 1) := show _ ∧ _ ∧ _ ∧ _ ∧ _ from ⟨mt4 203 rfl, pim_47, psl_47, by decide, pmk_47⟩
set_option maxRecDepth 100000 in
theorem rk_5_134 : RsOK pMM 5 134 (1, 51, 2) := show _ ∧ _ ∧ _ ∧ _ ∧ _ from ⟨mt4 181 rfl, pim_51, psl_51, by decide, pmk_51⟩
set_option maxRecDepth 100000 in
theorem rk_5_137 : RsOK pMM 5 137 (2, 359, 2) := show _ ∧ _ ∧ _ from ⟨mt4 192 rfl, pst_359, pmk_359⟩
set_option maxRecDepth 100000 in
theorem rk_5_140 : RsOK pMM 5 140 (13, 0, 3) := show _ from mt4 185 rfl
set_option maxRecDepth 100000 in
theorem rk_5_142 : RsOK pMM 5 142 (13, 0, -1) := show _ from mt4 186 rfl
set_option maxRecDepth 100000 in
theorem rk_6_3 : RsOK pMM 6 3 (4, 0, 0) := show _ from mt1 202 rfl
set_option maxRecDepth 100000 in
theorem rk_6_9 : RsOK pMM 6 9 (0, 6, 0) := show _ ∧ _ ∧ _ from ⟨by decide, by decide, mt1 203 rfl⟩
set_option maxRecDepth 100000 in
theorem rk_6_15 : RsOK pMM 6 15 (0, 6, 1) := show _ ∧ _ ∧ _ from ⟨by decide, by decide, mt1 204 rfl⟩
set_option maxRecDepth 100000 in
theorem rk_6_18 : RsOK pMM 6 18 (0, 6, 2) := show _ ∧ _ ∧ _ from ⟨by decide, by decide, mt1 206 rfl⟩
set_option maxRecDepth 100000 in
theorem rk_6_21 : RsOK pMM 6 21 (0, 6, 3) := show _ ∧ _ ∧ _ from ⟨by decide, by decide, mt1 208 rfl⟩
set_option maxRecDepth 100000 in
theorem rk_6_24 : RsOK pMM 6 24 (0, 6, 4) := show _ ∧ _ ∧ _ from ⟨by decide, by decide, mt1 209 rfl⟩
set_option maxRecDepth 100000 in
theorem rk_6_27 : RsOK pMM 6 27 (0, 6, 5) := show _ ∧ _ ∧ _ from ⟨by decide, by decide, mt1 211 rfl⟩
set_option maxRecDepth 100000 in
theorem rk_6_30 : RsOK pMM 6 30 (0, 6, 6) := show _ ∧ _ ∧ _ from ⟨by decide, by decide, mt1 213 rfl⟩
set_option maxRecDepth 100000 in
theorem rk_6_34 : RsOK pMM 6 34 (0, 6, 7) := show _ ∧ _ ∧ _ from ⟨by decide, by decide, mt1 215 rfl⟩
set_option maxRecDepth 100000 in
theorem rk_6_37 : RsOK pMM 6 37 (0, 6, 8) := show _ ∧ _ ∧ _ from ⟨by decide, by decide, mt1 217 rfl⟩
set_option maxRecDepth 100000 in
theorem rk_6_40 : RsOK pMM 6 40 (0, 6, 9) := show _ ∧ _ ∧ _ from ⟨by decide, by decide, mt1 219 rfl⟩
set_option maxRecDepth 100000 in
theorem rk_6_43 : RsOK pMM 6 43 (0, 6, 10) := show _ ∧ _ ∧ _ from ⟨by decide, by decide, mt1 220 rfl⟩
set_option maxRecDepth 100000 in
theorem rk_6_46 : RsOK pMM 6 46 (0, 6, 11) := show _ ∧ _ ∧ _ from ⟨by decide, by decide, mt1 221 rfl⟩
set_option maxRecDepth 100000 in
theorem rk_6_49 : RsOK pMM 6 49 (0, 6, 12) := show _ ∧ _ ∧ _ from ⟨by decide, by decide, mt1 222 rfl⟩
set_option maxRecDepth 100000 in
theorem rk_6_53 : RsOK pMM 6 53 (0, 3, 4) := show _ ∧ _ ∧ _ from ⟨by decide, by decide, mt1 70 rfl⟩
set_option maxRecDepth 100000 in
theorem rk_6_56 : RsOK pMM 6 56 (0, 3, 3) := show _ ∧ _ ∧ _ from ⟨by decide, by decide, mt1 65 rfl⟩
set_option maxRecDepth 100000 in
theorem rk_6_57 : RsOK pMM 6 57 (0, 3, 1) := show _ ∧ _ ∧ _ from ⟨by decide, by decide, mt1 57 rfl⟩
set_option maxRecDepth 100000 in
theorem rk_6_58 : RsOK pMM 6 58 (0, 3, 8) := show _ ∧ _ ∧ _ from ⟨by decide, by decide, mt1 90 rfl⟩
set_option maxRecDepth 100000 in
theorem rk_6_59 : RsOK pMM 6 59 (7, 0, 0) := show _ from mt3 176 rfl
set_option maxRecDepth 100000 in
theorem rk_6_65 : RsOK pMM 6 65 (0, 3, 6) := show _ ∧ _ ∧ _ from ⟨by decide, by decide, mt1 80 rfl⟩
set_option maxRecDepth 100000 in
theorem rk_6_68 : RsOK pMM 6 68 (0, 3, 13) := show _ ∧ _ ∧ _ from ⟨by decide, by decide, mt1 105 rfl⟩
set_option maxRecDepth 100000 in
theorem rk_6_71 : RsOK pMM 6 71 (0, 3, 12) := show _ ∧ _ ∧ _ from ⟨by decide, by decide, mt1 102 rfl⟩
set_option maxRecDepth 100000 in
theorem rk_6_74 : RsOK pMM 6 74 (0, 0, 2) := show _ ∧ _ ∧ _ from ⟨by decide, by decide, mt1 155 rfl⟩
set_option maxRecDepth 100000 in
theorem rk_6_79 : RsOK pMM 6 79 (0, 0, 0) := show _ ∧ _ ∧ _ from ⟨by decide, by decide, mt1 151 rfl⟩
set_option maxRecDepth 100000 in
theorem rk_6_82 : RsOK pMM 6 82 (0, 0, 1) := show _ ∧ _ ∧ _ from ⟨by decide, by decide, mt1 153 rfl⟩
set_option maxRecDepth 100000 in
theorem rk_6_85 : RsOK pMM 6 85 (2, 358, 2) := show _ ∧ _ ∧ _ from ⟨mt4 33 rfl, pst_358, pmk_358⟩
set_option maxRecDepth 100000 in
theorem rk_6_91 : RsOK pMM 6 91 (1, 56, 1) := show _ ∧ _ ∧ _ ∧ _ ∧ _ from ⟨mt3 181 rfl, pim_56, psl_56, by decide, pmk_56⟩
set_option maxRecDepth 100000 in
theorem rk_6_95 : RsOK pMM 6 95 (1, 58, 1) := show _ ∧ _ ∧ _ ∧ _ ∧ _ from ⟨mt3 206 rfl, pim_58, psl_58, by decide, pmk_58⟩
set_option maxRecDepth 100000 in
theorem rk_6_99 : RsOK pMM 6 99 (0, 3, 7) := show _ ∧ _ ∧ _ from ⟨by decide, by decide, mt1 85 rfl⟩
set_option maxRecDepth 100000 in
theorem rk_6_102 : RsOK pMM 6 102 (0, 3, 14) := show _ ∧ _ ∧ _ from ⟨by decide, by decide, mt1 108 rfl⟩
set_option maxRecDepth 100000 in
theorem rk_6_105 : RsOK pMM 6 105 (1, 62, 1) := show _ ∧ _ ∧ _ ∧ _ ∧ _ from ⟨mt3 185 rfl, pim_62, psl_62, by decide, pmk_62⟩
set_option maxRecDepth 100000 in
theorem rk_6_108 : RsOK pMM 6 108 (1, 22, 2) := show _ ∧ _ ∧ _ ∧ _ ∧ _ from ⟨mt3 197 rfl, pim_22, psl_22, by decide, pmk_22⟩
set_option maxRecDepth 100000 in
theorem rk_6_111 : RsOK pMM 6 111 (1, 21, 2) := show _ ∧ _ ∧ _ ∧ _ ∧ _ from ⟨mt3 202 rfl, pim_21, psl_21, by decide, pmk_21⟩
set_option maxRecDepth 100000 in
theorem rk_6_115 : RsOK pMM 6 115 (1, 57, 1) := show _ ∧ _ ∧ _ ∧ _ ∧ _ from ⟨mt3 210 rfl, pim_57, psl_57, by decide, pmk_57⟩
set_option maxRecDepth 100000 in
theorem rk_6_118 : RsOK pMM 6 118 (1, 60, 2) := show _ ∧ _ ∧ _ ∧ _ ∧ _ from ⟨mt3 193 rfl, pim_60, psl_60, by decide, pmk_60⟩
set_option maxRecDepth 100000 in
theorem rk_6_121 : RsOK pMM 6 121 (1, 59, 3) := show _ ∧ _ ∧ _ ∧ _ ∧ _ from ⟨mt3 214 rfl, pim_59, psl_59, by decide, pmk_59⟩
set_option maxRecDepth 100000 in
theorem rk_6_125 : RsOK pMM 6 125 (1, 61, 2) := show _ ∧ _ ∧ _ ∧ _ ∧ _ from ⟨mt3 189 rfl, pim_61, psl_61, by decide, pmk_61⟩
set_option maxRecDepth 100000 in
theorem rk_6_128 : RsOK pMM 6 128 (1, 63, 1) := show _ ∧ _ ∧ _ ∧ _ ∧ _ from ⟨mt4 73 rfl, pim_63, psl_63, by decide, pmk_63⟩
set_option maxRecDepth 100000 in
theorem rk_6_131 : RsOK pMM 6 131 (1, 65, 0) := show _ ∧ _ ∧ _ ∧ _ ∧ _ from ⟨mt4 8 rfl, pim_65, psl_65, by decide, pmk_65⟩
set_option maxRecDepth 100000 in
theorem rk_6_135 : RsOK pMM 6 135 (2, 359, 2) := show _ ∧ _ ∧ _ from ⟨mt4 82 rfl, pst_359, pmk_359⟩
set_option maxRecDepth 100000 in
theorem rk_6_138 : RsOK pMM 6 138 (0, 9, 2) := show _ ∧ _ ∧ _ from ⟨by decide, by decide, mt2 132 rfl⟩
set_option maxRecDepth 100000 in
theorem rk_6_141 : RsOK pMM 6 141 (0, 9, 0) := show _ ∧ _ ∧ _ from ⟨by decide, by decide, mt2 127 rfl⟩
set_option maxRecDepth 100000 in
theorem rk_7_3 : RsOK pMM 7 3 (4, 0, 0) := show _ from mt1 169 rfl
set_option maxRecDepth 100000 in
theorem rk_7_9 : RsOK pMM 7 9 (5, 3, 0) := show _ ∧ _ from ⟨by decide, mt1 170 rfl⟩
set_option maxRecDepth 100000 in
theorem rk_7_11 : RsOK pMM 7 11 (3, 15, 0) := show _ ∧ _ ∧ _ ∧ _ ∧ _ from ⟨Or.inr (List.mem_of_getElem? (i := 4) rfl), pim_15, rfl, rfl, pmk_15⟩
set_option maxRecDepth 100000 in
theorem rk_7_12 : RsOK pMM 7 12 (0, 7, 0) := show _ ∧ _ ∧ _ from ⟨by decide, by decide, mt1 172 rfl⟩
set_option maxRecDepth 100000 in
theorem rk_7_18 : RsOK pMM 7 18 (0, 7, 1) := show _ ∧ _ ∧ _ from ⟨by decide, by decide, mt1 174 rfl⟩
set_option maxRecDepth 100000 in
theorem rk_7_22 : RsOK pMM 7 22 (0, 7, 2) := show _ ∧ _ ∧ _ from ⟨by decide, by decide, mt1 176 rfl⟩
set_option maxRecDepth 100000 in
theorem rk_7_25 : RsOK pMM 7 25 (0, 7, 3) := show _ ∧ _ ∧ _ from ⟨by decide, by decide, mt1 178 rfl⟩
set_option maxRecDepth 100000 in
theorem rk_7_29 : RsOK pMM 7 29 (0, 7, 4) := show _ ∧ _ ∧ _ from ⟨by decide, by decide, mt1 179 rfl⟩
set_option maxRecDepth 100000 in
theorem rk_7_33 : RsOK pMM 7 33 (0, 7, 5) := show _ ∧ _ ∧ _ from ⟨by decide, by decide, mt1 180 rfl⟩
set_option maxRecDepth 100000 in
theorem rk_7_36 : RsOK pMM 7 36 (0, 7, 6) := show _ ∧ _ ∧ _ from ⟨by decide, by decide, mt1 181 rfl⟩
set_option maxRecDepth 100000 in
theorem rk_7_39 : RsOK pMM 7 39 (0, 10, 0) := show _ ∧ _ ∧ _ from ⟨by decide, by decide, mt1 36 rfl⟩
set_option maxRecDepth 100000 in
theorem rk_7_44 : RsOK pMM 7 44 (0, 10, 1) := show _ ∧ _ ∧ _ from ⟨by decide, by decide, mt1 39 rfl⟩
set_option maxRecDepth 100000 in
theorem rk_7_47 : RsOK pMM 7 47 (2, 359, 2) := show _ ∧ _ ∧ _ from ⟨mt2 197 rfl, pst_359, pmk_359⟩
set_option maxRecDepth 100000 in
theorem rk_7_53 : RsOK pMM 7 53 (1, 86, 2) := show _ ∧ _ ∧ _ ∧ _ ∧ _ from ⟨mt2 200 rfl, pim_86, psl_86, by decide, pmk_86⟩
set_option maxRecDepth 100000 in
theorem rk_7_57 : RsOK pMM 7 57 (1, 16, 0) := show _ ∧ _ ∧ _ ∧ _ ∧ _ from ⟨mt3 46 rfl, pim_16, psl_16, by decide, pmk_16⟩
set_option maxRecDepth 100000 in
theorem rk_7_60 : RsOK pMM 7 60 (1, 75, 0) := show _ ∧ _ ∧ _ ∧ _ ∧ _ from ⟨mt3 50 rfl, pim_75, psl_75, by decide, pmk_75⟩
set_option maxRecDepth 100000 in
theorem rk_7_63 : RsOK pMM 7 63 (0, 3, 0) := show _ ∧ _ ∧ _ from ⟨by decide, by decide, mt1 53 rfl⟩
set_option maxRecDepth 100000 in
theorem rk_7_66 : RsOK pMM 7 66 (1, 85, 1) := show _ ∧ _ ∧ _ ∧ _ ∧ _ from ⟨mt3 54 rfl, pim_85, psl_85, by decide, pmk_85⟩
set_option maxRecDepth 100000 in
theorem rk_7_70 : RsOK pMM 7 70 (1, 76, 0) := show _ ∧ _ ∧ _ ∧ _ ∧ _ from ⟨mt3 58 rfl, pim_76, psl_76, by decide, pmk_76⟩
set_option maxRecDepth 100000 in
theorem rk_7_73 : RsOK pMM 7 73 (1, 77, 0) := show _ ∧ _ ∧ _ ∧ _ ∧ _ from ⟨mt3 74 rfl, pim_77, psl_77, by decide, pmk_77⟩
set_option maxRecDepth 100000 in
theorem rk_7_76 : RsOK pMM 7 76 (1, 78, 0) := show _ ∧ _ ∧ _ ∧ _ ∧ _ from ⟨mt3 78 rfl, pim_78, psl_78, by decide, pmk_78⟩
set_option maxRecDepth 100000 in
theorem rk_7_79 : RsOK pMM 7 79 (1, 79, 0) := show _ ∧ _ ∧ _ ∧ _ ∧ _ from ⟨mt3 82 rfl, pim_79, psl_79, by decide, pmk_79⟩
set_option maxRecDepth 100000 in
theorem rk_7_82 : RsOK pMM 7 82 (1, 80, 0) := show _ ∧ _ ∧ _ ∧ _ ∧ _ from ⟨mt3 86 rfl, pim_80, psl_80, by decide, pmk_80⟩
set_option maxRecDepth 100000 in
theorem rk_7_85 : RsOK pMM 7 85 (1, 83, 1) := show _ ∧ _ ∧ _ ∧ _ ∧ _ from ⟨mt3 62 rfl, pim_83, psl_83, by decide, pmk_83⟩
set_option maxRecDepth 100000 in
theorem rk_7_88 : RsOK pMM 7 88 (1, 82, 2) := show _ ∧ _ ∧ _ ∧ _ ∧ _ from ⟨mt3 70 rfl, pim_82, psl_82, by decide, pmk_82⟩
set_option maxRecDepth 100000 in
theorem rk_7_91 : RsOK pMM 7 91 (0, 3, 1) := show _ ∧ _ ∧ _ from ⟨by decide, by decide, mt1 58 rfl⟩
set_option maxRecDepth 100000 in
theorem rk_7_94 : RsOK pMM 7 94 (0, 3, 2) := show _ ∧ _ ∧ _ from ⟨by decide, by decide, mt1 61 rfl⟩
set_option maxRecDepth 100000 in
theorem rk_7_97 : RsOK pMM 7 97 (0, 3, 3) := show _ ∧ _ ∧ _ from ⟨by decide, by decide, mt1 66 rfl⟩
set_option maxRecDepth 100000 in
theorem rk_7_100 : RsOK pMM 7 100 (0, 3, 4) := show _ ∧ _ ∧ _ from ⟨by decide, by decide, mt1 73 rfl⟩
set_option maxRecDepth 100000 in
theorem rk_7_103 : RsOK pMM 7 103 (0, 3, 8) := show _ ∧ _ ∧ _ from ⟨by decide, by decide, mt1 91 rfl⟩
set_option maxRecDepth 100000 in
theorem rk_7_106 : RsOK pMM 7 106 (0, 3, 9) := show _ ∧ _ ∧ _ from ⟨by decide, by decide, mt1 95 rfl⟩
set_option maxRecDepth 100000 in
theorem rk_7_109 : RsOK pMM 7 109 (0, 3, 5) := show _ ∧ _ ∧ _ from ⟨by decide, by decide, mt1 77 rfl⟩
set_option maxRecDepth 100000 in
theorem rk_7_112 : RsOK pMM 7 112 (0, 3, 10) := show _ ∧ _ ∧ _ from ⟨by decide, by decide, mt1 98 rfl⟩
set_option maxRecDepth 100000 in
theorem rk_7_115 : RsOK pMM 7 115 (0, 3, 6) := show _ ∧ _ ∧ _ from ⟨by decide, by decide, mt1 81 rfl⟩
set_option maxRecDepth 100000 in
theorem rk_7_118 : RsOK pMM 7 118 (0, 3, 12) := show _ ∧ _ ∧ _ from ⟨by decide, by decide, mt1 103 rfl⟩
set_option maxRecDepth 100000 in
theorem rk_7_121 : RsOK pMM 7 121 (0, 3, 13) := show _ ∧ _ ∧ _ from ⟨by decide, by decide, mt1 106 rfl⟩
set_option maxRecDepth 100000 in
theorem rk_7_124 : RsOK pMM 7 124 (0, 3, 7) := show _ ∧ _ ∧ _ from ⟨by decide, by decide, mt1 86 rfl⟩
set_option maxRecDepth 100000 in
theorem rk_7_127 : RsOK pMM 7 127 (1, 81, 0) := show _ ∧ _ ∧ _ ∧ _ ∧ _ from ⟨mt3 90 rfl, pim_81, psl_81, by decide, pmk_81⟩
set_option maxRecDepth 100000 in
theorem rk_7_130 : RsOK pMM 7 130 (0, 3, 14) := show _ ∧ _ ∧ _ from ⟨by decide, by decide, mt1 111 rfl⟩
set_option maxRecDepth 100000 in
theorem rk_7_133 : RsOK pMM 7 133 (1, 84, 0) := show _ ∧ _ ∧ _ ∧ _ ∧ _ from ⟨mt3 66 rfl, pim_84, psl_84, by decide, pmk_84⟩
set_option maxRecDepth 100000 in
theorem rk_7_136 : RsOK pMM 7 136 (2, 87, 3) := show _ ∧ _ ∧ _ from ⟨mt2 204 rfl, pst_87, pmk_87⟩
set_option maxRecDepth 100000 in
theorem rk_7_140 : RsOK pMM 7 140 (2, 89, 3) := show _ ∧ _ ∧ _ from ⟨mt2 213 rfl, pst_89, pmk_89⟩
set_option maxRecDepth 100000 in
theorem rk_7_143 : RsOK pMM 7 143 (2, 88, 3) := show _ ∧ _ ∧ _ from ⟨mt3 42 rfl, pst_88, pmk_88⟩
set_option maxRecDepth 100000 in
theorem rk_7_146 : RsOK pMM 7 146 (2, 92, 1) := show _ ∧ _ ∧ _ from ⟨mt2 207 rfl, pst_92, pmk_92⟩
set_option maxRecDepth 100000 in
theorem rk_7_150 : RsOK pMM 7 150 (2, 93, 1) := show _ ∧ _ ∧ _ from ⟨mt2 210 rfl, pst_93, pmk_93⟩
set_option maxRecDepth 100000 in
theorem rk_7_153 : RsOK pMM 7 153 (12, 0, 1000000) := show _ from mt3 45 rfl
set_option maxRecDepth 100000 in
theorem rk_7_154 : RsOK pMM 7 154 (2, 90, 1) := show _ ∧ _ ∧ _ from ⟨mt2 216 rfl, pst_90, pmk_90⟩
set_option maxRecDepth 100000 in
theorem rk_7_158 : RsOK pMM 7 158 (2, 91, 4) := show _ ∧ _ ∧ _ from ⟨mt2 231 rfl, pst_91, pmk_91⟩
set_option maxRecDepth 100000 in
theorem rk_7_162 : RsOK pMM 7 162 (14, 0, 0) := show _ ∧ _ ∧ _ from ⟨rfl, by decide, rfl⟩
set_option maxRecDepth 100000 in
theorem rk_7_164 : RsOK pMM 7 164 (14, 1, 0) := show _ ∧ _ ∧ _ from ⟨rfl, by decide, rfl⟩
set_option maxRecDepth 100000 in
theorem rk_7_165 : RsOK pMM 7 165 (14, 2, 0) := show _ ∧ _ ∧ _ from ⟨rfl, by decide, rfl⟩
set_option maxRecDepth 100000 in
theorem rk_7_166 : RsOK pMM 7 166 (14, 3, 0) := show _ ∧ _ ∧ _ from ⟨rfl, by decide, rfl⟩
set_option maxRecDepth 100000 in
theorem rk_7_167 : RsOK pMM 7 167 (14, 4, 0) := show _ ∧ _ ∧ _ from ⟨rfl, by decide, rfl⟩
set_option maxRecDepth 100000 in
theorem rk_7_169 : RsOK pMM 7 169 (14, 5, 0) := show _ ∧ _ ∧ _ from ⟨rfl, by decide, rfl⟩
set_option maxRecDepth 100000 in
theorem rk_7_171 : RsOK pMM 7 171 (14, 6, 0) := show _ ∧ _ ∧ _ from ⟨rfl, by decide, rfl⟩
set_option maxRecDepth 100000 in
theorem rk_7_173 : RsOK pMM 7 173 (14, 7, 0) := show _ ∧ _ ∧ _ from ⟨rfl, by decide, rfl⟩
set_option maxRecDepth 100000 in
theorem rk_7_175 : RsOK pMM 7 175 (14, 8, 0) := show _ ∧ _ ∧ _ from ⟨rfl, by decide, rfl⟩
set_option maxRecDepth 100000 in
theorem rk_7_177 : RsOK pMM 7 177 (14, 9, 0) := show _ ∧ _ ∧ _ from ⟨rfl, by decide, rfl⟩
set_option maxRecDepth 100000 in
theorem rk_7_179 : RsOK pMM 7 179 (14, 10, 0) := show _ ∧ _ ∧ _ from ⟨rfl, by decide, rfl⟩
set_option maxRecDepth 100000 in
theorem rk_7_181 : RsOK pMM 7 181 (14, 11, 0) := show _ ∧ _ ∧ _ from ⟨rfl, by decide, rfl⟩
set_option maxRecDepth 100000 in
theorem rk_7_183 : RsOK pMM 7 183 (8, 361, 0) := show _ ∧ _ ∧ _ ∧ _ from ⟨mt2 234 rfl, pim_361, psl_361, pmk_361⟩
set_option maxRecDepth 100000 in
theorem rk_7_188 : RsOK pMM 7 188 (8, 362, 1) := show _ ∧ _ ∧ _ ∧ _ from ⟨mt3 4 rfl, pim_362, psl_362, pmk_362⟩
set_option maxRecDepth 100000 in
theorem rk_8_3 : RsOK pMM 8 3 (4, 0, 0) := show _ from mt2 43 rfl
set_option maxRecDepth 100000 in
theorem rk_8_9 : RsOK pMM 8 9 (0, 8, 0) := show _ ∧ _ ∧ _ from ⟨by decide, by decide, mt2 60 rfl⟩
set_option maxRecDepth 100000 in
theorem rk_8_15 : RsOK pMM 8 15 (5, 1, 0) := show _ ∧ _ from ⟨by decide, mt2 44 rfl⟩
set_option maxRecDepth 100000 in
theorem rk_8_17 : RsOK pMM 8 17 (3, 3, 0) := show _ ∧ _ ∧ _ ∧ _ ∧ _ from ⟨Or.inr (List.mem_of_getElem? (i := 8) rfl), pim_3, rfl, rfl, pmk_3⟩
set_option maxRecDepth 100000 in
theorem rk_8_18 : RsOK pMM 8 18 (0, 8, 1) := show _ ∧ _ ∧ _ from ⟨by decide, by decide, mt2 62 rfl⟩
set_option maxRecDepth 100000 in
theorem rk_8_22 : RsOK pMM 8 22 (0, 8, 2) := show _ ∧ _ ∧ _ from ⟨by decide, by decide, mt2 63 rfl⟩
set_option maxRecDepth 100000 in
theorem rk_8_25 : RsOK pMM 8 25 (0, 8, 3) := show _ ∧ _ ∧ _ from ⟨by decide, by decide, mt2 64 rfl⟩
set_option maxRecDepth 100000 in
theorem rk_8_28 : RsOK pMM 8 28 (0, 8, 4) := show _ ∧ _ ∧ _ from ⟨by decide, by decide, mt2 65 rfl⟩
set_option maxRecDepth 100000 in
theorem rk_8_31 : RsOK pMM 8 31 (0, 8, 5) := show _ ∧ _ ∧ _ from ⟨by decide, by decide, mt2 66 rfl⟩
set_option maxRecDepth 100000 in
theorem rk_8_34 : RsOK pMM 8 34 (0, 8, 6) := show _ ∧ _ ∧ _ from ⟨by decide, by decide, mt2 67 rfl⟩
set_option maxRecDepth 100000 in
theorem rk_8_38 : RsOK pMM 8 38 (0, 8, 7) := show _ ∧ _ ∧ _ from ⟨by decide, by decide, mt2 68 rfl⟩
set_option maxRecDepth 100000 in
theorem rk_8_42 : RsOK pMM 8 42 (0, 8, 8) := show _ ∧ _ ∧ _ from ⟨by decide, by decide, mt2 69 rfl⟩
set_option maxRecDepth 100000 in
theorem rk_8_45 : RsOK pMM 8 45 (0, 8, 9) := show _ ∧ _ ∧ _ from ⟨by decide, by decide, mt2 70 rfl⟩
set_option maxRecDepth 100000 in
theorem rk_8_48 : RsOK pMM 8 48 (0, 8, 10) := show _ ∧ _ ∧ _ from ⟨by decide, by decide, mt2 71 rfl⟩
set_option maxRecDepth 100000 in
theorem rk_8_52 : RsOK pMM 8 52 (1, 99, 2) := show _ ∧ _ ∧ _ ∧ _ ∧ _ from ⟨mt5 11 rfl, pim_99, psl_99, by decide, pmk_99⟩
set_option maxRecDepth 100000 in
theorem rk_8_56 : RsOK pMM 8 56 (0, 3, 7) := show _ ∧ _ ∧ _ from ⟨by decide, by decide, mt1 84 rfl⟩
set_option maxRecDepth 100000 in
theorem rk_8_61 : RsOK pMM 8 61 (1, 100, 1) := show _ ∧ _ ∧ _ ∧ _ ∧ _ from ⟨mt5 15 rfl, pim_100, psl_100, by decide, pmk_100⟩
set_option maxRecDepth 100000 in
theorem rk_8_65 : RsOK pMM 8 65 (0, 3, 14) := show _ ∧ _ ∧ _ from ⟨by decide, by decide, mt1 109 rfl⟩
set_option maxRecDepth 100000 in
theorem rk_8_68 : RsOK pMM 8 68 (1, 103, 2) := show _ ∧ _ ∧ _ ∧ _ ∧ _ from ⟨mt5 36 rfl, pim_103, psl_103, by decide, pmk_103⟩
set_option maxRecDepth 100000 in
theorem rk_8_72 : RsOK pMM 8 72 (1, 104, 0) := show _ ∧ _ ∧ _ ∧ _ ∧ _ from ⟨mt5 25 rfl, pim_104, psl_104, by decide, pmk_104⟩
set_option maxRecDepth 100000 in
theorem rk_8_76 : RsOK pMM 8 76 (1, 101, 2) := show _ ∧ _ ∧ _ ∧ _ ∧ _ from ⟨mt5 21 rfl, pim_101, psl_101, by decide, pmk_101⟩
set_option maxRecDepth 100000 in
theorem rk_8_80 : RsOK pMM 8 80 (1, 24, 0) := show _ ∧ _ ∧ _ ∧ _ ∧ _ from ⟨mt5 19 rfl, pim_24, psl_24, by decide, pmk_24⟩
set_option maxRecDepth 100000 in
theorem rk_8_84 : RsOK pMM 8 84 (1, 4, 2) := show _ ∧ _ ∧ _ ∧ _ ∧ _ from ⟨mt5 20 rfl, pim_4, psl_4, by decide, pmk_4⟩
set_option maxRecDepth 100000 in
theorem rk_8_88 : RsOK pMM 8 88 (1, 102, 1) := show _ ∧ _ ∧ _ ∧ _ ∧ _ from ⟨mt5 32 rfl, pim_102, psl_102, by decide, pmk_102⟩
set_option maxRecDepth 100000 in
theorem rk_8_91 : RsOK pMM 8 91 (0, 3, 4) := show _ ∧ _ ∧ _ from ⟨by decide, by decide, mt1 74 rfl⟩
set_option maxRecDepth 100000 in
theorem rk_8_94 : RsOK pMM 8 94 (7, 0, 0) := show _ from mt5 30 rfl
set_option maxRecDepth 100000 in
theorem rk_8_100 : RsOK pMM 8 100 (1, 21, 2) := show _ ∧ _ ∧ _ ∧ _ ∧ _ from ⟨mt5 29 rfl, pim_21, psl_21, by decide, pmk_21⟩
set_option maxRecDepth 100000 in
theorem rk_8_103 : RsOK pMM 8 103 (1, 7, 3) := show _ ∧ _ ∧ _ ∧ _ ∧ _ from ⟨mt5 31 rfl, pim_7, psl_7, by decide, pmk_7⟩
set_option maxRecDepth 100000 in
theorem rk_9_3 : RsOK pMM 9 3 (4, 0, 0) := show _ from mt2 125 rfl
set_option maxRecDepth 100000 in
theorem rk_9_9 : RsOK pMM 9 9 (0, 9, 0) := show _ ∧ _ ∧ _ from ⟨by decide, by decide, mt2 126 rfl⟩
set_option maxRecDepth 100000 in
theorem rk_9_15 : RsOK pMM 9 15 (0, 9, 1) := show _ ∧ _ ∧ _ from ⟨by decide, by decide, mt2 129 rfl⟩
set_option maxRecDepth 100000 in
theorem rk_9_19 : RsOK pMM 9 19 (0, 9, 2) := show _ ∧ _ ∧ _ from ⟨by decide, by decide, mt2 131 rfl⟩
set_option maxRecDepth 100000 in
theorem rk_9_22 : RsOK pMM 9 22 (0, 9, 3) := show _ ∧ _ ∧ _ from ⟨by decide, by decide, mt2 134 rfl⟩
set_option maxRecDepth 100000 in
theorem rk_10_3 : RsOK pMM 10 3 (4, 0, 0) := show _ from mt1 34 rfl
set_option maxRecDepth 100000 in
theorem rk_10_9 : RsOK pMM 10 9 (0, 10, 0) := show _ ∧ _ ∧ _ from ⟨by decide, by decide, mt1 35 rfl⟩
set_option maxRecDepth 100000 in
theorem rk_10_15 : RsOK pMM 10 15 (0, 10, 1) := show _ ∧ _ ∧ _ from ⟨by decide, by decide, mt1 37 rfl⟩
set_option maxRecDepth 100000 in
theorem rk_11_3 : RsOK pMM 11 3 (4, 0, 0) := show _ from mt1 26 rfl
set_option maxRecDepth 100000 in
theorem rk_11_9 : RsOK pMM 11 9 (5, 10, 0) := show _ ∧ _ from ⟨by decide, mt1 29 rfl⟩
set_option maxRecDepth 100000 in
theorem rk_11_11 : RsOK pMM 11 11 (3, 110, 0) := show _ ∧ _ ∧ _ ∧ _ ∧ _ from ⟨Or.inr (List.mem_of_getElem? (i := 0) rfl), pim_110, rfl, rfl, pmk_110⟩
set_option maxRecDepth 100000 in
theorem rk_11_12 : RsOK pMM 11 12 (0, 11, 0) := show _ ∧ _ ∧ _ from ⟨by decide, by decide, mt2 146 rfl⟩
set_option maxRecDepth 100000 in
theorem rk_11_16 : RsOK pMM 11 16 (5, 3, 0) := show _ ∧ _ from ⟨by decide, mt1 46 rfl⟩
set_option maxRecDepth 100000 in
theorem rk_11_18 : RsOK pMM 11 18 (3, 15, 0) := show _ ∧ _ ∧ _ ∧ _ ∧ _ from ⟨Or.inr (List.mem_of_getElem? (i := 1) rfl), pim_15, rfl, rfl, pmk_15⟩
set_option maxRecDepth 100000 in
theorem rk_11_19 : RsOK pMM 11 19 (0, 11, 1) := show _ ∧ _ ∧ _ from ⟨by decide, by decide, mt2 147 rfl⟩
set_option maxRecDepth 100000 in
theorem rk_11_23 : RsOK pMM 11 23 (5, 0, 0) := show _ ∧ _ from ⟨by decide, mt1 144 rfl⟩
set_option maxRecDepth 100000 in
theorem rk_11_25 : RsOK pMM 11 25 (3, 0, 0) := show _ ∧ _ ∧ _ ∧ _ ∧ _ from ⟨Or.inr (List.mem_of_getElem? (i := 2) rfl), pim_0, rfl, rfl, pmk_0⟩
set_option maxRecDepth 100000 in
theorem rk_11_26 : RsOK pMM 11 26 (0, 11, 2) := show _ ∧ _ ∧ _ from ⟨by decide, by decide, mt2 148 rfl⟩
set_option maxRecDepth 100000 in
theorem rk_11_30 : RsOK pMM 11 30 (5, 7, 0) := show _ ∧ _ from ⟨by decide, mt1 164 rfl⟩
set_option maxRecDepth 100000 in
theorem rk_11_32 : RsOK pMM 11 32 (3, 73, 0) := show _ ∧ _ ∧ _ ∧ _ ∧ _ from ⟨Or.inr (List.mem_of_getElem? (i := 3) rfl), pim_73, rfl, rfl, pmk_73⟩
set_option maxRecDepth 100000 in
theorem rk_11_33 : RsOK pMM 11 33 (0, 11, 3) := show _ ∧ _ ∧ _ from ⟨by decide, by decide, mt2 149 rfl⟩
set_option maxRecDepth 100000 in
theorem rk_11_37 : RsOK pMM 11 37 (5, 6, 0) := show _ ∧ _ from ⟨by decide, mt1 197 rfl⟩
set_option maxRecDepth 100000 in
theorem rk_11_39 : RsOK pMM 11 39 (3, 52, 0) := show _ ∧ _ ∧ _ ∧ _ ∧ _ from ⟨Or.inr (List.mem_of_getElem? (i := 5) rfl), pim_52, rfl, rfl, pmk_52⟩
set_option maxRecDepth 100000 in
theorem rk_11_40 : RsOK pMM 11 40 (0, 11, 4) := show _ ∧ _ ∧ _ from ⟨by decide, by decide, mt2 150 rfl⟩
set_option maxRecDepth 100000 in
theorem rk_11_44 : RsOK pMM 11 44 (5, 2, 0) := show _ ∧ _ from ⟨by decide, mt2 10 rfl⟩
set_option maxRecDepth 100000 in
theorem rk_11_46 : RsOK pMM 11 46 (3, 8, 0) := show _ ∧ _ ∧ _ ∧ _ ∧ _ from ⟨Or.inr (List.mem_of_getElem? (i := 6) rfl), pim_8, rfl, rfl, pmk_8⟩
set_option maxRecDepth 100000 in
theorem rk_11_47 : RsOK pMM 11 47 (0, 11, 5) := show _ ∧ _ ∧ _ from ⟨by decide, by decide, mt2 151 rfl⟩
set_option maxRecDepth 100000 in
theorem rk_11_51 : RsOK pMM 11 51 (5, 8, 0) := show _ ∧ _ from ⟨by decide, mt2 38 rfl⟩
set_option maxRecDepth 100000 in
theorem rk_11_53 : RsOK pMM 11 53 (3, 94, 0) := show _ ∧ _ ∧ _ ∧ _ ∧ _ from ⟨Or.inr (List.mem_of_getElem? (i := 7) rfl), pim_94, rfl, rfl, pmk_94⟩
set_option maxRecDepth 100000 in
theorem rk_11_54 : RsOK pMM 11 54 (0, 11, 6) := show _ ∧ _ ∧ _ from ⟨by decide, by decide, mt2 152 rfl⟩
set_option maxRecDepth 100000 in
theorem rk_11_58 : RsOK pMM 11 58 (5, 4, 0) := show _ ∧ _ from ⟨by decide, mt2 95 rfl⟩
set_option maxRecDepth 100000 in
theorem rk_11_60 : RsOK pMM 11 60 (0, 11, 7) := show _ ∧ _ ∧ _ from ⟨by decide, by decide, mt2 153 rfl⟩
set_option maxRecDepth 100000 in
theorem rk_11_64 : RsOK pMM 11 64 (5, 9, 0) := show _ ∧ _ from ⟨by decide, mt2 97 rfl⟩
set_option maxRecDepth 100000 in
theorem rk_11_66 : RsOK pMM 11 66 (0, 11, 8) := show _ ∧ _ ∧ _ from ⟨by decide, by decide, mt2 154 rfl⟩
set_option maxRecDepth 100000 in
theorem rk_11_70 : RsOK pMM 11 70 (0, 11, 9) := show _ ∧ _ ∧ _ from ⟨by decide, by decide, mt2 155 rfl⟩
set_option maxRecDepth 100000 in
theorem rk_11_74 : RsOK pMM 11 74 (3, 29, 0) := show _ ∧ _ ∧ _ ∧ _ ∧ _ from ⟨Or.inr (List.mem_of_getElem? (i := 9) rfl), pim_29, rfl, rfl, pmk_29⟩
set_option maxRecDepth 100000 in
theorem rk_11_75 : RsOK pMM 11 75 (3, 105, 0) := show _ ∧ _ ∧ _ ∧ _ ∧ _ from ⟨Or.inr (List.mem_of_getElem? (i := 12) rfl), pim_105, rfl, rfl, pmk_105⟩
set_option maxRecDepth 100000 in
theorem rk_11_76 : RsOK pMM 11 76 (0, 10, 1) := show _ ∧ _ ∧ _ from ⟨by decide, by decide, mt1 38 rfl⟩
set_option maxRecDepth 100000 in
theorem rk_11_80 : RsOK pMM 11 80 (1, 111, 1) := show _ ∧ _ ∧ _ ∧ _ ∧ _ from ⟨mt2 181 rfl, pim_111, psl_111, by decide, pmk_111⟩
set_option maxRecDepth 100000 in
theorem rk_11_84 : RsOK pMM 11 84 (1, 74, 1) := show _ ∧ _ ∧ _ ∧ _ ∧ _ from ⟨mt2 193 rfl, pim_74, psl_74, by decide, pmk_74⟩
set_option maxRecDepth 100000 in
theorem rk_11_88 : RsOK pMM 11 88 (0, 7, 1) := show _ ∧ _ ∧ _ from ⟨by decide, by decide, mt1 175 rfl⟩
set_option maxRecDepth 100000 in
theorem rk_11_91 : RsOK pMM 11 91 (0, 7, 0) := show _ ∧ _ ∧ _ from ⟨by decide, by decide, mt1 173 rfl⟩
set_option maxRecDepth 100000 in
theorem rk_11_94 : RsOK pMM 11 94 (1, 17, 1) := show _ ∧ _ ∧ _ ∧ _ ∧ _ from ⟨mt3 94 rfl, pim_17, psl_17, by decide, pmk_17⟩
set_option maxRecDepth 100000 in
theorem rk_11_98 : RsOK pMM 11 98 (1, 18, 0) := show _ ∧ _ ∧ _ ∧ _ ∧ _ from ⟨mt3 101 rfl, pim_18, psl_18, by decide, pmk_18⟩
set_option maxRecDepth 100000 in
theorem rk_11_101 : RsOK pMM 11 101 (0, 0, 2) := show _ ∧ _ ∧ _ from ⟨by decide, by decide, mt1 156 rfl⟩
set_option maxRecDepth 100000 in
theorem rk_11_102 : RsOK pMM 11 102 (1, 186, 0) := show _ ∧ _ ∧ _ ∧ _ ∧ _ from ⟨mt3 109 rfl, pim_186, psl_186, by decide, pmk_186⟩
set_option maxRecDepth 100000 in
theorem rk_11_105 : RsOK pMM 11 105 (0, 3, 0) := show _ ∧ _ ∧ _ from ⟨by decide, by decide, mt1 54 rfl⟩
set_option maxRecDepth 100000 in
theorem rk_11_108 : RsOK pMM 11 108 (0, 7, 2) := show _ ∧ _ ∧ _ from ⟨by decide, by decide, mt1 177 rfl⟩
set_option maxRecDepth 100000 in
theorem rk_11_111 : RsOK pMM 11 111 (1, 178, 1) := show _ ∧ _ ∧ _ ∧ _ ∧ _ from ⟨mt3 129 rfl, pim_178, psl_178, by decide, pmk_178⟩
set_option maxRecDepth 100000 in
theorem rk_11_115 : RsOK pMM 11 115 (2, 182, 1) := show _ ∧ _ ∧ _ from ⟨mt3 133 rfl, pst_182, pmk_182⟩
set_option maxRecDepth 100000 in
theorem rk_11_118 : RsOK pMM 11 118 (0, 3, 8) := show _ ∧ _ ∧ _ from ⟨by decide, by decide, mt1 92 rfl⟩
set_option maxRecDepth 100000 in
theorem rk_11_122 : RsOK pMM 11 122 (0, 3, 9) := show _ ∧ _ ∧ _ from ⟨by decide, by decide, mt1 96 rfl⟩
set_option maxRecDepth 100000 in
theorem rk_11_125 : RsOK pMM 11 125 (0, 3, 10) := show _ ∧ _ ∧ _ from ⟨by decide, by decide, mt1 99 rfl⟩
set_option maxRecDepth 100000 in
theorem rk_11_128 : RsOK pMM 11 128 (1, 20, 2) := show _ ∧ _ ∧ _ ∧ _ ∧ _ from ⟨mt3 144 rfl, pim_20, psl_20, by decide, pmk_20⟩
set_option maxRecDepth 100000 in
theorem rk_11_132 : RsOK pMM 11 132 (1, 177, 0) := show _ ∧ _ ∧ _ ∧ _ ∧ _ from ⟨mt3 152 rfl, pim_177, psl_177, by decide, pmk_177⟩
set_option maxRecDepth 100000 in
theorem rk_11_136 : RsOK pMM 11 136 (0, 3, 7) := show _ ∧ _ ∧ _ from ⟨by decide, by decide, mt1 87 rfl⟩
set_option maxRecDepth 100000 in
theorem rk_11_139 : RsOK pMM 11 139 (0, 3, 14) := show _ ∧ _ ∧ _ from ⟨by decide, by decide, mt1 110 rfl⟩
set_option maxRecDepth 100000 in
theorem rk_11_142 : RsOK pMM 11 142 (1, 181, 1) := show _ ∧ _ ∧ _ ∧ _ ∧ _ from ⟨mt3 160 rfl, pim_181, psl_181, by decide, pmk_181⟩
set_option maxRecDepth 100000 in
theorem rk_11_145 : RsOK pMM 11 145 (1, 180, 1) := show _ ∧ _ ∧ _ ∧ _ ∧ _ from ⟨mt3 164 rfl, pim_180, psl_180, by decide, pmk_180⟩
set_option maxRecDepth 100000 in
theorem rk_11_148 : RsOK pMM 11 148 (1, 191, 1) := show _ ∧ _ ∧ _ ∧ _ ∧ _ from ⟨mt3 168 rfl, pim_191, psl_191, by decide, pmk_191⟩
set_option maxRecDepth 100000 in
theorem rk_11_152 : RsOK pMM 11 152 (0, 6, 2) := show _ ∧ _ ∧ _ from ⟨by decide, by decide, mt1 207 rfl⟩
set_option maxRecDepth 100000 in
theorem rk_11_155 : RsOK pMM 11 155 (1, 60, 2) := show _ ∧ _ ∧ _ ∧ _ ∧ _ from ⟨mt3 222 rfl, pim_60, psl_60, by decide, pmk_60⟩
set_option maxRecDepth 100000 in
theorem rk_11_158 : RsOK pMM 11 158 (1, 61, 2) := show _ ∧ _ ∧ _ ∧ _ ∧ _ from ⟨mt3 227 rfl, pim_61, psl_61, by decide, pmk_61⟩
set_option maxRecDepth 100000 in
theorem rk_11_161 : RsOK pMM 11 161 (1, 63, 1) := show _ ∧ _ ∧ _ ∧ _ ∧ _ from ⟨mt3 232 rfl, pim_63, psl_63, by decide, pmk_63⟩
set_option maxRecDepth 100000 in
theorem rk_11_165 : RsOK pMM 11 165 (0, 6, 5) := show _ ∧ _ ∧ _ from ⟨by decide, by decide, mt1 212 rfl⟩
set_option maxRecDepth 100000 in
theorem rk_11_168 : RsOK pMM 11 168 (1, 66, 0) := show _ ∧ _ ∧ _ ∧ _ ∧ _ from ⟨mt4 4 rfl, pim_66, psl_66, by decide, pmk_66⟩
set_option maxRecDepth 100000 in
theorem rk_11_172 : RsOK pMM 11 172 (1, 65, 0) := show _ ∧ _ ∧ _ ∧ _ ∧ _ from ⟨mt4 16 rfl, pim_65, psl_65, by decide, pmk_65⟩
set_option maxRecDepth 100000 in
theorem rk_11_175 : RsOK pMM 11 175 (1, 67, 1) := show _ ∧ _ ∧ _ ∧ _ ∧ _ from ⟨mt4 21 rfl, pim_67, psl_67, by decide, pmk_67⟩
set_option maxRecDepth 100000 in
theorem rk_11_178 : RsOK pMM 11 178 (1, 68, 1) := show _ ∧ _ ∧ _ ∧ _ ∧ _ from ⟨mt4 29 rfl, pim_68, psl_68, by decide, pmk_68⟩
set_option maxRecDepth 100000 in
theorem rk_11_181 : RsOK pMM 11 181 (1, 25, 1) := show _ ∧ _ ∧ _ ∧ _ ∧ _ from ⟨mt4 40 rfl, pim_25, psl_25, by decide, pmk_25⟩
set_option maxRecDepth 100000 in
theorem rk_11_184 : RsOK pMM 11 184 (1, 70, 0) := show _ ∧ _ ∧ _ ∧ _ ∧ _ from ⟨mt4 48 rfl, pim_70, psl_70, by decide, pmk_70⟩
set_option maxRecDepth 100000 in
theorem rk_11_187 : RsOK pMM 11 187 (1, 62, 1) := show _ ∧ _ ∧ _ ∧ _ ∧ _ from ⟨mt4 56 rfl, pim_62, psl_62, by decide, pmk_62⟩
set_option maxRecDepth 100000 in
theorem rk_11_190 : RsOK pMM 11 190 (1, 71, 0) := show _ ∧ _ ∧ _ ∧ _ ∧ _ from ⟨mt4 61 rfl, pim_71, psl_71, by decide, pmk_71⟩
set_option maxRecDepth 100000 in
theorem rk_11_193 : RsOK pMM 11 193 (1, 64, 0) := show _ ∧ _ ∧ _ ∧ _ ∧ _ from ⟨mt4 69 rfl, pim_64, psl_64, by decide, pmk_64⟩
set_option maxRecDepth 100000 in
theorem rk_11_196 : RsOK pMM 11 196 (1, 69, 1) := show _ ∧ _ ∧ _ ∧ _ ∧ _ from ⟨mt4 78 rfl, pim_69, psl_69, by decide, pmk_69⟩
set_option maxRecDepth 100000 in
theorem rk_11_199 : RsOK pMM 11 199 (1, 24, 0) := show _ ∧ _ ∧ _ ∧ _ ∧ _ from ⟨mt4 87 rfl, pim_24, psl_24, by decide, pmk_24⟩
set_option maxRecDepth 100000 in
theorem rk_11_202 : RsOK pMM 11 202 (1, 23, 0) := show _ ∧ _ ∧ _ ∧ _ ∧ _ from ⟨mt4 91 rfl, pim_23, psl_23, by decide, pmk_23⟩
set_option maxRecDepth 100000 in
theorem rk_11_205 : RsOK pMM 11 205 (1, 187, 0) := show _ ∧ _ ∧ _ ∧ _ ∧ _ from ⟨mt4 95 rfl, pim_187, psl_187, by decide, pmk_187⟩
set_option maxRecDepth 100000 in
theorem rk_11_209 : RsOK pMM 11 209 (1, 32, 1) := show _ ∧ _ ∧ _ ∧ _ ∧ _ from ⟨mt4 135 rfl, pim_32, psl_32, by decide, pmk_32⟩
set_option maxRecDepth 100000 in
theorem rk_11_210 : RsOK pMM 11 210 (5, 5, 0) := show _ ∧ _ from ⟨by decide, mt4 99 rfl⟩
set_option maxRecDepth 100000 in
theorem rk_11_214 : RsOK pMM 11 214 (2, 188, 2) := show _ ∧ _ ∧ _ from ⟨mt4 207 rfl, pst_188, pmk_188⟩
set_option maxRecDepth 100000 in
theorem rk_11_218 : RsOK pMM 11 218 (1, 33, 0) := show _ ∧ _ ∧ _ ∧ _ ∧ _ from ⟨mt4 214 rfl, pim_33, psl_33, by decide, pmk_33⟩
set_option maxRecDepth 100000 in
theorem rk_11_221 : RsOK pMM 11 221 (1, 34, 0) := show _ ∧ _ ∧ _ ∧ _ ∧ _ from ⟨mt4 230 rfl, pim_34, psl_34, by decide, pmk_34⟩
set_option maxRecDepth 100000 in
theorem rk_11_224 : RsOK pMM 11 224 (1, 35, 0) := show _ ∧ _ ∧ _ ∧ _ ∧ _ from ⟨mt4 239 rfl, pim_35, psl_35, by decide, pmk_35⟩
set_option maxRecDepth 100000 in
theorem rk_11_227 : RsOK pMM 11 227 (1, 97, 0) := show _ ∧ _ ∧ _ ∧ _ ∧ _ from ⟨mt5 7 rfl, pim_97, psl_97, by decide, pmk_97⟩
set_option maxRecDepth 100000 in
theorem rk_11_230 : RsOK pMM 11 230 (0, 8, 0) := show _ ∧ _ ∧ _ from ⟨by decide, by decide, mt2 61 rfl⟩
set_option maxRecDepth 100000 in
theorem rk_11_233 : RsOK pMM 11 233 (1, 96, 1) := show _ ∧ _ ∧ _ ∧ _ ∧ _ from ⟨mt5 48 rfl, pim_96, psl_96, by decide, pmk_96⟩
set_option maxRecDepth 100000 in
theorem rk_11_236 : RsOK pMM 11 236 (1, 98, 0) := show _ ∧ _ ∧ _ ∧ _ ∧ _ from ⟨mt5 56 rfl, pim_98, psl_98, by decide, pmk_98⟩
set_option maxRecDepth 100000 in
theorem rk_11_239 : RsOK pMM 11 239 (1, 189, 0) := show _ ∧ _ ∧ _ ∧ _ ∧ _ from ⟨mt5 64 rfl, pim_189, psl_189, by decide, pmk_189⟩
set_option maxRecDepth 100000 in
theorem rk_11_242 : RsOK pMM 11 242 (2, 360, 1) := show _ ∧ _ ∧ _ from ⟨mt5 76 rfl, pst_360, pmk_360⟩
set_option maxRecDepth 100000 in
theorem rk_11_247 : RsOK pMM 11 247 (1, 36, 1) := show _ ∧ _ ∧ _ ∧ _ ∧ _ from ⟨mt5 86 rfl, pim_36, psl_36, by decide, pmk_36⟩
set_option maxRecDepth 100000 in
theorem rk_11_250 : RsOK pMM 11 250 (0, 3, 4) := show _ ∧ _ ∧ _ from ⟨by decide, by decide, mt1 75 rfl⟩
set_option maxRecDepth 100000 in
theorem rk_11_253 : RsOK pMM 11 253 (2, 197, 3) := show _ ∧ _ ∧ _ from ⟨mt5 103 rfl, pst_197, pmk_197⟩
set_option maxRecDepth 100000 in
theorem rk_11_257 : RsOK pMM 11 257 (2, 358, 2) := show _ ∧ _ ∧ _ from ⟨mt5 110 rfl, pst_358, pmk_358⟩
set_option maxRecDepth 100000 in
theorem rk_11_262 : RsOK pMM 11 262 (2, 359, 2) := show _ ∧ _ ∧ _ from ⟨mt5 111 rfl, pst_359, pmk_359⟩
set_option maxRecDepth 100000 in
theorem rk_11_265 : RsOK pMM 11 265 (1, 190, 1) := show _ ∧ _ ∧ _ ∧ _ ∧ _ from ⟨mt5 116 rfl, pim_190, psl_190, by decide, pmk_190⟩
set_option maxRecDepth 100000 in
theorem rk_11_268 : RsOK pMM 11 268 (1, 198, 1) := show _ ∧ _ ∧ _ ∧ _ ∧ _ from ⟨mt5 128 rfl, pim_198, psl_198, by decide, pmk_198⟩
set_option maxRecDepth 100000 in
theorem rk_11_271 : RsOK pMM 11 271 (1, 199, 1) := show _ ∧ _ ∧ _ ∧ _ ∧ _ from ⟨mt5 139 rfl, pim_199, psl_199, by decide, pmk_199⟩
set_option maxRecDepth 100000 in
theorem rk_11_275 : RsOK pMM 11 275 (0, 2, 1) := show _ ∧ _ ∧ _ from ⟨by decide, by decide, mt2 18 rfl⟩
set_option maxRecDepth 100000 in
theorem rk_11_278 : RsOK pMM 11 278 (1, 11, 0) := show _ ∧ _ ∧ _ ∧ _ ∧ _ from ⟨mt5 173 rfl, pim_11, psl_11, by decide, pmk_11⟩
set_option maxRecDepth 100000 in
theorem rk_11_281 : RsOK pMM 11 281 (0, 2, 2) := show _ ∧ _ ∧ _ from ⟨by decide, by decide, mt2 20 rfl⟩
set_option maxRecDepth 100000 in
theorem rk_11_284 : RsOK pMM 11 284 (0, 2, 3) := show _ ∧ _ ∧ _ from ⟨by decide, by decide, mt2 22 rfl⟩
set_option maxRecDepth 100000 in
theorem rk_11_287 : RsOK pMM 11 287 (1, 192, 1) := show _ ∧ _ ∧ _ ∧ _ ∧ _ from ⟨mt5 189 rfl, pim_192, psl_192, by decide, pmk_192⟩
set_option maxRecDepth 100000 in
theorem rk_11_290 : RsOK pMM 11 290 (1, 72, 1) := show _ ∧ _ ∧ _ ∧ _ ∧ _ from ⟨mt5 147 rfl, pim_72, psl_72, by decide, pmk_72⟩
set_option maxRecDepth 100000 in
theorem rk_11_294 : RsOK pMM 11 294 (2, 196, 1) := show _ ∧ _ ∧ _ from ⟨mt5 201 rfl, pst_196, pmk_196⟩
set_option maxRecDepth 100000 in
theorem rk_11_297 : RsOK pMM 11 297 (1, 179, 2) := show _ ∧ _ ∧ _ ∧ _ ∧ _ from ⟨mt5 208 rfl, pim_179, psl_179, by decide, pmk_179⟩
set_option maxRecDepth 100000 in
theorem rk_11_300 : RsOK pMM 11 300 (1, 195, 4) := show _ ∧ _ ∧ _ ∧ _ ∧ _ from ⟨mt5 212 rfl, pim_195, psl_195, by decide, pmk_195⟩
set_option maxRecDepth 100000 in
theorem rk_11_304 : RsOK pMM 11 304 (0, 3, 6) := show _ ∧ _ ∧ _ from ⟨by decide, by decide, mt1 82 rfl⟩
set_option maxRecDepth 100000 in
theorem rk_11_307 : RsOK pMM 11 307 (1, 193, 1) := show _ ∧ _ ∧ _ ∧ _ ∧ _ from ⟨mt5 228 rfl, pim_193, psl_193, by decide, pmk_193⟩
set_option maxRecDepth 100000 in
theorem rk_11_310 : RsOK pMM 11 310 (1, 26, 1) := show _ ∧ _ ∧ _ ∧ _ ∧ _ from ⟨mt5 232 rfl, pim_26, psl_26, by decide, pmk_26⟩
set_option maxRecDepth 100000 in
theorem rk_11_313 : RsOK pMM 11 313 (1, 27, 0) := show _ ∧ _ ∧ _ ∧ _ ∧ _ from ⟨mt5 236 rfl, pim_27, psl_27, by decide, pmk_27⟩
set_option maxRecDepth 100000 in
theorem rk_11_316 : RsOK pMM 11 316 (0, 3, 3) := show _ ∧ _ ∧ _ from ⟨by decide, by decide, mt1 67 rfl⟩
set_option maxRecDepth 100000 in
theorem rk_11_319 : RsOK pMM 11 319 (1, 194, 2) := show _ ∧ _ ∧ _ ∧ _ ∧ _ from ⟨mt6 8 rfl, pim_194, psl_194, by decide, pmk_194⟩
set_option maxRecDepth 100000 in
theorem rk_11_323 : RsOK pMM 11 323 (1, 1, 2) := show _ ∧ _ ∧ _ ∧ _ ∧ _ from ⟨mt6 16 rfl, pim_1, psl_1, by decide, pmk_1⟩
set_option maxRecDepth 100000 in
theorem rk_11_325 : RsOK pMM 11 325 (2, 183, 1) := show _ ∧ _ ∧ _ from ⟨mt6 36 rfl, pst_183, pmk_183⟩
set_option maxRecDepth 100000 in
theorem rk_11_328 : RsOK pMM 11 328 (1, 28, 1) := show _ ∧ _ ∧ _ ∧ _ ∧ _ from ⟨mt6 40 rfl, pim_28, psl_28, by decide, pmk_28⟩
set_option maxRecDepth 100000 in
theorem rk_11_332 : RsOK pMM 11 332 (0, 3, 1) := show _ ∧ _ ∧ _ from ⟨by decide, by decide, mt1 59 rfl⟩
set_option maxRecDepth 100000 in
theorem rk_11_335 : RsOK pMM 11 335 (0, 3, 2) := show _ ∧ _ ∧ _ from ⟨by decide, by decide, mt1 62 rfl⟩
set_option maxRecDepth 100000 in
theorem rk_11_338 : RsOK pMM 11 338 (0, 3, 5) := show _ ∧ _ ∧ _ from ⟨by decide, by decide, mt1 78 rfl⟩
set_option maxRecDepth 100000 in
theorem rk_11_341 : RsOK pMM 11 341 (1, 185, 0) := show _ ∧ _ ∧ _ ∧ _ ∧ _ from ⟨mt6 61 rfl, pim_185, psl_185, by decide, pmk_185⟩
set_option maxRecDepth 100000 in
theorem rk_11_344 : RsOK pMM 11 344 (0, 4, 0) := show _ ∧ _ ∧ _ from ⟨by decide, by decide, mt2 109 rfl⟩
set_option maxRecDepth 100000 in
theorem rk_11_345 : RsOK pMM 11 345 (0, 4, 1) := show _ ∧ _ ∧ _ from ⟨by decide, by decide, mt2 111 rfl⟩
set_option maxRecDepth 100000 in
theorem rk_11_346 : RsOK pMM 11 346 (1, 2, 1) := show _ ∧ _ ∧ _ ∧ _ ∧ _ from ⟨mt6 69 rfl, pim_2, psl_2, by decide, pmk_2⟩
set_option maxRecDepth 100000 in
theorem rk_11_349 : RsOK pMM 11 349 (0, 4, 2) := show _ ∧ _ ∧ _ from ⟨by decide, by decide, mt2 113 rfl⟩
set_option maxRecDepth 100000 in
theorem rk_11_353 : RsOK pMM 11 353 (2, 184, 1) := show _ ∧ _ ∧ _ from ⟨mt5 132 rfl, pst_184, pmk_184⟩
set_option maxRecDepth 100000 in
theorem rk_11_356 : RsOK pMM 11 356 (1, 106, 2) := show _ ∧ _ ∧ _ ∧ _ ∧ _ from ⟨mt6 82 rfl, pim_106, psl_106, by decide, pmk_106⟩
set_option maxRecDepth 100000 in
theorem rk_11_360 : RsOK pMM 11 360 (0, 9, 3) := show _ ∧ _ ∧ _ from ⟨by decide, by decide, mt2 135 rfl⟩
set_option maxRecDepth 100000 in
theorem rk_11_361 : RsOK pMM 11 361 (0, 9, 2) := show _ ∧ _ ∧ _ from ⟨by decide, by decide, mt2 133 rfl⟩
set_option maxRecDepth 100000 in
theorem rk_11_362 : RsOK pMM 11 362 (0, 9, 0) := show _ ∧ _ ∧ _ from ⟨by decide, by decide, mt2 128 rfl⟩
set_option maxRecDepth 100000 in
theorem rk_11_366 : RsOK pMM 11 366 (1, 107, 1) := show _ ∧ _ ∧ _ ∧ _ ∧ _ from ⟨mt6 90 rfl, pim_107, psl_107, by decide, pmk_107⟩
set_option maxRecDepth 100000 in
theorem rk_11_370 : RsOK pMM 11 370 (0, 9, 1) := show _ ∧ _ ∧ _ from ⟨by decide, by decide, mt2 130 rfl⟩
set_option maxRecDepth 100000 in
theorem rk_11_373 : RsOK pMM 11 373 (1, 108, 2) := show _ ∧ _ ∧ _ ∧ _ ∧ _ from ⟨mt6 98 rfl, pim_108, psl_108, by decide, pmk_108⟩
set_option maxRecDepth 100000 in
theorem rk_11_376 : RsOK pMM 11 376 (7, 0, 0) := show _ from mt6 102 rfl
set_option maxRecDepth 100000 in
theorem rk_11_382 : RsOK pMM 11 382 (12, 0, 2000000000) := show _ from mt6 39 rfl
set_option maxRecDepth 100000 in
theorem rk_11_383 : RsOK pMM 11 383 (1, 95, 1) := show _ ∧ _ ∧ _ ∧ _ ∧ _ from ⟨mt3 113 rfl, pim_95, psl_95, by decide, pmk_95⟩
set_option maxRecDepth 100000 in
theorem rk_11_386 : RsOK pMM 11 386 (1, 31, 1) := show _ ∧ _ ∧ _ ∧ _ ∧ _ from ⟨mt3 117 rfl, pim_31, psl_31, by decide, pmk_31⟩
set_option maxRecDepth 100000 in
theorem rk_11_387 : RsOK pMM 11 387 (3, 30, 0) := show _ ∧ _ ∧ _ ∧ _ ∧ _ from ⟨Or.inr (List.mem_of_getElem? (i := 13) rfl), pim_30, rfl, rfl, pmk_30⟩
set_option maxRecDepth 100000 in
theorem rk_11_388 : RsOK pMM 11 388 (1, 53, 3) := show _ ∧ _ ∧ _ ∧ _ ∧ _ from ⟨mt3 172 rfl, pim_53, psl_53, by decide, pmk_53⟩
set_option maxRecDepth 100000 in
theorem rk_11_392 : RsOK pMM 11 392 (0, 6, 8) := show _ ∧ _ ∧ _ from ⟨by decide, by decide, mt1 218 rfl⟩
set_option maxRecDepth 100000 in
theorem rk_11_395 : RsOK pMM 11 395 (1, 55, 0) := show _ ∧ _ ∧ _ ∧ _ ∧ _ from ⟨mt3 177 rfl, pim_55, psl_55, by decide, pmk_55⟩
set_option maxRecDepth 100000 in
theorem rk_11_398 : RsOK pMM 11 398 (0, 6, 6) := show _ ∧ _ ∧ _ from ⟨by decide, by decide, mt1 214 rfl⟩
set_option maxRecDepth 100000 in
theorem rk_11_399 : RsOK pMM 11 399 (0, 6, 1) := show _ ∧ _ ∧ _ from ⟨by decide, by decide, mt1 205 rfl⟩
set_option maxRecDepth 100000 in
theorem rk_11_402 : RsOK pMM 11 402 (1, 54, 2) := show _ ∧ _ ∧ _ ∧ _ ∧ _ from ⟨mt5 216 rfl, pim_54, psl_54, by decide, pmk_54⟩
set_option maxRecDepth 100000 in
theorem rk_11_405 : RsOK pMM 11 405 (1, 109, 2) := show _ ∧ _ ∧ _ ∧ _ ∧ _ from ⟨mt5 135 rfl, pim_109, psl_109, by decide, pmk_109⟩
set_option maxRecDepth 100000 in
theorem rk_11_408 : RsOK pMM 11 408 (1, 9, 1) := show _ ∧ _ ∧ _ ∧ _ ∧ _ from ⟨mt5 143 rfl, pim_9, psl_9, by decide, pmk_9⟩
set_option maxRecDepth 100000 in
theorem rk_11_411 : RsOK pMM 11 411 (0, 6, 7) := show _ ∧ _ ∧ _ from ⟨by decide, by decide, mt1 216 rfl⟩
set_option maxRecDepth 100000 in
theorem rk_11_414 : RsOK pMM 11 414 (1, 10, 2) := show _ ∧ _ ∧ _ ∧ _ ∧ _ from ⟨mt5 151 rfl, pim_10, psl_10, by decide, pmk_10⟩
set_option maxRecDepth 100000 in
theorem rk_11_417 : RsOK pMM 11 417 (1, 12, 0) := show _ ∧ _ ∧ _ ∧ _ ∧ _ from ⟨mt5 155 rfl, pim_12, psl_12, by decide, pmk_12⟩
set_option maxRecDepth 100000 in
theorem rk_12_1 : RsOK pMM 12 1 (4, 0, 0) := show _ from mt6 108 rfl
set_option maxRecDepth 100000 in
theorem rk_12_7 : RsOK pMM 12 7 (0, 12, 1) := show _ ∧ _ ∧ _ from ⟨by decide, by decide, mt6 110 rfl⟩
set_option maxRecDepth 100000 in
theorem rk_12_13 : RsOK pMM 12 13 (0, 12, 2) := show _ ∧ _ ∧ _ from ⟨by decide, by decide, mt6 111 rfl⟩
set_option maxRecDepth 100000 in
theorem rk_12_16 : RsOK pMM 12 16 (0, 12, 3) := show _ ∧ _ ∧ _ from ⟨by decide, by decide, mt6 112 rfl⟩
set_option maxRecDepth 100000 in
theorem rk_12_20 : RsOK pMM 12 20 (0, 12, 4) := show _ ∧ _ ∧ _ from ⟨by decide, by decide, mt6 113 rfl⟩
set_option maxRecDepth 100000 in
theorem rk_12_23 : RsOK pMM 12 23 (0, 12, 5) := show _ ∧ _ ∧ _ from ⟨by decide, by decide, mt6 114 rfl⟩
set_option maxRecDepth 100000 in
theorem rk_12_27 : RsOK pMM 12 27 (0, 12, 15) := show _ ∧ _ ∧ _ from ⟨by decide, by decide, mt6 124 rfl⟩
set_option maxRecDepth 100000 in
theorem rk_12_31 : RsOK pMM 12 31 (0, 12, 16) := show _ ∧ _ ∧ _ from ⟨by decide, by decide, mt6 125 rfl⟩
set_option maxRecDepth 100000 in
theorem rk_12_34 : RsOK pMM 12 34 (0, 12, 17) := show _ ∧ _ ∧ _ from ⟨by decide, by decide, mt6 126 rfl⟩
set_option maxRecDepth 100000 in
theorem rk_12_37 : RsOK pMM 12 37 (0, 12, 18) := show _ ∧ _ ∧ _ from ⟨by decide, by decide, mt6 127 rfl⟩
set_option maxRecDepth 100000 in
theorem rk_12_40 : RsOK pMM 12 40 (0, 12, 19) := show _ ∧ _ ∧ _ from ⟨by decide, by decide, mt6 128 rfl⟩
set_option maxRecDepth 100000 in
theorem rk_12_43 : RsOK pMM 12 43 (0, 12, 20) := show _ ∧ _ ∧ _ from ⟨by decide, by decide, mt6 129 rfl⟩
set_option maxRecDepth 100000 in
theorem rk_12_46 : RsOK pMM 12 46 (0, 12, 21) := show _ ∧ _ ∧ _ from ⟨by decide, by decide, mt6 130 rfl⟩
set_option maxRecDepth 100000 in
theorem rk_12_49 : RsOK pMM 12 49 (0, 12, 22) := show _ ∧ _ ∧ _ from ⟨by decide, by decide, mt6 131 rfl⟩
set_option maxRecDepth 100000 in
theorem rk_12_52 : RsOK pMM 12 52 (0, 12, 23) := show _ ∧ _ ∧ _ from ⟨by decide, by decide, mt6 132 rfl⟩
set_option maxRecDepth 100000 in
theorem rk_12_56 : RsOK pMM 12 56 (0, 12, 24) := show _ ∧ _ ∧ _ from ⟨by decide, by decide, mt6 133 rfl⟩
set_option maxRecDepth 100000 in
theorem rk_12_59 : RsOK pMM 12 59 (0, 12, 30) := show _ ∧ _ ∧ _ from ⟨by decide, by decide, mt6 139 rfl⟩
set_option maxRecDepth 100000 in
theorem rk_12_62 : RsOK pMM 12 62 (0, 12, 31) := show _ ∧ _ ∧ _ from ⟨by decide, by decide, mt6 140 rfl⟩
set_option maxRecDepth 100000 in
theorem rk_12_65 : RsOK pMM 12 65 (0, 12, 32) := show _ ∧ _ ∧ _ from ⟨by decide, by decide, mt6 141 rfl⟩
set_option maxRecDepth 100000 in
theorem rk_12_68 : RsOK pMM 12 68 (0, 12, 33) := show _ ∧ _ ∧ _ from ⟨by decide, by decide, mt6 142 rfl⟩
set_option maxRecDepth 100000 in
theorem rk_12_71 : RsOK pMM 12 71 (0, 12, 34) := show _ ∧ _ ∧ _ from ⟨by decide, by decide, mt6 143 rfl⟩
set_option maxRecDepth 100000 in
theorem rk_12_74 : RsOK pMM 12 74 (0, 12, 35) := show _ ∧ _ ∧ _ from ⟨by decide, by decide, mt6 144 rfl⟩
set_option maxRecDepth 100000 in
theorem rk_12_77 : RsOK pMM 12 77 (0, 12, 36) := show _ ∧ _ ∧ _ from ⟨by decide, by decide, mt6 145 rfl⟩
set_option maxRecDepth 100000 in
theorem rk_12_80 : RsOK pMM 12 80 (0, 12, 37) := show _ ∧ _ ∧ _ from ⟨by decide, by decide, mt6 146 rfl⟩
set_option maxRecDepth 100000 in
theorem rk_12_83 : RsOK pMM 12 83 (0, 12, 38) := show _ ∧ _ ∧ _ from ⟨by decide, by decide, mt6 147 rfl⟩
set_option maxRecDepth 100000 in
theorem rk_12_86 : RsOK pMM 12 86 (0, 12, 44) := show _ ∧ _ ∧ _ from ⟨by decide, by decide, mt6 153 rfl⟩
set_option maxRecDepth 100000 in
theorem rk_12_89 : RsOK pMM 12 89 (0, 12, 0) := show _ ∧ _ ∧ _ from ⟨by decide, by decide, mt6 109 rfl⟩
set_option maxRecDepth 100000 in
theorem rk_12_92 : RsOK pMM 12 92 (13, 0, 3) := show _ from mt7 13 rfl
set_option maxRecDepth 100000 in
theorem rk_12_94 : RsOK pMM 12 94 (2, 201, 3) := show _ ∧ _ ∧ _ from ⟨mt7 14 rfl, pst_201, pmk_201⟩
set_option maxRecDepth 100000 in
theorem rk_12_98 : RsOK pMM 12 98 (2, 202, 1) := show _ ∧ _ ∧ _ from ⟨mt7 10 rfl, pst_202, pmk_202⟩
set_option maxRecDepth 100000 in
theorem rk_12_102 : RsOK pMM 12 102 (2, 204, 2) := show _ ∧ _ ∧ _ from ⟨mt7 21 rfl, pst_204, pmk_204⟩
set_option maxRecDepth 100000 in
theorem rk_12_106 : RsOK pMM 12 106 (0, 12, 6) := show _ ∧ _ ∧ _ from ⟨by decide, by decide, mt6 115 rfl⟩
set_option maxRecDepth 100000 in
theorem rk_12_109 : RsOK pMM 12 109 (1, 208, 1) := show _ ∧ _ ∧ _ ∧ _ ∧ _ from ⟨mt7 32 rfl, pim_208, psl_208, by decide, pmk_208⟩
set_option maxRecDepth 100000 in
theorem rk_12_113 : RsOK pMM 12 113 (0, 12, 7) := show _ ∧ _ ∧ _ from ⟨by decide, by decide, mt6 116 rfl⟩
set_option maxRecDepth 100000 in
theorem rk_12_116 : RsOK pMM 12 116 (1, 210, 3) := show _ ∧ _ ∧ _ ∧ _ ∧ _ from ⟨mt7 64 rfl, pim_210, psl_210, by decide, pmk_210⟩
set_option maxRecDepth 100000 in
theorem rk_12_120 : RsOK pMM 12 120 (0, 12, 9) := show _ ∧ _ ∧ _ from ⟨by decide, by decide, mt6 118 rfl⟩
set_option maxRecDepth 100000 in
theorem rk_12_123 : RsOK pMM 12 123 (0, 12, 10) := show _ ∧ _ ∧ _ from ⟨by decide, by decide, mt6 119 rfl⟩
set_option maxRecDepth 100000 in
theorem rk_12_126 : RsOK pMM 12 126 (0, 12, 11) := show _ ∧ _ ∧ _ from ⟨by decide, by decide, mt6 120 rfl⟩
set_option maxRecDepth 100000 in
theorem rk_12_130 : RsOK pMM 12 130 (0, 12, 8) := show _ ∧ _ ∧ _ from ⟨by decide, by decide, mt6 117 rfl⟩
set_option maxRecDepth 100000 in
theorem rk_12_133 : RsOK pMM 12 133 (13, 0, -1) := show _ from mt7 68 rfl
set_option maxRecDepth 100000 in
theorem rk_12_135 : RsOK pMM 12 135 (13, 0, 27) := show _ from mt7 69 rfl
set_option maxRecDepth 100000 in
theorem rk_12_137 : RsOK pMM 12 137 (13, 0, 96) := show _ from mt7 70 rfl
set_option maxRecDepth 100000 in
theorem rk_12_139 : RsOK pMM 12 139 (12, 0, 100000) := show _ from mt7 71 rfl
set_option maxRecDepth 100000 in
theorem rk_12_140 : RsOK pMM 12 140 (12, 0, 1000000) := show _ from mt7 72 rfl
set_option maxRecDepth 100000 in
theorem rk_12_141 : RsOK pMM 12 141 (0, 12, 12) := show _ ∧ _ ∧ _ from ⟨by decide, by decide, mt6 121 rfl⟩
set_option maxRecDepth 100000 in
theorem rk_12_144 : RsOK pMM 12 144 (0, 12, 13) := show _ ∧ _ ∧ _ from ⟨by decide, by decide, mt6 122 rfl⟩
set_option maxRecDepth 100000 in
theorem rk_12_147 : RsOK pMM 12 147 (1, 214, 1) := show _ ∧ _ ∧ _ ∧ _ ∧ _ from ⟨mt7 86 rfl, pim_214, psl_214, by decide, pmk_214⟩
set_option maxRecDepth 100000 in
theorem rk_12_151 : RsOK pMM 12 151 (1, 211, 0) := show _ ∧ _ ∧ _ ∧ _ ∧ _ from ⟨mt7 60 rfl, pim_211, psl_211, by decide, pmk_211⟩
set_option maxRecDepth 100000 in
theorem rk_12_154 : RsOK pMM 12 154 (1, 215, 1) := show _ ∧ _ ∧ _ ∧ _ ∧ _ from ⟨mt7 82 rfl, pim_215, psl_215, by decide, pmk_215⟩
set_option maxRecDepth 100000 in
theorem rk_12_157 : RsOK pMM 12 157 (1, 213, 1) := show _ ∧ _ ∧ _ ∧ _ ∧ _ from ⟨mt7 90 rfl, pim_213, psl_213, by decide, pmk_213⟩
set_option maxRecDepth 100000 in
theorem rk_12_160 : RsOK pMM 12 160 (1, 216, 1) := show _ ∧ _ ∧ _ ∧ _ ∧ _ from ⟨mt7 78 rfl, pim_216, psl_216, by decide, pmk_216⟩
set_option maxRecDepth 100000 in
theorem rk_12_164 : RsOK pMM 12 164 (1, 217, 2) := show _ ∧ _ ∧ _ ∧ _ ∧ _ from ⟨mt7 99 rfl, pim_217, psl_217, by decide, pmk_217⟩
set_option maxRecDepth 100000 in
theorem rk_12_168 : RsOK pMM 12 168 (0, 12, 14) := show _ ∧ _ ∧ _ from ⟨by decide, by decide, mt6 123 rfl⟩
set_option maxRecDepth 100000 in
theorem rk_12_171 : RsOK pMM 12 171 (1, 223, 1) := show _ ∧ _ ∧ _ ∧ _ ∧ _ from ⟨mt7 114 rfl, pim_223, psl_223, by decide, pmk_223⟩
set_option maxRecDepth 100000 in
theorem rk_12_175 : RsOK pMM 12 175 (13, 0, 453701) := show _ from mt7 122 rfl
set_option maxRecDepth 100000 in
theorem rk_12_177 : RsOK pMM 12 177 (1, 218, 3) := show _ ∧ _ ∧ _ ∧ _ ∧ _ from ⟨mt7 95 rfl, pim_218, psl_218, by decide, pmk_218⟩
set_option maxRecDepth 100000 in
theorem rk_12_180 : RsOK pMM 12 180 (13, 0, 12532058) := show _ from mt7 123 rfl
set_option maxRecDepth 100000 in
theorem rk_12_182 : RsOK pMM 12 182 (1, 224, 2) := show _ ∧ _ ∧ _ ∧ _ ∧ _ from ⟨mt7 52 rfl, pim_224, psl_224, by decide, pmk_224⟩
set_option maxRecDepth 100000 in
theorem rk_12_186 : RsOK pMM 12 186 (1, 225, 0) := show _ ∧ _ ∧ _ ∧ _ ∧ _ from ⟨mt7 129 rfl, pim_225, psl_225, by decide, pmk_225⟩
set_option maxRecDepth 100000 in
theorem rk_12_190 : RsOK pMM 12 190 (13, 0, 257) := show _ from mt7 138 rfl
set_option maxRecDepth 100000 in
theorem rk_12_192 : RsOK pMM 12 192 (13, 0, 47) := show _ from mt7 139 rfl
set_option maxRecDepth 100000 in
theorem rk_12_194 : RsOK pMM 12 194 (13, 0, 365647) := show _ from mt7 109 rfl
set_option maxRecDepth 100000 in
theorem rk_12_196 : RsOK pMM 12 196 (1, 230, 3) := show _ ∧ _ ∧ _ ∧ _ ∧ _ from ⟨mt7 110 rfl, pim_230, psl_230, by decide, pmk_230⟩
set_option maxRecDepth 100000 in
theorem rk_12_200 : RsOK pMM 12 200 (1, 226, 0) := show _ ∧ _ ∧ _ ∧ _ ∧ _ from ⟨mt7 118 rfl, pim_226, psl_226, by decide, pmk_226⟩
set_option maxRecDepth 100000 in
theorem rk_12_203 : RsOK pMM 12 203 (13, 0, 16819) := show _ from mt7 124 rfl
set_option maxRecDepth 100000 in
theorem rk_12_205 : RsOK pMM 12 205 (1, 227, 0) := show _ ∧ _ ∧ _ ∧ _ ∧ _ from ⟨mt7 125 rfl, pim_227, psl_227, by decide, pmk_227⟩
set_option maxRecDepth 100000 in
theorem rk_12_208 : RsOK pMM 12 208 (13, 0, 8662680450) := show _ from mt7 133 rfl
set_option maxRecDepth 100000 in
theorem rk_12_210 : RsOK pMM 12 210 (1, 228, 0) := show _ ∧ _ ∧ _ ∧ _ ∧ _ from ⟨mt7 134 rfl, pim_228, psl_228, by decide, pmk_228⟩
set_option maxRecDepth 100000 in
theorem rk_12_213 : RsOK pMM 12 213 (13, 0, 9876874) := show _ from mt7 140 rfl
set_option maxRecDepth 100000 in
theorem rk_12_215 : RsOK pMM 12 215 (1, 229, 0) := show _ ∧ _ ∧ _ ∧ _ ∧ _ from ⟨mt7 141 rfl, pim_229, psl_229, by decide, pmk_229⟩
set_option maxRecDepth 100000 in
theorem rk_12_218 : RsOK pMM 12 218 (1, 232, 0) := show _ ∧ _ ∧ _ ∧ _ ∧ _ from ⟨mt7 48 rfl, pim_232, psl_232, by decide, pmk_232⟩
set_option maxRecDepth 100000 in
theorem rk_12_221 : RsOK pMM 12 221 (1, 220, 0) := show _ ∧ _ ∧ _ ∧ _ ∧ _ from ⟨mt7 56 rfl, pim_220, psl_220, by decide, pmk_220⟩
set_option maxRecDepth 100000 in
theorem rk_12_224 : RsOK pMM 12 224 (1, 212, 0) := show _ ∧ _ ∧ _ ∧ _ ∧ _ from ⟨mt7 73 rfl, pim_212, psl_212, by decide, pmk_212⟩
set_option maxRecDepth 100000 in
theorem rk_12_228 : RsOK pMM 12 228 (13, 0, 4562600) := show _ from mt7 77 rfl
set_option maxRecDepth 100000 in
theorem rk_12_230 : RsOK pMM 12 230 (13, 0, 8798) := show _ from mt7 94 rfl
set_option maxRecDepth 100000 in
theorem rk_12_232 : RsOK pMM 12 232 (13, 0, 298288) := show _ from mt7 103 rfl
set_option maxRecDepth 100000 in
theorem rk_12_234 : RsOK pMM 12 234 (13, 0, 5173474771) := show _ from mt7 104 rfl
set_option maxRecDepth 100000 in
theorem rk_12_236 : RsOK pMM 12 236 (1, 231, 0) := show _ ∧ _ ∧ _ ∧ _ ∧ _ from ⟨mt7 105 rfl, pim_231, psl_231, by decide, pmk_231⟩
set_option maxRecDepth 100000 in
theorem rk_12_239 : RsOK pMM 12 239 (1, 219, 0) := show _ ∧ _ ∧ _ ∧ _ ∧ _ from ⟨mt7 145 rfl, pim_219, psl_219, by decide, pmk_219⟩
set_option maxRecDepth 100000 in
theorem rk_12_242 : RsOK pMM 12 242 (1, 221, 0) := show _ ∧ _ ∧ _ ∧ _ ∧ _ from ⟨mt7 149 rfl, pim_221, psl_221, by decide, pmk_221⟩
set_option maxRecDepth 100000 in
theorem rk_12_245 : RsOK pMM 12 245 (1, 235, 2) := show _ ∧ _ ∧ _ ∧ _ ∧ _ from ⟨mt7 153 rfl, pim_235, psl_235, by decide, pmk_235⟩
set_option maxRecDepth 100000 in
theorem rk_12_248 : RsOK pMM 12 248 (2, 234, 4) := show _ ∧ _ ∧ _ from ⟨mt7 157 rfl, pst_234, pmk_234⟩
set_option maxRecDepth 100000 in
theorem rk_12_252 : RsOK pMM 12 252 (1, 237, 0) := show _ ∧ _ ∧ _ ∧ _ ∧ _ from ⟨mt7 168 rfl, pim_237, psl_237, by decide, pmk_237⟩
set_option maxRecDepth 100000 in
theorem rk_12_255 : RsOK pMM 12 255 (1, 239, 1) := show _ ∧ _ ∧ _ ∧ _ ∧ _ from ⟨mt7 164 rfl, pim_239, psl_239, by decide, pmk_239⟩
set_option maxRecDepth 100000 in
theorem rk_12_258 : RsOK pMM 12 258 (1, 238, 0) := show _ ∧ _ ∧ _ ∧ _ ∧ _ from ⟨mt7 211 rfl, pim_238, psl_238, by decide, pmk_238⟩
set_option maxRecDepth 100000 in
theorem rk_12_261 : RsOK pMM 12 261 (2, 242, 1) := show _ ∧ _ ∧ _ from ⟨mt7 172 rfl, pst_242, pmk_242⟩
set_option maxRecDepth 100000 in
theorem rk_12_264 : RsOK pMM 12 264 (1, 241, 1) := show _ ∧ _ ∧ _ ∧ _ ∧ _ from ⟨mt7 207 rfl, pim_241, psl_241, by decide, pmk_241⟩
set_option maxRecDepth 100000 in
theorem rk_12_267 : RsOK pMM 12 267 (1, 236, 0) := show _ ∧ _ ∧ _ ∧ _ ∧ _ from ⟨mt7 195 rfl, pim_236, psl_236, by decide, pmk_236⟩
set_option maxRecDepth 100000 in
theorem rk_12_270 : RsOK pMM 12 270 (1, 249, 2) := show _ ∧ _ ∧ _ ∧ _ ∧ _ from ⟨mt7 179 rfl, pim_249, psl_249, by decide, pmk_249⟩
set_option maxRecDepth 100000 in
theorem rk_12_274 : RsOK pMM 12 274 (0, 12, 25) := show _ ∧ _ ∧ _ from ⟨by decide, by decide, mt6 134 rfl⟩
set_option maxRecDepth 100000 in
theorem rk_12_277 : RsOK pMM 12 277 (0, 12, 26) := show _ ∧ _ ∧ _ from ⟨by decide, by decide, mt6 135 rfl⟩
set_option maxRecDepth 100000 in
theorem rk_12_280 : RsOK pMM 12 280 (0, 12, 27) := show _ ∧ _ ∧ _ from ⟨by decide, by decide, mt6 136 rfl⟩
set_option maxRecDepth 100000 in
theorem rk_12_283 : RsOK pMM 12 283 (0, 12, 28) := show _ ∧ _ ∧ _ from ⟨by decide, by decide, mt6 137 rfl⟩
set_option maxRecDepth 100000 in
theorem rk_12_286 : RsOK pMM 12 286 (2, 247, 2) := show _ ∧ _ ∧ _ from ⟨mt8 15 rfl, pst_247, pmk_247⟩
set_option maxRecDepth 100000 in
theorem rk_12_289 : RsOK pMM 12 289 (1, 251, 2) := show _ ∧ _ ∧ _ ∧ _ ∧ _ from ⟨mt7 187 rfl, pim_251, psl_251, by decide, pmk_251⟩
set_option maxRecDepth 100000 in
theorem rk_12_292 : RsOK pMM 12 292 (1, 254, 0) := show _ ∧ _ ∧ _ ∧ _ ∧ _ from ⟨mt7 235 rfl, pim_254, psl_254, by decide, pmk_254⟩
set_option maxRecDepth 100000 in
theorem rk_12_295 : RsOK pMM 12 295 (1, 255, 2) := show _ ∧ _ ∧ _ ∧ _ ∧ _ from ⟨mt7 239 rfl, pim_255, psl_255, by decide, pmk_255⟩
set_option maxRecDepth 100000 in
theorem rk_12_298 : RsOK pMM 12 298 (1, 250, 2) := show _ ∧ _ ∧ _ ∧ _ ∧ _ from ⟨mt8 3 rfl, pim_250, psl_250, by decide, pmk_250⟩
set_option maxRecDepth 100000 in
theorem rk_12_301 : RsOK pMM 12 301 (0, 12, 29) := show _ ∧ _ ∧ _ from ⟨by decide, by decide, mt6 138 rfl⟩
set_option maxRecDepth 100000 in
theorem rk_12_304 : RsOK pMM 12 304 (1, 256, 0) := show _ ∧ _ ∧ _ ∧ _ ∧ _ from ⟨mt7 227 rfl, pim_256, psl_256, by decide, pmk_256⟩
set_option maxRecDepth 100000 in
theorem rk_12_307 : RsOK pMM 12 307 (1, 257, 3) := show _ ∧ _ ∧ _ ∧ _ ∧ _ from ⟨mt7 231 rfl, pim_257, psl_257, by decide, pmk_257⟩
set_option maxRecDepth 100000 in
theorem rk_12_311 : RsOK pMM 12 311 (1, 258, 1) := show _ ∧ _ ∧ _ ∧ _ ∧ _ from ⟨mt8 7 rfl, pim_258, psl_258, by decide, pmk_258⟩
set_option maxRecDepth 100000 in
theorem rk_12_314 : RsOK pMM 12 314 (1, 259, 1) := show _ ∧ _ ∧ _ ∧ _ ∧ _ from ⟨mt8 11 rfl, pim_259, psl_259, by decide, pmk_259⟩
set_option maxRecDepth 100000 in
theorem rk_12_317 : RsOK pMM 12 317 (1, 253, 3) := show _ ∧ _ ∧ _ ∧ _ ∧ _ from ⟨mt8 18 rfl, pim_253, psl_253, by decide, pmk_253⟩
set_option maxRecDepth 100000 in
theorem rk_12_321 : RsOK pMM 12 321 (1, 252, 0) := show _ ∧ _ ∧ _ ∧ _ ∧ _ from ⟨mt7 219 rfl, pim_252, psl_252, by decide, pmk_252⟩
set_option maxRecDepth 100000 in
theorem rk_12_324 : RsOK pMM 12 324 (1, 260, 1) := show _ ∧ _ ∧ _ ∧ _ ∧ _ from ⟨mt7 223 rfl, pim_260, psl_260, by decide, pmk_260⟩
set_option maxRecDepth 100000 in
theorem rk_12_327 : RsOK pMM 12 327 (1, 263, 1) := show _ ∧ _ ∧ _ ∧ _ ∧ _ from ⟨mt8 46 rfl, pim_263, psl_263, by decide, pmk_263⟩
set_option maxRecDepth 100000 in
theorem rk_12_330 : RsOK pMM 12 330 (1, 243, 2) := show _ ∧ _ ∧ _ ∧ _ ∧ _ from ⟨mt7 203 rfl, pim_243, psl_243, by decide, pmk_243⟩
set_option maxRecDepth 100000 in
theorem rk_12_333 : RsOK pMM 12 333 (1, 261, 1) := show _ ∧ _ ∧ _ ∧ _ ∧ _ from ⟨mt7 215 rfl, pim_261, psl_261, by decide, pmk_261⟩
set_option maxRecDepth 100000 in
theorem rk_12_336 : RsOK pMM 12 336 (1, 244, 2) := show _ ∧ _ ∧ _ ∧ _ ∧ _ from ⟨mt8 26 rfl, pim_244, psl_244, by decide, pmk_244⟩
set_option maxRecDepth 100000 in
theorem rk_12_339 : RsOK pMM 12 339 (1, 262, 1) := show _ ∧ _ ∧ _ ∧ _ ∧ _ from ⟨mt8 38 rfl, pim_262, psl_262, by decide, pmk_262⟩
set_option maxRecDepth 100000 in
theorem rk_12_342 : RsOK pMM 12 342 (1, 265, 1) := show _ ∧ _ ∧ _ ∧ _ ∧ _ from ⟨mt8 50 rfl, pim_265, psl_265, by decide, pmk_265⟩
set_option maxRecDepth 100000 in
theorem rk_12_345 : RsOK pMM 12 345 (1, 245, 1) := show _ ∧ _ ∧ _ ∧ _ ∧ _ from ⟨mt8 58 rfl, pim_245, psl_245, by decide, pmk_245⟩
set_option maxRecDepth 100000 in
theorem rk_12_348 : RsOK pMM 12 348 (1, 264, 0) := show _ ∧ _ ∧ _ ∧ _ ∧ _ from ⟨mt8 62 rfl, pim_264, psl_264, by decide, pmk_264⟩
set_option maxRecDepth 100000 in
theorem rk_12_351 : RsOK pMM 12 351 (1, 277, 1) := show _ ∧ _ ∧ _ ∧ _ ∧ _ from ⟨mt8 74 rfl, pim_277, psl_277, by decide, pmk_277⟩
set_option maxRecDepth 100000 in
theorem rk_12_354 : RsOK pMM 12 354 (1, 280, 1) := show _ ∧ _ ∧ _ ∧ _ ∧ _ from ⟨mt8 86 rfl, pim_280, psl_280, by decide, pmk_280⟩
set_option maxRecDepth 100000 in
theorem rk_12_357 : RsOK pMM 12 357 (1, 289, 1) := show _ ∧ _ ∧ _ ∧ _ ∧ _ from ⟨mt8 146 rfl, pim_289, psl_289, by decide, pmk_289⟩
set_option maxRecDepth 100000 in
theorem rk_12_360 : RsOK pMM 12 360 (1, 288, 1) := show _ ∧ _ ∧ _ ∧ _ ∧ _ from ⟨mt8 134 rfl, pim_288, psl_288, by decide, pmk_288⟩
set_option maxRecDepth 100000 in
theorem rk_12_363 : RsOK pMM 12 363 (1, 290, 1) := show _ ∧ _ ∧ _ ∧ _ ∧ _ from ⟨mt8 150 rfl, pim_290, psl_290, by decide, pmk_290⟩
set_option maxRecDepth 100000 in
theorem rk_12_366 : RsOK pMM 12 366 (1, 287, 2) := show _ ∧ _ ∧ _ ∧ _ ∧ _ from ⟨mt8 154 rfl, pim_287, psl_287, by decide, pmk_287⟩
set_option maxRecDepth 100000 in
theorem rk_12_369 : RsOK pMM 12 369 (1, 291, 3) := show _ ∧ _ ∧ _ ∧ _ ∧ _ from ⟨mt8 142 rfl, pim_291, psl_291, by decide, pmk_291⟩
set_option maxRecDepth 100000 in
theorem rk_12_372 : RsOK pMM 12 372 (1, 293, 0) := show _ ∧ _ ∧ _ ∧ _ ∧ _ from ⟨mt8 126 rfl, pim_293, psl_293, by decide, pmk_293⟩
set_option maxRecDepth 100000 in
theorem rk_12_375 : RsOK pMM 12 375 (1, 294, 2) := show _ ∧ _ ∧ _ ∧ _ ∧ _ from ⟨mt8 130 rfl, pim_294, psl_294, by decide, pmk_294⟩
set_option maxRecDepth 100000 in
theorem rk_12_378 : RsOK pMM 12 378 (1, 292, 2) := show _ ∧ _ ∧ _ ∧ _ ∧ _ from ⟨mt8 138 rfl, pim_292, psl_292, by decide, pmk_292⟩
set_option maxRecDepth 100000 in
theorem rk_12_381 : RsOK pMM 12 381 (1, 295, 1) := show _ ∧ _ ∧ _ ∧ _ ∧ _ from ⟨mt8 122 rfl, pim_295, psl_295, by decide, pmk_295⟩
set_option maxRecDepth 100000 in
theorem rk_12_384 : RsOK pMM 12 384 (1, 296, 2) := show _ ∧ _ ∧ _ ∧ _ ∧ _ from ⟨mt8 158 rfl, pim_296, psl_296, by decide, pmk_296⟩
set_option maxRecDepth 100000 in
theorem rk_12_387 : RsOK pMM 12 387 (1, 246, 1) := show _ ∧ _ ∧ _ ∧ _ ∧ _ from ⟨mt8 114 rfl, pim_246, psl_246, by decide, pmk_246⟩
set_option maxRecDepth 100000 in
theorem rk_12_390 : RsOK pMM 12 390 (1, 297, 2) := show _ ∧ _ ∧ _ ∧ _ ∧ _ from ⟨mt8 118 rfl, pim_297, psl_297, by decide, pmk_297⟩
set_option maxRecDepth 100000 in
theorem rk_12_393 : RsOK pMM 12 393 (1, 298, 0) := show _ ∧ _ ∧ _ ∧ _ ∧ _ from ⟨mt8 166 rfl, pim_298, psl_298, by decide, pmk_298⟩
set_option maxRecDepth 100000 in
theorem rk_12_396 : RsOK pMM 12 396 (1, 303, 0) := show _ ∧ _ ∧ _ ∧ _ ∧ _ from ⟨mt8 178 rfl, pim_303, psl_303, by decide, pmk_303⟩
set_option maxRecDepth 100000 in
theorem rk_12_399 : RsOK pMM 12 399 (1, 304, 2) := show _ ∧ _ ∧ _ ∧ _ ∧ _ from ⟨mt8 202 rfl, pim_304, psl_304, by decide, pmk_304⟩
set_option maxRecDepth 100000 in
theorem rk_12_402 : RsOK pMM 12 402 (1, 305, 1) := show _ ∧ _ ∧ _ ∧ _ ∧ _ from ⟨mt8 198 rfl, pim_305, psl_305, by decide, pmk_305⟩
set_option maxRecDepth 100000 in
theorem rk_12_405 : RsOK pMM 12 405 (0, 12, 39) := show _ ∧ _ ∧ _ from ⟨by decide, by decide, mt6 148 rfl⟩
set_option maxRecDepth 100000 in
theorem rk_12_408 : RsOK pMM 12 408 (1, 306, 2) := show _ ∧ _ ∧ _ ∧ _ ∧ _ from ⟨mt8 194 rfl, pim_306, psl_306, by decide, pmk_306⟩
set_option maxRecDepth 100000 in
theorem rk_12_411 : RsOK pMM 12 411 (1, 307, 1) := show _ ∧ _ ∧ _ ∧ _ ∧ _ from ⟨mt8 190 rfl, pim_307, psl_307, by decide, pmk_307⟩
set_option maxRecDepth 100000 in
theorem rk_12_414 : RsOK pMM 12 414 (1, 308, 0) := show _ ∧ _ ∧ _ ∧ _ ∧ _ from ⟨mt8 186 rfl, pim_308, psl_308, by decide, pmk_308⟩
set_option maxRecDepth 100000 in
theorem rk_12_417 : RsOK pMM 12 417 (13, 0, 10) := show _ from mt8 214 rfl
set_option maxRecDepth 100000 in
theorem rk_12_419 : RsOK pMM 12 419 (1, 313, 0) := show _ ∧ _ ∧ _ ∧ _ ∧ _ from ⟨mt8 223 rfl, pim_313, psl_313, by decide, pmk_313⟩
set_option maxRecDepth 100000 in
theorem rk_12_422 : RsOK pMM 12 422 (2, 248, 1) := show _ ∧ _ ∧ _ from ⟨mt8 235 rfl, pst_248, pmk_248⟩
set_option maxRecDepth 100000 in
theorem rk_12_425 : RsOK pMM 12 425 (2, 318, 2) := show _ ∧ _ ∧ _ from ⟨mt9 9 rfl, pst_318, pmk_318⟩
set_option maxRecDepth 100000 in
theorem rk_12_428 : RsOK pMM 12 428 (2, 319, 3) := show _ ∧ _ ∧ _ from ⟨mt9 6 rfl, pst_319, pmk_319⟩
set_option maxRecDepth 100000 in
theorem rk_12_431 : RsOK pMM 12 431 (1, 322, 1) := show _ ∧ _ ∧ _ ∧ _ ∧ _ from ⟨mt9 20 rfl, pim_322, psl_322, by decide, pmk_322⟩
set_option maxRecDepth 100000 in
theorem rk_12_434 : RsOK pMM 12 434 (13, 0, 99) := show _ from mt9 36 rfl
set_option maxRecDepth 100000 in
theorem rk_12_436 : RsOK pMM 12 436 (0, 12, 40) := show _ ∧ _ ∧ _ from ⟨by decide, by decide, mt6 149 rfl⟩
set_option maxRecDepth 100000 in
theorem rk_12_439 : RsOK pMM 12 439 (0, 12, 41) := show _ ∧ _ ∧ _ from ⟨by decide, by decide, mt6 150 rfl⟩
set_option maxRecDepth 100000 in
theorem rk_12_442 : RsOK pMM 12 442 (1, 326, 1) := show _ ∧ _ ∧ _ ∧ _ ∧ _ from ⟨mt9 41 rfl, pim_326, psl_326, by decide, pmk_326⟩
set_option maxRecDepth 100000 in
theorem rk_12_445 : RsOK pMM 12 445 (0, 12, 42) := show _ ∧ _ ∧ _ from ⟨by decide, by decide, mt6 151 rfl⟩
set_option maxRecDepth 100000 in
theorem rk_12_448 : RsOK pMM 12 448 (0, 12, 43) := show _ ∧ _ ∧ _ from ⟨by decide, by decide, mt6 152 rfl⟩
set_option maxRecDepth 100000 in
theorem rk_12_451 : RsOK pMM 12 451 (1, 325, 1) := show _ ∧ _ ∧ _ ∧ _ ∧ _ from ⟨mt9 32 rfl, pim_325, psl_325, by decide, pmk_325⟩
set_option maxRecDepth 100000 in
theorem rk_12_454 : RsOK pMM 12 454 (1, 327, 1) := show _ ∧ _ ∧ _ ∧ _ ∧ _ from ⟨mt9 37 rfl, pim_327, psl_327, by decide, pmk_327⟩
set_option maxRecDepth 100000 in
theorem rk_12_457 : RsOK pMM 12 457 (1, 332, 1) := show _ ∧ _ ∧ _ ∧ _ ∧ _ from ⟨mt9 61 rfl, pim_332, psl_332, by decide, pmk_332⟩
set_option maxRecDepth 100000 in
theorem rk_12_460 : RsOK pMM 12 460 (1, 336, 2) := show _ ∧ _ ∧ _ ∧ _ ∧ _ from ⟨mt9 85 rfl, pim_336, psl_336, by decide, pmk_336⟩
set_option maxRecDepth 100000 in
theorem rk_12_463 : RsOK pMM 12 463 (1, 240, 2) := show _ ∧ _ ∧ _ ∧ _ ∧ _ from ⟨mt9 77 rfl, pim_240, psl_240, by decide, pmk_240⟩
set_option maxRecDepth 100000 in
theorem rk_12_466 : RsOK pMM 12 466 (1, 337, 5) := show _ ∧ _ ∧ _ ∧ _ ∧ _ from ⟨mt9 81 rfl, pim_337, psl_337, by decide, pmk_337⟩
set_option maxRecDepth 100000 in
theorem rk_12_470 : RsOK pMM 12 470 (1, 341, 2) := show _ ∧ _ ∧ _ ∧ _ ∧ _ from ⟨mt9 97 rfl, pim_341, psl_341, by decide, pmk_341⟩
set_option maxRecDepth 100000 in
theorem rk_12_474 : RsOK pMM 12 474 (1, 340, 0) := show _ ∧ _ ∧ _ ∧ _ ∧ _ from ⟨mt9 101 rfl, pim_340, psl_340, by decide, pmk_340⟩
set_option maxRecDepth 100000 in
theorem rk_12_477 : RsOK pMM 12 477 (13, 0, 1103515245) := show _ from mt9 125 rfl
set_option maxRecDepth 100000 in
theorem rk_12_479 : RsOK pMM 12 479 (13, 0, 12345) := show _ from mt9 126 rfl
set_option maxRecDepth 100000 in
theorem rk_12_481 : RsOK pMM 12 481 (13, 0, 2147483648) := show _ from mt9 127 rfl
set_option maxRecDepth 100000 in
theorem rk_12_483 : RsOK pMM 12 483 (13, 0, 65536) := show _ from mt9 128 rfl
set_option maxRecDepth 100000 in
theorem rk_12_485 : RsOK pMM 12 485 (13, 0, 2000000000) := show _ from mt9 120 rfl
set_option maxRecDepth 100000 in
theorem rk_12_487 : RsOK pMM 12 487 (2, 346, 1) := show _ ∧ _ ∧ _ from ⟨mt9 117 rfl, pst_346, pmk_346⟩
set_option maxRecDepth 100000 in
theorem rk_12_490 : RsOK pMM 12 490 (1, 345, 1) := show _ ∧ _ ∧ _ ∧ _ ∧ _ from ⟨mt9 121 rfl, pim_345, psl_345, by decide, pmk_345⟩
set_option maxRecDepth 100000 in
theorem rk_12_493 : RsOK pMM 12 493 (13, 0, 20) := show _ from mt9 133 rfl
set_option maxRecDepth 100000 in
theorem rk_12_495 : RsOK pMM 12 495 (1, 349, 2) := show _ ∧ _ ∧ _ ∧ _ ∧ _ from ⟨mt9 138 rfl, pim_349, psl_349, by decide, pmk_349⟩
set_option maxRecDepth 100000 in
theorem rk_12_498 : RsOK pMM 12 498 (13, 0, 7) := show _ from mt9 162 rfl
set_option maxRecDepth 100000 in
theorem rk_12_500 : RsOK pMM 12 500 (13, 0, 2) := show _ from mt9 167 rfl
set_option maxRecDepth 100000 in
theorem rk_13_7 : RsOK pMM 13 7 (5, 11, 0) := show _ ∧ _ from ⟨by decide, mt1 21 rfl⟩
set_option maxRecDepth 100000 in
theorem rk_13_9 : RsOK pMM 13 9 (3, 112, 0) := show _ ∧ _ ∧ _ ∧ _ ∧ _ from ⟨Or.inl (mt1 23 rfl), pim_112, rfl, rfl, pmk_112⟩
set_option maxRecDepth 100000 in
theorem rk_13_10 : RsOK pMM 13 10 (5, 12, 0) := show _ ∧ _ from ⟨by decide, mt6 103 rfl⟩
set_option maxRecDepth 100000 in
theorem rk_13_12 : RsOK pMM 13 12 (3, 200, 0) := show _ ∧ _ ∧ _ ∧ _ ∧ _ from ⟨Or.inl (mt6 105 rfl), pim_200, rfl, rfl, pmk_200⟩
set_option maxRecDepth 100000 in
theorem rk_13_13 : RsOK pMM 13 13 (1, 113, 5) := show _ ∧ _ ∧ _ ∧ _ ∧ _ from ⟨mt2 177 rfl, pim_113, psl_113, by decide, pmk_113⟩
set_option maxRecDepth 100000 in
theorem rk_13_17 : RsOK pMM 13 17 (1, 207, 5) := show _ ∧ _ ∧ _ ∧ _ ∧ _ from ⟨mt7 28 rfl, pim_207, psl_207, by decide, pmk_207⟩
set_option maxRecDepth 100000 in
theorem rk_13_18 : RsOK pMM 13 18 (1, 114, 1) := show _ ∧ _ ∧ _ ∧ _ ∧ _ from ⟨mt2 185 rfl, pim_114, psl_114, by decide, pmk_114⟩
set_option maxRecDepth 100000 in
theorem rk_13_22 : RsOK pMM 13 22 (1, 209, 1) := show _ ∧ _ ∧ _ ∧ _ ∧ _ from ⟨mt7 36 rfl, pim_209, psl_209, by decide, pmk_209⟩
set_option maxRecDepth 100000 in
theorem rk_13_23 : RsOK pMM 13 23 (1, 115, 0) := show _ ∧ _ ∧ _ ∧ _ ∧ _ from ⟨mt2 189 rfl, pim_115, psl_115, by decide, pmk_115⟩
set_option maxRecDepth 100000 in
theorem rk_13_27 : RsOK pMM 13 27 (1, 233, 0) := show _ ∧ _ ∧ _ ∧ _ ∧ _ from ⟨mt7 44 rfl, pim_233, psl_233, by decide, pmk_233⟩
set_option maxRecDepth 100000 in
theorem rk_13_28 : RsOK pMM 13 28 (1, 116, 1) := show _ ∧ _ ∧ _ ∧ _ ∧ _ from ⟨mt3 121 rfl, pim_116, psl_116, by decide, pmk_116⟩
set_option maxRecDepth 100000 in
theorem rk_13_31 : RsOK pMM 13 31 (1, 222, 1) := show _ ∧ _ ∧ _ ∧ _ ∧ _ from ⟨mt7 40 rfl, pim_222, psl_222, by decide, pmk_222⟩
set_option maxRecDepth 100000 in
theorem rk_13_32 : RsOK pMM 13 32 (1, 117, 2) := show _ ∧ _ ∧ _ ∧ _ ∧ _ from ⟨mt3 125 rfl, pim_117, psl_117, by decide, pmk_117⟩
set_option maxRecDepth 100000 in
theorem rk_13_36 : RsOK pMM 13 36 (1, 266, 2) := show _ ∧ _ ∧ _ ∧ _ ∧ _ from ⟨mt7 160 rfl, pim_266, psl_266, by decide, pmk_266⟩
set_option maxRecDepth 100000 in
theorem rk_13_37 : RsOK pMM 13 37 (1, 118, 1) := show _ ∧ _ ∧ _ ∧ _ ∧ _ from ⟨mt3 136 rfl, pim_118, psl_118, by decide, pmk_118⟩
set_option maxRecDepth 100000 in
theorem rk_13_40 : RsOK pMM 13 40 (1, 267, 1) := show _ ∧ _ ∧ _ ∧ _ ∧ _ from ⟨mt7 175 rfl, pim_267, psl_267, by decide, pmk_267⟩
set_option maxRecDepth 100000 in
theorem rk_13_41 : RsOK pMM 13 41 (1, 119, 2) := show _ ∧ _ ∧ _ ∧ _ ∧ _ from ⟨mt3 140 rfl, pim_119, psl_119, by decide, pmk_119⟩
set_option maxRecDepth 100000 in
theorem rk_13_44 : RsOK pMM 13 44 (1, 268, 2) := show _ ∧ _ ∧ _ ∧ _ ∧ _ from ⟨mt7 183 rfl, pim_268, psl_268, by decide, pmk_268⟩
set_option maxRecDepth 100000 in
theorem rk_13_45 : RsOK pMM 13 45 (1, 120, 1) := show _ ∧ _ ∧ _ ∧ _ ∧ _ from ⟨mt3 148 rfl, pim_120, psl_120, by decide, pmk_120⟩
set_option maxRecDepth 100000 in
theorem rk_13_48 : RsOK pMM 13 48 (1, 269, 1) := show _ ∧ _ ∧ _ ∧ _ ∧ _ from ⟨mt7 191 rfl, pim_269, psl_269, by decide, pmk_269⟩
set_option maxRecDepth 100000 in
theorem rk_13_49 : RsOK pMM 13 49 (1, 121, 2) := show _ ∧ _ ∧ _ ∧ _ ∧ _ from ⟨mt3 156 rfl, pim_121, psl_121, by decide, pmk_121⟩
set_option maxRecDepth 100000 in
theorem rk_13_52 : RsOK pMM 13 52 (1, 270, 2) := show _ ∧ _ ∧ _ ∧ _ ∧ _ from ⟨mt7 199 rfl, pim_270, psl_270, by decide, pmk_270⟩
set_option maxRecDepth 100000 in
theorem rk_13_53 : RsOK pMM 13 53 (1, 122, 3) := show _ ∧ _ ∧ _ ∧ _ ∧ _ from ⟨mt3 218 rfl, pim_122, psl_122, by decide, pmk_122⟩
set_option maxRecDepth 100000 in
theorem rk_13_57 : RsOK pMM 13 57 (1, 271, 3) := show _ ∧ _ ∧ _ ∧ _ ∧ _ from ⟨mt8 22 rfl, pim_271, psl_271, by decide, pmk_271⟩
set_option maxRecDepth 100000 in
theorem rk_13_58 : RsOK pMM 13 58 (1, 123, 3) := show _ ∧ _ ∧ _ ∧ _ ∧ _ from ⟨mt3 223 rfl, pim_123, psl_123, by decide, pmk_123⟩
set_option maxRecDepth 100000 in
theorem rk_13_61 : RsOK pMM 13 61 (1, 272, 3) := show _ ∧ _ ∧ _ ∧ _ ∧ _ from ⟨mt8 30 rfl, pim_272, psl_272, by decide, pmk_272⟩
set_option maxRecDepth 100000 in
theorem rk_13_62 : RsOK pMM 13 62 (1, 124, 2) := show _ ∧ _ ∧ _ ∧ _ ∧ _ from ⟨mt3 228 rfl, pim_124, psl_124, by decide, pmk_124⟩
set_option maxRecDepth 100000 in
theorem rk_13_65 : RsOK pMM 13 65 (1, 273, 2) := show _ ∧ _ ∧ _ ∧ _ ∧ _ from ⟨mt8 34 rfl, pim_273, psl_273, by decide, pmk_273⟩
set_option maxRecDepth 100000 in
theorem rk_13_66 : RsOK pMM 13 66 (1, 125, 2) := show _ ∧ _ ∧ _ ∧ _ ∧ _ from ⟨mt3 236 rfl, pim_125, psl_125, by decide, pmk_125⟩
set_option maxRecDepth 100000 in
theorem rk_13_69 : RsOK pMM 13 69 (1, 274, 2) := show _ ∧ _ ∧ _ ∧ _ ∧ _ from ⟨mt8 42 rfl, pim_274, psl_274, by decide, pmk_274⟩
set_option maxRecDepth 100000 in
theorem rk_13_70 : RsOK pMM 13 70 (1, 126, 1) := show _ ∧ _ ∧ _ ∧ _ ∧ _ from ⟨mt4 0 rfl, pim_126, psl_126, by decide, pmk_126⟩
set_option maxRecDepth 100000 in
theorem rk_13_73 : RsOK pMM 13 73 (1, 275, 1) := show _ ∧ _ ∧ _ ∧ _ ∧ _ from ⟨mt8 54 rfl, pim_275, psl_275, by decide, pmk_275⟩
set_option maxRecDepth 100000 in
theorem rk_13_74 : RsOK pMM 13 74 (1, 127, 1) := show _ ∧ _ ∧ _ ∧ _ ∧ _ from ⟨mt4 12 rfl, pim_127, psl_127, by decide, pmk_127⟩
set_option maxRecDepth 100000 in
theorem rk_13_77 : RsOK pMM 13 77 (1, 276, 1) := show _ ∧ _ ∧ _ ∧ _ ∧ _ from ⟨mt8 66 rfl, pim_276, psl_276, by decide, pmk_276⟩
set_option maxRecDepth 100000 in
theorem rk_13_78 : RsOK pMM 13 78 (1, 128, 2) := show _ ∧ _ ∧ _ ∧ _ ∧ _ from ⟨mt4 17 rfl, pim_128, psl_128, by decide, pmk_128⟩
set_option maxRecDepth 100000 in
theorem rk_13_81 : RsOK pMM 13 81 (1, 278, 2) := show _ ∧ _ ∧ _ ∧ _ ∧ _ from ⟨mt8 70 rfl, pim_278, psl_278, by decide, pmk_278⟩
set_option maxRecDepth 100000 in
theorem rk_13_82 : RsOK pMM 13 82 (1, 129, 2) := show _ ∧ _ ∧ _ ∧ _ ∧ _ from ⟨mt4 25 rfl, pim_129, psl_129, by decide, pmk_129⟩
set_option maxRecDepth 100000 in
theorem rk_13_85 : RsOK pMM 13 85 (1, 279, 2) := show _ ∧ _ ∧ _ ∧ _ ∧ _ from ⟨mt8 78 rfl, pim_279, psl_279, by decide, pmk_279⟩
set_option maxRecDepth 100000 in
theorem rk_13_86 : RsOK pMM 13 86 (1, 130, 2) := show _ ∧ _ ∧ _ ∧ _ ∧ _ from ⟨mt4 36 rfl, pim_130, psl_130, by decide, pmk_130⟩
set_option maxRecDepth 100000 in
theorem rk_13_89 : RsOK pMM 13 89 (1, 281, 2) := show _ ∧ _ ∧ _ ∧ _ ∧ _ from ⟨mt8 82 rfl, pim_281, psl_281, by decide, pmk_281⟩
set_option maxRecDepth 100000 in
theorem rk_13_90 : RsOK pMM 13 90 (1, 131, 1) := show _ ∧ _ ∧ _ ∧ _ ∧ _ from ⟨mt4 44 rfl, pim_131, psl_131, by decide, pmk_131⟩
set_option maxRecDepth 100000 in
theorem rk_13_93 : RsOK pMM 13 93 (1, 282, 1) := show _ ∧ _ ∧ _ ∧ _ ∧ _ from ⟨mt8 90 rfl, pim_282, psl_282, by decide, pmk_282⟩
set_option maxRecDepth 100000 in
theorem rk_13_94 : RsOK pMM 13 94 (1, 132, 2) := show _ ∧ _ ∧ _ ∧ _ ∧ _ from ⟨mt4 52 rfl, pim_132, psl_132, by decide, pmk_132⟩
set_option maxRecDepth 100000 in
theorem rk_13_97 : RsOK pMM 13 97 (1, 283, 2) := show _ ∧ _ ∧ _ ∧ _ ∧ _ from ⟨mt8 94 rfl, pim_283, psl_283, by decide, pmk_283⟩
set_option maxRecDepth 100000 in
theorem rk_13_98 : RsOK pMM 13 98 (1, 133, 1) := show _ ∧ _ ∧ _ ∧ _ ∧ _ from ⟨mt4 57 rfl, pim_133, psl_133, by decide, pmk_133⟩
set_option maxRecDepth 100000 in
theorem rk_13_101 : RsOK pMM 13 101 (1, 284, 1) := show _ ∧ _ ∧ _ ∧ _ ∧ _ from ⟨mt8 98 rfl, pim_284, psl_284, by decide, pmk_284⟩
set_option maxRecDepth 100000 in
theorem rk_13_102 : RsOK pMM 13 102 (1, 134, 1) := show _ ∧ _ ∧ _ ∧ _ ∧ _ from ⟨mt4 65 rfl, pim_134, psl_134, by decide, pmk_134⟩
set_option maxRecDepth 100000 in
theorem rk_13_105 : RsOK pMM 13 105 (1, 285, 1) := show _ ∧ _ ∧ _ ∧ _ ∧ _ from ⟨mt8 102 rfl, pim_285, psl_285, by decide, pmk_285⟩
set_option maxRecDepth 100000 in
theorem rk_13_106 : RsOK pMM 13 106 (1, 135, 2) := show _ ∧ _ ∧ _ ∧ _ ∧ _ from ⟨mt4 74 rfl, pim_135, psl_135, by decide, pmk_135⟩
set_option maxRecDepth 100000 in
theorem rk_13_109 : RsOK pMM 13 109 (1, 286, 2) := show _ ∧ _ ∧ _ ∧ _ ∧ _ from ⟨mt8 106 rfl, pim_286, psl_286, by decide, pmk_286⟩
set_option maxRecDepth 100000 in
theorem rk_13_110 : RsOK pMM 13 110 (1, 136, 1) := show _ ∧ _ ∧ _ ∧ _ ∧ _ from ⟨mt4 83 rfl, pim_136, psl_136, by decide, pmk_136⟩
set_option maxRecDepth 100000 in
theorem rk_13_113 : RsOK pMM 13 113 (1, 299, 1) := show _ ∧ _ ∧ _ ∧ _ ∧ _ from ⟨mt8 110 rfl, pim_299, psl_299, by decide, pmk_299⟩
set_option maxRecDepth 100000 in
theorem rk_13_114 : RsOK pMM 13 114 (1, 137, 0) := show _ ∧ _ ∧ _ ∧ _ ∧ _ from ⟨mt4 210 rfl, pim_137, psl_137, by decide, pmk_137⟩
set_option maxRecDepth 100000 in
theorem rk_13_117 : RsOK pMM 13 117 (1, 300, 0) := show _ ∧ _ ∧ _ ∧ _ ∧ _ from ⟨mt8 162 rfl, pim_300, psl_300, by decide, pmk_300⟩
set_option maxRecDepth 100000 in
theorem rk_13_118 : RsOK pMM 13 118 (1, 138, 0) := show _ ∧ _ ∧ _ ∧ _ ∧ _ from ⟨mt4 226 rfl, pim_138, psl_138, by decide, pmk_138⟩
set_option maxRecDepth 100000 in
theorem rk_13_121 : RsOK pMM 13 121 (1, 301, 0) := show _ ∧ _ ∧ _ ∧ _ ∧ _ from ⟨mt8 170 rfl, pim_301, psl_301, by decide, pmk_301⟩
set_option maxRecDepth 100000 in
theorem rk_13_122 : RsOK pMM 13 122 (1, 139, 0) := show _ ∧ _ ∧ _ ∧ _ ∧ _ from ⟨mt4 235 rfl, pim_139, psl_139, by decide, pmk_139⟩
set_option maxRecDepth 100000 in
theorem rk_13_125 : RsOK pMM 13 125 (1, 302, 0) := show _ ∧ _ ∧ _ ∧ _ ∧ _ from ⟨mt8 174 rfl, pim_302, psl_302, by decide, pmk_302⟩
set_option maxRecDepth 100000 in
theorem rk_13_126 : RsOK pMM 13 126 (1, 140, 0) := show _ ∧ _ ∧ _ ∧ _ ∧ _ from ⟨mt5 3 rfl, pim_140, psl_140, by decide, pmk_140⟩
set_option maxRecDepth 100000 in
theorem rk_13_129 : RsOK pMM 13 129 (1, 309, 0) := show _ ∧ _ ∧ _ ∧ _ ∧ _ from ⟨mt8 182 rfl, pim_309, psl_309, by decide, pmk_309⟩
set_option maxRecDepth 100000 in
theorem rk_13_130 : RsOK pMM 13 130 (1, 141, 1) := show _ ∧ _ ∧ _ ∧ _ ∧ _ from ⟨mt5 40 rfl, pim_141, psl_141, by decide, pmk_141⟩
set_option maxRecDepth 100000 in
theorem rk_13_133 : RsOK pMM 13 133 (1, 310, 1) := show _ ∧ _ ∧ _ ∧ _ ∧ _ from ⟨mt8 206 rfl, pim_310, psl_310, by decide, pmk_310⟩
set_option maxRecDepth 100000 in
theorem rk_13_134 : RsOK pMM 13 134 (1, 142, 1) := show _ ∧ _ ∧ _ ∧ _ ∧ _ from ⟨mt5 44 rfl, pim_142, psl_142, by decide, pmk_142⟩
set_option maxRecDepth 100000 in
theorem rk_13_137 : RsOK pMM 13 137 (1, 311, 1) := show _ ∧ _ ∧ _ ∧ _ ∧ _ from ⟨mt8 210 rfl, pim_311, psl_311, by decide, pmk_311⟩
set_option maxRecDepth 100000 in
theorem rk_13_138 : RsOK pMM 13 138 (1, 143, 0) := show _ ∧ _ ∧ _ ∧ _ ∧ _ from ⟨mt5 52 rfl, pim_143, psl_143, by decide, pmk_143⟩
set_option maxRecDepth 100000 in
theorem rk_13_141 : RsOK pMM 13 141 (1, 312, 0) := show _ ∧ _ ∧ _ ∧ _ ∧ _ from ⟨mt8 215 rfl, pim_312, psl_312, by decide, pmk_312⟩
set_option maxRecDepth 100000 in
theorem rk_13_142 : RsOK pMM 13 142 (1, 144, 0) := show _ ∧ _ ∧ _ ∧ _ ∧ _ from ⟨mt5 60 rfl, pim_144, psl_144, by decide, pmk_144⟩
set_option maxRecDepth 100000 in
theorem rk_13_145 : RsOK pMM 13 145 (1, 314, 0) := show _ ∧ _ ∧ _ ∧ _ ∧ _ from ⟨mt8 219 rfl, pim_314, psl_314, by decide, pmk_314⟩
set_option maxRecDepth 100000 in
theorem rk_13_146 : RsOK pMM 13 146 (1, 145, 0) := show _ ∧ _ ∧ _ ∧ _ ∧ _ from ⟨mt5 68 rfl, pim_145, psl_145, by decide, pmk_145⟩
set_option maxRecDepth 100000 in
theorem rk_13_149 : RsOK pMM 13 149 (1, 315, 0) := show _ ∧ _ ∧ _ ∧ _ ∧ _ from ⟨mt8 227 rfl, pim_315, psl_315, by decide, pmk_315⟩
set_option maxRecDepth 100000 in
theorem rk_13_150 : RsOK pMM 13 150 (1, 146, 0) := show _ ∧ _ ∧ _ ∧ _ ∧ _ from ⟨mt5 72 rfl, pim_146, psl_146, by decide, pmk_146⟩
set_option maxRecDepth 100000 in
theorem rk_13_153 : RsOK pMM 13 153 (1, 316, 0) := show _ ∧ _ ∧ _ ∧ _ ∧ _ from ⟨mt8 231 rfl, pim_316, psl_316, by decide, pmk_316⟩
set_option maxRecDepth 100000 in
theorem rk_13_154 : RsOK pMM 13 154 (1, 147, 1) := show _ ∧ _ ∧ _ ∧ _ ∧ _ from ⟨mt5 82 rfl, pim_147, psl_147, by decide, pmk_147⟩
set_option maxRecDepth 100000 in
theorem rk_13_157 : RsOK pMM 13 157 (1, 317, 1) := show _ ∧ _ ∧ _ ∧ _ ∧ _ from ⟨mt8 238 rfl, pim_317, psl_317, by decide, pmk_317⟩
set_option maxRecDepth 100000 in
theorem rk_13_158 : RsOK pMM 13 158 (1, 148, 1) := show _ ∧ _ ∧ _ ∧ _ ∧ _ from ⟨mt5 99 rfl, pim_148, psl_148, by decide, pmk_148⟩
set_option maxRecDepth 100000 in
theorem rk_13_161 : RsOK pMM 13 161 (1, 320, 1) := show _ ∧ _ ∧ _ ∧ _ ∧ _ from ⟨mt9 2 rfl, pim_320, psl_320, by decide, pmk_320⟩
set_option maxRecDepth 100000 in
theorem rk_13_162 : RsOK pMM 13 162 (1, 149, 0) := show _ ∧ _ ∧ _ ∧ _ ∧ _ from ⟨mt5 106 rfl, pim_149, psl_149, by decide, pmk_149⟩
set_option maxRecDepth 100000 in
theorem rk_13_165 : RsOK pMM 13 165 (1, 321, 0) := show _ ∧ _ ∧ _ ∧ _ ∧ _ from ⟨mt9 12 rfl, pim_321, psl_321, by decide, pmk_321⟩
set_option maxRecDepth 100000 in
theorem rk_13_166 : RsOK pMM 13 166 (1, 150, 1) := show _ ∧ _ ∧ _ ∧ _ ∧ _ from ⟨mt5 112 rfl, pim_150, psl_150, by decide, pmk_150⟩
set_option maxRecDepth 100000 in
theorem rk_13_169 : RsOK pMM 13 169 (1, 323, 1) := show _ ∧ _ ∧ _ ∧ _ ∧ _ from ⟨mt9 16 rfl, pim_323, psl_323, by decide, pmk_323⟩
set_option maxRecDepth 100000 in
theorem rk_13_170 : RsOK pMM 13 170 (1, 151, 0) := show _ ∧ _ ∧ _ ∧ _ ∧ _ from ⟨mt5 120 rfl, pim_151, psl_151, by decide, pmk_151⟩
set_option maxRecDepth 100000 in
theorem rk_13_173 : RsOK pMM 13 173 (1, 324, 0) := show _ ∧ _ ∧ _ ∧ _ ∧ _ from ⟨mt9 24 rfl, pim_324, psl_324, by decide, pmk_324⟩
set_option maxRecDepth 100000 in
theorem rk_13_174 : RsOK pMM 13 174 (1, 152, 1) := show _ ∧ _ ∧ _ ∧ _ ∧ _ from ⟨mt5 124 rfl, pim_152, psl_152, by decide, pmk_152⟩
set_option maxRecDepth 100000 in
theorem rk_13_177 : RsOK pMM 13 177 (1, 328, 1) := show _ ∧ _ ∧ _ ∧ _ ∧ _ from ⟨mt9 28 rfl, pim_328, psl_328, by decide, pmk_328⟩
set_option maxRecDepth 100000 in
theorem rk_13_178 : RsOK pMM 13 178 (1, 153, 1) := show _ ∧ _ ∧ _ ∧ _ ∧ _ from ⟨mt5 169 rfl, pim_153, psl_153, by decide, pmk_153⟩
set_option maxRecDepth 100000 in
theorem rk_13_181 : RsOK pMM 13 181 (1, 329, 1) := show _ ∧ _ ∧ _ ∧ _ ∧ _ from ⟨mt9 45 rfl, pim_329, psl_329, by decide, pmk_329⟩
set_option maxRecDepth 100000 in
theorem rk_13_182 : RsOK pMM 13 182 (1, 154, 1) := show _ ∧ _ ∧ _ ∧ _ ∧ _ from ⟨mt5 177 rfl, pim_154, psl_154, by decide, pmk_154⟩
set_option maxRecDepth 100000 in
theorem rk_13_185 : RsOK pMM 13 185 (1, 330, 1) := show _ ∧ _ ∧ _ ∧ _ ∧ _ from ⟨mt9 49 rfl, pim_330, psl_330, by decide, pmk_330⟩
set_option maxRecDepth 100000 in
theorem rk_13_186 : RsOK pMM 13 186 (1, 155, 1) := show _ ∧ _ ∧ _ ∧ _ ∧ _ from ⟨mt5 181 rfl, pim_155, psl_155, by decide, pmk_155⟩
set_option maxRecDepth 100000 in
theorem rk_13_189 : RsOK pMM 13 189 (1, 331, 1) := show _ ∧ _ ∧ _ ∧ _ ∧ _ from ⟨mt9 53 rfl, pim_331, psl_331, by decide, pmk_331⟩
set_option maxRecDepth 100000 in
theorem rk_13_190 : RsOK pMM 13 190 (1, 156, 1) := show _ ∧ _ ∧ _ ∧ _ ∧ _ from ⟨mt5 185 rfl, pim_156, psl_156, by decide, pmk_156⟩
set_option maxRecDepth 100000 in
theorem rk_13_193 : RsOK pMM 13 193 (1, 333, 1) := show _ ∧ _ ∧ _ ∧ _ ∧ _ from ⟨mt9 57 rfl, pim_333, psl_333, by decide, pmk_333⟩
set_option maxRecDepth 100000 in
theorem rk_13_194 : RsOK pMM 13 194 (1, 157, 1) := show _ ∧ _ ∧ _ ∧ _ ∧ _ from ⟨mt5 193 rfl, pim_157, psl_157, by decide, pmk_157⟩
set_option maxRecDepth 100000 in
theorem rk_13_197 : RsOK pMM 13 197 (1, 334, 1) := show _ ∧ _ ∧ _ ∧ _ ∧ _ from ⟨mt9 65 rfl, pim_334, psl_334, by decide, pmk_334⟩
set_option maxRecDepth 100000 in
theorem rk_13_198 : RsOK pMM 13 198 (1, 158, 0) := show _ ∧ _ ∧ _ ∧ _ ∧ _ from ⟨mt5 197 rfl, pim_158, psl_158, by decide, pmk_158⟩
set_option maxRecDepth 100000 in
theorem rk_13_201 : RsOK pMM 13 201 (1, 335, 0) := show _ ∧ _ ∧ _ ∧ _ ∧ _ from ⟨mt9 69 rfl, pim_335, psl_335, by decide, pmk_335⟩
set_option maxRecDepth 100000 in
theorem rk_13_202 : RsOK pMM 13 202 (1, 159, 2) := show _ ∧ _ ∧ _ ∧ _ ∧ _ from ⟨mt5 204 rfl, pim_159, psl_159, by decide, pmk_159⟩
set_option maxRecDepth 100000 in
theorem rk_13_205 : RsOK pMM 13 205 (1, 338, 2) := show _ ∧ _ ∧ _ ∧ _ ∧ _ from ⟨mt9 73 rfl, pim_338, psl_338, by decide, pmk_338⟩
set_option maxRecDepth 100000 in
theorem rk_13_206 : RsOK pMM 13 206 (1, 160, 4) := show _ ∧ _ ∧ _ ∧ _ ∧ _ from ⟨mt5 220 rfl, pim_160, psl_160, by decide, pmk_160⟩
set_option maxRecDepth 100000 in
theorem rk_13_210 : RsOK pMM 13 210 (1, 339, 4) := show _ ∧ _ ∧ _ ∧ _ ∧ _ from ⟨mt9 89 rfl, pim_339, psl_339, by decide, pmk_339⟩
set_option maxRecDepth 100000 in
theorem rk_13_211 : RsOK pMM 13 211 (1, 161, 2) := show _ ∧ _ ∧ _ ∧ _ ∧ _ from ⟨mt5 224 rfl, pim_161, psl_161, by decide, pmk_161⟩
set_option maxRecDepth 100000 in
theorem rk_13_214 : RsOK pMM 13 214 (1, 342, 2) := show _ ∧ _ ∧ _ ∧ _ ∧ _ from ⟨mt9 93 rfl, pim_342, psl_342, by decide, pmk_342⟩
set_option maxRecDepth 100000 in
theorem rk_13_215 : RsOK pMM 13 215 (1, 162, 2) := show _ ∧ _ ∧ _ ∧ _ ∧ _ from ⟨mt6 0 rfl, pim_162, psl_162, by decide, pmk_162⟩
set_option maxRecDepth 100000 in
theorem rk_13_218 : RsOK pMM 13 218 (1, 343, 2) := show _ ∧ _ ∧ _ ∧ _ ∧ _ from ⟨mt9 105 rfl, pim_343, psl_343, by decide, pmk_343⟩
set_option maxRecDepth 100000 in
theorem rk_13_219 : RsOK pMM 13 219 (1, 163, 0) := show _ ∧ _ ∧ _ ∧ _ ∧ _ from ⟨mt6 4 rfl, pim_163, psl_163, by decide, pmk_163⟩
set_option maxRecDepth 100000 in
theorem rk_13_222 : RsOK pMM 13 222 (1, 344, 0) := show _ ∧ _ ∧ _ ∧ _ ∧ _ from ⟨mt9 109 rfl, pim_344, psl_344, by decide, pmk_344⟩
set_option maxRecDepth 100000 in
theorem rk_13_223 : RsOK pMM 13 223 (1, 164, 2) := show _ ∧ _ ∧ _ ∧ _ ∧ _ from ⟨mt6 12 rfl, pim_164, psl_164, by decide, pmk_164⟩
set_option maxRecDepth 100000 in
theorem rk_13_226 : RsOK pMM 13 226 (1, 350, 2) := show _ ∧ _ ∧ _ ∧ _ ∧ _ from ⟨mt9 134 rfl, pim_350, psl_350, by decide, pmk_350⟩
set_option maxRecDepth 100000 in
theorem rk_13_227 : RsOK pMM 13 227 (1, 165, 1) := show _ ∧ _ ∧ _ ∧ _ ∧ _ from ⟨mt6 20 rfl, pim_165, psl_165, by decide, pmk_165⟩
set_option maxRecDepth 100000 in
theorem rk_13_230 : RsOK pMM 13 230 (1, 351, 1) := show _ ∧ _ ∧ _ ∧ _ ∧ _ from ⟨mt9 142 rfl, pim_351, psl_351, by decide, pmk_351⟩
set_option maxRecDepth 100000 in
theorem rk_13_231 : RsOK pMM 13 231 (1, 166, 0) := show _ ∧ _ ∧ _ ∧ _ ∧ _ from ⟨mt6 24 rfl, pim_166, psl_166, by decide, pmk_166⟩
set_option maxRecDepth 100000 in
theorem rk_13_234 : RsOK pMM 13 234 (1, 352, 0) := show _ ∧ _ ∧ _ ∧ _ ∧ _ from ⟨mt9 146 rfl, pim_352, psl_352, by decide, pmk_352⟩
set_option maxRecDepth 100000 in
theorem rk_13_235 : RsOK pMM 13 235 (1, 167, 0) := show _ ∧ _ ∧ _ ∧ _ ∧ _ from ⟨mt6 28 rfl, pim_167, psl_167, by decide, pmk_167⟩
set_option maxRecDepth 100000 in
theorem rk_13_238 : RsOK pMM 13 238 (1, 353, 0) := show _ ∧ _ ∧ _ ∧ _ ∧ _ from ⟨mt9 150 rfl, pim_353, psl_353, by decide, pmk_353⟩
set_option maxRecDepth 100000 in
theorem rk_13_239 : RsOK pMM 13 239 (1, 168, 2) := show _ ∧ _ ∧ _ ∧ _ ∧ _ from ⟨mt6 32 rfl, pim_168, psl_168, by decide, pmk_168⟩
set_option maxRecDepth 100000 in
theorem rk_13_242 : RsOK pMM 13 242 (1, 347, 2) := show _ ∧ _ ∧ _ ∧ _ ∧ _ from ⟨mt9 113 rfl, pim_347, psl_347, by decide, pmk_347⟩
set_option maxRecDepth 100000 in
theorem rk_13_243 : RsOK pMM 13 243 (1, 169, 3) := show _ ∧ _ ∧ _ ∧ _ ∧ _ from ⟨mt6 49 rfl, pim_169, psl_169, by decide, pmk_169⟩
set_option maxRecDepth 100000 in
theorem rk_13_246 : RsOK pMM 13 246 (1, 348, 3) := show _ ∧ _ ∧ _ ∧ _ ∧ _ from ⟨mt9 129 rfl, pim_348, psl_348, by decide, pmk_348⟩
set_option maxRecDepth 100000 in
theorem rk_13_247 : RsOK pMM 13 247 (1, 170, 2) := show _ ∧ _ ∧ _ ∧ _ ∧ _ from ⟨mt6 53 rfl, pim_170, psl_170, by decide, pmk_170⟩
set_option maxRecDepth 100000 in
theorem rk_13_250 : RsOK pMM 13 250 (1, 354, 2) := show _ ∧ _ ∧ _ ∧ _ ∧ _ from ⟨mt9 154 rfl, pim_354, psl_354, by decide, pmk_354⟩
set_option maxRecDepth 100000 in
theorem rk_13_251 : RsOK pMM 13 251 (1, 171, 1) := show _ ∧ _ ∧ _ ∧ _ ∧ _ from ⟨mt6 57 rfl, pim_171, psl_171, by decide, pmk_171⟩
set_option maxRecDepth 100000 in
theorem rk_13_254 : RsOK pMM 13 254 (1, 355, 1) := show _ ∧ _ ∧ _ ∧ _ ∧ _ from ⟨mt9 158 rfl, pim_355, psl_355, by decide, pmk_355⟩
set_option maxRecDepth 100000 in
theorem rk_13_255 : RsOK pMM 13 255 (1, 172, 1) := show _ ∧ _ ∧ _ ∧ _ ∧ _ from ⟨mt6 65 rfl, pim_172, psl_172, by decide, pmk_172⟩
set_option maxRecDepth 100000 in
theorem rk_13_258 : RsOK pMM 13 258 (1, 356, 1) := show _ ∧ _ ∧ _ ∧ _ ∧ _ from ⟨mt9 163 rfl, pim_356, psl_356, by decide, pmk_356⟩
set_option maxRecDepth 100000 in
theorem rk_13_259 : RsOK pMM 13 259 (1, 173, 1) := show _ ∧ _ ∧ _ ∧ _ ∧ _ from ⟨mt6 74 rfl, pim_173, psl_173, by decide, pmk_173⟩
set_option maxRecDepth 100000 in
theorem rk_13_262 : RsOK pMM 13 262 (1, 357, 1) := show _ ∧ _ ∧ _ ∧ _ ∧ _ from ⟨mt9 168 rfl, pim_357, psl_357, by decide, pmk_357⟩
set_option maxRecDepth 100000 in
theorem rk_13_263 : RsOK pMM 13 263 (1, 174, 3) := show _ ∧ _ ∧ _ ∧ _ ∧ _ from ⟨mt6 78 rfl, pim_174, psl_174, by decide, pmk_174⟩
set_option maxRecDepth 100000 in
theorem rk_13_266 : RsOK pMM 13 266 (1, 203, 3) := show _ ∧ _ ∧ _ ∧ _ ∧ _ from ⟨mt7 6 rfl, pim_203, psl_203, by decide, pmk_203⟩
set_option maxRecDepth 100000 in
theorem rk_13_267 : RsOK pMM 13 267 (13, 0, 4294967295) := show _ from mt9 172 rfl
set_option maxRecDepth 100000 in
theorem rk_13_269 : RsOK pMM 13 269 (1, 175, 3) := show _ ∧ _ ∧ _ ∧ _ ∧ _ from ⟨mt6 86 rfl, pim_175, psl_175, by decide, pmk_175⟩
set_option maxRecDepth 100000 in
theorem rk_13_273 : RsOK pMM 13 273 (1, 205, 3) := show _ ∧ _ ∧ _ ∧ _ ∧ _ from ⟨mt7 17 rfl, pim_205, psl_205, by decide, pmk_205⟩
set_option maxRecDepth 100000 in
theorem rk_13_274 : RsOK pMM 13 274 (1, 176, 5) := show _ ∧ _ ∧ _ ∧ _ ∧ _ from ⟨mt6 94 rfl, pim_176, psl_176, by decide, pmk_176⟩
set_option maxRecDepth 100000 in
theorem rk_13_277 : RsOK pMM 13 277 (1, 206, 5) := show _ ∧ _ ∧ _ ∧ _ ∧ _ from ⟨mt7 24 rfl, pim_206, psl_206, by decide, pmk_206⟩
set_option maxRecDepth 100000 in
theorem rk_15_265 : RsOK pMM 15 265 (12, 0, 1431655765) := show _ from mt5 79 rfl
set_option maxRecDepth 100000 in
theorem rk_15_266 : RsOK pMM 15 266 (12, 0, 858993459) := show _ from mt5 80 rfl
set_option maxRecDepth 100000 in
theorem rk_15_267 : RsOK pMM 15 267 (12, 0, 252645135) := show _ from mt5 81 rfl
set_option maxRecDepth 100000 in
theorem rka_0 : ∀ q ∈ rs_0, RsOK pMM 0 q.1 q.2 := by
  intro q hq
  obtain ⟨j, hj⟩ := List.getElem?_of_mem hq
  match j, hj with
  | 0, hj => cases hj; exact rk_0_3
  | 1, hj => cases hj; exact rk_0_9
  | 2, hj => cases hj; exact rk_0_15
  | 3, hj => cases hj; exact rk_0_18
  | 4, hj => cases hj; exact rk_0_22
  | n + 5, hj => simp [rs_0] at hj
set_option maxRecDepth 100000 in
theorem rka_1 : ∀ q ∈ rs_1, RsOK pMM 1 q.1 q.2 := by
  intro q hq
  obtain ⟨j, hj⟩ := List.getElem?_of_mem hq
  match j, hj with
  | 0, hj => cases hj; exact rk_1_3
  | 1, hj => cases hj; exact rk_1_9
  | 2, hj => cases hj; exact rk_1_15
  | 3, hj => cases hj; exact rk_1_19
  | 4, hj => cases hj; exact rk_1_22
  | 5, hj => cases hj; exact rk_1_25
  | 6, hj => cases hj; exact rk_1_28
  | 7, hj => cases hj; exact rk_1_31
  | 8, hj => cases hj; exact rk_1_35
  | 9, hj => cases hj; exact rk_1_41
  | n + 10, hj => simp [rs_1] at hj
set_option maxRecDepth 100000 in
theorem rka_2 : ∀ q ∈ rs_2, RsOK pMM 2 q.1 q.2 := by
  intro q hq
  obtain ⟨j, hj⟩ := List.getElem?_of_mem hq
  match j, hj with
  | 0, hj => cases hj; exact rk_2_3
  | 1, hj => cases hj; exact rk_2_9
  | 2, hj => cases hj; exact rk_2_15
  | 3, hj => cases hj; exact rk_2_19
  | 4, hj => cases hj; exact rk_2_22
  | 5, hj => cases hj; exact rk_2_25
  | 6, hj => cases hj; exact rk_2_28
  | 7, hj => cases hj; exact rk_2_31
  | 8, hj => cases hj; exact rk_2_34
  | 9, hj => cases hj; exact rk_2_35
  | 10, hj => cases hj; exact rk_2_41
  | 11, hj => cases hj; exact rk_2_47
  | 12, hj => cases hj; exact rk_2_50
  | 13, hj => cases hj; exact rk_2_54
  | n + 14, hj => simp [rs_2] at hj
set_option maxRecDepth 100000 in
theorem rka_3 : ∀ q ∈ rs_3, RsOK pMM 3 q.1 q.2 := by
  intro q hq
  obtain ⟨j, hj⟩ := List.getElem?_of_mem hq
  match j, hj with
  | 0, hj => cases hj; exact rk_3_3
  | 1, hj => cases hj; exact rk_3_9
  | 2, hj => cases hj; exact rk_3_15
  | 3, hj => cases hj; exact rk_3_18
  | 4, hj => cases hj; exact rk_3_21
  | 5, hj => cases hj; exact rk_3_24
  | 6, hj => cases hj; exact rk_3_27
  | 7, hj => cases hj; exact rk_3_30
  | 8, hj => cases hj; exact rk_3_33
  | 9, hj => cases hj; exact rk_3_36
  | 10, hj => cases hj; exact rk_3_40
  | 11, hj => cases hj; exact rk_3_43
  | 12, hj => cases hj; exact rk_3_46
  | 13, hj => cases hj; exact rk_3_49
  | 14, hj => cases hj; exact rk_3_52
  | 15, hj => cases hj; exact rk_3_55
  | 16, hj => cases hj; exact rk_3_58
  | 17, hj => cases hj; exact rk_3_64
  | 18, hj => cases hj; exact rk_3_68
  | 19, hj => cases hj; exact rk_3_72
  | 20, hj => cases hj; exact rk_3_74
  | 21, hj => cases hj; exact rk_3_76
  | 22, hj => cases hj; exact rk_3_78
  | 23, hj => cases hj; exact rk_3_80
  | n + 24, hj => simp [rs_3] at hj
set_option maxRecDepth 100000 in
theorem rka_4 : ∀ q ∈ rs_4, RsOK pMM 4 q.1 q.2 := by
  intro q hq
  obtain ⟨j, hj⟩ := List.getElem?_of_mem hq
  match j, hj with
  | 0, hj => cases hj; exact rk_4_1
  | 1, hj => cases hj; exact rk_4_7
  | 2, hj => cases hj; exact rk_4_9
  | 3, hj => cases hj; exact rk_4_10
  | 4, hj => cases hj; exact rk_4_16
  | 5, hj => cases hj; exact rk_4_18
  | 6, hj => cases hj; exact rk_4_19
  | 7, hj => cases hj; exact rk_4_23
  | n + 8, hj => simp [rs_4] at hj
set_option maxRecDepth 100000 in
theorem rka_5 : ∀ q ∈ rs_5, RsOK pMM 5 q.1 q.2 := by
  intro q hq
  obtain ⟨j, hj⟩ := List.getElem?_of_mem hq
  match j, hj with
  | 0, hj => cases hj; exact rk_5_3
  | 1, hj => cases hj; exact rk_5_9
  | 2, hj => cases hj; exact rk_5_11
  | 3, hj => cases hj; exact rk_5_12
  | 4, hj => cases hj; exact rk_5_18
  | 5, hj => cases hj; exact rk_5_22
  | 6, hj => cases hj; exact rk_5_26
  | 7, hj => cases hj; exact rk_5_30
  | 8, hj => cases hj; exact rk_5_33
  | 9, hj => cases hj; exact rk_5_36
  | 10, hj => cases hj; exact rk_5_40
  | 11, hj => cases hj; exact rk_5_44
  | 12, hj => cases hj; exact rk_5_47
  | 13, hj => cases hj; exact rk_5_51
  | 14, hj => cases hj; exact rk_5_56
  | 15, hj => cases hj; exact rk_5_60
  | 16, hj => cases hj; exact rk_5_64
  | 17, hj => cases hj; exact rk_5_68
  | 18, hj => cases hj; exact rk_5_71
  | 19, hj => cases hj; exact rk_5_72
  | 20, hj => cases hj; exact rk_5_75
  | 21, hj => cases hj; exact rk_5_78
  | 22, hj => cases hj; exact rk_5_82
  | 23, hj => cases hj; exact rk_5_85
  | 24, hj => cases hj; exact rk_5_88
  | 25, hj => cases hj; exact rk_5_92
  | 26, hj => cases hj; exact rk_5_96
  | 27, hj => cases hj; exact rk_5_100
  | 28, hj => cases hj; exact rk_5_103
  | 29, hj => cases hj; exact rk_5_107
  | 30, hj => cases hj; exact rk_5_112
  | 31, hj => cases hj; exact rk_5_115
  | 32, hj => cases hj; exact rk_5_118
  | 33, hj => cases hj; exact rk_5_121
  | 34, hj => cases hj; exact rk_5_124
  | 35, hj => cases hj; exact rk_5_125
  | 36, hj => cases hj; exact rk_5_128
  | 37, hj => cases hj; exact rk_5_131
  | 38, hj => cases hj; exact rk_5_134
  | 39, hj => cases hj; exact rk_5_137
  | 40, hj => cases hj; exact rk_5_140
  | 41, hj => cases hj; exact rk_5_142
  | n + 42, hj => simp [rs_5] at hj
set_option maxRecDepth 100000 in
theorem rka_6 : ∀ q ∈ rs_6, RsOK pMM 6 q.1 q.2 := by
  intro q hq
  obtain ⟨j, hj⟩ := List.getElem?_of_mem hq
  match j, hj with
  | 0, hj => cases hj; exact rk_6_3
  | 1, hj => cases hj; exact rk_6_9
  | 2, hj => cases hj; exact rk_6_15
  | 3, hj => cases hj; exact rk_6_18
  | 4, hj => cases hj; exact rk_6_21
  | 5, hj => cases hj; exact rk_6_24
  | 6, hj => cases hj; exact rk_6_27
  | 7, hj => cases hj; exact rk_6_30
  | 8, hj => cases hj; exact rk_6_34
  | 9, hj => cases hj; exact rk_6_37
  | 10, hj => cases hj; exact rk_6_40
  | 11, hj => cases hj; exact rk_6_43
  | 12, hj => cases hj; exact rk_6_46
  | 13, hj => cases hj; exact rk_6_49
  | 14, hj => cases hj; exact rk_6_53
  | 15, hj => cases hj; exact rk_6_56
  | 16, hj => cases hj; exact rk_6_57
  | 17, hj => cases hj; exact rk_6_58
  | 18, hj => cases hj; exact rk_6_59
  | 19, hj => cases hj; exact rk_6_65
  | 20, hj => cases hj; exact rk_6_68
  | 21, hj => cases hj; exact rk_6_71
  | 22, hj => cases hj; exact rk_6_74
  | 23, hj => cases hj; exact rk_6_79
  | 24, hj => cases hj; exact rk_6_82
  | 25, hj => cases hj; exact rk_6_85
  | 26, hj => cases hj; exact rk_6_91
  | 27, hj => cases hj; exact rk_6_95
  | 28, hj => cases hj; exact rk_6_99
  | 29, hj => cases hj; exact rk_6_102
  | 30, hj => cases hj; exact rk_6_105
  | 31, hj => cases hj; exact rk_6_108
  | 32, hj => cases hj; exact rk_6_111
  | 33, hj => cases hj; exact rk_6_115
  | 34, hj => cases hj; exact rk_6_118
  | 35, hj => cases hj; exact rk_6_121
  | 36, hj => cases hj; exact rk_6_125
  | 37, hj => cases hj; exact rk_6_128
  | 38, hj => cases hj; exact rk_6_131
  | 39, hj => cases hj; exact rk_6_135
  | 40, hj => cases hj; exact rk_6_138
  | 41, hj => cases hj; exact rk_6_141
  | n + 42, hj => simp [rs_6] at hj
set_option maxRecDepth 100000 in
theorem rka_7 : ∀ q ∈ rs_7, RsOK pMM 7 q.1 q.2 := by
  intro q hq
  obtain ⟨j, hj⟩ := List.getElem?_of_mem hq
  match j, hj with
  | 0, hj => cases hj; exact rk_7_3
  | 1, hj => cases hj; exact rk_7_9
  | 2, hj => cases hj; exact rk_7_11
  | 3, hj => cases hj; exact rk_7_12
  | 4, hj => cases hj; exact rk_7_18
  | 5, hj => cases hj; exact rk_7_22
  | 6, hj => cases hj; exact rk_7_25
  | 7, hj => cases hj; exact rk_7_29
  | 8, hj => cases hj; exact rk_7_33
  | 9, hj => cases hj; exact rk_7_36
  | 10, hj => cases hj; exact rk_7_39
  | 11, hj => cases hj; exact rk_7_44
  | 12, hj => cases hj; exact rk_7_47
  | 13, hj => cases hj; exact rk_7_53
  | 14, hj => cases hj; exact rk_7_57
  | 15, hj => cases hj; exact rk_7_60
  | 16, hj => cases hj; exact rk_7_63
  | 17, hj => cases hj; exact rk_7_66
  | 18, hj => cases hj; exact rk_7_70
  | 19, hj => cases hj; exact rk_7_73
  | 20, hj => cases hj; exact rk_7_76
  | 21, hj => cases hj; exact rk_7_79
  | 22, hj => cases hj; exact rk_7_82
  | 23, hj => cases hj; exact rk_7_85
  | 24, hj => cases hj; exact rk_7_88
  | 25, hj => cases hj; exact rk_7_91
  | 26, hj => cases hj; exact rk_7_94
  | 27, hj => cases hj; exact rk_7_97
  | 28, hj => cases hj; exact rk_7_100
  | 29, hj => cases hj; exact rk_7_103
  | 30, hj => cases hj; exact rk_7_106
  | 31, hj => cases hj; exact rk_7_109
  | 32, hj => cases hj; exact rk_7_112
  | 33, hj => cases hj; exact rk_7_115
  | 34, hj => cases hj; exact rk_7_118
  | 35, hj => cases hj; exact rk_7_121
  | 36, hj => cases hj; exact rk_7_124
  | 37, hj => cases hj; exact rk_7_127
  | 38, hj => cases hj; exact rk_7_130
  | 39, hj => cases hj; exact rk_7_133
  | 40, hj => cases hj; exact rk_7_136
  | 41, hj => cases hj; exact rk_7_140
  | 42, hj => cases hj; exact rk_7_143
  | 43, hj => cases hj; exact rk_7_146
  | 44, hj => cases hj; exact rk_7_150
  | 45, hj => cases hj; exact rk_7_153
  | 46, hj => cases hj; exact rk_7_154
  | 47, hj => cases hj; exact rk_7_158
  | 48, hj => cases hj; exact rk_7_162
  | 49, hj => cases hj; exact rk_7_164
  | 50, hj => cases hj; exact rk_7_165
  | 51, hj => cases hj; exact rk_7_166
  | 52, hj => cases hj; exact rk_7_167
  | 53, hj => cases hj; exact rk_7_169
  | 54, hj => cases hj; exact rk_7_171
  | 55, hj => cases hj; exact rk_7_173
  | 56, hj => cases hj; exact rk_7_175
  | 57, hj => cases hj; exact rk_7_177
  | 58, hj => cases hj; exact rk_7_179
  | 59, hj => cases hj; exact rk_7_181
  | 60, hj => cases hj; exact rk_7_183
  | 61, hj => cases hj; exact rk_7_188
  | n + 62, hj => simp [rs_7] at hj
set_option maxRecDepth 100000 in
theorem rka_8 : ∀ q ∈ rs_8, RsOK pMM 8 q.1 q.2 := by
  intro q hq
  obtain ⟨j, hj⟩ := List.getElem?_of_mem hq
  match j, hj with
  | 0, hj => cases hj; exact rk_8_3
  | 1, hj => cases hj; exact rk_8_9
  | 2, hj => cases hj; exact rk_8_15
  | 3, hj => cases hj; exact rk_8_17
  | 4, hj => cases hj; exact rk_8_18
  | 5, hj => cases hj; exact rk_8_22
  | 6, hj => cases hj; exact rk_8_25
  | 7, hj => cases hj; exact rk_8_28
  | 8, hj => cases hj; exact rk_8_31
  | 9, hj => cases hj; exact rk_8_34
  | 10, hj => cases hj; exact rk_8_38
  | 11, hj => cases hj; exact rk_8_42
  | 12, hj => cases hj; exact rk_8_45
  | 13, hj => cases hj; exact rk_8_48
  | 14, hj => cases hj; exact rk_8_52
  | 15, hj => cases hj; exact rk_8_56
  | 16, hj => cases hj; exact rk_8_61
  | 17, hj => cases hj; exact rk_8_65
  | 18, hj => cases hj; exact rk_8_68
  | 19, hj => cases hj; exact rk_8_72
  | 20, hj => cases hj; exact rk_8_76
  | 21, hj => cases hj; exact rk_8_80
  | 22, hj => cases hj; exact rk_8_84
  | 23, hj => cases hj; exact rk_8_88
  | 24, hj => cases hj; exact rk_8_91
  | 25, hj => cases hj; exact rk_8_94
  | 26, hj => cases hj; exact rk_8_100
  | 27, hj => cases hj; exact rk_8_103
  | n + 28, hj => simp [rs_8] at hj
set_option maxRecDepth 100000 in
theorem rka_9 : ∀ q ∈ rs_9, RsOK pMM 9 q.1 q.2 := by
  intro q hq
  obtain ⟨j, hj⟩ := List.getElem?_of_mem hq
  match j, hj with
  | 0, hj => cases hj; exact rk_9_3
  | 1, hj => cases hj; exact rk_9_9
  | 2, hj => cases hj; exact rk_9_15
  | 3, hj => cases hj; exact rk_9_19
  | 4, hj => cases hj; exact rk_9_22
  | n + 5, hj => simp [rs_9] at hj
set_option maxRecDepth 100000 in
theorem rka_10 : ∀ q ∈ rs_10, RsOK pMM 10 q.1 q.2 := by
  intro q hq
  obtain ⟨j, hj⟩ := List.getElem?_of_mem hq
  match j, hj with
  | 0, hj => cases hj; exact rk_10_3
  | 1, hj => cases hj; exact rk_10_9
  | 2, hj => cases hj; exact rk_10_15
  | n + 3, hj => simp [rs_10] at hj
set_option maxRecDepth 100000 in
theorem rka_11 : ∀ q ∈ rs_11, RsOK pMM 11 q.1 q.2 := by
  intro q hq
  obtain ⟨j, hj⟩ := List.getElem?_of_mem hq
  match j, hj with
  | 0, hj => cases hj; exact rk_11_3
  | 1, hj => cases hj; exact rk_11_9
  | 2, hj => cases hj; exact rk_11_11
  | 3, hj => cases hj; exact rk_11_12
  | 4, hj => cases hj; exact rk_11_16
  | 5, hj => cases hj; exact rk_11_18
  | 6, hj => cases hj; exact rk_11_19
  | 7, hj => cases hj; exact rk_11_23
  | 8, hj => cases hj; exact rk_11_25
  | 9, hj => cases hj; exact rk_11_26
  | 10, hj => cases hj; exact rk_11_30
  | 11, hj => cases hj; exact rk_11_32
  | 12, hj => cases hj; exact rk_11_33
  | 13, hj => cases hj; exact rk_11_37
  | 14, hj => cases hj; exact rk_11_39
  | 15, hj => cases hj; exact rk_11_40
  | 16, hj => cases hj; exact rk_11_44
  | 17, hj => cases hj; exact rk_11_46
  | 18, hj => cases hj; exact rk_11_47
  | 19, hj => cases hj; exact rk_11_51
  | 20, hj => cases hj; exact rk_11_53
  | 21, hj => cases hj; exact rk_11_54
  | 22, hj => cases hj; exact rk_11_58
  | 23, hj => cases hj; exact rk_11_60
  | 24, hj => cases hj; exact rk_11_64
  | 25, hj => cases hj; exact rk_11_66
  | 26, hj => cases hj; exact rk_11_70
  | 27, hj => cases hj; exact rk_11_74
  | 28, hj => cases hj; exact rk_11_75
  | 29, hj => cases hj; exact rk_11_76
  | 30, hj => cases hj; exact rk_11_80
  | 31, hj => cases hj; exact rk_11_84
  | 32, hj => cases hj; exact rk_11_88
  | 33, hj => cases hj; exact rk_11_91
  | 34, hj => cases hj; exact rk_11_94
  | 35, hj => cases hj; exact rk_11_98
  | 36, hj => cases hj; exact rk_11_101
  | 37, hj => cases hj; exact rk_11_102
  | 38, hj => cases hj; exact rk_11_105
  | 39, hj => cases hj; exact rk_11_108
  | 40, hj => cases hj; exact rk_11_111
  | 41, hj => cases hj; exact rk_11_115
  | 42, hj => cases hj; exact rk_11_118
  | 43, hj => cases hj; exact rk_11_122
  | 44, hj => cases hj; exact rk_11_125
  | 45, hj => cases hj; exact rk_11_128
  | 46, hj => cases hj; exact rk_11_132
  | 47, hj => cases hj; exact rk_11_136
  | 48, hj => cases hj; exact rk_11_139
  | 49, hj => cases hj; exact rk_11_142
  | 50, hj => cases hj; exact rk_11_145
  | 51, hj => cases hj; exact rk_11_148
  | 52, hj => cases hj; exact rk_11_152
  | 53, hj => cases hj; exact rk_11_155
  | 54, hj => cases hj; exact rk_11_158
  | 55, hj => cases hj; exact rk_11_161
  | 56, hj => cases hj; exact rk_11_165
  | 57, hj => cases hj; exact rk_11_168
  | 58, hj => cases hj; exact rk_11_172
  | 59, hj => cases hj; exact rk_11_175
  | 60, hj => cases hj; exact rk_11_178
  | 61, hj => cases hj; exact rk_11_181
  | 62, hj => cases hj; exact rk_11_184
  | 63, hj => cases hj; exact rk_11_187
  | 64, hj => cases hj; exact rk_11_190
  | 65, hj => cases hj; exact rk_11_193
  | 66, hj => cases hj; exact rk_11_196
  | 67, hj => cases hj; exact rk_11_199
  | 68, hj => cases hj; exact rk_11_202
  | 69, hj => cases hj; exact rk_11_205
  | 70, hj => cases hj; exact rk_11_209
  | 71, hj => cases hj; exact rk_11_210
  | 72, hj => cases hj; exact rk_11_214
  | 73, hj => cases hj; exact rk_11_218
  | 74, hj => cases hj; exact rk_11_221
  | 75, hj => cases hj; exact rk_11_224
  | 76, hj => cases hj; exact rk_11_227
  | 77, hj => cases hj; exact rk_11_230
  | 78, hj => cases hj; exact rk_11_233
  | 79, hj => cases hj; exact rk_11_236
  | 80, hj => cases hj; exact rk_11_239
  | 81, hj => cases hj; exact rk_11_242
  | 82, hj => cases hj; exact rk_11_247
  | 83, hj => cases hj; exact rk_11_250
  | 84, hj => cases hj; exact rk_11_253
  | 85, hj => cases hj; exact rk_11_257
  | 86, hj => cases hj; exact rk_11_262
  | 87, hj => cases hj; exact rk_11_265
  | 88, hj => cases hj; exact rk_11_268
  | 89, hj => cases hj; exact rk_11_271
  | 90, hj => cases hj; exact rk_11_275
  | 91, hj => cases hj; exact rk_11_278
  | 92, hj => cases hj; exact rk_11_281
  | 93, hj => cases hj; exact rk_11_284
  | 94, hj => cases hj; exact rk_11_287
  | 95, hj => cases hj; exact rk_11_290
  | 96, hj => cases hj; exact rk_11_294
  | 97, hj => cases hj; exact rk_11_297
  | 98, hj => cases hj; exact rk_11_300
  | 99, hj => cases hj; exact rk_11_304
  | 100, hj => cases hj; exact rk_11_307
  | 101, hj => cases hj; exact rk_11_310
  | 102, hj => cases hj; exact rk_11_313
  | 103, hj => cases hj; exact rk_11_316
  | 104, hj => cases hj; exact rk_11_319
  | 105, hj => cases hj; exact rk_11_323
  | 106, hj => cases hj; exact rk_11_325
  | 107, hj => cases hj; exact rk_11_328
  | 108, hj => cases hj; exact rk_11_332
  | 109, hj => cases hj; exact rk_11_335
  | 110, hj => cases hj; exact rk_11_338
  | 111, hj => cases hj; exact rk_11_341
  | 112, hj => cases hj; exact rk_11_344
  | 113, hj => cases hj; exact rk_11_345
  | 114, hj => cases hj; exact rk_11_346
  | 115, hj => cases hj; exact rk_11_349
  | 116, hj => cases hj; exact rk_11_353
  | 117, hj => cases hj; exact rk_11_356
  | 118, hj => cases hj; exact rk_11_360
  | 119, hj => cases hj; exact rk_11_361
  | 120, hj => cases hj; exact rk_11_362
  | 121, hj => cases hj; exact rk_11_366
  | 122, hj => cases hj; exact rk_11_370
  | 123, hj => cases hj; exact rk_11_373
  | 124, hj => cases hj; exact rk_11_376
  | 125, hj => cases hj; exact rk_11_382
  | 126, hj => cases hj; exact rk_11_383
  | 127, hj => cases hj; exact rk_11_386
  | 128, hj => cases hj; exact rk_11_387
  | 129, hj => cases hj; exact rk_11_388
  | 130, hj => cases hj; exact rk_11_392
  | 131, hj => cases hj; exact rk_11_395
  | 132, hj => cases hj; exact rk_11_398
  | 133, hj => cases hj; exact rk_11_399
  | 134, hj => cases hj; exact rk_11_402
  | 135, hj => cases hj; exact rk_11_405
  | 136, hj => cases hj; exact rk_11_408
  | 137, hj => cases hj; exact rk_11_411
  | 138, hj => cases hj; exact rk_11_414
  | 139, hj => cases hj; exact rk_11_417
  | n + 140, hj => simp [rs_11] at hj
set_option maxRecDepth 100000 in
theorem rka_12 : ∀ q ∈ rs_12, RsOK pMM 12 q.1 q.2 := by
  intro q hq
  obtain ⟨j, hj⟩ := List.getElem?_of_mem hq
  match j, hj with
  | 0, hj => cases hj; exact rk_12_1
  | 1, hj => cases hj; exact rk_12_7
  | 2, hj => cases hj; exact rk_12_13
  | 3, hj => cases hj; exact rk_12_16
  | 4, hj => cases hj; exact rk_12_20
  | 5, hj => cases hj; exact rk_12_23
  | 6, hj => cases hj; exact rk_12_27
  | 7, hj => cases hj; exact rk_12_31
  | 8, hj => cases hj; exact rk_12_34
  | 9, hj => cases hj; exact rk_12_37
  | 10, hj => cases hj; exact rk_12_40
  | 11, hj => cases hj; exact rk_12_43
  | 12, hj => cases hj; exact rk_12_46
  | 13, hj => cases hj; exact rk_12_49
  | 14, hj => cases hj; exact rk_12_52
  | 15, hj => cases hj; exact rk_12_56
  | 16, hj => cases hj; exact rk_12_59
  | 17, hj => cases hj; exact rk_12_62
  | 18, hj => cases hj; exact rk_12_65
  | 19, hj => cases hj; exact rk_12_68
  | 20, hj => cases hj; exact rk_12_71
  | 21, hj => cases hj; exact rk_12_74
  | 22, hj => cases hj; exact rk_12_77
  | 23, hj => cases hj; exact rk_12_80
  | 24, hj => cases hj; exact rk_12_83
  | 25, hj => cases hj; exact rk_12_86
  | 26, hj => cases hj; exact rk_12_89
  | 27, hj => cases hj; exact rk_12_92
  | 28, hj => cases hj; exact rk_12_94
  | 29, hj => cases hj; exact rk_12_98
  | 30, hj => cases hj; exact rk_12_102
  | 31, hj => cases hj; exact rk_12_106
  | 32, hj => cases hj; exact rk_12_109
  | 33, hj => cases hj; exact rk_12_113
  | 34, hj => cases hj; exact rk_12_116
  | 35, hj => cases hj; exact rk_12_120
  | 36, hj => cases hj; exact rk_12_123
  | 37, hj => cases hj; exact rk_12_126
  | 38, hj => cases hj; exact rk_12_130
  | 39, hj => cases hj; exact rk_12_133
  | 40, hj => cases hj; exact rk_12_135
  | 41, hj => cases hj; exact rk_12_137
  | 42, hj => cases hj; exact rk_12_139
  | 43, hj => cases hj; exact rk_12_140
  | 44, hj => cases hj; exact rk_12_141
  | 45, hj => cases hj; exact rk_12_144
  | 46, hj => cases hj; exact rk_12_147
  | 47, hj => cases hj; exact rk_12_151
  | 48, hj => cases hj; exact rk_12_154
  | 49, hj => cases hj; exact rk_12_157
  | 50, hj => cases hj; exact rk_12_160
  | 51, hj => cases hj; exact rk_12_164
  | 52, hj => cases hj; exact rk_12_168
  | 53, hj => cases hj; exact rk_12_171
  | 54, hj => cases hj; exact rk_12_175
  | 55, hj => cases hj; exact rk_12_177
  | 56, hj => cases hj; exact rk_12_180
  | 57, hj => cases hj; exact rk_12_182
  | 58, hj => cases hj; exact rk_12_186
  | 59, hj => cases hj; exact rk_12_190
  | 60, hj => cases hj; exact rk_12_192
  | 61, hj => cases hj; exact rk_12_194
  | 62, hj => cases hj; exact rk_12_196
  | 63, hj => cases hj; exact rk_12_200
  | 64, hj => cases hj; exact rk_12_203
  | 65, hj => cases hj; exact rk_12_205
  | 66, hj => cases hj; exact rk_12_208
  | 67, hj => cases hj; exact rk_12_210
  | 68, hj => cases hj; exact rk_12_213
  | 69, hj => cases hj; exact rk_12_215
  | 70, hj => cases hj; exact rk_12_218
  | 71, hj => cases hj; exact rk_12_221
  | 72, hj => cases hj; exact rk_12_224
  | 73, hj => cases hj; exact rk_12_228
  | 74, hj => cases hj; exact rk_12_230
  | 75, hj => cases hj; exact rk_12_232
  | 76, hj => cases hj; exact rk_12_234
  | 77, hj => cases hj; exact rk_12_236
  | 78, hj => cases hj; exact rk_12_239
  | 79, hj => cases hj; exact rk_12_242
  | 80, hj => cases hj; exact rk_12_245
  | 81, hj => cases hj; exact rk_12_248
  | 82, hj => cases hj; exact rk_12_252
  | 83, hj => cases hj; exact rk_12_255
  | 84, hj => cases hj; exact rk_12_258
  | 85, hj => cases hj; exact rk_12_261
  | 86, hj => cases hj; exact rk_12_264
  | 87, hj => cases hj; exact rk_12_267
  | 88, hj => cases hj; exact rk_12_270
  | 89, hj => cases hj; exact rk_12_274
  | 90, hj => cases hj; exact rk_12_277
  | 91, hj => cases hj; exact rk_12_280
  | 92, hj => cases hj; exact rk_12_283
  | 93, hj => cases hj; exact rk_12_286
  | 94, hj => cases hj; exact rk_12_289
  | 95, hj => cases hj; exact rk_12_292
  | 96, hj => cases hj; exact rk_12_295
  | 97, hj => cases hj; exact rk_12_298
  | 98, hj => cases hj; exact rk_12_301
  | 99, hj => cases hj; exact rk_12_304
  | 100, hj => cases hj; exact rk_12_307
  | 101, hj => cases hj; exact rk_12_311
  | 102, hj => cases hj; exact rk_12_314
  | 103, hj => cases hj; exact rk_12_317
  | 104, hj => cases hj; exact rk_12_321
  | 105, hj => cases hj; exact rk_12_324
  | 106, hj => cases hj; exact rk_12_327
  | 107, hj => cases hj; exact rk_12_330
  | 108, hj => cases hj; exact rk_12_333
  | 109, hj => cases hj; exact rk_12_336
  | 110, hj => cases hj; exact rk_12_339
  | 111, hj => cases hj; exact rk_12_342
  | 112, hj => cases hj; exact rk_12_345
  | 113, hj => cases hj; exact rk_12_348
  | 114, hj => cases hj; exact rk_12_351
  | 115, hj => cases hj; exact rk_12_354
  | 116, hj => cases hj; exact rk_12_357
  | 117, hj => cases hj; exact rk_12_360
  | 118, hj => cases hj; exact rk_12_363
  | 119, hj => cases hj; exact rk_12_366
  | 120, hj => cases hj; exact rk_12_369
  | 121, hj => cases hj; exact rk_12_372
  | 122, hj => cases hj; exact rk_12_375
  | 123, hj => cases hj; exact rk_12_378
  | 124, hj => cases hj; exact rk_12_381
  | 125, hj => cases hj; exact rk_12_384
  | 126, hj => cases hj; exact rk_12_387
  | 127, hj => cases hj; exact rk_12_390
  | 128, hj => cases hj; exact rk_12_393
  | 129, hj => cases hj; exact rk_12_396
  | 130, hj => cases hj; exact rk_12_399
  | 131, hj => cases hj; exact rk_12_402
  | 132, hj => cases hj; exact rk_12_405
  | 133, hj => cases hj; exact rk_12_408
  | 134, hj => cases hj; exact rk_12_411
  | 135, hj => cases hj; exact rk_12_414
  | 136, hj => cases hj; exact rk_12_417
  | 137, hj => cases hj; exact rk_12_419
  | 138, hj => cases hj; exact rk_12_422
  | 139, hj => cases hj; exact rk_12_425
  | 140, hj => cases hj; exact rk_12_428
  | 141, hj => cases hj; exact rk_12_431
  | 142, hj => cases hj; exact rk_12_434
  | 143, hj => cases hj; exact rk_12_436
  | 144, hj => cases hj; exact rk_12_439
  | 145, hj => cases hj; exact rk_12_442
  | 146, hj => cases hj; exact rk_12_445
  | 147, hj => cases hj; exact rk_12_448
  | 148, hj => cases hj; exact rk_12_451
  | 149, hj => cases hj; exact rk_12_454
  | 150, hj => cases hj; exact rk_12_457
  | 151, hj => cases hj; exact rk_12_460
  | 152, hj => cases hj; exact rk_12_463
  | 153, hj => cases hj; exact rk_12_466
  | 154, hj => cases hj; exact rk_12_470
  | 155, hj => cases hj; exact rk_12_474
  | 156, hj => cases hj; exact rk_12_477
  | 157, hj => cases hj; exact rk_12_479
  | 158, hj => cases hj; exact rk_12_481
  | 159, hj => cases hj; exact rk_12_483
  | 160, hj => cases hj; exact rk_12_485
  | 161, hj => cases hj; exact rk_12_487
  | 162, hj => cases hj; exact rk_12_490
  | 163, hj => cases hj; exact rk_12_493
  | 164, hj => cases hj; exact rk_12_495
  | 165, hj => cases hj; exact rk_12_498
  | 166, hj => cases hj; exact rk_12_500
  | n + 167, hj => simp [rs_12] at hj
set_option maxRecDepth 100000 in
theorem rka_13 : ∀ q ∈ rs_13, RsOK pMM 13 q.1 q.2 := by
  intro q hq
  obtain ⟨j, hj⟩ := List.getElem?_of_mem hq
  match j, hj with
  | 0, hj => cases hj; exact rk_13_7
  | 1, hj => cases hj; exact rk_13_9
  | 2, hj => cases hj; exact rk_13_10
  | 3, hj => cases hj; exact rk_13_12
  | 4, hj => cases hj; exact rk_13_13
  | 5, hj => cases hj; exact rk_13_17
  | 6, hj => cases hj; exact rk_13_18
  | 7, hj => cases hj; exact rk_13_22
  | 8, hj => cases hj; exact rk_13_23
  | 9, hj => cases hj; exact rk_13_27
  | 10, hj => cases hj; exact rk_13_28
  | 11, hj => cases hj; exact rk_13_31
  | 12, hj => cases hj; exact rk_13_32
  | 13, hj => cases hj; exact rk_13_36
  | 14, hj => cases hj; exact rk_13_37
  | 15, hj => cases hj; exact rk_13_40
  | 16, hj => cases hj; exact rk_13_41
  | 17, hj => cases hj; exact rk_13_44
  | 18, hj => cases hj; exact rk_13_45
  | 19, hj => cases hj; exact rk_13_48
  | 20, hj => cases hj; exact rk_13_49
  | 21, hj => cases hj; exact rk_13_52
  | 22, hj => cases hj; exact rk_13_53
  | 23, hj => cases hj; exact rk_13_57
  | 24, hj => cases hj; exact rk_13_58
  | 25, hj => cases hj; exact rk_13_61
  | 26, hj => cases hj; exact rk_13_62
  | 27, hj => cases hj; exact rk_13_65
  | 28, hj => cases hj; exact rk_13_66
  | 29, hj => cases hj; exact rk_13_69
  | 30, hj => cases hj; exact rk_13_70
  | 31, hj => cases hj; exact rk_13_73
  | 32, hj => cases hj; exact rk_13_74
  | 33, hj => cases hj; exact rk_13_77
  | 34, hj => cases hj; exact rk_13_78
  | 35, hj => cases hj; exact rk_13_81
  | 36, hj => cases hj; exact rk_13_82
  | 37, hj => cases hj; exact rk_13_85
  | 38, hj => cases hj; exact rk_13_86
  | 39, hj => cases hj; exact rk_13_89
  | 40, hj => cases hj; exact rk_13_90
  | 41, hj => cases hj; exact rk_13_93
  | 42, hj => cases hj; exact rk_13_94
  | 43, hj => cases hj; exact rk_13_97
  | 44, hj => cases hj; exact rk_13_98
  | 45, hj => cases hj; exact rk_13_101
  | 46, hj => cases hj; exact rk_13_102
  | 47, hj => cases hj; exact rk_13_105
  | 48, hj => cases hj; exact rk_13_106
  | 49, hj => cases hj; exact rk_13_109
  | 50, hj => cases hj; exact rk_13_110
  | 51, hj => cases hj; exact rk_13_113
  | 52, hj => cases hj; exact rk_13_114
  | 53, hj => cases hj; exact rk_13_117
  | 54, hj => cases hj; exact rk_13_118
  | 55, hj => cases hj; exact rk_13_121
  | 56, hj => cases hj; exact rk_13_122
  | 57, hj => cases hj; exact rk_13_125
  | 58, hj => cases hj; exact rk_13_126
  | 59, hj => cases hj; exact rk_13_129
  | 60, hj => cases hj; exact rk_13_130
  | 61, hj => cases hj; exact rk_13_133
  | 62, hj => cases hj; exact rk_13_134
  | 63, hj => cases hj; exact rk_13_137
  | 64, hj => cases hj; exact rk_13_138
  | 65, hj => cases hj; exact rk_13_141
  | 66, hj => cases hj; exact rk_13_142
  | 67, hj => cases hj; exact rk_13_145
  | 68, hj => cases hj; exact rk_13_146
  | 69, hj => cases hj; exact rk_13_149
  | 70, hj => cases hj; exact rk_13_150
  | 71, hj => cases hj; exact rk_13_153
  | 72, hj => cases hj; exact rk_13_154
  | 73, hj => cases hj; exact rk_13_157
  | 74, hj => cases hj; exact rk_13_158
  | 75, hj => cases hj; exact rk_13_161
  | 76, hj => cases hj; exact rk_13_162
  | 77, hj => cases hj; exact rk_13_165
  | 78, hj => cases hj; exact rk_13_166
  | 79, hj => cases hj; exact rk_13_169
  | 80, hj => cases hj; exact rk_13_170
  | 81, hj => cases hj; exact rk_13_173
  | 82, hj => cases hj; exact rk_13_174
  | 83, hj => cases hj; exact rk_13_177
  | 84, hj => cases hj; exact rk_13_178
  | 85, hj => cases hj; exact rk_13_181
  | 86, hj => cases hj; exact rk_13_182
  | 87, hj => cases hj; exact rk_13_185
  | 88, hj => cases hj; exact rk_13_186
  | 89, hj => cases hj; exact rk_13_189
  | 90, hj => cases hj; exact rk_13_190
  | 91, hj => cases hj; exact rk_13_193
  | 92, hj => cases hj; exact rk_13_194
  | 93, hj => cases hj; exact rk_13_197
  | 94, hj => cases hj; exact rk_13_198
  | 95, hj => cases hj; exact rk_13_201
  | 96, hj => cases hj; exact rk_13_202
  | 97, hj => cases hj; exact rk_13_205
  | 98, hj => cases hj; exact rk_13_206
  | 99, hj => cases hj; exact rk_13_210
  | 100, hj => cases hj; exact rk_13_211
  | 101, hj => cases hj; exact rk_13_214
  | 102, hj => cases hj; exact rk_13_215
  | 103, hj => cases hj; exact rk_13_218
  | 104, hj => cases hj; exact rk_13_219
  | 105, hj => cases hj; exact rk_13_222
  | 106, hj => cases hj; exact rk_13_223
  | 107, hj => cases hj; exact rk_13_226
  | 108, hj => cases hj; exact rk_13_227
  | 109, hj => cases hj; exact rk_13_230
  | 110, hj => cases hj; exact rk_13_231
  | 111, hj => cases hj; exact rk_13_234
  | 112, hj => cases hj; exact rk_13_235
  | 113, hj => cases hj; exact rk_13_238
  | 114, hj => cases hj; exact rk_13_239
  | 115, hj => cases hj; exact rk_13_242
  | 116, hj => cases hj; exact rk_13_243
  | 117, hj => cases hj; exact rk_13_246
  | 118, hj => cases hj; exact rk_13_247
  | 119, hj => cases hj; exact rk_13_250
  | 120, hj => cases hj; exact rk_13_251
  | 121, hj => cases hj; exact rk_13_254
  | 122, hj => cases hj; exact rk_13_255
  | 123, hj => cases hj; exact rk_13_258
  | 124, hj => cases hj; exact rk_13_259
  | 125, hj => cases hj; exact rk_13_262
  | 126, hj => cases hj; exact rk_13_263
  | 127, hj => cases hj; exact rk_13_266
  | 128, hj => cases hj; exact rk_13_267
  | 129, hj => cases hj; exact rk_13_269
  | 130, hj => cases hj; exact rk_13_273
  | 131, hj => cases hj; exact rk_13_274
  | 132, hj => cases hj; exact rk_13_277
  | n + 133, hj => simp [rs_13] at hj
set_option maxRecDepth 100000 in
theorem rka_14 : ∀ q ∈ rs_14, RsOK pMM 14 q.1 q.2 := by
  intro q hq
  obtain ⟨j, hj⟩ := List.getElem?_of_mem hq
  match j, hj with
  | n + 0, hj => simp [rs_14] at hj
set_option maxRecDepth 100000 in
theorem rka_15 : ∀ q ∈ rs_15, RsOK pMM 15 q.1 q.2 := by
  intro q hq
  obtain ⟨j, hj⟩ := List.getElem?_of_mem hq
  match j, hj with
  | 0, hj => cases hj; exact rk_15_265
  | 1, hj => cases hj; exact rk_15_266
  | 2, hj => cases hj; exact rk_15_267
  | n + 3, hj => simp [rs_15] at hj
set_option maxRecDepth 100000 in
theorem lookup_mem {α : Type} : ∀ {l : List (Nat × α)} {k : Nat} {v : α}, l.lookup k = some v → (k, v) ∈ l
  | [], k, v, h => by cases h
  | (a, b) :: l, k, v, h => by
    by_cases hk : k = a
    · subst hk
      simp [List.lookup] at h
      subst h
      exact List.mem_cons_self
    · have hb : (k == a) = false := by simpa using hk
      simp only [List.lookup, hb] at h
      exact List.mem_cons_of_mem _ (lookup_mem h)
set_option maxRecDepth 100000 in
theorem rsk : ∀ ow idx r, pNN.2.1 ow idx = some r → RsOK pMM ow idx r := by
  intro ow idx r h
  have h := lookup_mem (show (rss.getD ow []).lookup idx = some r from h)
  match ow, h with
  | 0, h => exact rka_0 (idx, r) h
  | 1, h => exact rka_1 (idx, r) h
  | 2, h => exact rka_2 (idx, r) h
  | 3, h => exact rka_3 (idx, r) h
  | 4, h => exact rka_4 (idx, r) h
  | 5, h => exact rka_5 (idx, r) h
  | 6, h => exact rka_6 (idx, r) h
  | 7, h => exact rka_7 (idx, r) h
  | 8, h => exact rka_8 (idx, r) h
  | 9, h => exact rka_9 (idx, r) h
  | 10, h => exact rka_10 (idx, r) h
  | 11, h => exact rka_11 (idx, r) h
  | 12, h => exact rka_12 (idx, r) h
  | 13, h => exact rka_13 (idx, r) h
  | 14, h => exact rka_14 (idx, r) h
  | 15, h => exact rka_15 (idx, r) h
  | n + 16, h => simp [rss] at h
set_option maxRecDepth 100000 in
theorem mok_0 : ∀ j, j < 25 → pNN.1 (0 + j) ≠ [] → pMOK pMM pNN (0 + j)
  | 0, _, _ => ⟨pdec_all dk_0, rfl, fun _ => rfl, by decide +kernel⟩
  | 1, _, _ => ⟨pdec_all dk_1, rfl, fun h => absurd h (by decide +kernel), by decide +kernel⟩
  | 2, _, _ => ⟨pdec_all dk_2, rfl, fun h => absurd h (by decide +kernel), by decide +kernel⟩
  | 3, _, _ => ⟨pdec_all dk_3, rfl, fun _ => rfl, by decide +kernel⟩
  | 4, _, _ => ⟨pdec_all dk_4, rfl, fun h => absurd h (by decide +kernel), by decide +kernel⟩
  | 5, _, _ => ⟨pdec_all dk_5, rfl, fun h => absurd h (by decide +kernel), by decide +kernel⟩
  | 6, _, _ => ⟨pdec_all dk_6, rfl, fun h => absurd h (by decide +kernel), by decide +kernel⟩
  | 7, _, _ => ⟨pdec_all dk_7, rfl, fun h => absurd h (by decide +kernel), by decide +kernel⟩
  | 8, _, _ => ⟨pdec_all dk_8, rfl, fun _ => rfl, by decide +kernel⟩
  | 9, _, _ => ⟨pdec_all dk_9, rfl, fun h => absurd h (by decide +kernel), by decide +kernel⟩
  | 10, _, _ => ⟨pdec_all dk_10, rfl, fun h => absurd h (by decide +kernel), by decide +kernel⟩
  | 11, _, _ => ⟨pdec_all dk_11, rfl, fun h => absurd h (by decide +kernel), by decide +kernel⟩
  | 12, _, _ => ⟨pdec_all dk_12, rfl, fun h => absurd h (by decide +kernel), by decide +kernel⟩
  | 13, _, _ => ⟨pdec_all dk_13, rfl, fun h => absurd h (by decide +kernel), by decide +kernel⟩
  | 14, _, _ => ⟨pdec_all dk_14, rfl, fun h => absurd h (by decide +kernel), by decide +kernel⟩
  | 15, _, _ => ⟨pdec_all dk_15, rfl, fun _ => rfl, by decide +kernel⟩
  | 16, _, _ => ⟨pdec_all dk_16, rfl, fun h => absurd h (by decide +kernel), by decide +kernel⟩
  | 17, _, _ => ⟨pdec_all dk_17, rfl, fun h => absurd h (by decide +kernel), by decide +kernel⟩
  | 18, _, _ => ⟨pdec_all dk_18, rfl, fun h => absurd h (by decide +kernel), by decide +kernel⟩
  | 19, _, _ => ⟨pdec_all dk_19, rfl, fun h => absurd h (by decide +kernel), by decide +kernel⟩
  | 20, _, _ => ⟨pdec_all dk_20, rfl, fun h => absurd h (by decide +kernel), by decide +kernel⟩
  | 21, _, _ => ⟨pdec_all dk_21, rfl, fun h => absurd h (by decide +kernel), by decide +kernel⟩
  | 22, _, _ => ⟨pdec_all dk_22, rfl, fun h => absurd h (by decide +kernel), by decide +kernel⟩
  | 23, _, _ => ⟨pdec_all dk_23, rfl, fun h => absurd h (by decide +kernel), by decide +kernel⟩
  | 24, _, _ => ⟨pdec_all dk_24, rfl, fun h => absurd h (by decide +kernel), by decide +kernel⟩
  | n + 25, h, _ => absurd h (by omega)
set_option maxRecDepth 100000 in
theorem mok_25 : ∀ j, j < 25 → pNN.1 (25 + j) ≠ [] → pMOK pMM pNN (25 + j)
  | 0, _, _ => ⟨pdec_all dk_25, rfl, fun h => absurd h (by decide +kernel), by decide +kernel⟩
  | 1, _, _ => ⟨pdec_all dk_26, rfl, fun h => absurd h (by decide +kernel), by decide +kernel⟩
  | 2, _, _ => ⟨pdec_all dk_27, rfl, fun h => absurd h (by decide +kernel), by decide +kernel⟩
  | 3, _, _ => ⟨pdec_all dk_28, rfl, fun h => absurd h (by decide +kernel), by decide +kernel⟩
  | 4, _, _ => ⟨pdec_all dk_29, rfl, fun _ => rfl, by decide +kernel⟩
  | 5, _, _ => ⟨pdec_all dk_30, rfl, fun _ => rfl, by decide +kernel⟩
  | 6, _, _ => ⟨pdec_all dk_31, rfl, fun h => absurd h (by decide +kernel), by decide +kernel⟩
  | 7, _, _ => ⟨pdec_all dk_32, rfl, fun h => absurd h (by decide +kernel), by decide +kernel⟩
  | 8, _, _ => ⟨pdec_all dk_33, rfl, fun h => absurd h (by decide +kernel), by decide +kernel⟩
  | 9, _, _ => ⟨pdec_all dk_34, rfl, fun h => absurd h (by decide +kernel), by decide +kernel⟩
  | 10, _, _ => ⟨pdec_all dk_35, rfl, fun h => absurd h (by decide +kernel), by decide +kernel⟩
  | 11, _, _ => ⟨pdec_all dk_36, rfl, fun h => absurd h (by decide +kernel), by decide +kernel⟩
  | 12, _, _ => ⟨pdec_all dk_37, rfl, fun h => absurd h (by decide +kernel), by decide +kernel⟩
  | 13, _, _ => ⟨pdec_all dk_38, rfl, fun h => absurd h (by decide +kernel), by decide +kernel⟩
  | 14, _, _ => ⟨pdec_all dk_39, rfl, fun h => absurd h (by decide +kernel), by decide +kernel⟩
  | 15, _, _ => ⟨pdec_all dk_40, rfl, fun h => absurd h (by decide +kernel), by decide +kernel⟩
  | 16, _, _ => ⟨pdec_all dk_41, rfl, fun h => absurd h (by decide +kernel), by decide +kernel⟩
  | 17, _, _ => ⟨pdec_all dk_42, rfl, fun h => absurd h (by decide +kernel), by decide +kernel⟩
  | 18, _, _ => ⟨pdec_all dk_43, rfl, fun h => absurd h (by decide +kernel), by decide +kernel⟩
  | 19, _, _ => ⟨pdec_all dk_44, rfl, fun h => absurd h (by decide +kernel), by decide +kernel⟩
  | 20, _, _ => ⟨pdec_all dk_45, rfl, fun h => absurd h (by decide +kernel), by decide +kernel⟩
  | 21, _, _ => ⟨pdec_all dk_46, rfl, fun h => absurd h (by decide +kernel), by decide +kernel⟩
  | 22, _, _ => ⟨pdec_all dk_47, rfl, fun h => absurd h (by decide +kernel), by decide +kernel⟩
  | 23, _, _ => ⟨pdec_all dk_48, rfl, fun h => absurd h (by decide +kernel), by decide +kernel⟩
  | 24, _, _ => ⟨pdec_all dk_49, rfl, fun h => absurd h (by decide +kernel), by decide +kernel⟩
  | n + 25, h, _ => absurd h (by omega)
set_option maxRecDepth 100000 in
theorem mok_50 : ∀ j, j < 25 → pNN.1 (50 + j) ≠ [] → pMOK pMM pNN (50 + j)
  | 0, _, _ => ⟨pdec_all dk_50, rfl, fun h => absurd h (by decide +kernel), by decide +kernel⟩
  | 1, _, _ => ⟨pdec_all dk_51, rfl, fun h => absurd h (by decide +kernel), by decide +kernel⟩
  | 2, _, _ => ⟨pdec_all dk_52, rfl, fun _ => rfl, by decide +kernel⟩
  | 3, _, _ => ⟨pdec_all dk_53, rfl, fun h => absurd h (by decide +kernel), by decide +kernel⟩
  | 4, _, _ => ⟨pdec_all dk_54, rfl, fun h => absurd h (by decide +kernel), by decide +kernel⟩
  | 5, _, _ => ⟨pdec_all dk_55, rfl, fun h => absurd h (by decide +kernel), by decide +kernel⟩
  | 6, _, _ => ⟨pdec_all dk_56, rfl, fun h => absurd h (by decide +kernel), by decide +kernel⟩
  | 7, _, _ => ⟨pdec_all dk_57, rfl, fun h => absurd h (by decide +kernel), by decide +kernel⟩
  | 8, _, _ => ⟨pdec_all dk_58, rfl, fun h => absurd h (by decide +kernel), by decide +kernel⟩
  | 9, _, _ => ⟨pdec_all dk_59, rfl, fun h => absurd h (by decide +kernel), by decide +kernel⟩
  | 10, _, _ => ⟨pdec_all dk_60, rfl, fun h => absurd h (by decide +kernel), by decide +kernel⟩
  | 11, _, _ => ⟨pdec_all dk_61, rfl, fun h => absurd h (by decide +kernel), by decide +kernel⟩
  | 12, _, _ => ⟨pdec_all dk_62, rfl, fun h => absurd h (by decide +kernel), by decide +kernel⟩
  | 13, _, _ => ⟨pdec_all dk_63, rfl, fun h => absurd h (by decide +kernel), by decide +kernel⟩
  | 14, _, _ => ⟨pdec_all dk_64, rfl, fun h => absurd h (by decide +kernel), by decide +kernel⟩
  | 15, _, _ => ⟨pdec_all dk_65, rfl, fun h => absurd h (by decide +kernel), by decide +kernel⟩
  | 16, _, _ => ⟨pdec_all dk_66, rfl, fun h => absurd h (by decide +kernel), by decide +kernel⟩
  | 17, _, _ => ⟨pdec_all dk_67, rfl, fun h => absurd h (by decide +kernel), by decide +kernel⟩
  | 18, _, _ => ⟨pdec_all dk_68, rfl, fun h => absurd h (by decide +kernel), by decide +kernel⟩
  | 19, _, _ => ⟨pdec_all dk_69, rfl, fun h => absurd h (by decide +kernel), by decide +kernel⟩
  | 20, _, _ => ⟨pdec_all dk_70, rfl, fun h => absurd h (by decide +kernel), by decide +kernel⟩
  | 21, _, _ => ⟨pdec_all dk_71, rfl, fun h => absurd h (by decide +kernel), by decide +kernel⟩
  | 22, _, _ => ⟨pdec_all dk_72, rfl, fun h => absurd h (by decide +kernel), by decide +kernel⟩
  | 23, _, _ => ⟨pdec_all dk_73, rfl, fun _ => rfl, by decide +kernel⟩
  | 24, _, _ => ⟨pdec_all dk_74, rfl, fun h => absurd h (by decide +kernel), by decide +kernel⟩
  | n + 25, h, _ => absurd h (by omega)
set_option maxRecDepth 100000 in
theorem mok_75 : ∀ j, j < 25 → pNN.1 (75 + j) ≠ [] → pMOK pMM pNN (75 + j)
  | 0, _, _ => ⟨pdec_all dk_75, rfl, fun h => absurd h (by decide +kernel), by decide +kernel⟩
  | 1, _, _ => ⟨pdec_all dk_76, rfl, fun h => absurd h (by decide +kernel), by decide +kernel⟩
  | 2, _, _ => ⟨pdec_all dk_77, rfl, fun h => absurd h (by decide +kernel), by decide +kernel⟩
  | 3, _, _ => ⟨pdec_all dk_78, rfl, fun h => absurd h (by decide +kernel), by decide +kernel⟩
  | 4, _, _ => ⟨pdec_all dk_79, rfl, fun h => absurd h (by decide +kernel), by decide +kernel⟩
  | 5, _, _ => ⟨pdec_all dk_80, rfl, fun h => absurd h (by decide +kernel), by decide +kernel⟩
  | 6, _, _ => ⟨pdec_all dk_81, rfl, fun h => absurd h (by decide +kernel), by decide +kernel⟩
  | 7, _, _ => ⟨pdec_all dk_82, rfl, fun h => absurd h (by decide +kernel), by decide +kernel⟩
  | 8, _, _ => ⟨pdec_all dk_83, rfl, fun h => absurd h (by decide +kernel), by decide +kernel⟩
  | 9, _, _ => ⟨pdec_all dk_84, rfl, fun h => absurd h (by decide +kernel), by decide +kernel⟩
  | 10, _, _ => ⟨pdec_all dk_85, rfl, fun h => absurd h (by decide +kernel), by decide +kernel⟩
  | 11, _, _ => ⟨pdec_all dk_86, rfl, fun h => absurd h (by decide +kernel), by decide +kernel⟩
  | 12, _, _ => ⟨pdec_all dk_87, rfl, fun h => absurd h (by decide +kernel), by decide +kernel⟩
  | 13, _, _ => ⟨pdec_all dk_88, rfl, fun h => absurd h (by decide +kernel), by decide +kernel⟩
  | 14, _, _ => ⟨pdec_all dk_89, rfl, fun h => absurd h (by decide +kernel), by decide +kernel⟩
  | 15, _, _ => ⟨pdec_all dk_90, rfl, fun h => absurd h (by decide +kernel), by decide +kernel⟩
  | 16, _, _ => ⟨pdec_all dk_91, rfl, fun h => absurd h (by decide +kernel), by decide +kernel⟩
  | 17, _, _ => ⟨pdec_all dk_92, rfl, fun h => absurd h (by decide +kernel), by decide +kernel⟩
  | 18, _, _ => ⟨pdec_all dk_93, rfl, fun h => absurd h (by decide +kernel), by decide +kernel⟩
  | 19, _, _ => ⟨pdec_all dk_94, rfl, fun _ => rfl, by decide +kernel⟩
  | 20, _, _ => ⟨pdec_all dk_95, rfl, fun h => absurd h (by decide +kernel), by decide +kernel⟩
  | 21, _, _ => ⟨pdec_all dk_96, rfl, fun h => absurd h (by decide +kernel), by decide +kernel⟩
  | 22, _, _ => ⟨pdec_all dk_97, rfl, fun h => absurd h (by decide +kernel), by decide +kernel⟩
  | 23, _, _ => ⟨pdec_all dk_98, rfl, fun h => absurd h (by decide +kernel), by decide +kernel⟩
  | 24, _, _ => ⟨pdec_all dk_99, rfl, fun h => absurd h (by decide +kernel), by decide +kernel⟩
  | n + 25, h, _ => absurd h (by omega)
set_option maxRecDepth 100000 in
theorem mok_100 : ∀ j, j < 25 → pNN.1 (100 + j) ≠ [] → pMOK pMM pNN (100 + j)
  | 0, _, _ => ⟨pdec_all dk_100, rfl, fun h => absurd h (by decide +kernel), by decide +kernel⟩
  | 1, _, _ => ⟨pdec_all dk_101, rfl, fun h => absurd h (by decide +kernel), by decide +kernel⟩
  | 2, _, _ => ⟨pdec_all dk_102, rfl, fun h => absurd h (by decide +kernel), by decide +kernel⟩
  | 3, _, _ => ⟨pdec_all dk_103, rfl, fun h => absurd h (by decide +kernel), by decide +kernel⟩
  | 4, _, _ => ⟨pdec_all dk_104, rfl, fun h => absurd h (by decide +kernel), by decide +kernel⟩
  | 5, _, _ => ⟨pdec_all dk_105, rfl, fun _ => rfl, by decide +kernel⟩
  | 6, _, _ => ⟨pdec_all dk_106, rfl, fun h => absurd h (by decide +kernel), by decide +kernel⟩
  | 7, _, _ => ⟨pdec_all dk_107, rfl, fun h => absurd h (by decide +kernel), by decide +kernel⟩
  | 8, _, _ => ⟨pdec_all dk_108, rfl, fun h => absurd h (by decide +kernel), by decide +kernel⟩
  | 9, _, _ => ⟨pdec_all dk_109, rfl, fun h => absurd h (by decide +kernel), by decide +kernel⟩
  | 10, _, _ => ⟨pdec_all dk_110, rfl, fun _ => rfl, by decide +kernel⟩
  | 11, _, _ => ⟨pdec_all dk_111, rfl, fun h => absurd h (by decide +kernel), by decide +kernel⟩
  | 12, _, _ => ⟨pdec_all dk_112, rfl, fun _ => rfl, by decide +kernel⟩
  | 13, _, _ => ⟨pdec_all dk_113, rfl, fun h => absurd h (by decide +kernel), by decide +kernel⟩
  | 14, _, _ => ⟨pdec_all dk_114, rfl, fun h => absurd h (by decide +kernel), by decide +kernel⟩
  | 15, _, _ => ⟨pdec_all dk_115, rfl, fun h => absurd h (by decide +kernel), by decide +kernel⟩
  | 16, _, _ => ⟨pdec_all dk_116, rfl, fun h => absurd h (by decide +kernel), by decide +kernel⟩
  | 17, _, _ => ⟨pdec_all dk_117, rfl, fun h => absurd h (by decide +kernel), by decide +kernel⟩
  | 18, _, _ => ⟨pdec_all dk_118, rfl, fun h => absurd h (by decide +kernel), by decide +kernel⟩
  | 19, _, _ => ⟨pdec_all dk_119, rfl, fun h => absurd h (by decide +kernel), by decide +kernel⟩
  | 20, _, _ => ⟨pdec_all dk_120, rfl, fun h => absurd h (by decide +kernel), by decide +kernel⟩
  | 21, _, _ => ⟨pdec_all dk_121, rfl, fun h => absurd h (by decide +kernel), by decide +kernel⟩
  | 22, _, _ => ⟨pdec_all dk_122, rfl, fun h => absurd h (by decide +kernel), by decide +kernel⟩
  | 23, _, _ => ⟨pdec_all dk_123, rfl, fun h => absurd h (by decide +kernel), by decide +kernel⟩
  | 24, _, _ => ⟨pdec_all dk_124, rfl, fun h => absurd h (by decide +kernel), by decide +kernel⟩
  | n + 25, h, _ => absurd h (by omega)
set_option maxRecDepth 100000 in
theorem mok_125 : ∀ j, j < 25 → pNN.1 (125 + j) ≠ [] → pMOK pMM pNN (125 + j)
  | 0, _, _ => ⟨pdec_all dk_125, rfl, fun h => absurd h (by decide +kernel), by decide +kernel⟩
  | 1, _, _ => ⟨pdec_all dk_126, rfl, fun h => absurd h (by decide +kernel), by decide +kernel⟩
  | 2, _, _ => ⟨pdec_all dk_127, rfl, fun h => absurd h (by decide +kernel), by decide +kernel⟩
  | 3, _, _ => ⟨pdec_all dk_128, rfl, fun h => absurd h (by decide +kernel), by decide +kernel⟩
  | 4, _, _ => ⟨pdec_all dk_129, rfl, fun h => absurd h (by decide +kernel), by decide +kernel⟩
  | 5, _, _ => ⟨pdec_all dk_130, rfl, fun h => absurd h (by decide +kernel), by decide +kernel⟩
  | 6, _, _ => ⟨pdec_all dk_131, rfl, fun h => absurd h (by decide +kernel), by decide +kernel⟩
  | 7, _, _ => ⟨pdec_all dk_132, rfl, fun h => absurd h (by decide +kernel), by decide +kernel⟩
  | 8, _, _ => ⟨pdec_all dk_133, rfl, fun h => absurd h (by decide +kernel), by decide +kernel⟩
  | 9, _, _ => ⟨pdec_all dk_134, rfl, fun h => absurd h (by decide +kernel), by decide +kernel⟩
  | 10, _, _ => ⟨pdec_all dk_135, rfl, fun h => absurd h (by decide +kernel), by decide +kernel⟩
  | 11, _, _ => ⟨pdec_all dk_136, rfl, fun h => absurd h (by decide +kernel), by decide +kernel⟩
  | 12, _, _ => ⟨pdec_all dk_137, rfl, fun h => absurd h (by decide +kernel), by decide +kernel⟩
  | 13, _, _ => ⟨pdec_all dk_138, rfl, fun h => absurd h (by decide +kernel), by decide +kernel⟩
  | 14, _, _ => ⟨pdec_all dk_139, rfl, fun h => absurd h (by decide +kernel), by decide +kernel⟩
  | 15, _, _ => ⟨pdec_all dk_140, rfl, fun h => absurd h (by decide +kernel), by decide +kernel⟩
  | 16, _, _ => ⟨pdec_all dk_141, rfl, fun h => absurd h (by decide +kernel), by decide +kernel⟩
  | 17, _, _ => ⟨pdec_all dk_142, rfl, fun h => absurd h (by decide +kernel), by decide +kernel⟩
  | 18, _, _ => ⟨pdec_all dk_143, rfl, fun h => absurd h (by decide +kernel), by decide +kernel⟩
  | 19, _, _ => ⟨pdec_all dk_144, rfl, fun h => absurd h (by decide +kernel), by decide +kernel⟩
  | 20, _, _ => ⟨pdec_all dk_145, rfl, fun h => absurd h (by decide +kernel), by decide +kernel⟩
  | 21, _, _ => ⟨pdec_all dk_146, rfl, fun h => absurd h (by decide +kernel), by decide +kernel⟩
  | 22, _, _ => ⟨pdec_all dk_147, rfl, fun h => absurd h (by decide +kernel), by decide +kernel⟩
  | 23, _, _ => ⟨pdec_all dk_148, rfl, fun h => absurd h (by decide +kernel), by decide +kernel⟩
  | 24, _, _ => ⟨pdec_all dk_149, rfl, fun h => absurd h (by decide +kernel), by decide +kernel⟩
  | n + 25, h, _ => absurd h (by omega)
set_option maxRecDepth 100000 in
theorem mok_150 : ∀ j, j < 25 → pNN.1 (150 + j) ≠ [] → pMOK pMM pNN (150 + j)
  | 0, _, _ => ⟨pdec_all dk_150, rfl, fun h => absurd h (by decide +kernel), by decide +kernel⟩
  | 1, _, _ => ⟨pdec_all dk_151, rfl, fun h => absurd h (by decide +kernel), by decide +kernel⟩
  | 2, _, _ => ⟨pdec_all dk_152, rfl, fun h => absurd h (by decide +kernel), by decide +kernel⟩
  | 3, _, _ => ⟨pdec_all dk_153, rfl, fun h => absurd h (by decide +kernel), by decide +kernel⟩
  | 4, _, _ => ⟨pdec_all dk_154, rfl, fun h => absurd h (by decide +kernel), by decide +kernel⟩
  | 5, _, _ => ⟨pdec_all dk_155, rfl, fun h => absurd h (by decide +kernel), by decide +kernel⟩
  | 6, _, _ => ⟨pdec_all dk_156, rfl, fun h => absurd h (by decide +kernel), by decide +kernel⟩
  | 7, _, _ => ⟨pdec_all dk_157, rfl, fun h => absurd h (by decide +kernel), by decide +kernel⟩
  | 8, _, _ => ⟨pdec_all dk_158, rfl, fun h => absurd h (by decide +kernel), by decide +kernel⟩
  | 9, _, _ => ⟨pdec_all dk_159, rfl, fun h => absurd h (by decide +kernel), by decide +kernel⟩
  | 10, _, _ => ⟨pdec_all dk_160, rfl, fun h => absurd h (by decide +kernel), by decide +kernel⟩
  | 11, _, _ => ⟨pdec_all dk_161, rfl, fun h => absurd h (by decide +kernel), by decide +kernel⟩
  | 12, _, _ => ⟨pdec_all dk_162, rfl, fun h => absurd h (by decide +kernel), by decide +kernel⟩
  | 13, _, _ => ⟨pdec_all dk_163, rfl, fun h => absurd h (by decide +kernel), by decide +kernel⟩
  | 14, _, _ => ⟨pdec_all dk_164, rfl, fun h => absurd h (by decide +kernel), by decide +kernel⟩
  | 15, _, _ => ⟨pdec_all dk_165, rfl, fun h => absurd h (by decide +kernel), by decide +kernel⟩
  | 16, _, _ => ⟨pdec_all dk_166, rfl, fun h => absurd h (by decide +kernel), by decide +kernel⟩
  | 17, _, _ => ⟨pdec_all dk_167, rfl, fun h => absurd h (by decide +kernel), by decide +kernel⟩
  | 18, _, _ => ⟨pdec_all dk_168, rfl, fun h => absurd h (by decide +kernel), by decide +kernel⟩
  | 19, _, _ => ⟨pdec_all dk_169, rfl, fun h => absurd h (by decide +kernel), by decide +kernel⟩
  | 20, _, _ => ⟨pdec_all dk_170, rfl, fun h => absurd h (by decide +kernel), by decide +kernel⟩
  | 21, _, _ => ⟨pdec_all dk_171, rfl, fun h => absurd h (by decide +kernel), by decide +kernel⟩
  | 22, _, _ => ⟨pdec_all dk_172, rfl, fun h => absurd h (by decide +kernel), by decide +kernel⟩
  | 23, _, _ => ⟨pdec_all dk_173, rfl, fun h => absurd h (by decide +kernel), by decide +kernel⟩
  | 24, _, _ => ⟨pdec_all dk_174, rfl, fun h => absurd h (by decide +kernel), by decide +kernel⟩
  | n + 25, h, _ => absurd h (by omega)
set_option maxRecDepth 100000 in
theorem mok_175 : ∀ j, j < 25 → pNN.1 (175 + j) ≠ [] → pMOK pMM pNN (175 + j)
  | 0, _, _ => ⟨pdec_all dk_175, rfl, fun h => absurd h (by decide +kernel), by decide +kernel⟩
  | 1, _, _ => ⟨pdec_all dk_176, rfl, fun h => absurd h (by decide +kernel), by decide +kernel⟩
  | 2, _, _ => ⟨pdec_all dk_177, rfl, fun h => absurd h (by decide +kernel), by decide +kernel⟩
  | 3, _, _ => ⟨pdec_all dk_178, rfl, fun h => absurd h (by decide +kernel), by decide +kernel⟩
  | 4, _, _ => ⟨pdec_all dk_179, rfl, fun h => absurd h (by decide +kernel), by decide +kernel⟩
  | 5, _, _ => ⟨pdec_all dk_180, rfl, fun h => absurd h (by decide +kernel), by decide +kernel⟩
  | 6, _, _ => ⟨pdec_all dk_181, rfl, fun h => absurd h (by decide +kernel), by decide +kernel⟩
  | 7, _, _ => ⟨pdec_all dk_182, rfl, fun h => absurd h (by decide +kernel), by decide +kernel⟩
  | 8, _, _ => ⟨pdec_all dk_183, rfl, fun h => absurd h (by decide +kernel), by decide +kernel⟩
  | 9, _, _ => ⟨pdec_all dk_184, rfl, fun h => absurd h (by decide +kernel), by decide +kernel⟩
  | 10, _, _ => ⟨pdec_all dk_185, rfl, fun h => absurd h (by decide +kernel), by decide +kernel⟩
  | 11, _, _ => ⟨pdec_all dk_186, rfl, fun h => absurd h (by decide +kernel), by decide +kernel⟩
  | 12, _, _ => ⟨pdec_all dk_187, rfl, fun h => absurd h (by decide +kernel), by decide +kernel⟩
  | 13, _, _ => ⟨pdec_all dk_188, rfl, fun h => absurd h (by decide +kernel), by decide +kernel⟩
  | 14, _, _ => ⟨pdec_all dk_189, rfl, fun h => absurd h (by decide +kernel), by decide +kernel⟩
  | 15, _, _ => ⟨pdec_all dk_190, rfl, fun h => absurd h (by decide +kernel), by decide +kernel⟩
  | 16, _, _ => ⟨pdec_all dk_191, rfl, fun h => absurd h (by decide +kernel), by decide +kernel⟩
  | 17, _, _ => ⟨pdec_all dk_192, rfl, fun h => absurd h (by decide +kernel), by decide +kernel⟩
  | 18, _, _ => ⟨pdec_all dk_193, rfl, fun h => absurd h (by decide +kernel), by decide +kernel⟩
  | 19, _, _ => ⟨pdec_all dk_194, rfl, fun h => absurd h (by decide +kernel), by decide +kernel⟩
  | 20, _, _ => ⟨pdec_all dk_195, rfl, fun h => absurd h (by decide +kernel), by decide +kernel⟩
  | 21, _, _ => ⟨pdec_all dk_196, rfl, fun h => absurd h (by decide +kernel), by decide +kernel⟩
  | 22, _, _ => ⟨pdec_all dk_197, rfl, fun h => absurd h (by decide +kernel), by decide +kernel⟩
  | 23, _, _ => ⟨pdec_all dk_198, rfl, fun h => absurd h (by decide +kernel), by decide +kernel⟩
  | 24, _, _ => ⟨pdec_all dk_199, rfl, fun h => absurd h (by decide +kernel), by decide +kernel⟩
  | n + 25, h, _ => absurd h (by omega)
set_option maxRecDepth 100000 in
theorem mok_200 : ∀ j, j < 25 → pNN.1 (200 + j) ≠ [] → pMOK pMM pNN (200 + j)
  | 0, _, _ => ⟨pdec_all dk_200, rfl, fun _ => rfl, by decide +kernel⟩
  | 1, _, _ => ⟨pdec_all dk_201, rfl, fun h => absurd h (by decide +kernel), by decide +kernel⟩
  | 2, _, _ => ⟨pdec_all dk_202, rfl, fun h => absurd h (by decide +kernel), by decide +kernel⟩
  | 3, _, _ => ⟨pdec_all dk_203, rfl, fun h => absurd h (by decide +kernel), by decide +kernel⟩
  | 4, _, _ => ⟨pdec_all dk_204, rfl, fun h => absurd h (by decide +kernel), by decide +kernel⟩
  | 5, _, _ => ⟨pdec_all dk_205, rfl, fun h => absurd h (by decide +kernel), by decide +kernel⟩
  | 6, _, _ => ⟨pdec_all dk_206, rfl, fun h => absurd h (by decide +kernel), by decide +kernel⟩
  | 7, _, _ => ⟨pdec_all dk_207, rfl, fun h => absurd h (by decide +kernel), by decide +kernel⟩
  | 8, _, _ => ⟨pdec_all dk_208, rfl, fun h => absurd h (by decide +kernel), by decide +kernel⟩
  | 9, _, _ => ⟨pdec_all dk_209, rfl, fun h => absurd h (by decide +kernel), by decide +kernel⟩
  | 10, _, _ => ⟨pdec_all dk_210, rfl, fun h => absurd h (by decide +kernel), by decide +kernel⟩
  | 11, _, _ => ⟨pdec_all dk_211, rfl, fun h => absurd h (by decide +kernel), by decide +kernel⟩
  | 12, _, _ => ⟨pdec_all dk_212, rfl, fun h => absurd h (by decide +kernel), by decide +kernel⟩
  | 13, _, _ => ⟨pdec_all dk_213, rfl, fun h => absurd h (by decide +kernel), by decide +kernel⟩
  | 14, _, _ => ⟨pdec_all dk_214, rfl, fun h => absurd h (by decide +kernel), by decide +kernel⟩
  | 15, _, _ => ⟨pdec_all dk_215, rfl, fun h => absurd h (by decide +kernel), by decide +kernel⟩
  | 16, _, _ => ⟨pdec_all dk_216, rfl, fun h => absurd h (by decide +kernel), by decide +kernel⟩
  | 17, _, _ => ⟨pdec_all dk_217, rfl, fun h => absurd h (by decide +kernel), by decide +kernel⟩
  | 18, _, _ => ⟨pdec_all dk_218, rfl, fun h => absurd h (by decide +kernel), by decide +kernel⟩
  | 19, _, _ => ⟨pdec_all dk_219, rfl, fun h => absurd h (by decide +kernel), by decide +kernel⟩
  | 20, _, _ => ⟨pdec_all dk_220, rfl, fun h => absurd h (by decide +kernel), by decide +kernel⟩
  | 21, _, _ => ⟨pdec_all dk_221, rfl, fun h => absurd h (by decide +kernel), by decide +kernel⟩
  | 22, _, _ => ⟨pdec_all dk_222, rfl, fun h => absurd h (by decide +kernel), by decide +kernel⟩
  | 23, _, _ => ⟨pdec_all dk_223, rfl, fun h => absurd h (by decide +kernel), by decide +kernel⟩
  | 24, _, _ => ⟨pdec_all dk_224, rfl, fun h => absurd h (by decide +kernel), by decide +kernel⟩
  | n + 25, h, _ => absurd h (by omega)
set_option maxRecDepth 100000 in
theorem mok_225 : ∀ j, j < 25 → pNN.1 (225 + j) ≠ [] → pMOK pMM pNN (225 + j)
  | 0, _, _ => ⟨pdec_all dk_225, rfl, fun h => absurd h (by decide +kernel), by decide +kernel⟩
  | 1, _, _ => ⟨pdec_all dk_226, rfl, fun h => absurd h (by decide +kernel), by decide +kernel⟩
  | 2, _, _ => ⟨pdec_all dk_227, rfl, fun h => absurd h (by decide +kernel), by decide +kernel⟩
  | 3, _, _ => ⟨pdec_all dk_228, rfl, fun h => absurd h (by decide +kernel), by decide +kernel⟩
  | 4, _, _ => ⟨pdec_all dk_229, rfl, fun h => absurd h (by decide +kernel), by decide +kernel⟩
  | 5, _, _ => ⟨pdec_all dk_230, rfl, fun h => absurd h (by decide +kernel), by decide +kernel⟩
  | 6, _, _ => ⟨pdec_all dk_231, rfl, fun h => absurd h (by decide +kernel), by decide +kernel⟩
  | 7, _, _ => ⟨pdec_all dk_232, rfl, fun h => absurd h (by decide +kernel), by decide +kernel⟩
  | 8, _, _ => ⟨pdec_all dk_233, rfl, fun h => absurd h (by decide +kernel), by decide +kernel⟩
  | 9, _, _ => ⟨pdec_all dk_234, rfl, fun h => absurd h (by decide +kernel), by decide +kernel⟩
  | 10, _, _ => ⟨pdec_all dk_235, rfl, fun h => absurd h (by decide +kernel), by decide +kernel⟩
  | 11, _, _ => ⟨pdec_all dk_236, rfl, fun h => absurd h (by decide +kernel), by decide +kernel⟩
  | 12, _, _ => ⟨pdec_all dk_237, rfl, fun h => absurd h (by decide +kernel), by decide +kernel⟩
  | 13, _, _ => ⟨pdec_all dk_238, rfl, fun h => absurd h (by decide +kernel), by decide +kernel⟩
  | 14, _, _ => ⟨pdec_all dk_239, rfl, fun h => absurd h (by decide +kernel), by decide +kernel⟩
  | 15, _, _ => ⟨pdec_all dk_240, rfl, fun h => absurd h (by decide +kernel), by decide +kernel⟩
  | 16, _, _ => ⟨pdec_all dk_241, rfl, fun h => absurd h (by decide +kernel), by decide +kernel⟩
  | 17, _, _ => ⟨pdec_all dk_242, rfl, fun h => absurd h (by decide +kernel), by decide +kernel⟩
  | 18, _, _ => ⟨pdec_all dk_243, rfl, fun h => absurd h (by decide +kernel), by decide +kernel⟩
  | 19, _, _ => ⟨pdec_all dk_244, rfl, fun h => absurd h (by decide +kernel), by decide +kernel⟩
  | 20, _, _ => ⟨pdec_all dk_245, rfl, fun h => absurd h (by decide +kernel), by decide +kernel⟩
  | 21, _, _ => ⟨pdec_all dk_246, rfl, fun h => absurd h (by decide +kernel), by decide +kernel⟩
  | 22, _, _ => ⟨pdec_all dk_247, rfl, fun h => absurd h (by decide +kernel), by decide +kernel⟩
  | 23, _, _ => ⟨pdec_all dk_248, rfl, fun h => absurd h (by decide +kernel), by decide +kernel⟩
  | 24, _, _ => ⟨pdec_all dk_249, rfl, fun h => absurd h (by decide +kernel), by decide +kernel⟩
  | n + 25, h, _ => absurd h (by omega)
set_option maxRecDepth 100000 in
theorem mok_250 : ∀ j, j < 25 → pNN.1 (250 + j) ≠ [] → pMOK pMM pNN (250 + j)
  | 0, _, _ => ⟨pdec_all dk_250, rfl, fun h => absurd h (by decide +kernel), by decide +kernel⟩
  | 1, _, _ => ⟨pdec_all dk_251, rfl, fun h => absurd h (by decide +kernel), by decide +kernel⟩
  | 2, _, _ => ⟨pdec_all dk_252, rfl, fun h => absurd h (by decide +kernel), by decide +kernel⟩
  | 3, _, _ => ⟨pdec_all dk_253, rfl, fun h => absurd h (by decide +kernel), by decide +kernel⟩
  | 4, _, _ => ⟨pdec_all dk_254, rfl, fun h => absurd h (by decide +kernel), by decide +kernel⟩
  | 5, _, _ => ⟨pdec_all dk_255, rfl, fun h => absurd h (by decide +kernel), by decide +kernel⟩
  | 6, _, _ => ⟨pdec_all dk_256, rfl, fun h => absurd h (by decide +kernel), by decide +kernel⟩
  | 7, _, _ => ⟨pdec_all dk_257, rfl, fun h => absurd h (by decide +kernel), by decide +kernel⟩
  | 8, _, _ => ⟨pdec_all dk_258, rfl, fun h => absurd h (by decide +kernel), by decide +kernel⟩
  | 9, _, _ => ⟨pdec_all dk_259, rfl, fun h => absurd h (by decide +kernel), by decide +kernel⟩
  | 10, _, _ => ⟨pdec_all dk_260, rfl, fun h => absurd h (by decide +kernel), by decide +kernel⟩
  | 11, _, _ => ⟨pdec_all dk_261, rfl, fun h => absurd h (by decide +kernel), by decide +kernel⟩
  | 12, _, _ => ⟨pdec_all dk_262, rfl, fun h => absurd h (by decide +kernel), by decide +kernel⟩
  | 13, _, _ => ⟨pdec_all dk_263, rfl, fun h => absurd h (by decide +kernel), by decide +kernel⟩
  | 14, _, _ => ⟨pdec_all dk_264, rfl, fun h => absurd h (by decide +kernel), by decide +kernel⟩
  | 15, _, _ => ⟨pdec_all dk_265, rfl, fun h => absurd h (by decide +kernel), by decide +kernel⟩
  | 16, _, _ => ⟨pdec_all dk_266, rfl, fun h => absurd h (by decide +kernel), by decide +kernel⟩
  | 17, _, _ => ⟨pdec_all dk_267, rfl, fun h => absurd h (by decide +kernel), by decide +kernel⟩
  | 18, _, _ => ⟨pdec_all dk_268, rfl, fun h => absurd h (by decide +kernel), by decide +kernel⟩
  | 19, _, _ => ⟨pdec_all dk_269, rfl, fun h => absurd h (by decide +kernel), by decide +kernel⟩
  | 20, _, _ => ⟨pdec_all dk_270, rfl, fun h => absurd h (by decide +kernel), by decide +kernel⟩
  | 21, _, _ => ⟨pdec_all dk_271, rfl, fun h => absurd h (by decide +kernel), by decide +kernel⟩
  | 22, _, _ => ⟨pdec_all dk_272, rfl, fun h => absurd h (by decide +kernel), by decide +kernel⟩
  | 23, _, _ => ⟨pdec_all dk_273, rfl, fun h => absurd h (by decide +kernel), by decide +kernel⟩
  | 24, _, _ => ⟨pdec_all dk_274, rfl, fun h => absurd h (by decide +kernel), by decide +kernel⟩
  | n + 25, h, _ => absurd h (by omega)
set_option maxRecDepth 100000 in
theorem mok_275 : ∀ j, j < 25 → pNN.1 (275 + j) ≠ [] → pMOK pMM pNN (275 + j)
  | 0, _, _ => ⟨pdec_all dk_275, rfl, fun h => absurd h (by decide +kernel), by decide +kernel⟩
  | 1, _, _ => ⟨pdec_all dk_276, rfl, fun h => absurd h (by decide +kernel), by decide +kernel⟩
  | 2, _, _ => ⟨pdec_all dk_277, rfl, fun h => absurd h (by decide +kernel), by decide +kernel⟩
  | 3, _, _ => ⟨pdec_all dk_278, rfl, fun h => absurd h (by decide +kernel), by decide +kernel⟩
  | 4, _, _ => ⟨pdec_all dk_279, rfl, fun h => absurd h (by decide +kernel), by decide +kernel⟩
  | 5, _, _ => ⟨pdec_all dk_280, rfl, fun h => absurd h (by decide +kernel), by decide +kernel⟩
  | 6, _, _ => ⟨pdec_all dk_281, rfl, fun h => absurd h (by decide +kernel), by decide +kernel⟩
  | 7, _, _ => ⟨pdec_all dk_282, rfl, fun h => absurd h (by decide +kernel), by decide +kernel⟩
  | 8, _, _ => ⟨pdec_all dk_283, rfl, fun h => absurd h (by decide +kernel), by decide +kernel⟩
  | 9, _, _ => ⟨pdec_all dk_284, rfl, fun h => absurd h (by decide +kernel), by decide +kernel⟩
  | 10, _, _ => ⟨pdec_all dk_285, rfl, fun h => absurd h (by decide +kernel), by decide +kernel⟩
  | 11, _, _ => ⟨pdec_all dk_286, rfl, fun h => absurd h (by decide +kernel), by decide +kernel⟩
  | 12, _, _ => ⟨pdec_all dk_287, rfl, fun h => absurd h (by decide +kernel), by decide +kernel⟩
  | 13, _, _ => ⟨pdec_all dk_288, rfl, fun h => absurd h (by decide +kernel), by decide +kernel⟩
  | 14, _, _ => ⟨pdec_all dk_289, rfl, fun h => absurd h (by decide +kernel), by decide +kernel⟩
  | 15, _, _ => ⟨pdec_all dk_290, rfl, fun h => absurd h (by decide +kernel), by decide +kernel⟩
  | 16, _, _ => ⟨pdec_all dk_291, rfl, fun h => absurd h (by decide +kernel), by decide +kernel⟩
  | 17, _, _ => ⟨pdec_all dk_292, rfl, fun h => absurd h (by decide +kernel), by decide +kernel⟩
  | 18, _, _ => ⟨pdec_all dk_293, rfl, fun h => absurd h (by decide +kernel), by decide +kernel⟩
  | 19, _, _ => ⟨pdec_all dk_294, rfl, fun h => absurd h (by decide +kernel), by decide +kernel⟩
  | 20, _, _ => ⟨pdec_all dk_295, rfl, fun h => absurd h (by decide +kernel), by decide +kernel⟩
  | 21, _, _ => ⟨pdec_all dk_296, rfl, fun h => absurd h (by decide +kernel), by decide +kernel⟩
  | 22, _, _ => ⟨pdec_all dk_297, rfl, fun h => absurd h (by decide +kernel), by decide +kernel⟩
  | 23, _, _ => ⟨pdec_all dk_298, rfl, fun h => absurd h (by decide +kernel), by decide +kernel⟩
  | 24, _, _ => ⟨pdec_all dk_299, rfl, fun h => absurd h (by decide +kernel), by decide +kernel⟩
  | n + 25, h, _ => absurd h (by omega)
set_option maxRecDepth 100000 in
theorem mok_300 : ∀ j, j < 25 → pNN.1 (300 + j) ≠ [] → pMOK pMM pNN (300 + j)
  | 0, _, _ => ⟨pdec_all dk_300, rfl, fun h => absurd h (by decide +kernel), by decide +kernel⟩
  | 1, _, _ => ⟨pdec_all dk_301, rfl, fun h => absurd h (by decide +kernel), by decide +kernel⟩
  | 2, _, _ => ⟨pdec_all dk_302, rfl, fun h => absurd h (by decide +kernel), by decide +kernel⟩
  | 3, _, _ => ⟨pdec_all dk_303, rfl, fun h => absurd h (by decide +kernel), by decide +kernel⟩
  | 4, _, _ => ⟨pdec_all dk_304, rfl, fun h => absurd h (by decide +kernel), by decide +kernel⟩
  | 5, _, _ => ⟨pdec_all dk_305, rfl, fun h => absurd h (by decide +kernel), by decide +kernel⟩
  | 6, _, _ => ⟨pdec_all dk_306, rfl, fun h => absurd h (by decide +kernel), by decide +kernel⟩
  | 7, _, _ => ⟨pdec_all dk_307, rfl, fun h => absurd h (by decide +kernel), by decide +kernel⟩
  | 8, _, _ => ⟨pdec_all dk_308, rfl, fun h => absurd h (by decide +kernel), by decide +kernel⟩
  | 9, _, _ => ⟨pdec_all dk_309, rfl, fun h => absurd h (by decide +kernel), by decide +kernel⟩
  | 10, _, _ => ⟨pdec_all dk_310, rfl, fun h => absurd h (by decide +kernel), by decide +kernel⟩
  | 11, _, _ => ⟨pdec_all dk_311, rfl, fun h => absurd h (by decide +kernel), by decide +kernel⟩
  | 12, _, _ => ⟨pdec_all dk_312, rfl, fun h => absurd h (by decide +kernel), by decide +kernel⟩
  | 13, _, _ => ⟨pdec_all dk_313, rfl, fun h => absurd h (by decide +kernel), by decide +kernel⟩
  | 14, _, _ => ⟨pdec_all dk_314, rfl, fun h => absurd h (by decide +kernel), by decide +kernel⟩
  | 15, _, _ => ⟨pdec_all dk_315, rfl, fun h => absurd h (by decide +kernel), by decide +kernel⟩
  | 16, _, _ => ⟨pdec_all dk_316, rfl, fun h => absurd h (by decide +kernel), by decide +kernel⟩
  | 17, _, _ => ⟨pdec_all dk_317, rfl, fun h => absurd h (by decide +kernel), by decide +kernel⟩
  | 18, _, _ => ⟨pdec_all dk_318, rfl, fun h => absurd h (by decide +kernel), by decide +kernel⟩
  | 19, _, _ => ⟨pdec_all dk_319, rfl, fun h => absurd h (by decide +kernel), by decide +kernel⟩
  | 20, _, _ => ⟨pdec_all dk_320, rfl, fun h => absurd h (by decide +kernel), by decide +kernel⟩
  | 21, _, _ => ⟨pdec_all dk_321, rfl, fun h => absurd h (by decide +kernel), by decide +kernel⟩
  | 22, _, _ => ⟨pdec_all dk_322, rfl, fun h => absurd h (by decide +kernel), by decide +kernel⟩
  | 23, _, _ => ⟨pdec_all dk_323, rfl, fun h => absurd h (by decide +kernel), by decide +kernel⟩
  | 24, _, _ => ⟨pdec_all dk_324, rfl, fun h => absurd h (by decide +kernel), by decide +kernel⟩
  | n + 25, h, _ => absurd h (by omega)
set_option maxRecDepth 100000 in
theorem mok_325 : ∀ j, j < 25 → pNN.1 (325 + j) ≠ [] → pMOK pMM pNN (325 + j)
  | 0, _, _ => ⟨pdec_all dk_325, rfl, fun h => absurd h (by decide +kernel), by decide +kernel⟩
  | 1, _, _ => ⟨pdec_all dk_326, rfl, fun h => absurd h (by decide +kernel), by decide +kernel⟩
  | 2, _, _ => ⟨pdec_all dk_327, rfl, fun h => absurd h (by decide +kernel), by decide +kernel⟩
  | 3, _, _ => ⟨pdec_all dk_328, rfl, fun h => absurd h (by decide +kernel), by decide +kernel⟩
  | 4, _, _ => ⟨pdec_all dk_329, rfl, fun h => absurd h (by decide +kernel), by decide +kernel⟩
  | 5, _, _ => ⟨pdec_all dk_330, rfl, fun h => absurd h (by decide +kernel), by decide +kernel⟩
  | 6, _, _ => ⟨pdec_all dk_331, rfl, fun h => absurd h (by decide +kernel), by decide +kernel⟩
  | 7, _, _ => ⟨pdec_all dk_332, rfl, fun h => absurd h (by decide +kernel), by decide +kernel⟩
  | 8, _, _ => ⟨pdec_all dk_333, rfl, fun h => absurd h (by decide +kernel), by decide +kernel⟩
  | 9, _, _ => ⟨pdec_all dk_334, rfl, fun h => absurd h (by decide +kernel), by decide +kernel⟩
  | 10, _, _ => ⟨pdec_all dk_335, rfl, fun h => absurd h (by decide +kernel), by decide +kernel⟩
  | 11, _, _ => ⟨pdec_all dk_336, rfl, fun h => absurd h (by decide +kernel), by decide +kernel⟩
  | 12, _, _ => ⟨pdec_all dk_337, rfl, fun h => absurd h (by decide +kernel), by decide +kernel⟩
  | 13, _, _ => ⟨pdec_all dk_338, rfl, fun h => absurd h (by decide +kernel), by decide +kernel⟩
  | 14, _, _ => ⟨pdec_all dk_339, rfl, fun h => absurd h (by decide +kernel), by decide +kernel⟩
  | 15, _, _ => ⟨pdec_all dk_340, rfl, fun h => absurd h (by decide +kernel), by decide +kernel⟩
  | 16, _, _ => ⟨pdec_all dk_341, rfl, fun h => absurd h (by decide +kernel), by decide +kernel⟩
  | 17, _, _ => ⟨pdec_all dk_342, rfl, fun h => absurd h (by decide +kernel), by decide +kernel⟩
  | 18, _, _ => ⟨pdec_all dk_343, rfl, fun h => absurd h (by decide +kernel), by decide +kernel⟩
  | 19, _, _ => ⟨pdec_all dk_344, rfl, fun h => absurd h (by decide +kernel), by decide +kernel⟩
  | 20, _, _ => ⟨pdec_all dk_345, rfl, fun h => absurd h (by decide +kernel), by decide +kernel⟩
  | 21, _, _ => ⟨pdec_all dk_346, rfl, fun h => absurd h (by decide +kernel), by decide +kernel⟩
  | 22, _, _ => ⟨pdec_all dk_347, rfl, fun h => absurd h (by decide +kernel), by decide +kernel⟩
  | 23, _, _ => ⟨pdec_all dk_348, rfl, fun h => absurd h (by decide +kernel), by decide +kernel⟩
  | 24, _, _ => ⟨pdec_all dk_349, rfl, fun h => absurd h (by decide +kernel), by decide +kernel⟩
  | n + 25, h, _ => absurd h (by omega)
set_option maxRecDepth 100000 in
theorem mok_350 : ∀ j, j < 13 → pNN.1 (350 + j) ≠ [] → pMOK pMM pNN (350 + j)
  | 0, _, _ => ⟨pdec_all dk_350, rfl, fun h => absurd h (by decide +kernel), by decide +kernel⟩
  | 1, _, _ => ⟨pdec_all dk_351, rfl, fun h => absurd h (by decide +kernel), by decide +kernel⟩
  | 2, _, _ => ⟨pdec_all dk_352, rfl, fun h => absurd h (by decide +kernel), by decide +kernel⟩
  | 3, _, _ => ⟨pdec_all dk_353, rfl, fun h => absurd h (by decide +kernel), by decide +kernel⟩
  | 4, _, _ => ⟨pdec_all dk_354, rfl, fun h => absurd h (by decide +kernel), by decide +kernel⟩
  | 5, _, _ => ⟨pdec_all dk_355, rfl, fun h => absurd h (by decide +kernel), by decide +kernel⟩
  | 6, _, _ => ⟨pdec_all dk_356, rfl, fun h => absurd h (by decide +kernel), by decide +kernel⟩
  | 7, _, _ => ⟨pdec_all dk_357, rfl, fun h => absurd h (by decide +kernel), by decide +kernel⟩
  | 8, _, _ => ⟨pdec_all dk_358, rfl, fun h => absurd h (by decide +kernel), by decide +kernel⟩
  | 9, _, _ => ⟨pdec_all dk_359, rfl, fun h => absurd h (by decide +kernel), by decide +kernel⟩
  | 10, _, _ => ⟨pdec_all dk_360, rfl, fun h => absurd h (by decide +kernel), by decide +kernel⟩
  | 11, _, h => absurd rfl h
  | 12, _, h => absurd rfl h
  | n + 13, h, _ => absurd h (by omega)
set_option maxRecDepth 100000 in
theorem mok : ∀ id, pNN.1 id ≠ [] → pMOK pMM pNN id := by
  intro id h
  by_cases hid : id < 363
  · have hh : (∃ j, j < 25 ∧ id = 0 + j) ∨ (∃ j, j < 25 ∧ id = 25 + j) ∨ (∃ j, j < 25 ∧ id = 50 + j) ∨ (∃ j, j < 25 ∧ id = 75 + j) ∨ (∃ j, j < 25 ∧ id = 100 + j) ∨ (∃ j, j < 25 ∧ id = 125 + j) ∨ (∃ j, j < 25 ∧ id = 150 + j) ∨ (∃ j, j < 25 ∧ id = 175 + j) ∨ (∃ j, j < 25 ∧ id = 200 + j) ∨ (∃ j, j < 25 ∧ id = 225 + j) ∨ (∃ j, j < 25 ∧ id = 250 + j) ∨ (∃ j, j < 25 ∧ id = 275 + j) ∨ (∃ j, j < 25 ∧ id = 300 + j) ∨ (∃ j, j < 25 ∧ id = 325 + j) ∨ (∃ j, j < 13 ∧ id = 350 + j) := by
      by_cases h0 : id < 25
      · exact Or.inl ⟨id - 0, by omega, by omega⟩
      by_cases h1 : id < 50
      · exact Or.inr (Or.inl ⟨id - 25, by omega, by omega⟩)
      by_cases h2 : id < 75
      · exact Or.inr (Or.inr (Or.inl ⟨id - 50, by omega, by omega⟩))
      by_cases h3 : id < 100
      · exact Or.inr (Or.inr (Or.inr (Or.inl ⟨id - 75, by omega, by omega⟩)))
      by_cases h4 : id < 125
      · exact Or.inr (Or.inr (Or.inr (Or.inr (Or.inl ⟨id - 100, by omega, by omega⟩))))
      by_cases h5 : id < 150
      · exact Or.inr (Or.inr (Or.inr (Or.inr (Or.inr (Or.inl ⟨id - 125, by omega, by omega⟩)))))
      by_cases h6 : id < 175
      · exact Or.inr (Or.inr (Or.inr (Or.inr (Or.inr (Or.inr (Or.inl ⟨id - 150, by omega, by omega⟩))))))
      by_cases h7 : id < 200
      · exact Or.inr (Or.inr (Or.inr (Or.inr (Or.inr (Or.inr (Or.inr (Or.inl ⟨id - 175, by omega, by omega⟩)))))))
      by_cases h8 : id < 225
      · exact Or.inr (Or.inr (Or.inr (Or.inr (Or.inr (Or.inr (Or.inr (Or.inr (Or.inl ⟨id - 200, by omega, by omega⟩))))))))
      by_cases h9 : id < 250
      · exact Or.inr (Or.inr (Or.inr (Or.inr (Or.inr (Or.inr (Or.inr (Or.inr (Or.inr (Or.inl ⟨id - 225, by omega, by omega⟩)))))))))
      by_cases h10 : id < 275
      · exact Or.inr (Or.inr (Or.inr (Or.inr (Or.inr (Or.inr (Or.inr (Or.inr (Or.inr (Or.inr (Or.inl ⟨id - 250, by omega, by omega⟩))))))))))
      by_cases h11 : id < 300
      · exact Or.inr (Or.inr (Or.inr (Or.inr (Or.inr (Or.inr (Or.inr (Or.inr (Or.inr (Or.inr (Or.inr (Or.inl ⟨id - 275, by omega, by omega⟩)))))))))))
      by_cases h12 : id < 325
      · exact Or.inr (Or.inr (Or.inr (Or.inr (Or.inr (Or.inr (Or.inr (Or.inr (Or.inr (Or.inr (Or.inr (Or.inr (Or.inl ⟨id - 300, by omega, by omega⟩))))))))))))
      by_cases h13 : id < 350
      · exact Or.inr (Or.inr (Or.inr (Or.inr (Or.inr (Or.inr (Or.inr (Or.inr (Or.inr (Or.inr (Or.inr (Or.inr (Or.inr (Or.inl ⟨id - 325, by omega, by omega⟩)))))))))))))
      · exact Or.inr (Or.inr (Or.inr (Or.inr (Or.inr (Or.inr (Or.inr (Or.inr (Or.inr (Or.inr (Or.inr (Or.inr (Or.inr (Or.inr (⟨id - 350, by omega, by omega⟩))))))))))))))
    rcases hh with ⟨j, hj, rfl⟩ | ⟨j, hj, rfl⟩ | ⟨j, hj, rfl⟩ | ⟨j, hj, rfl⟩ | ⟨j, hj, rfl⟩ | ⟨j, hj, rfl⟩ | ⟨j, hj, rfl⟩ | ⟨j, hj, rfl⟩ | ⟨j, hj, rfl⟩ | ⟨j, hj, rfl⟩ | ⟨j, hj, rfl⟩ | ⟨j, hj, rfl⟩ | ⟨j, hj, rfl⟩ | ⟨j, hj, rfl⟩ | ⟨j, hj, rfl⟩
    · exact mok_0 j hj h
    · exact mok_25 j hj h
    · exact mok_50 j hj h
    · exact mok_75 j hj h
    · exact mok_100 j hj h
    · exact mok_125 j hj h
    · exact mok_150 j hj h
    · exact mok_175 j hj h
    · exact mok_200 j hj h
    · exact mok_225 j hj h
    · exact mok_250 j hj h
    · exact mok_275 j hj h
    · exact mok_300 j hj h
    · exact mok_325 j hj h
    · exact mok_350 j hj h
  · exact absurd (show cds.getD id [] = [] by rw [List.getD_eq_getElem?_getD, List.getElem?_eq_none (by simp [cds]; omega)]; rfl) h
