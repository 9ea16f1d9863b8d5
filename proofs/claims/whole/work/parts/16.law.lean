/-! THE LAW OUT OF ITS PURE RUN -/
abbrev gvC : List Jvm.Cond := flatC (Jvm.Cond.and given_1 narrow_1)
def ptm (i : Nat) : Term := .string "LampRounds$Reader" (psix.getD i 0)
set_option maxRecDepth 100000 in
theorem gv_ex : ∀ i, i < 12 → Cond.exactly (ptm i) "java/lang/String" ∈ gvC
  | 0, _ => List.mem_of_getElem? (i := 35) rfl
  | 1, _ => List.mem_of_getElem? (i := 44) rfl
  | 2, _ => List.mem_of_getElem? (i := 52) rfl
  | 3, _ => List.mem_of_getElem? (i := 62) rfl
  | 4, _ => List.mem_of_getElem? (i := 76) rfl
  | 5, _ => List.mem_of_getElem? (i := 88) rfl
  | 6, _ => List.mem_of_getElem? (i := 101) rfl
  | 7, _ => List.mem_of_getElem? (i := 116) rfl
  | 8, _ => List.mem_of_getElem? (i := 130) rfl
  | 9, _ => List.mem_of_getElem? (i := 149) rfl
  | 10, _ => List.mem_of_getElem? (i := 164) rfl
  | 11, _ => List.mem_of_getElem? (i := 180) rfl
  | n + 12, h => absurd h (by omega)
set_option maxRecDepth 100000 in
theorem gv_co : ∀ i, i < 12 → Cond.eq (.field (ptm i) "java/lang/String" "coder" "B") (.int 0) ∈ gvC
  | 0, _ => List.mem_of_getElem? (i := 36) rfl
  | 1, _ => List.mem_of_getElem? (i := 45) rfl
  | 2, _ => List.mem_of_getElem? (i := 53) rfl
  | 3, _ => List.mem_of_getElem? (i := 63) rfl
  | 4, _ => List.mem_of_getElem? (i := 77) rfl
  | 5, _ => List.mem_of_getElem? (i := 89) rfl
  | 6, _ => List.mem_of_getElem? (i := 102) rfl
  | 7, _ => List.mem_of_getElem? (i := 117) rfl
  | 8, _ => List.mem_of_getElem? (i := 131) rfl
  | 9, _ => List.mem_of_getElem? (i := 150) rfl
  | 10, _ => List.mem_of_getElem? (i := 165) rfl
  | 11, _ => List.mem_of_getElem? (i := 181) rfl
  | n + 12, h => absurd h (by omega)
set_option maxRecDepth 100000 in
theorem gv_ar : ∀ i, i < 12 → Cond.arrayOf (.field (ptm i) "java/lang/String" "value" "[B") .byte ∈ gvC
  | 0, _ => List.mem_of_getElem? (i := 37) rfl
  | 1, _ => List.mem_of_getElem? (i := 46) rfl
  | 2, _ => List.mem_of_getElem? (i := 54) rfl
  | 3, _ => List.mem_of_getElem? (i := 64) rfl
  | 4, _ => List.mem_of_getElem? (i := 78) rfl
  | 5, _ => List.mem_of_getElem? (i := 90) rfl
  | 6, _ => List.mem_of_getElem? (i := 103) rfl
  | 7, _ => List.mem_of_getElem? (i := 118) rfl
  | 8, _ => List.mem_of_getElem? (i := 132) rfl
  | 9, _ => List.mem_of_getElem? (i := 151) rfl
  | 10, _ => List.mem_of_getElem? (i := 166) rfl
  | 11, _ => List.mem_of_getElem? (i := 182) rfl
  | n + 12, h => absurd h (by omega)
set_option maxRecDepth 100000 in
theorem gv_le : ∀ i, i < 12 → Cond.eq (.length (.field (ptm i) "java/lang/String" "value" "[B")) (.int (Int32.ofNat (plen.getD i 0))) ∈ gvC
  | 0, _ => List.mem_of_getElem? (i := 38) rfl
  | 1, _ => List.mem_of_getElem? (i := 47) rfl
  | 2, _ => List.mem_of_getElem? (i := 55) rfl
  | 3, _ => List.mem_of_getElem? (i := 65) rfl
  | 4, _ => List.mem_of_getElem? (i := 79) rfl
  | 5, _ => List.mem_of_getElem? (i := 91) rfl
  | 6, _ => List.mem_of_getElem? (i := 104) rfl
  | 7, _ => List.mem_of_getElem? (i := 119) rfl
  | 8, _ => List.mem_of_getElem? (i := 133) rfl
  | 9, _ => List.mem_of_getElem? (i := 152) rfl
  | 10, _ => List.mem_of_getElem? (i := 167) rfl
  | 11, _ => List.mem_of_getElem? (i := 183) rfl
  | n + 12, h => absurd h (by omega)
set_option maxRecDepth 100000 in
theorem gv_el0 : ∀ j, j < 5 → Cond.eq (.elem (.field (ptm 0) "java/lang/String" "value" "[B") (.int (Int32.ofNat j))) (.int ((pbyt.getD 0 []).getD j 0)) ∈ gvC
  | 0, _ => List.mem_of_getElem? (i := 39) rfl
  | 1, _ => List.mem_of_getElem? (i := 40) rfl
  | 2, _ => List.mem_of_getElem? (i := 41) rfl
  | 3, _ => List.mem_of_getElem? (i := 42) rfl
  | 4, _ => List.mem_of_getElem? (i := 43) rfl
  | n + 5, h => absurd h (by omega)
set_option maxRecDepth 100000 in
theorem gv_el1 : ∀ j, j < 3 → Cond.eq (.elem (.field (ptm 1) "java/lang/String" "value" "[B") (.int (Int32.ofNat j))) (.int ((pbyt.getD 1 []).getD j 0)) ∈ gvC
  | 0, _ => List.mem_of_getElem? (i := 48) rfl
  | 1, _ => List.mem_of_getElem? (i := 49) rfl
  | 2, _ => List.mem_of_getElem? (i := 50) rfl
  | n + 3, h => absurd h (by omega)
set_option maxRecDepth 100000 in
theorem gv_el2 : ∀ j, j < 4 → Cond.eq (.elem (.field (ptm 2) "java/lang/String" "value" "[B") (.int (Int32.ofNat j))) (.int ((pbyt.getD 2 []).getD j 0)) ∈ gvC
  | 0, _ => List.mem_of_getElem? (i := 56) rfl
  | 1, _ => List.mem_of_getElem? (i := 57) rfl
  | 2, _ => List.mem_of_getElem? (i := 58) rfl
  | 3, _ => List.mem_of_getElem? (i := 59) rfl
  | n + 4, h => absurd h (by omega)
set_option maxRecDepth 100000 in
theorem gv_el3 : ∀ j, j < 7 → Cond.eq (.elem (.field (ptm 3) "java/lang/String" "value" "[B") (.int (Int32.ofNat j))) (.int ((pbyt.getD 3 []).getD j 0)) ∈ gvC
  | 0, _ => List.mem_of_getElem? (i := 66) rfl
  | 1, _ => List.mem_of_getElem? (i := 67) rfl
  | 2, _ => List.mem_of_getElem? (i := 68) rfl
  | 3, _ => List.mem_of_getElem? (i := 69) rfl
  | 4, _ => List.mem_of_getElem? (i := 70) rfl
  | 5, _ => List.mem_of_getElem? (i := 71) rfl
  | 6, _ => List.mem_of_getElem? (i := 72) rfl
  | n + 7, h => absurd h (by omega)
set_option maxRecDepth 100000 in
theorem gv_el4 : ∀ j, j < 4 → Cond.eq (.elem (.field (ptm 4) "java/lang/String" "value" "[B") (.int (Int32.ofNat j))) (.int ((pbyt.getD 4 []).getD j 0)) ∈ gvC
  | 0, _ => List.mem_of_getElem? (i := 80) rfl
  | 1, _ => List.mem_of_getElem? (i := 81) rfl
  | 2, _ => List.mem_of_getElem? (i := 82) rfl
  | 3, _ => List.mem_of_getElem? (i := 83) rfl
  | n + 4, h => absurd h (by omega)
set_option maxRecDepth 100000 in
theorem gv_el5 : ∀ j, j < 4 → Cond.eq (.elem (.field (ptm 5) "java/lang/String" "value" "[B") (.int (Int32.ofNat j))) (.int ((pbyt.getD 5 []).getD j 0)) ∈ gvC
  | 0, _ => List.mem_of_getElem? (i := 92) rfl
  | 1, _ => List.mem_of_getElem? (i := 93) rfl
  | 2, _ => List.mem_of_getElem? (i := 94) rfl
  | 3, _ => List.mem_of_getElem? (i := 95) rfl
  | n + 4, h => absurd h (by omega)
set_option maxRecDepth 100000 in
theorem gv_el6 : ∀ j, j < 5 → Cond.eq (.elem (.field (ptm 6) "java/lang/String" "value" "[B") (.int (Int32.ofNat j))) (.int ((pbyt.getD 6 []).getD j 0)) ∈ gvC
  | 0, _ => List.mem_of_getElem? (i := 105) rfl
  | 1, _ => List.mem_of_getElem? (i := 106) rfl
  | 2, _ => List.mem_of_getElem? (i := 107) rfl
  | 3, _ => List.mem_of_getElem? (i := 108) rfl
  | 4, _ => List.mem_of_getElem? (i := 109) rfl
  | n + 5, h => absurd h (by omega)
set_option maxRecDepth 100000 in
theorem gv_el7 : ∀ j, j < 3 → Cond.eq (.elem (.field (ptm 7) "java/lang/String" "value" "[B") (.int (Int32.ofNat j))) (.int ((pbyt.getD 7 []).getD j 0)) ∈ gvC
  | 0, _ => List.mem_of_getElem? (i := 120) rfl
  | 1, _ => List.mem_of_getElem? (i := 121) rfl
  | 2, _ => List.mem_of_getElem? (i := 122) rfl
  | n + 3, h => absurd h (by omega)
set_option maxRecDepth 100000 in
theorem gv_el8 : ∀ j, j < 7 → Cond.eq (.elem (.field (ptm 8) "java/lang/String" "value" "[B") (.int (Int32.ofNat j))) (.int ((pbyt.getD 8 []).getD j 0)) ∈ gvC
  | 0, _ => List.mem_of_getElem? (i := 134) rfl
  | 1, _ => List.mem_of_getElem? (i := 135) rfl
  | 2, _ => List.mem_of_getElem? (i := 136) rfl
  | 3, _ => List.mem_of_getElem? (i := 137) rfl
  | 4, _ => List.mem_of_getElem? (i := 138) rfl
  | 5, _ => List.mem_of_getElem? (i := 139) rfl
  | 6, _ => List.mem_of_getElem? (i := 140) rfl
  | n + 7, h => absurd h (by omega)
set_option maxRecDepth 100000 in
theorem gv_el9 : ∀ j, j < 2 → Cond.eq (.elem (.field (ptm 9) "java/lang/String" "value" "[B") (.int (Int32.ofNat j))) (.int ((pbyt.getD 9 []).getD j 0)) ∈ gvC
  | 0, _ => List.mem_of_getElem? (i := 153) rfl
  | 1, _ => List.mem_of_getElem? (i := 154) rfl
  | n + 2, h => absurd h (by omega)
set_option maxRecDepth 100000 in
theorem gv_el10 : ∀ j, j < 2 → Cond.eq (.elem (.field (ptm 10) "java/lang/String" "value" "[B") (.int (Int32.ofNat j))) (.int ((pbyt.getD 10 []).getD j 0)) ∈ gvC
  | 0, _ => List.mem_of_getElem? (i := 168) rfl
  | 1, _ => List.mem_of_getElem? (i := 169) rfl
  | n + 2, h => absurd h (by omega)
set_option maxRecDepth 100000 in
theorem gv_el11 : ∀ j, j < 5 → Cond.eq (.elem (.field (ptm 11) "java/lang/String" "value" "[B") (.int (Int32.ofNat j))) (.int ((pbyt.getD 11 []).getD j 0)) ∈ gvC
  | 0, _ => List.mem_of_getElem? (i := 184) rfl
  | 1, _ => List.mem_of_getElem? (i := 185) rfl
  | 2, _ => List.mem_of_getElem? (i := 186) rfl
  | 3, _ => List.mem_of_getElem? (i := 187) rfl
  | 4, _ => List.mem_of_getElem? (i := 188) rfl
  | n + 5, h => absurd h (by omega)
theorem gv_el : ∀ i, i < 12 → ∀ j, j < plen.getD i 0 → Cond.eq (.elem (.field (ptm i) "java/lang/String" "value" "[B") (.int (Int32.ofNat j))) (.int ((pbyt.getD i []).getD j 0)) ∈ gvC
  | 0, _, j, hj => gv_el0 j hj
  | 1, _, j, hj => gv_el1 j hj
  | 2, _, j, hj => gv_el2 j hj
  | 3, _, j, hj => gv_el3 j hj
  | 4, _, j, hj => gv_el4 j hj
  | 5, _, j, hj => gv_el5 j hj
  | 6, _, j, hj => gv_el6 j hj
  | 7, _, j, hj => gv_el7 j hj
  | 8, _, j, hj => gv_el8 j hj
  | 9, _, j, hj => gv_el9 j hj
  | 10, _, j, hj => gv_el10 j hj
  | 11, _, j, hj => gv_el11 j hj
  | n + 12, h, _, _ => absurd h (by omega)
set_option maxRecDepth 100000 in
set_option maxHeartbeats 4000000 in
theorem gv_ne : ∀ i j, i < j → j < 12 → Cond.not (Cond.eq (ptm i) (ptm j)) ∈ gvC
  | 0, 1, _, _ => List.mem_of_getElem? (i := 51) rfl
  | 0, 2, _, _ => List.mem_of_getElem? (i := 60) rfl
  | 0, 3, _, _ => List.mem_of_getElem? (i := 73) rfl
  | 0, 4, _, _ => List.mem_of_getElem? (i := 84) rfl
  | 0, 5, _, _ => List.mem_of_getElem? (i := 96) rfl
  | 0, 6, _, _ => List.mem_of_getElem? (i := 110) rfl
  | 0, 7, _, _ => List.mem_of_getElem? (i := 123) rfl
  | 0, 8, _, _ => List.mem_of_getElem? (i := 141) rfl
  | 0, 9, _, _ => List.mem_of_getElem? (i := 155) rfl
  | 0, 10, _, _ => List.mem_of_getElem? (i := 170) rfl
  | 0, 11, _, _ => List.mem_of_getElem? (i := 189) rfl
  | 1, 2, _, _ => List.mem_of_getElem? (i := 61) rfl
  | 1, 3, _, _ => List.mem_of_getElem? (i := 74) rfl
  | 1, 4, _, _ => List.mem_of_getElem? (i := 85) rfl
  | 1, 5, _, _ => List.mem_of_getElem? (i := 97) rfl
  | 1, 6, _, _ => List.mem_of_getElem? (i := 111) rfl
  | 1, 7, _, _ => List.mem_of_getElem? (i := 124) rfl
  | 1, 8, _, _ => List.mem_of_getElem? (i := 142) rfl
  | 1, 9, _, _ => List.mem_of_getElem? (i := 156) rfl
  | 1, 10, _, _ => List.mem_of_getElem? (i := 171) rfl
  | 1, 11, _, _ => List.mem_of_getElem? (i := 190) rfl
  | 2, 3, _, _ => List.mem_of_getElem? (i := 75) rfl
  | 2, 4, _, _ => List.mem_of_getElem? (i := 86) rfl
  | 2, 5, _, _ => List.mem_of_getElem? (i := 98) rfl
  | 2, 6, _, _ => List.mem_of_getElem? (i := 112) rfl
  | 2, 7, _, _ => List.mem_of_getElem? (i := 125) rfl
  | 2, 8, _, _ => List.mem_of_getElem? (i := 143) rfl
  | 2, 9, _, _ => List.mem_of_getElem? (i := 157) rfl
  | 2, 10, _, _ => List.mem_of_getElem? (i := 172) rfl
  | 2, 11, _, _ => List.mem_of_getElem? (i := 191) rfl
  | 3, 4, _, _ => List.mem_of_getElem? (i := 87) rfl
  | 3, 5, _, _ => List.mem_of_getElem? (i := 99) rfl
  | 3, 6, _, _ => List.mem_of_getElem? (i := 113) rfl
  | 3, 7, _, _ => List.mem_of_getElem? (i := 126) rfl
  | 3, 8, _, _ => List.mem_of_getElem? (i := 144) rfl
  | 3, 9, _, _ => List.mem_of_getElem? (i := 158) rfl
  | 3, 10, _, _ => List.mem_of_getElem? (i := 173) rfl
  | 3, 11, _, _ => List.mem_of_getElem? (i := 192) rfl
  | 4, 5, _, _ => List.mem_of_getElem? (i := 100) rfl
  | 4, 6, _, _ => List.mem_of_getElem? (i := 114) rfl
  | 4, 7, _, _ => List.mem_of_getElem? (i := 127) rfl
  | 4, 8, _, _ => List.mem_of_getElem? (i := 145) rfl
  | 4, 9, _, _ => List.mem_of_getElem? (i := 159) rfl
  | 4, 10, _, _ => List.mem_of_getElem? (i := 174) rfl
  | 4, 11, _, _ => List.mem_of_getElem? (i := 193) rfl
  | 5, 6, _, _ => List.mem_of_getElem? (i := 115) rfl
  | 5, 7, _, _ => List.mem_of_getElem? (i := 128) rfl
  | 5, 8, _, _ => List.mem_of_getElem? (i := 146) rfl
  | 5, 9, _, _ => List.mem_of_getElem? (i := 160) rfl
  | 5, 10, _, _ => List.mem_of_getElem? (i := 175) rfl
  | 5, 11, _, _ => List.mem_of_getElem? (i := 194) rfl
  | 6, 7, _, _ => List.mem_of_getElem? (i := 129) rfl
  | 6, 8, _, _ => List.mem_of_getElem? (i := 147) rfl
  | 6, 9, _, _ => List.mem_of_getElem? (i := 161) rfl
  | 6, 10, _, _ => List.mem_of_getElem? (i := 176) rfl
  | 6, 11, _, _ => List.mem_of_getElem? (i := 195) rfl
  | 7, 8, _, _ => List.mem_of_getElem? (i := 148) rfl
  | 7, 9, _, _ => List.mem_of_getElem? (i := 162) rfl
  | 7, 10, _, _ => List.mem_of_getElem? (i := 177) rfl
  | 7, 11, _, _ => List.mem_of_getElem? (i := 196) rfl
  | 8, 9, _, _ => List.mem_of_getElem? (i := 163) rfl
  | 8, 10, _, _ => List.mem_of_getElem? (i := 178) rfl
  | 8, 11, _, _ => List.mem_of_getElem? (i := 197) rfl
  | 9, 10, _, _ => List.mem_of_getElem? (i := 179) rfl
  | 9, 11, _, _ => List.mem_of_getElem? (i := 198) rfl
  | 10, 11, _, _ => List.mem_of_getElem? (i := 199) rfl
  | 0, 0, h, _ => absurd h (by omega)
  | 1, 0, h, _ => absurd h (by omega)
  | 1, 1, h, _ => absurd h (by omega)
  | 2, 0, h, _ => absurd h (by omega)
  | 2, 1, h, _ => absurd h (by omega)
  | 2, 2, h, _ => absurd h (by omega)
  | 3, 0, h, _ => absurd h (by omega)
  | 3, 1, h, _ => absurd h (by omega)
  | 3, 2, h, _ => absurd h (by omega)
  | 3, 3, h, _ => absurd h (by omega)
  | 4, 0, h, _ => absurd h (by omega)
  | 4, 1, h, _ => absurd h (by omega)
  | 4, 2, h, _ => absurd h (by omega)
  | 4, 3, h, _ => absurd h (by omega)
  | 4, 4, h, _ => absurd h (by omega)
  | 5, 0, h, _ => absurd h (by omega)
  | 5, 1, h, _ => absurd h (by omega)
  | 5, 2, h, _ => absurd h (by omega)
  | 5, 3, h, _ => absurd h (by omega)
  | 5, 4, h, _ => absurd h (by omega)
  | 5, 5, h, _ => absurd h (by omega)
  | 6, 0, h, _ => absurd h (by omega)
  | 6, 1, h, _ => absurd h (by omega)
  | 6, 2, h, _ => absurd h (by omega)
  | 6, 3, h, _ => absurd h (by omega)
  | 6, 4, h, _ => absurd h (by omega)
  | 6, 5, h, _ => absurd h (by omega)
  | 6, 6, h, _ => absurd h (by omega)
  | 7, 0, h, _ => absurd h (by omega)
  | 7, 1, h, _ => absurd h (by omega)
  | 7, 2, h, _ => absurd h (by omega)
  | 7, 3, h, _ => absurd h (by omega)
  | 7, 4, h, _ => absurd h (by omega)
  | 7, 5, h, _ => absurd h (by omega)
  | 7, 6, h, _ => absurd h (by omega)
  | 7, 7, h, _ => absurd h (by omega)
  | 8, 0, h, _ => absurd h (by omega)
  | 8, 1, h, _ => absurd h (by omega)
  | 8, 2, h, _ => absurd h (by omega)
  | 8, 3, h, _ => absurd h (by omega)
  | 8, 4, h, _ => absurd h (by omega)
  | 8, 5, h, _ => absurd h (by omega)
  | 8, 6, h, _ => absurd h (by omega)
  | 8, 7, h, _ => absurd h (by omega)
  | 8, 8, h, _ => absurd h (by omega)
  | 9, 0, h, _ => absurd h (by omega)
  | 9, 1, h, _ => absurd h (by omega)
  | 9, 2, h, _ => absurd h (by omega)
  | 9, 3, h, _ => absurd h (by omega)
  | 9, 4, h, _ => absurd h (by omega)
  | 9, 5, h, _ => absurd h (by omega)
  | 9, 6, h, _ => absurd h (by omega)
  | 9, 7, h, _ => absurd h (by omega)
  | 9, 8, h, _ => absurd h (by omega)
  | 9, 9, h, _ => absurd h (by omega)
  | 10, 0, h, _ => absurd h (by omega)
  | 10, 1, h, _ => absurd h (by omega)
  | 10, 2, h, _ => absurd h (by omega)
  | 10, 3, h, _ => absurd h (by omega)
  | 10, 4, h, _ => absurd h (by omega)
  | 10, 5, h, _ => absurd h (by omega)
  | 10, 6, h, _ => absurd h (by omega)
  | 10, 7, h, _ => absurd h (by omega)
  | 10, 8, h, _ => absurd h (by omega)
  | 10, 9, h, _ => absurd h (by omega)
  | 10, 10, h, _ => absurd h (by omega)
  | 11, 0, h, _ => absurd h (by omega)
  | 11, 1, h, _ => absurd h (by omega)
  | 11, 2, h, _ => absurd h (by omega)
  | 11, 3, h, _ => absurd h (by omega)
  | 11, 4, h, _ => absurd h (by omega)
  | 11, 5, h, _ => absurd h (by omega)
  | 11, 6, h, _ => absurd h (by omega)
  | 11, 7, h, _ => absurd h (by omega)
  | 11, 8, h, _ => absurd h (by omega)
  | 11, 9, h, _ => absurd h (by omega)
  | 11, 10, h, _ => absurd h (by omega)
  | 11, 11, h, _ => absurd h (by omega)
  | n + 12, _, h, h2 => absurd h (by omega)
  | _, n + 12, _, h2 => absurd h2 (by omega)
set_option maxRecDepth 100000 in
theorem gv_cs : (Cond.eq (Term.static "java/lang/String" "COMPACT_STRINGS" "Z") (Term.int (1 : Int32))) ∈ gvC := List.mem_of_getElem? (i := 4) rfl
set_option maxRecDepth 100000 in
theorem gv_sf : (Cond.isRef (Term.static "jdk/internal/util/Preconditions" "SIOOBE_FORMATTER" "Ljava/util/function/BiFunction;")) ∈ gvC := List.mem_of_getElem? (i := 5) rfl
theorem ls_cs : Cond.laysStatic "java/lang/String" "COMPACT_STRINGS" "Z" ∈ lw_tbl := mr3 3 rfl
theorem ls_sf : Cond.laysStatic "jdk/internal/util/Preconditions" "SIOOBE_FORMATTER" "Ljava/util/function/BiFunction;" ∈ lw_tbl := mr3 19 rfl
-- from the skeleton: the law's own end, its entry
def R_law : String := "LampRoundsLaw"
def lw_P (b : Addr) (xs : List Int32) (args : Array Value) (s : State) : Prop := args = #[.ref b] ∧ s.IntsAt b xs ∧ xs.length ≤ 384 ∧ (Jvm.Cond.and given_1 narrow_1).before args s = true
def lw_Q (_ : Array Value) (s : State) (o : Outcome) (t : State) : Prop := o = .returned (some (.int 1)) ∧ Framed s o t [] 600000 7302250
def lw_Z (below : List Frame) (a : Array Value) (s : State) : State → Prop := fun t => ∃ o, t.status = .running ∧ Ended t below o ∧ lw_Q a s o t
/-- the law's own end, with 1 on the stack, nothing written that was there before, its room as the claim has it -/
theorem lw_ret {p : Program} {l : Launch} {e : Env} {s : State} {m : MethodId} {below : List Frame} {meth : Method} {c : Code} {b : Nat} (hx : p.tables.exec = Jvm.exec) (hb : c.code = code) (hr : meth.sig.returnType = ret) (hlocks : meth.locks = false) {pc : Nat} {H : Heap} {ls : Array Slot} (hdg : decode code pc = .ok (.ireturn, 1)) : W p l e room_1 s m #[Value.ref b] below meth c H [] 600000 7302250 (lw_Z below #[Value.ref b] s) (F0 m pc ls [.int 1]) := by
  intro T hT X
  obtain ⟨fs, hret, hrun, hended, hW, hframe⟩ := X.leave (v := some (.int 1)) (hlocks := hlocks) (fun h => by rw [hr] at h; cases h)
  have hmeth' : T.vm.method? m = some meth := X.method'
  refine ⟨T.setFrames fs, ?_, .returned (some (.int 1)), hrun, hended, rfl, ⟨_, rfl⟩, hW, hframe⟩
  jvm_step X.here [X.here.top, hx, hb, hdg, hmeth', hr, ret, narrow_b1]
  (try refine ⟨rfl, ?_⟩); (try refine ⟨rfl, ?_⟩)
  first | (intro acts; rw [hret _ acts rfl rfl rfl]) | rw [hret _ _ rfl rfl rfl]
  exact Steps.refl _
/-- what holds at the law's entry: the machine, the code, the tables' words (any of lw_tbl by 'hts w (by decide +kernel)'), the script of L ints xs at the cell b, what the Statement gives of the start (any of its parts by flat_of_before) -/
def lw_At (p : Program) (s : State) (m : MethodId) (meth : Method) (c : Code) (b L : Nat) (xs : Nat → Int32) : Prop :=
  p.tables.exec = Jvm.exec ∧ c.code = code ∧ meth.sig.returnType = ret ∧ c.maxLocals = 4 ∧ s.vm.findClass R_law = some m.cls ∧ (∀ w ∈ lw_tbl, w.before #[Value.ref b] s = true) ∧ va_X b L xs s s.heap ∧ b < s.heap.size ∧ meth.locks = false ∧ (Jvm.Cond.and given_1 narrow_1).before #[Value.ref b] s = true

theorem wsU_tbl {w : Cond} (h : w ∈ wsU) : w ∈ lw_tbl := (List.mem_filter.mp h).1
/-- what the Statement gives of the start, as the pure machine takes it -/
theorem pKU_start {p : Program} {s : State} {m : MethodId} {meth : Method} {c : Code} {b L : Nat} {xs : Nat → Int32} (C0 : lw_At p s m meth c b L xs) : ∃ (fo adV : Nat → Nat) (D : va_G) (cA : Nat → ClassId), fo 0 = b ∧ pKU s.heap.size fo adV L xs D cA s := by
  obtain ⟨hx, hb, hr, hml, hown, hts, hX, hbl, hlocks, hgv⟩ := id C0
  have hU : ∀ w ∈ wsU, w.before #[Value.ref b] s = true := fun w hw => hts w (wsU_tbl hw)
  have hg := flat_of_before _ hgv
  have hA : ∀ a : Nat, a < s.heap.size → ¬ (fun q => s.heap.size ≤ q) a := fun a h => Nat.not_le.mpr h
  have hD : ∀ c, ∃ q : ClassId × (Nat → Nat), c < 13 → u_Kn s (cN c) (cT c) (cZ c) q.1 q.2 := by
    intro c
    by_cases hc : c < 13
    · obtain ⟨cC, iS, h⟩ := u_known hU (iwC c hc) (hU _ (insC c hc))
      exact ⟨(cC, iS), fun _ => h⟩
    · exact ⟨(0, fun _ => 0), fun h => absurd h hc⟩
  obtain ⟨dD, hdD⟩ := Classical.axiomOfChoice hD
  obtain ⟨cI, kI, mI_, i1, i2, i3⟩ := Cond.arrayClass_spec (hU _ acU_I)
  obtain ⟨cJ, kJ, mJ, j1, j2, j3⟩ := Cond.arrayClass_spec (hU _ acU_J)
  obtain ⟨cB, kB, mB_, b1, b2, b3⟩ := Cond.arrayClass_spec (hU _ acU_B)
  obtain ⟨cZ_, kZ, mZ, z1, z2_, z3⟩ := Cond.arrayClass_spec (hU _ acU_Z)
  have hO1 : va_AO "LampRounds$Image" s := va_AO.of (hts _ aoU_Image)
  have hO2 : va_AO "LampRounds$Row" s := va_AO.of (hts _ aoU_Row)
  obtain ⟨mM, cM, kM, m1, -, m3, m4, m5⟩ := Cond.arrayOver_spec (hts _ aoU_Image)
  obtain ⟨mW, cW, kW, w1, -, w3, w4, w5⟩ := Cond.arrayOver_spec (hts _ aoU_Row)
  obtain ⟨adK, adV, hS, hev⟩ := vk_Sof (N := 12) (tm := ptm) (len := plen) (byt := pbyt) (A := fun q => s.heap.size ≤ q) (fun i hi => by have := (pbyt_ok i hi).1; omega) (fun i hi => hg _ (gv_ex i hi)) (fun i hi => hg _ (gv_co i hi)) (fun i hi => hg _ (gv_ar i hi)) (fun i hi => hg _ (gv_le i hi)) (fun i hi j hj => hg _ (gv_el i hi j hj)) (fun i j hi hj hij => by
    rcases Nat.lt_or_gt_of_ne hij with h | h
    · exact Or.inl (hg _ (gv_ne i j h hj))
    · exact Or.inr (hg _ (gv_ne j i h hi))) hA
  refine ⟨fun j => match j with | 0 => b | j + 1 => adK j, adV, (fun c => (dD c).1, fun c => (dD c).2), fun k => match k with | 0 => cI | 1 => cJ | 2 => cB | 3 => cZ_ | 4 => cM | _ => cW, rfl, ⟨?_, ?_⟩, ?_, ⟨hO1, hO2⟩, ?_, hS, hX, hbl, ?_, ?_⟩
  · intro c q hq
    have hc := cls_lt hq
    have e := (cls_at c hc).symm.trans hq
    cases e
    exact hdD c hc
  · intro k q hk
    match k, hk with
    | 0, hk => cases hk; exact ⟨fun n z => ⟨fun k h => (by cases h), kI, i2, mI_, i3⟩, i1⟩
    | 1, hk => cases hk; exact ⟨fun n z => ⟨fun k h => (by cases h), kJ, j2, mJ, j3⟩, j1⟩
    | 2, hk => cases hk; exact ⟨fun n z => ⟨fun k h => (by cases h), kB, b2, mB_, b3⟩, b1⟩
    | 3, hk => cases hk; exact ⟨fun n z => ⟨fun k h => (by cases h), kZ, z2_, mZ, z3⟩, z1⟩
    | 4, hk => cases hk; exact ⟨fun n z => ⟨fun k h => (by cases h), kM, m3, mM, m4⟩, kM, mM, m3, m4, m1, m5⟩
    | 5, hk => cases hk; exact ⟨fun n z => ⟨fun k h => (by cases h), kW, w3, mW, w4⟩, kW, mW, w3, w4, w1, w5⟩
    | n + 6, hk => simp [ptys] at hk
  · intro w hw
    obtain ⟨a, i, x, rfl⟩ := pnest_form w hw
    exact va_Nw.of rfl (hts _ (pnest_in _ hw))
  · intro j hj
    exact vk_R.of (hts _ (pstr_in j hj)) (hev j hj)
  · exact va_Zof (hts _ ls_cs) (hU _ iJ_S) (va_eqi (hg _ gv_cs)) hA
  · exact va_Zqof (hts _ ls_sf) (hU _ iJ_P) (hg _ gv_sf) hA
/-- the pure run of the law -/
noncomputable abbrev pEN (L : Nat) (xs : Nat → Int32) (d : Nat) : pV := pEnv pMM pNN L xs ppS d
noncomputable def plaw (L : Nat) (xs : Nat → Int32) (n : Nat) (x : pS) : Option pR := prun cd_law (stp (pEN L xs 1000) pMM.2.2.2.2 (pNN.2.1 13) 13 false 4 (some .boolean) L xs) n x
def ph0 : pH := ([], fun _ _ => 0, fun _ _ => 0, fun _ _ => none)
def PureLaw : Prop := ∀ (L : Nat) (xs : Nat → Int32), L ≤ 384 → ∃ (n : Nat) (h' : pH), plaw L xs n (0, pen 4 [.retAddr 0], [], ph0) = some (some (.int 1), h') ∧ h'.1.length ≤ 600000 ∧ psz h' ≤ 7302250
set_option maxHeartbeats 4000000 in
theorem whole_pure (HP : PureLaw) {p : Program} {e : Env} {s : State} {m : MethodId} {below : List Frame} {meth : Method} {c : Code} (l : Launch) {b L : Nat} {xs : Nat → Int32} (hL : L ≤ 384) (C0 : lw_At p s m meth c b L xs) : W p l e room_1 s m #[Value.ref b] below meth c s.heap [] 0 0 (lw_Z below #[Value.ref b] s) (entryFrame m ([Value.ref b] : List Value).toArray 4) := by
  obtain ⟨fo, adV, D, cA, hfo, hKU⟩ := pKU_start C0
  obtain ⟨n, h', hrun, hl1, hl2⟩ := HP L xs hL
  obtain ⟨hx, hb, hr, hml, hown, hts, hX, hbl, hlocks, hgv⟩ := id C0
  have hU : ∀ w ∈ wsU, w.before #[Value.ref b] s = true := fun w hw => hts w (wsU_tbl hw)
  have hE := env_ok (M := pMM) (N := pNN) (L := L) (xs := xs) (pp := ppS) (ppS_ok (L := L) (xs := xs)) rsk mok 1000
  have C : pC p room_1 s m #[Value.ref b] c code 4 13 s.heap.size fo adV L xs D cA 0 0 h'.1.length (psz h') := ⟨hx, hb, hml, hown, hU, hKU, rfl, ⟨by show h'.1.length - 0 ≤ 600000; omega, by show psz h' - 0 ≤ 7302250; omega⟩, by decide, by decide⟩
  have he : ([Value.ref b] : List Value) = ([.retAddr 0] : List Value).map (pcv s.heap.size fo) := by rw [← hfo]; rfl
  have hl := pL_entry (B := s.heap.size) (fo := fo) (vs := [.retAddr 0]) (nL := 4) (by decide)
  rw [lg_entry_eq]
  have hW := run_sound (r := (some (.int 1), h')) (p := p) (l := l) (e := e) (below := below) (meth := meth) (Q := lw_Z below #[Value.ref b] s) (ret := some .boolean) (ini := false) C hE ⟨by decide, by decide⟩ (fun h => by cases h) (fun idx r h => rsk 13 idx r h) dk_law ?_ n _ hrun (Nat.zero_le _) (Nat.zero_le _) s.heap [] _ (fun k q hk => by simp [ph0, pws] at hk) va_S.rf hl
  · rw [← he] at hW
    exact hW
  · intro i k x hs hn0 hdd H locs ls hP1 hS1 hl3
    have hp := pret_of hs
    obtain ⟨pc, lo, st, h1⟩ := x
    obtain ⟨hd1, hlen⟩ := hdd
    unfold pret at hp
    dsimp only at hp
    split at hp
    · rename_i hrt; cases hrt
    · rename_i ty v hrt
      cases hrt
      have hk : k = 1 := hlen
      subst hk
      split at hp
      · rename_i h; cases h
      · split at hp
        · cases hp
          refine va_forget (fun q hq => hS1.2.2 q hq) ?_
          refine W.widen (k := 600000) (n := 7302250) (by show h'.1.length - 0 ≤ 600000; omega) (by show psz h' - 0 ≤ 7302250; omega) ?_
          exact lw_ret hx hb hr hlocks hd1
        · cases hp
    · rename_i v hrt; cases hrt
    · rename_i cn v hrt; cases hrt
    · rename_i cn v hrt; cases hrt
    · cases hp

