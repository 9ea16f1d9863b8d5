/-! names, fields, words: printed by wip/whole/gen02.py out of the claim -/
def wsU : List Cond := lw_tbl.filter goodWord
theorem mt_ {w : Cond} (h : w ∈ tables_1) (g : goodWord w = true) : w ∈ wsU := List.mem_filter.mpr ⟨List.mem_append_right _ h, g⟩
theorem mt1 {w : Cond} (i : Nat) (e : tables_1_1[i]? = some w) (g : goodWord w = true := by rfl) : w ∈ wsU := by
  have h := List.mem_of_getElem? e
  exact mt_ (show w ∈ tables_1 from (List.mem_append_left _ h)) g
theorem mt2 {w : Cond} (i : Nat) (e : tables_1_2[i]? = some w) (g : goodWord w = true := by rfl) : w ∈ wsU := by
  have h := List.mem_of_getElem? e
  exact mt_ (show w ∈ tables_1 from (List.mem_append_right _ (List.mem_append_left _ h))) g
theorem mt3 {w : Cond} (i : Nat) (e : tables_1_3[i]? = some w) (g : goodWord w = true := by rfl) : w ∈ wsU := by
  have h := List.mem_of_getElem? e
  exact mt_ (show w ∈ tables_1 from (List.mem_append_right _ (List.mem_append_right _ (List.mem_append_left _ h)))) g
theorem mt4 {w : Cond} (i : Nat) (e : tables_1_4[i]? = some w) (g : goodWord w = true := by rfl) : w ∈ wsU := by
  have h := List.mem_of_getElem? e
  exact mt_ (show w ∈ tables_1 from (List.mem_append_right _ (List.mem_append_right _ (List.mem_append_right _ (List.mem_append_left _ h))))) g
theorem mt5 {w : Cond} (i : Nat) (e : tables_1_5[i]? = some w) (g : goodWord w = true := by rfl) : w ∈ wsU := by
  have h := List.mem_of_getElem? e
  exact mt_ (show w ∈ tables_1 from (List.mem_append_right _ (List.mem_append_right _ (List.mem_append_right _ (List.mem_append_right _ (List.mem_append_left _ h)))))) g
theorem mt6 {w : Cond} (i : Nat) (e : tables_1_6[i]? = some w) (g : goodWord w = true := by rfl) : w ∈ wsU := by
  have h := List.mem_of_getElem? e
  exact mt_ (show w ∈ tables_1 from (List.mem_append_right _ (List.mem_append_right _ (List.mem_append_right _ (List.mem_append_right _ (List.mem_append_right _ (List.mem_append_left _ h))))))) g
theorem mt7 {w : Cond} (i : Nat) (e : tables_1_7[i]? = some w) (g : goodWord w = true := by rfl) : w ∈ wsU := by
  have h := List.mem_of_getElem? e
  exact mt_ (show w ∈ tables_1 from (List.mem_append_right _ (List.mem_append_right _ (List.mem_append_right _ (List.mem_append_right _ (List.mem_append_right _ (List.mem_append_right _ (List.mem_append_left _ h)))))))) g
theorem mt8 {w : Cond} (i : Nat) (e : tables_1_8[i]? = some w) (g : goodWord w = true := by rfl) : w ∈ wsU := by
  have h := List.mem_of_getElem? e
  exact mt_ (show w ∈ tables_1 from (List.mem_append_right _ (List.mem_append_right _ (List.mem_append_right _ (List.mem_append_right _ (List.mem_append_right _ (List.mem_append_right _ (List.mem_append_right _ (List.mem_append_left _ h))))))))) g
theorem mt9 {w : Cond} (i : Nat) (e : tables_1_9[i]? = some w) (g : goodWord w = true := by rfl) : w ∈ wsU := by
  have h := List.mem_of_getElem? e
  exact mt_ (show w ∈ tables_1 from (List.mem_append_right _ (List.mem_append_right _ (List.mem_append_right _ (List.mem_append_right _ (List.mem_append_right _ (List.mem_append_right _ (List.mem_append_right _ (List.mem_append_right _ h))))))))) g
theorem mr1 {w : Cond} (i : Nat) (e : tables_1_1[i]? = some w) : w ∈ lw_tbl := by
  have h := List.mem_of_getElem? e
  exact List.mem_append_right _ (show w ∈ tables_1 from (List.mem_append_left _ h))
theorem mr2 {w : Cond} (i : Nat) (e : tables_1_2[i]? = some w) : w ∈ lw_tbl := by
  have h := List.mem_of_getElem? e
  exact List.mem_append_right _ (show w ∈ tables_1 from (List.mem_append_right _ (List.mem_append_left _ h)))
theorem mr3 {w : Cond} (i : Nat) (e : tables_1_3[i]? = some w) : w ∈ lw_tbl := by
  have h := List.mem_of_getElem? e
  exact List.mem_append_right _ (show w ∈ tables_1 from (List.mem_append_right _ (List.mem_append_right _ (List.mem_append_left _ h))))
theorem mr4 {w : Cond} (i : Nat) (e : tables_1_4[i]? = some w) : w ∈ lw_tbl := by
  have h := List.mem_of_getElem? e
  exact List.mem_append_right _ (show w ∈ tables_1 from (List.mem_append_right _ (List.mem_append_right _ (List.mem_append_right _ (List.mem_append_left _ h)))))
theorem mr5 {w : Cond} (i : Nat) (e : tables_1_5[i]? = some w) : w ∈ lw_tbl := by
  have h := List.mem_of_getElem? e
  exact List.mem_append_right _ (show w ∈ tables_1 from (List.mem_append_right _ (List.mem_append_right _ (List.mem_append_right _ (List.mem_append_right _ (List.mem_append_left _ h))))))
theorem mr6 {w : Cond} (i : Nat) (e : tables_1_6[i]? = some w) : w ∈ lw_tbl := by
  have h := List.mem_of_getElem? e
  exact List.mem_append_right _ (show w ∈ tables_1 from (List.mem_append_right _ (List.mem_append_right _ (List.mem_append_right _ (List.mem_append_right _ (List.mem_append_right _ (List.mem_append_left _ h)))))))
theorem mr7 {w : Cond} (i : Nat) (e : tables_1_7[i]? = some w) : w ∈ lw_tbl := by
  have h := List.mem_of_getElem? e
  exact List.mem_append_right _ (show w ∈ tables_1 from (List.mem_append_right _ (List.mem_append_right _ (List.mem_append_right _ (List.mem_append_right _ (List.mem_append_right _ (List.mem_append_right _ (List.mem_append_left _ h))))))))
theorem mr8 {w : Cond} (i : Nat) (e : tables_1_8[i]? = some w) : w ∈ lw_tbl := by
  have h := List.mem_of_getElem? e
  exact List.mem_append_right _ (show w ∈ tables_1 from (List.mem_append_right _ (List.mem_append_right _ (List.mem_append_right _ (List.mem_append_right _ (List.mem_append_right _ (List.mem_append_right _ (List.mem_append_right _ (List.mem_append_left _ h)))))))))
theorem mr9 {w : Cond} (i : Nat) (e : tables_1_9[i]? = some w) : w ∈ lw_tbl := by
  have h := List.mem_of_getElem? e
  exact List.mem_append_right _ (show w ∈ tables_1 from (List.mem_append_right _ (List.mem_append_right _ (List.mem_append_right _ (List.mem_append_right _ (List.mem_append_right _ (List.mem_append_right _ (List.mem_append_right _ (List.mem_append_right _ h)))))))))
theorem mp1 {q : MethodName × Nat} (i : Nat) (e : lw_privs_1[i]? = some q) : Cond.selects q.1.cls q.1 q.1 ∈ wsU := by
  have h := List.mem_of_getElem? e
  exact List.mem_filter.mpr ⟨List.mem_append_left _ (List.mem_map.mpr ⟨q, (show q ∈ lw_privs from (List.mem_append_left _ h)), rfl⟩), rfl⟩
theorem mp2 {q : MethodName × Nat} (i : Nat) (e : lw_privs_2[i]? = some q) : Cond.selects q.1.cls q.1 q.1 ∈ wsU := by
  have h := List.mem_of_getElem? e
  exact List.mem_filter.mpr ⟨List.mem_append_left _ (List.mem_map.mpr ⟨q, (show q ∈ lw_privs from (List.mem_append_right _ (List.mem_append_left _ h))), rfl⟩), rfl⟩
theorem mp3 {q : MethodName × Nat} (i : Nat) (e : lw_privs_3[i]? = some q) : Cond.selects q.1.cls q.1 q.1 ∈ wsU := by
  have h := List.mem_of_getElem? e
  exact List.mem_filter.mpr ⟨List.mem_append_left _ (List.mem_map.mpr ⟨q, (show q ∈ lw_privs from (List.mem_append_right _ (List.mem_append_right _ (List.mem_append_left _ h)))), rfl⟩), rfl⟩
theorem mp4 {q : MethodName × Nat} (i : Nat) (e : lw_privs_4[i]? = some q) : Cond.selects q.1.cls q.1 q.1 ∈ wsU := by
  have h := List.mem_of_getElem? e
  exact List.mem_filter.mpr ⟨List.mem_append_left _ (List.mem_map.mpr ⟨q, (show q ∈ lw_privs from (List.mem_append_right _ (List.mem_append_right _ (List.mem_append_right _ (List.mem_append_left _ h))))), rfl⟩), rfl⟩
theorem mp5 {q : MethodName × Nat} (i : Nat) (e : lw_privs_5[i]? = some q) : Cond.selects q.1.cls q.1 q.1 ∈ wsU := by
  have h := List.mem_of_getElem? e
  exact List.mem_filter.mpr ⟨List.mem_append_left _ (List.mem_map.mpr ⟨q, (show q ∈ lw_privs from (List.mem_append_right _ (List.mem_append_right _ (List.mem_append_right _ (List.mem_append_right _ (List.mem_append_left _ h)))))), rfl⟩), rfl⟩
theorem mp6 {q : MethodName × Nat} (i : Nat) (e : lw_privs_6[i]? = some q) : Cond.selects q.1.cls q.1 q.1 ∈ wsU := by
  have h := List.mem_of_getElem? e
  exact List.mem_filter.mpr ⟨List.mem_append_left _ (List.mem_map.mpr ⟨q, (show q ∈ lw_privs from (List.mem_append_right _ (List.mem_append_right _ (List.mem_append_right _ (List.mem_append_right _ (List.mem_append_right _ (List.mem_append_left _ h))))))), rfl⟩), rfl⟩
theorem mp7 {q : MethodName × Nat} (i : Nat) (e : lw_privs_7[i]? = some q) : Cond.selects q.1.cls q.1 q.1 ∈ wsU := by
  have h := List.mem_of_getElem? e
  exact List.mem_filter.mpr ⟨List.mem_append_left _ (List.mem_map.mpr ⟨q, (show q ∈ lw_privs from (List.mem_append_right _ (List.mem_append_right _ (List.mem_append_right _ (List.mem_append_right _ (List.mem_append_right _ (List.mem_append_right _ (List.mem_append_left _ h)))))))), rfl⟩), rfl⟩
theorem mp8 {q : MethodName × Nat} (i : Nat) (e : lw_privs_8[i]? = some q) : Cond.selects q.1.cls q.1 q.1 ∈ wsU := by
  have h := List.mem_of_getElem? e
  exact List.mem_filter.mpr ⟨List.mem_append_left _ (List.mem_map.mpr ⟨q, (show q ∈ lw_privs from (List.mem_append_right _ (List.mem_append_right _ (List.mem_append_right _ (List.mem_append_right _ (List.mem_append_right _ (List.mem_append_right _ (List.mem_append_right _ (List.mem_append_left _ h))))))))), rfl⟩), rfl⟩
theorem mp9 {q : MethodName × Nat} (i : Nat) (e : lw_privs_9[i]? = some q) : Cond.selects q.1.cls q.1 q.1 ∈ wsU := by
  have h := List.mem_of_getElem? e
  exact List.mem_filter.mpr ⟨List.mem_append_left _ (List.mem_map.mpr ⟨q, (show q ∈ lw_privs from (List.mem_append_right _ (List.mem_append_right _ (List.mem_append_right _ (List.mem_append_right _ (List.mem_append_right _ (List.mem_append_right _ (List.mem_append_right _ (List.mem_append_right _ h))))))))), rfl⟩), rfl⟩
def cNs : List String := ["LampRounds$Acts", "LampRounds$Ageing", "LampRounds$Clues", "LampRounds$House", "LampRounds$Image", "LampRounds$Keeper", "LampRounds$Night", "LampRounds$Reader", "LampRounds$RingSearch", "LampRounds$Row", "LampRounds$Tape", "LampRounds", "LampRoundsModel", "LampRoundsLaw", "java/lang/Math", "java/lang/Integer"]
def cN (k : Nat) : String := cNs.getD k ""
def fT0 : u_T := fun k => match k with
  | 0 => ("LampRounds$Acts", "inRooms", "[I", true)
  | 1 => ("LampRounds$Acts", "atMinutes", "[I", true)
  | _ => ("LampRounds$Acts", "size", "I", false)
def fT1 : u_T := fun k => match k with
  | 0 => ("LampRounds$Ageing", "older", "[I", true)
  | 1 => ("LampRounds$Ageing", "slack", "I", false)
  | _ => ("LampRounds$Ageing", "law", "I", false)
def fT2 : u_T := fun k => match k with
  | 0 => ("LampRounds$Clues", "agesFrom", "[B", true)
  | 1 => ("LampRounds$Clues", "fitting", "I", false)
  | 2 => ("LampRounds$Clues", "bestCell", "I", false)
  | 3 => ("LampRounds$Clues", "worst", "I", false)
  | 4 => ("LampRounds$Clues", "rooms", "I", false)
  | _ => ("LampRounds$Clues", "minutes", "I", false)
def fT3 : u_T := fun k => match k with
  | 0 => ("LampRounds$House", "lines", "I", false)
  | 1 => ("LampRounds$House", "law", "I", false)
  | 2 => ("LampRounds$House", "odds", "I", false)
  | 3 => ("LampRounds$House", "minutes", "I", false)
  | 4 => ("LampRounds$House", "rooms", "I", false)
  | 5 => ("LampRounds$House", "ways", "I", false)
  | 6 => ("LampRounds$House", "visitors", "I", false)
  | 7 => ("LampRounds$House", "length", "I", false)
  | 8 => ("LampRounds$House", "waits", "[I", true)
  | 9 => ("LampRounds$House", "worths", "[I", true)
  | 10 => ("LampRounds$House", "doorsOf", "[I", true)
  | 11 => ("LampRounds$House", "distances", "[I", true)
  | 12 => ("LampRounds$House", "guestRooms", "[I", true)
  | 13 => ("LampRounds$House", "guestMinutes", "[I", true)
  | _ => ("LampRounds$House", "places", "[I", true)
def fT4 : u_T := fun k => match k with
  | 0 => ("LampRounds$Image", "house", "LLampRounds$House;", true)
  | 1 => ("LampRounds$Image", "acts", "LLampRounds$Acts;", true)
  | _ => ("LampRounds$Image", "kept", "Z", false)
def fT5 : u_T := fun k => match k with
  | 0 => ("LampRounds$Keeper", "ageing", "LLampRounds$Ageing;", true)
  | 1 => ("LampRounds$Keeper", "marks", "[J", true)
  | 2 => ("LampRounds$Keeper", "trail", "[I", true)
  | 3 => ("LampRounds$Keeper", "spans", "[B", true)
  | 4 => ("LampRounds$Keeper", "startsKept", "[I", true)
  | 5 => ("LampRounds$Keeper", "moreWaits", "[I", true)
  | 6 => ("LampRounds$Keeper", "house", "LLampRounds$House;", false)
  | 7 => ("LampRounds$Keeper", "readySet", "I", false)
  | _ => ("LampRounds$Keeper", "stateTally", "I", false)
def fT6 : u_T := fun k => match k with
  | 0 => ("LampRounds$Night", "waits", "[I", true)
  | 1 => ("LampRounds$Night", "guests", "[I", true)
  | 2 => ("LampRounds$Night", "wards", "[I", true)
  | 3 => ("LampRounds$Night", "lookedAt", "[I", true)
  | 4 => ("LampRounds$Night", "ages", "[I", true)
  | 5 => ("LampRounds$Night", "outs", "[I", true)
  | 6 => ("LampRounds$Night", "law", "I", false)
  | 7 => ("LampRounds$Night", "turn", "I", false)
  | 8 => ("LampRounds$Night", "mode", "I", false)
  | 9 => ("LampRounds$Night", "naps", "I", false)
  | 10 => ("LampRounds$Night", "rooms", "I", false)
  | 11 => ("LampRounds$Night", "minutes", "I", false)
  | _ => ("LampRounds$Night", "house", "LLampRounds$House;", false)
def fT7 : u_T := fun k => match k with
  | 0 => ("LampRounds$Reader", "draft", "LLampRounds$House;", true)
  | 1 => ("LampRounds$Reader", "fault", "I", false)
  | 2 => ("LampRounds$Reader", "faultPlace", "I", false)
  | 3 => ("LampRounds$Reader", "kinds", "[B", true)
  | 4 => ("LampRounds$Reader", "starts", "[I", true)
  | 5 => ("LampRounds$Reader", "values", "[I", true)
  | _ => ("LampRounds$Reader", "current", "I", false)
def fT8 : u_T := fun k => match k with
  | 0 => ("LampRounds$RingSearch", "shortest", "[I", true)
  | 1 => ("LampRounds$RingSearch", "ageing", "LLampRounds$Ageing;", true)
  | 2 => ("LampRounds$RingSearch", "counts", "[I", true)
  | 3 => ("LampRounds$RingSearch", "path", "[I", true)
  | 4 => ("LampRounds$RingSearch", "agesAt", "[I", true)
  | 5 => ("LampRounds$RingSearch", "agesAround", "[I", true)
  | 6 => ("LampRounds$RingSearch", "house", "LLampRounds$House;", false)
  | 7 => ("LampRounds$RingSearch", "shortestFound", "I", false)
  | 8 => ("LampRounds$RingSearch", "size", "I", false)
  | 9 => ("LampRounds$RingSearch", "found", "I", false)
  | _ => ("LampRounds$RingSearch", "oneIsEnough", "Z", false)
def fT9 : u_T := fun k => match k with
  | 0 => ("LampRounds$Row", "numbers", "[J", true)
  | 1 => ("LampRounds$Row", "width", "I", false)
  | 2 => ("LampRounds$Row", "length", "I", false)
  | _ => ("LampRounds$Row", "kept", "Z", false)
def fT10 : u_T := fun k => match k with
  | 0 => ("LampRounds$Tape", "bytes", "[B", true)
  | _ => ("LampRounds$Tape", "size", "I", false)
def fT11 : u_T := fun k => match k with
  | 0 => ("LampRounds", "tape", "LLampRounds$Tape;", true)
  | 1 => ("LampRounds", "house", "LLampRounds$House;", true)
  | 2 => ("LampRounds", "acts", "LLampRounds$Acts;", true)
  | 3 => ("LampRounds", "reader", "LLampRounds$Reader;", true)
  | 4 => ("LampRounds", "night", "LLampRounds$Night;", true)
  | 5 => ("LampRounds", "clues", "LLampRounds$Clues;", true)
  | 6 => ("LampRounds", "ringSearch", "LLampRounds$RingSearch;", true)
  | 7 => ("LampRounds", "images", "[LLampRounds$Image;", true)
  | 8 => ("LampRounds", "rows", "[LLampRounds$Row;", true)
  | _ => ("LampRounds", "keeper", "LLampRounds$Keeper;", false)
def fT12 : u_T := fun k => match k with
  | 0 => ("LampRoundsModel", "thrown", "I", false)
  | 1 => ("LampRoundsModel", "width", "[I", true)
  | 2 => ("LampRoundsModel", "many", "[I", true)
  | 3 => ("LampRoundsModel", "cells", "[J", true)
  | 4 => ("LampRoundsModel", "moved", "[J", true)
  | 5 => ("LampRoundsModel", "tape", "[B", true)
  | 6 => ("LampRoundsModel", "taped", "I", false)
  | 7 => ("LampRoundsModel", "spot", "I", false)
  | 8 => ("LampRoundsModel", "token", "I", false)
  | 9 => ("LampRoundsModel", "place", "I", false)
  | 10 => ("LampRoundsModel", "value", "I", false)
  | 11 => ("LampRoundsModel", "word", "J", false)
  | 12 => ("LampRoundsModel", "bad", "I", false)
  | 13 => ("LampRoundsModel", "badPlace", "I", false)
  | 14 => ("LampRoundsModel", "fault", "I", false)
  | 15 => ("LampRoundsModel", "faultPlace", "I", false)
  | 16 => ("LampRoundsModel", "lines", "[I", true)
  | 17 => ("LampRoundsModel", "has", "[I", true)
  | 18 => ("LampRoundsModel", "room", "[I", true)
  | 19 => ("LampRoundsModel", "way", "[I", true)
  | 20 => ("LampRoundsModel", "visitor", "[I", true)
  | 21 => ("LampRoundsModel", "roundAt", "[I", true)
  | 22 => ("LampRoundsModel", "act", "[I", true)
  | 23 => ("LampRoundsModel", "isKept", "[Z", true)
  | 24 => ("LampRoundsModel", "farFrom", "[I", true)
  | 25 => ("LampRoundsModel", "law", "I", false)
  | 26 => ("LampRoundsModel", "away", "I", false)
  | 27 => ("LampRoundsModel", "turned", "I", false)
  | 28 => ("LampRoundsModel", "besideRoom", "I", false)
  | 29 => ("LampRoundsModel", "besideMinute", "I", false)
  | 30 => ("LampRoundsModel", "wait", "[I", true)
  | 31 => ("LampRoundsModel", "ageNow", "[I", true)
  | 32 => ("LampRoundsModel", "ageAt", "[I", true)
  | 33 => ("LampRoundsModel", "atNow", "[I", true)
  | 34 => ("LampRoundsModel", "lookedAt", "[I", true)
  | 35 => ("LampRoundsModel", "lives", "[Z", true)
  | 36 => ("LampRoundsModel", "then", "[Z", true)
  | 37 => ("LampRoundsModel", "row", "[I", true)
  | 38 => ("LampRoundsModel", "rowFirst", "[I", true)
  | 39 => ("LampRoundsModel", "ringMany", "I", false)
  | 40 => ("LampRoundsModel", "beginMany", "I", false)
  | 41 => ("LampRoundsModel", "beginFirst", "I", false)
  | 42 => ("LampRoundsModel", "askBest", "I", false)
  | 43 => ("LampRoundsModel", "askLeaves", "I", false)
  | _ => ("LampRoundsModel", "often", "[I", true)
def cT (c : Nat) : u_T := match c with
  | 0 => fT0
  | 1 => fT1
  | 2 => fT2
  | 3 => fT3
  | 4 => fT4
  | 5 => fT5
  | 6 => fT6
  | 7 => fT7
  | 8 => fT8
  | 9 => fT9
  | 10 => fT10
  | 11 => fT11
  | _ => fT12
def cZs : List Nat := [3, 3, 6, 15, 3, 9, 13, 7, 11, 4, 2, 10, 45]
def cZ (c : Nat) : Nat := cZs.getD c 0
def ctys : List (List FieldType) := [[.array .int, .array .int, .int], [.array .int, .int, .int], [.array .byte, .int, .int, .int, .int, .int], [.int, .int, .int, .int, .int, .int, .int, .int, .array .int, .array .int, .array .int, .array .int, .array .int, .array .int, .array .int], [.object "LampRounds$House", .object "LampRounds$Acts", .boolean], [.object "LampRounds$Ageing", .array .long, .array .int, .array .byte, .array .int, .array .int, .object "LampRounds$House", .int, .int], [.array .int, .array .int, .array .int, .array .int, .array .int, .array .int, .int, .int, .int, .int, .int, .int, .object "LampRounds$House"], [.object "LampRounds$House", .int, .int, .array .byte, .array .int, .array .int, .int], [.array .int, .object "LampRounds$Ageing", .array .int, .array .int, .array .int, .array .int, .object "LampRounds$House", .int, .int, .int, .boolean], [.array .long, .int, .int, .boolean], [.array .byte, .int], [.object "LampRounds$Tape", .object "LampRounds$House", .object "LampRounds$Acts", .object "LampRounds$Reader", .object "LampRounds$Night", .object "LampRounds$Clues", .object "LampRounds$RingSearch", .array (.object "LampRounds$Image"), .array (.object "LampRounds$Row"), .object "LampRounds$Keeper"], [.int, .array .int, .array .int, .array .long, .array .long, .array .byte, .int, .int, .int, .int, .int, .long, .int, .int, .int, .int, .array .int, .array .int, .array .int, .array .int, .array .int, .array .int, .array .int, .array .boolean, .array .int, .int, .int, .int, .int, .int, .array .int, .array .int, .array .int, .array .int, .array .int, .array .boolean, .array .boolean, .array .int, .array .int, .int, .int, .int, .int, .int, .array .int]]
def cty (c j : Nat) : FieldType := (ctys.getD c []).getD j .int
def cls : List vw_C := [(cN 0, fT0, 3), (cN 1, fT1, 3), (cN 2, fT2, 6), (cN 3, fT3, 15), (cN 4, fT4, 3), (cN 5, fT5, 9), (cN 6, fT6, 13), (cN 7, fT7, 7), (cN 8, fT8, 11), (cN 9, fT9, 4), (cN 10, fT10, 2), (cN 11, fT11, 10), (cN 12, fT12, 45)]
theorem cls_at : ∀ c, c < 13 → cls[c]? = some (cN c, cT c, cZ c)
  | 0, _ => rfl
  | 1, _ => rfl
  | 2, _ => rfl
  | 3, _ => rfl
  | 4, _ => rfl
  | 5, _ => rfl
  | 6, _ => rfl
  | 7, _ => rfl
  | 8, _ => rfl
  | 9, _ => rfl
  | 10, _ => rfl
  | 11, _ => rfl
  | 12, _ => rfl
  | n + 13, h => absurd h (by omega)
theorem cls_lt {c : Nat} {q : vw_C} (h : cls[c]? = some q) : c < 13 := (List.getElem?_eq_some_iff.mp h).1
theorem nmC0 : ∀ a, a < 3 → ∀ b, b < 3 → a ≠ b → (cT 0 a).2.1 ≠ (cT 0 b).2.1 := by decide +kernel
theorem tyC0 : ∀ k, k < 3 → parseFieldDescriptor (cT 0 k).2.2.1 = some (cty 0 k) := by decide +kernel
theorem dcC0 : ∀ k, k < 3 → (cT 0 k).1 = cN 0 := by decide +kernel
theorem iwC0 : ∀ w ∈ u_ws (cN 0) (cT 0) 3, w ∈ wsU := by
  intro w hw
  obtain ⟨j, hj, rfl⟩ := List.mem_map.mp hw
  have hj := List.mem_range.mp hj
  match j, hj with
  | 0, _ => exact mt1 157 rfl
  | 1, _ => exact mt1 159 rfl
  | 2, _ => exact mt1 161 rfl
  | n + 3, h => exact absurd h (by omega)
theorem nmC1 : ∀ a, a < 3 → ∀ b, b < 3 → a ≠ b → (cT 1 a).2.1 ≠ (cT 1 b).2.1 := by decide +kernel
theorem tyC1 : ∀ k, k < 3 → parseFieldDescriptor (cT 1 k).2.2.1 = some (cty 1 k) := by decide +kernel
theorem dcC1 : ∀ k, k < 3 → (cT 1 k).1 = cN 1 := by decide +kernel
theorem iwC1 : ∀ w ∈ u_ws (cN 1) (cT 1) 3, w ∈ wsU := by
  intro w hw
  obtain ⟨j, hj, rfl⟩ := List.mem_map.mp hw
  have hj := List.mem_range.mp hj
  match j, hj with
  | 0, _ => exact mt2 53 rfl
  | 1, _ => exact mt2 55 rfl
  | 2, _ => exact mt2 57 rfl
  | n + 3, h => exact absurd h (by omega)
theorem nmC2 : ∀ a, a < 6 → ∀ b, b < 6 → a ≠ b → (cT 2 a).2.1 ≠ (cT 2 b).2.1 := by decide +kernel
theorem tyC2 : ∀ k, k < 6 → parseFieldDescriptor (cT 2 k).2.2.1 = some (cty 2 k) := by decide +kernel
theorem dcC2 : ∀ k, k < 6 → (cT 2 k).1 = cN 2 := by decide +kernel
theorem iwC2 : ∀ w ∈ u_ws (cN 2) (cT 2) 6, w ∈ wsU := by
  intro w hw
  obtain ⟨j, hj, rfl⟩ := List.mem_map.mp hw
  have hj := List.mem_range.mp hj
  match j, hj with
  | 0, _ => exact mt2 25 rfl
  | 1, _ => exact mt2 27 rfl
  | 2, _ => exact mt2 29 rfl
  | 3, _ => exact mt2 31 rfl
  | 4, _ => exact mt2 33 rfl
  | 5, _ => exact mt2 35 rfl
  | n + 6, h => exact absurd h (by omega)
theorem nmC3 : ∀ a, a < 15 → ∀ b, b < 15 → a ≠ b → (cT 3 a).2.1 ≠ (cT 3 b).2.1 := by decide +kernel
theorem tyC3 : ∀ k, k < 15 → parseFieldDescriptor (cT 3 k).2.2.1 = some (cty 3 k) := by decide +kernel
theorem dcC3 : ∀ k, k < 15 → (cT 3 k).1 = cN 3 := by decide +kernel
theorem iwC3 : ∀ w ∈ u_ws (cN 3) (cT 3) 15, w ∈ wsU := by
  intro w hw
  obtain ⟨j, hj, rfl⟩ := List.mem_map.mp hw
  have hj := List.mem_range.mp hj
  match j, hj with
  | 0, _ => exact mt1 112 rfl
  | 1, _ => exact mt1 114 rfl
  | 2, _ => exact mt1 116 rfl
  | 3, _ => exact mt1 118 rfl
  | 4, _ => exact mt1 120 rfl
  | 5, _ => exact mt1 122 rfl
  | 6, _ => exact mt1 124 rfl
  | 7, _ => exact mt1 126 rfl
  | 8, _ => exact mt1 128 rfl
  | 9, _ => exact mt1 130 rfl
  | 10, _ => exact mt1 132 rfl
  | 11, _ => exact mt1 134 rfl
  | 12, _ => exact mt1 136 rfl
  | 13, _ => exact mt1 138 rfl
  | 14, _ => exact mt1 140 rfl
  | n + 15, h => exact absurd h (by omega)
theorem nmC4 : ∀ a, a < 3 → ∀ b, b < 3 → a ≠ b → (cT 4 a).2.1 ≠ (cT 4 b).2.1 := by decide +kernel
theorem tyC4 : ∀ k, k < 3 → parseFieldDescriptor (cT 4 k).2.2.1 = some (cty 4 k) := by decide +kernel
theorem dcC4 : ∀ k, k < 3 → (cT 4 k).1 = cN 4 := by decide +kernel
theorem iwC4 : ∀ w ∈ u_ws (cN 4) (cT 4) 3, w ∈ wsU := by
  intro w hw
  obtain ⟨j, hj, rfl⟩ := List.mem_map.mp hw
  have hj := List.mem_range.mp hj
  match j, hj with
  | 0, _ => exact mt2 114 rfl
  | 1, _ => exact mt2 116 rfl
  | 2, _ => exact mt2 118 rfl
  | n + 3, h => exact absurd h (by omega)
theorem nmC5 : ∀ a, a < 9 → ∀ b, b < 9 → a ≠ b → (cT 5 a).2.1 ≠ (cT 5 b).2.1 := by decide +kernel
theorem tyC5 : ∀ k, k < 9 → parseFieldDescriptor (cT 5 k).2.2.1 = some (cty 5 k) := by decide +kernel
theorem dcC5 : ∀ k, k < 9 → (cT 5 k).1 = cN 5 := by decide +kernel
theorem iwC5 : ∀ w ∈ u_ws (cN 5) (cT 5) 9, w ∈ wsU := by
  intro w hw
  obtain ⟨j, hj, rfl⟩ := List.mem_map.mp hw
  have hj := List.mem_range.mp hj
  match j, hj with
  | 0, _ => exact mt4 116 rfl
  | 1, _ => exact mt4 118 rfl
  | 2, _ => exact mt4 120 rfl
  | 3, _ => exact mt4 122 rfl
  | 4, _ => exact mt4 124 rfl
  | 5, _ => exact mt4 126 rfl
  | 6, _ => exact mt4 128 rfl
  | 7, _ => exact mt4 130 rfl
  | 8, _ => exact mt4 132 rfl
  | n + 9, h => exact absurd h (by omega)
theorem nmC6 : ∀ a, a < 13 → ∀ b, b < 13 → a ≠ b → (cT 6 a).2.1 ≠ (cT 6 b).2.1 := by decide +kernel
theorem tyC6 : ∀ k, k < 13 → parseFieldDescriptor (cT 6 k).2.2.1 = some (cty 6 k) := by decide +kernel
theorem dcC6 : ∀ k, k < 13 → (cT 6 k).1 = cN 6 := by decide +kernel
theorem iwC6 : ∀ w ∈ u_ws (cN 6) (cT 6) 13, w ∈ wsU := by
  intro w hw
  obtain ⟨j, hj, rfl⟩ := List.mem_map.mp hw
  have hj := List.mem_range.mp hj
  match j, hj with
  | 0, _ => exact mt1 223 rfl
  | 1, _ => exact mt1 225 rfl
  | 2, _ => exact mt1 227 rfl
  | 3, _ => exact mt1 229 rfl
  | 4, _ => exact mt1 231 rfl
  | 5, _ => exact mt1 233 rfl
  | 6, _ => exact mt1 235 rfl
  | 7, _ => exact mt1 237 rfl
  | 8, _ => exact mt1 239 rfl
  | 9, _ => exact mt2 1 rfl
  | 10, _ => exact mt2 3 rfl
  | 11, _ => exact mt2 5 rfl
  | 12, _ => exact mt2 7 rfl
  | n + 13, h => exact absurd h (by omega)
theorem nmC7 : ∀ a, a < 7 → ∀ b, b < 7 → a ≠ b → (cT 7 a).2.1 ≠ (cT 7 b).2.1 := by decide +kernel
theorem tyC7 : ∀ k, k < 7 → parseFieldDescriptor (cT 7 k).2.2.1 = some (cty 7 k) := by decide +kernel
theorem dcC7 : ∀ k, k < 7 → (cT 7 k).1 = cN 7 := by decide +kernel
theorem iwC7 : ∀ w ∈ u_ws (cN 7) (cT 7) 7, w ∈ wsU := by
  intro w hw
  obtain ⟨j, hj, rfl⟩ := List.mem_map.mp hw
  have hj := List.mem_range.mp hj
  match j, hj with
  | 0, _ => exact mt1 182 rfl
  | 1, _ => exact mt1 184 rfl
  | 2, _ => exact mt1 186 rfl
  | 3, _ => exact mt1 188 rfl
  | 4, _ => exact mt1 190 rfl
  | 5, _ => exact mt1 192 rfl
  | 6, _ => exact mt1 194 rfl
  | n + 7, h => exact absurd h (by omega)
theorem nmC8 : ∀ a, a < 11 → ∀ b, b < 11 → a ≠ b → (cT 8 a).2.1 ≠ (cT 8 b).2.1 := by decide +kernel
theorem tyC8 : ∀ k, k < 11 → parseFieldDescriptor (cT 8 k).2.2.1 = some (cty 8 k) := by decide +kernel
theorem dcC8 : ∀ k, k < 11 → (cT 8 k).1 = cN 8 := by decide +kernel
theorem iwC8 : ∀ w ∈ u_ws (cN 8) (cT 8) 11, w ∈ wsU := by
  intro w hw
  obtain ⟨j, hj, rfl⟩ := List.mem_map.mp hw
  have hj := List.mem_range.mp hj
  match j, hj with
  | 0, _ => exact mt2 72 rfl
  | 1, _ => exact mt2 74 rfl
  | 2, _ => exact mt2 76 rfl
  | 3, _ => exact mt2 78 rfl
  | 4, _ => exact mt2 80 rfl
  | 5, _ => exact mt2 82 rfl
  | 6, _ => exact mt2 84 rfl
  | 7, _ => exact mt2 86 rfl
  | 8, _ => exact mt2 88 rfl
  | 9, _ => exact mt2 90 rfl
  | 10, _ => exact mt2 92 rfl
  | n + 11, h => exact absurd h (by omega)
theorem nmC9 : ∀ a, a < 4 → ∀ b, b < 4 → a ≠ b → (cT 9 a).2.1 ≠ (cT 9 b).2.1 := by decide +kernel
theorem tyC9 : ∀ k, k < 4 → parseFieldDescriptor (cT 9 k).2.2.1 = some (cty 9 k) := by decide +kernel
theorem dcC9 : ∀ k, k < 4 → (cT 9 k).1 = cN 9 := by decide +kernel
theorem iwC9 : ∀ w ∈ u_ws (cN 9) (cT 9) 4, w ∈ wsU := by
  intro w hw
  obtain ⟨j, hj, rfl⟩ := List.mem_map.mp hw
  have hj := List.mem_range.mp hj
  match j, hj with
  | 0, _ => exact mt2 136 rfl
  | 1, _ => exact mt2 138 rfl
  | 2, _ => exact mt2 140 rfl
  | 3, _ => exact mt2 142 rfl
  | n + 4, h => exact absurd h (by omega)
theorem nmC10 : ∀ a, a < 2 → ∀ b, b < 2 → a ≠ b → (cT 10 a).2.1 ≠ (cT 10 b).2.1 := by decide +kernel
theorem tyC10 : ∀ k, k < 2 → parseFieldDescriptor (cT 10 k).2.2.1 = some (cty 10 k) := by decide +kernel
theorem dcC10 : ∀ k, k < 2 → (cT 10 k).1 = cN 10 := by decide +kernel
theorem iwC10 : ∀ w ∈ u_ws (cN 10) (cT 10) 2, w ∈ wsU := by
  intro w hw
  obtain ⟨j, hj, rfl⟩ := List.mem_map.mp hw
  have hj := List.mem_range.mp hj
  match j, hj with
  | 0, _ => exact mt1 40 rfl
  | 1, _ => exact mt1 42 rfl
  | n + 2, h => exact absurd h (by omega)
theorem nmC11 : ∀ a, a < 10 → ∀ b, b < 10 → a ≠ b → (cT 11 a).2.1 ≠ (cT 11 b).2.1 := by decide +kernel
theorem tyC11 : ∀ k, k < 10 → parseFieldDescriptor (cT 11 k).2.2.1 = some (cty 11 k) := by decide +kernel
theorem dcC11 : ∀ k, k < 10 → (cT 11 k).1 = cN 11 := by decide +kernel
theorem iwC11 : ∀ w ∈ u_ws (cN 11) (cT 11) 10, w ∈ wsU := by
  intro w hw
  obtain ⟨j, hj, rfl⟩ := List.mem_map.mp hw
  have hj := List.mem_range.mp hj
  match j, hj with
  | 0, _ => exact mt2 156 rfl
  | 1, _ => exact mt2 158 rfl
  | 2, _ => exact mt2 160 rfl
  | 3, _ => exact mt2 162 rfl
  | 4, _ => exact mt2 164 rfl
  | 5, _ => exact mt2 166 rfl
  | 6, _ => exact mt2 168 rfl
  | 7, _ => exact mt2 170 rfl
  | 8, _ => exact mt2 172 rfl
  | 9, _ => exact mt2 174 rfl
  | n + 10, h => exact absurd h (by omega)
theorem nmC12 : ∀ a, a < 45 → ∀ b, b < 45 → a ≠ b → (cT 12 a).2.1 ≠ (cT 12 b).2.1 := by decide +kernel
theorem tyC12 : ∀ k, k < 45 → parseFieldDescriptor (cT 12 k).2.2.1 = some (cty 12 k) := by decide +kernel
theorem dcC12 : ∀ k, k < 45 → (cT 12 k).1 = cN 12 := by decide +kernel
theorem iwC12 : ∀ w ∈ u_ws (cN 12) (cT 12) 45, w ∈ wsU := by
  intro w hw
  obtain ⟨j, hj, rfl⟩ := List.mem_map.mp hw
  have hj := List.mem_range.mp hj
  match j, hj with
  | 0, _ => exact mt6 154 rfl
  | 1, _ => exact mt6 156 rfl
  | 2, _ => exact mt6 158 rfl
  | 3, _ => exact mt6 160 rfl
  | 4, _ => exact mt6 162 rfl
  | 5, _ => exact mt6 164 rfl
  | 6, _ => exact mt6 166 rfl
  | 7, _ => exact mt6 168 rfl
  | 8, _ => exact mt6 170 rfl
  | 9, _ => exact mt6 172 rfl
  | 10, _ => exact mt6 174 rfl
  | 11, _ => exact mt6 176 rfl
  | 12, _ => exact mt6 178 rfl
  | 13, _ => exact mt6 180 rfl
  | 14, _ => exact mt6 182 rfl
  | 15, _ => exact mt6 184 rfl
  | 16, _ => exact mt6 186 rfl
  | 17, _ => exact mt6 188 rfl
  | 18, _ => exact mt6 190 rfl
  | 19, _ => exact mt6 192 rfl
  | 20, _ => exact mt6 194 rfl
  | 21, _ => exact mt6 196 rfl
  | 22, _ => exact mt6 198 rfl
  | 23, _ => exact mt6 200 rfl
  | 24, _ => exact mt6 202 rfl
  | 25, _ => exact mt6 204 rfl
  | 26, _ => exact mt6 206 rfl
  | 27, _ => exact mt6 208 rfl
  | 28, _ => exact mt6 210 rfl
  | 29, _ => exact mt6 212 rfl
  | 30, _ => exact mt6 214 rfl
  | 31, _ => exact mt6 216 rfl
  | 32, _ => exact mt6 218 rfl
  | 33, _ => exact mt6 220 rfl
  | 34, _ => exact mt6 222 rfl
  | 35, _ => exact mt6 224 rfl
  | 36, _ => exact mt6 226 rfl
  | 37, _ => exact mt6 228 rfl
  | 38, _ => exact mt6 230 rfl
  | 39, _ => exact mt6 232 rfl
  | 40, _ => exact mt6 234 rfl
  | 41, _ => exact mt6 236 rfl
  | 42, _ => exact mt6 238 rfl
  | 43, _ => exact mt7 0 rfl
  | 44, _ => exact mt7 2 rfl
  | n + 45, h => exact absurd h (by omega)
theorem nmC : ∀ c, c < 13 → ∀ a, a < cZ c → ∀ b, b < cZ c → a ≠ b → (cT c a).2.1 ≠ (cT c b).2.1
  | 0, _ => nmC0
  | 1, _ => nmC1
  | 2, _ => nmC2
  | 3, _ => nmC3
  | 4, _ => nmC4
  | 5, _ => nmC5
  | 6, _ => nmC6
  | 7, _ => nmC7
  | 8, _ => nmC8
  | 9, _ => nmC9
  | 10, _ => nmC10
  | 11, _ => nmC11
  | 12, _ => nmC12
  | n + 13, h => absurd h (by omega)
theorem tyC : ∀ c, c < 13 → ∀ k, k < cZ c → parseFieldDescriptor (cT c k).2.2.1 = some (cty c k)
  | 0, _ => tyC0
  | 1, _ => tyC1
  | 2, _ => tyC2
  | 3, _ => tyC3
  | 4, _ => tyC4
  | 5, _ => tyC5
  | 6, _ => tyC6
  | 7, _ => tyC7
  | 8, _ => tyC8
  | 9, _ => tyC9
  | 10, _ => tyC10
  | 11, _ => tyC11
  | 12, _ => tyC12
  | n + 13, h => absurd h (by omega)
theorem dcC : ∀ c, c < 13 → ∀ k, k < cZ c → (cT c k).1 = cN c
  | 0, _ => dcC0
  | 1, _ => dcC1
  | 2, _ => dcC2
  | 3, _ => dcC3
  | 4, _ => dcC4
  | 5, _ => dcC5
  | 6, _ => dcC6
  | 7, _ => dcC7
  | 8, _ => dcC8
  | 9, _ => dcC9
  | 10, _ => dcC10
  | 11, _ => dcC11
  | 12, _ => dcC12
  | n + 13, h => absurd h (by omega)
theorem iwC : ∀ c, c < 13 → ∀ w ∈ u_ws (cN c) (cT c) (cZ c), w ∈ wsU
  | 0, _ => iwC0
  | 1, _ => iwC1
  | 2, _ => iwC2
  | 3, _ => iwC3
  | 4, _ => iwC4
  | 5, _ => iwC5
  | 6, _ => iwC6
  | 7, _ => iwC7
  | 8, _ => iwC8
  | 9, _ => iwC9
  | 10, _ => iwC10
  | 11, _ => iwC11
  | 12, _ => iwC12
  | n + 13, h => absurd h (by omega)
theorem insC : ∀ c, c < 13 → Cond.instantiable (cN c) (cZ c) ∈ wsU
  | 0, _ => mt1 145 rfl
  | 1, _ => mt2 45 rfl
  | 2, _ => mt2 11 rfl
  | 3, _ => mt1 47 rfl
  | 4, _ => mt2 99 rfl
  | 5, _ => mt4 100 rfl
  | 6, _ => mt1 198 rfl
  | 7, _ => mt1 165 rfl
  | 8, _ => mt2 39 rfl
  | 9, _ => mt2 121 rfl
  | 10, _ => mt1 30 rfl
  | 11, _ => mt1 22 rfl
  | 12, _ => mt6 104 rfl
  | n + 13, h => absurd h (by omega)
theorem iniC : ∀ c, c < 16 → Cond.initialized (cN c) ∈ wsU
  | 0, _ => mt1 4 rfl
  | 1, _ => mt1 9 rfl
  | 2, _ => mt1 7 rfl
  | 3, _ => mt1 3 rfl
  | 4, _ => mt1 10 rfl
  | 5, _ => mt1 19 rfl
  | 6, _ => mt1 6 rfl
  | 7, _ => mt1 5 rfl
  | 8, _ => mt1 8 rfl
  | 9, _ => mt1 11 rfl
  | 10, _ => mt1 2 rfl
  | 11, _ => mt1 1 rfl
  | 12, _ => mt1 12 rfl
  | 13, _ => mt1 0 rfl
  | 14, _ => mt1 13 rfl
  | 15, _ => mt1 20 rfl
  | n + 16, h => absurd h (by omega)
theorem acU_I : Cond.arrayClass .int ∈ wsU := mt1 143 rfl
theorem acU_J : Cond.arrayClass .long ∈ wsU := mt2 145 rfl
theorem acU_B : Cond.arrayClass .byte ∈ wsU := mt1 45 rfl
theorem acU_Z : Cond.arrayClass .boolean ∈ wsU := mt7 5 rfl
theorem aoU_Image : Cond.arrayOver (.object "LampRounds$Image") ∈ lw_tbl := mr2 96 rfl
theorem aoU_Row : Cond.arrayOver (.object "LampRounds$Row") ∈ lw_tbl := mr2 98 rfl
theorem acpN : Cond.native arraycopyName ∈ wsU := mt3 100 rfl
theorem acpS : Cond.static arraycopyName ∈ wsU := mt3 99 rfl
theorem acpI : Cond.initialized "java/lang/System" ∈ wsU := mt1 18 rfl
theorem obiM : Cond.instanceMethod Lib.objectInit ∈ wsU := mt1 27 rfl
theorem obiC : Cond.code Lib.objectInit ⟨#[0xb1]⟩ 1 none ∈ wsU := mt1 28 rfl
def pnest : List Cond := [.methodLinkNest "LampRounds" 11 ⟨"LampRounds$Tape", "<init>", "()V"⟩ "LampRounds", .methodLinkNest "LampRounds" 18 ⟨"LampRounds$House", "<init>", "()V"⟩ "LampRounds", .methodLinkNest "LampRounds" 25 ⟨"LampRounds$Acts", "<init>", "()V"⟩ "LampRounds", .methodLinkNest "LampRounds" 32 ⟨"LampRounds$Reader", "<init>", "()V"⟩ "LampRounds", .methodLinkNest "LampRounds$Reader" 11 ⟨"LampRounds$House", "<init>", "()V"⟩ "LampRounds", .methodLinkNest "LampRounds" 39 ⟨"LampRounds$Night", "<init>", "()V"⟩ "LampRounds", .methodLinkNest "LampRounds" 46 ⟨"LampRounds$Clues", "<init>", "()V"⟩ "LampRounds", .methodLinkNest "LampRounds" 53 ⟨"LampRounds$RingSearch", "<init>", "()V"⟩ "LampRounds", .methodLinkNest "LampRounds$RingSearch" 17 ⟨"LampRounds$Ageing", "<init>", "()V"⟩ "LampRounds", .methodLinkNest "LampRounds" 74 ⟨"LampRounds$Image", "<init>", "()V"⟩ "LampRounds", .methodLinkNest "LampRounds$Image" 9 ⟨"LampRounds$House", "<init>", "()V"⟩ "LampRounds", .methodLinkNest "LampRounds$Image" 18 ⟨"LampRounds$Acts", "<init>", "()V"⟩ "LampRounds", .methodLinkNest "LampRounds" 75 ⟨"LampRounds$Row", "<init>", "()V"⟩ "LampRounds", .methodLinkNest "LampRounds" 387 ⟨"LampRounds$Keeper", "<init>", "()V"⟩ "LampRounds", .methodLinkNest "LampRounds$Keeper" 11 ⟨"LampRounds$Ageing", "<init>", "()V"⟩ "LampRounds"]
theorem pnest_in : ∀ w ∈ pnest, w ∈ lw_tbl := by
  intro w hw
  obtain ⟨j, hj⟩ := List.getElem?_of_mem hw
  match j, hj with
  | 0, hj => cases hj; exact mr1 31 rfl
  | 1, hj => cases hj; exact mr1 48 rfl
  | 2, hj => cases hj; exact mr1 146 rfl
  | 3, hj => cases hj; exact mr1 166 rfl
  | 4, hj => cases hj; exact mr1 171 rfl
  | 5, hj => cases hj; exact mr1 199 rfl
  | 6, hj => cases hj; exact mr2 12 rfl
  | 7, hj => cases hj; exact mr2 40 rfl
  | 8, hj => cases hj; exact mr2 46 rfl
  | 9, hj => cases hj; exact mr2 100 rfl
  | 10, hj => cases hj; exact mr2 105 rfl
  | 11, hj => cases hj; exact mr2 107 rfl
  | 12, hj => cases hj; exact mr2 122 rfl
  | 13, hj => cases hj; exact mr4 101 rfl
  | 14, hj => cases hj; exact mr4 106 rfl
  | n + 15, hj => simp [pnest] at hj
def psix : List Nat := [162, 164, 165, 166, 167, 169, 171, 173, 175, 177, 179, 181]
def pstx : List String := ["house", "law", "odds", "minutes", "room", "wait", "worth", "way", "visitor", "in", "at", "round"]
def plen : List Nat := [5, 3, 4, 7, 4, 4, 5, 3, 7, 2, 2, 5]
def pbyt : List (List Int32) := [[104, 111, 117, 115, 101], [108, 97, 119], [111, 100, 100, 115], [109, 105, 110, 117, 116, 101, 115], [114, 111, 111, 109], [119, 97, 105, 116], [119, 111, 114, 116, 104], [119, 97, 121], [118, 105, 115, 105, 116, 111, 114], [105, 110], [97, 116], [114, 111, 117, 110, 100]]
theorem pstr_in : ∀ j, j < 12 → Cond.stringRef "LampRounds$Reader" (psix.getD j 0) (pstx.getD j "") ∈ lw_tbl
  | 0, _ => mr2 219 rfl
  | 1, _ => mr2 220 rfl
  | 2, _ => mr2 221 rfl
  | 3, _ => mr2 222 rfl
  | 4, _ => mr2 223 rfl
  | 5, _ => mr2 224 rfl
  | 6, _ => mr2 225 rfl
  | 7, _ => mr2 226 rfl
  | 8, _ => mr2 227 rfl
  | 9, _ => mr2 228 rfl
  | 10, _ => mr2 229 rfl
  | 11, _ => mr2 230 rfl
  | n + 12, h => absurd h (by omega)
