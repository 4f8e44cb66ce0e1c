set_option maxRecDepth 5000 in
theorem cw_354 : (.methodLink RL 13 ⟨"AlikeSteps", "row", "(III)I"⟩ : Cond) ∈ pj_tb := pj_t2 (List.mem_of_getElem? (i := 34) (by rfl)) (by rfl)
set_option maxRecDepth 5000 in
theorem cw_378 : (.methodLink RL 18 ⟨"AlikeSteps", "set", "(III)I"⟩ : Cond) ∈ pj_tb := pj_t2 (List.mem_of_getElem? (i := 58) (by rfl)) (by rfl)
set_option maxRecDepth 5000 in
theorem cw_397 : (.methodLink RL 22 ⟨"AlikeSteps", "copy", "(IIIII)I"⟩ : Cond) ∈ pj_tb := pj_t2 (List.mem_of_getElem? (i := 77) (by rfl)) (by rfl)
set_option maxRecDepth 5000 in
theorem cw_416 : (.methodLink RL 27 ⟨"AlikeSteps", "drop", "(I)I"⟩ : Cond) ∈ pj_tb := pj_t2 (List.mem_of_getElem? (i := 96) (by rfl)) (by rfl)
set_option maxRecDepth 5000 in
theorem cw_424 : (.methodLink RL 32 ⟨"AlikeSteps", "feed", "(I)I"⟩ : Cond) ∈ pj_tb := pj_t2 (List.mem_of_getElem? (i := 104) (by rfl)) (by rfl)
set_option maxRecDepth 5000 in
theorem cw_438 : (.methodLink RL 36 ⟨"AlikeSteps", "system", "()I"⟩ : Cond) ∈ pj_tb := pj_t2 (List.mem_of_getElem? (i := 118) (by rfl)) (by rfl)
set_option maxRecDepth 5000 in
theorem cw_530 : (.methodLink RL 41 ⟨"AlikeSteps", "fault", "()I"⟩ : Cond) ∈ pj_tb := pj_t2 (List.mem_of_getElem? (i := 210) (by rfl)) (by rfl)
set_option maxRecDepth 5000 in
theorem cw_534 : (.methodLink RL 45 ⟨"AlikeSteps", "lay", "(III)I"⟩ : Cond) ∈ pj_tb := pj_t2 (List.mem_of_getElem? (i := 214) (by rfl)) (by rfl)
set_option maxRecDepth 5000 in
theorem cw_553 : (.methodLink RL 49 ⟨"AlikeSteps", "cut", "(I)I"⟩ : Cond) ∈ pj_tb := pj_t2 (List.mem_of_getElem? (i := 233) (by rfl)) (by rfl)
set_option maxRecDepth 5000 in
theorem cw_574 : (.methodLink RL 53 ⟨"AlikeSteps", "turn", "(I)I"⟩ : Cond) ∈ pj_tb := pj_t3 (List.mem_of_getElem? (i := 14) (by rfl)) (by rfl)
set_option maxRecDepth 5000 in
theorem cw_588 : (.methodLink RL 57 ⟨"AlikeSteps", "become", "(II)I"⟩ : Cond) ∈ pj_tb := pj_t3 (List.mem_of_getElem? (i := 28) (by rfl)) (by rfl)
set_option maxRecDepth 5000 in
theorem cw_605 : (.methodLink RL 62 ⟨"AlikeSteps", "undo", "()I"⟩ : Cond) ∈ pj_tb := pj_t3 (List.mem_of_getElem? (i := 45) (by rfl)) (by rfl)
set_option maxRecDepth 5000 in
theorem cw_622 : (.methodLink RL 66 ⟨"AlikeSteps", "arc", "(II)I"⟩ : Cond) ∈ pj_tb := pj_t3 (List.mem_of_getElem? (i := 62) (by rfl)) (by rfl)
set_option maxRecDepth 5000 in
theorem cw_626 : (.methodLink RL 70 ⟨"AlikeSteps", "moves", "(III)I"⟩ : Cond) ∈ pj_tb := pj_t3 (List.mem_of_getElem? (i := 66) (by rfl)) (by rfl)
set_option maxRecDepth 5000 in
theorem cw_682 : (.methodLink RL 74 ⟨"AlikeSteps", "block", "(II)I"⟩ : Cond) ∈ pj_tb := pj_t3 (List.mem_of_getElem? (i := 122) (by rfl)) (by rfl)
set_option maxRecDepth 5000 in
theorem cw_739 : (.methodLink RL 78 ⟨"AlikeSteps", "parts", "(II)I"⟩ : Cond) ∈ pj_tb := pj_t3 (List.mem_of_getElem? (i := 179) (by rfl)) (by rfl)
set_option maxRecDepth 5000 in
theorem cw_751 : (.methodLink RL 82 ⟨"AlikeSteps", "behind", "(III)I"⟩ : Cond) ∈ pj_tb := pj_t3 (List.mem_of_getElem? (i := 191) (by rfl)) (by rfl)
set_option maxRecDepth 5000 in
theorem cw_759 : (.methodLink RL 86 ⟨"AlikeSteps", "signs", "(II)J"⟩ : Cond) ∈ pj_tb := pj_t3 (List.mem_of_getElem? (i := 199) (by rfl)) (by rfl)
set_option maxRecDepth 5000 in
theorem cw_768 : (.methodLink RL 91 ⟨"AlikeSteps", "parted", "(III)I"⟩ : Cond) ∈ pj_tb := pj_t3 (List.mem_of_getElem? (i := 208) (by rfl)) (by rfl)
set_option maxRecDepth 5000 in
theorem cw_777 : (.methodLink RL 95 ⟨"AlikeSteps", "tells", "(IIII)I"⟩ : Cond) ∈ pj_tb := pj_t3 (List.mem_of_getElem? (i := 217) (by rfl)) (by rfl)
set_option maxRecDepth 5000 in
theorem cw_835 : (.methodLink RL 100 ⟨"AlikeSteps", "depth", "(III)I"⟩ : Cond) ∈ pj_tb := pj_t4 (List.mem_of_getElem? (i := 35) (by rfl)) (by rfl)
set_option maxRecDepth 5000 in
theorem cw_839 : (.methodLink RL 104 ⟨"AlikeSteps", "holds", "(IIII)I"⟩ : Cond) ∈ pj_tb := pj_t4 (List.mem_of_getElem? (i := 39) (by rfl)) (by rfl)
set_option maxRecDepth 5000 in
theorem cw_881 : (.methodLink RL 108 ⟨"AlikeSteps", "small", "(III)I"⟩ : Cond) ∈ pj_tb := pj_t4 (List.mem_of_getElem? (i := 81) (by rfl)) (by rfl)
set_option maxRecDepth 5000 in
theorem cw_889 : (.methodLink RL 112 ⟨"AlikeSteps", "arcs", "(I)I"⟩ : Cond) ∈ pj_tb := pj_t4 (List.mem_of_getElem? (i := 89) (by rfl)) (by rfl)
set_option maxRecDepth 5000 in
theorem cw_899 : (.methodLink RL 116 ⟨"AlikeSteps", "words", "(II)I"⟩ : Cond) ∈ pj_tb := pj_t4 (List.mem_of_getElem? (i := 99) (by rfl)) (by rfl)
set_option maxRecDepth 5000 in
theorem cw_910 : (.methodLink RL 120 ⟨"AlikeSteps", "walk", "(III)I"⟩ : Cond) ∈ pj_tb := pj_t4 (List.mem_of_getElem? (i := 110) (by rfl)) (by rfl)
set_option maxRecDepth 5000 in
theorem cw_930 : (.methodLink RL 124 ⟨"AlikeSteps", "fits", "(IIII)I"⟩ : Cond) ∈ pj_tb := pj_t4 (List.mem_of_getElem? (i := 130) (by rfl)) (by rfl)
set_option maxRecDepth 5000 in
theorem cw_939 : (.methodLink RL 128 ⟨"AlikeSteps", "image", "(I)I"⟩ : Cond) ∈ pj_tb := pj_t4 (List.mem_of_getElem? (i := 139) (by rfl)) (by rfl)
set_option maxRecDepth 5000 in
theorem cw_943 : (.methodLink RL 132 ⟨"AlikeSteps", "restore", "(I)I"⟩ : Cond) ∈ pj_tb := pj_t4 (List.mem_of_getElem? (i := 143) (by rfl)) (by rfl)
set_option maxRecDepth 5000 in
theorem cw_947 : (.methodLink RL 136 ⟨"AlikeSteps", "kind", "(I)I"⟩ : Cond) ∈ pj_tb := pj_t4 (List.mem_of_getElem? (i := 147) (by rfl)) (by rfl)
set_option maxRecDepth 5000 in
theorem cw_951 : (.methodLink RL 140 ⟨"AlikeSteps", "as", "(II)I"⟩ : Cond) ∈ pj_tb := pj_t4 (List.mem_of_getElem? (i := 151) (by rfl)) (by rfl)
set_option maxRecDepth 5000 in
theorem cw_956 : (.methodLink RL 144 ⟨"AlikeSteps", "ask", "(II)I"⟩ : Cond) ∈ pj_tb := pj_t4 (List.mem_of_getElem? (i := 156) (by rfl)) (by rfl)
set_option maxRecDepth 5000 in
theorem cw_985 : (.methodLink RL 148 ⟨"AlikeSteps", "trace", "(I)I"⟩ : Cond) ∈ pj_tb := pj_t4 (List.mem_of_getElem? (i := 185) (by rfl)) (by rfl)
set_option maxRecDepth 5000 in
theorem cw_994 : (.methodLink RL 152 ⟨"AlikeSteps", "count", "(I)I"⟩ : Cond) ∈ pj_tb := pj_t4 (List.mem_of_getElem? (i := 194) (by rfl)) (by rfl)
set_option maxRecDepth 5000 in
theorem cw_1007 : (.methodLink RL 156 ⟨"AlikeSteps", "status", "()I"⟩ : Cond) ∈ pj_tb := pj_t4 (List.mem_of_getElem? (i := 207) (by rfl)) (by rfl)
set_option maxRecDepth 5000 in
theorem cw_1119 : (.methodLink RL 17 ⟨"AlikeStepsModel", "row", "(III)I"⟩ : Cond) ∈ pj_tb := pj_t5 (List.mem_of_getElem? (i := 79) (by rfl)) (by rfl)
set_option maxRecDepth 5000 in
theorem cw_1139 : (.methodLink RL 21 ⟨"AlikeStepsModel", "set", "(III)I"⟩ : Cond) ∈ pj_tb := pj_t5 (List.mem_of_getElem? (i := 99) (by rfl)) (by rfl)
set_option maxRecDepth 5000 in
theorem cw_1150 : (.methodLink RL 26 ⟨"AlikeStepsModel", "copy", "(IIIII)I"⟩ : Cond) ∈ pj_tb := pj_t5 (List.mem_of_getElem? (i := 110) (by rfl)) (by rfl)
set_option maxRecDepth 5000 in
theorem cw_1158 : (.methodLink RL 31 ⟨"AlikeStepsModel", "drop", "(I)I"⟩ : Cond) ∈ pj_tb := pj_t5 (List.mem_of_getElem? (i := 118) (by rfl)) (by rfl)
set_option maxRecDepth 5000 in
theorem cw_1162 : (.methodLink RL 35 ⟨"AlikeStepsModel", "feed", "(I)I"⟩ : Cond) ∈ pj_tb := pj_t5 (List.mem_of_getElem? (i := 122) (by rfl)) (by rfl)
set_option maxRecDepth 5000 in
theorem cw_1167 : (.methodLink RL 40 ⟨"AlikeStepsModel", "system", "()I"⟩ : Cond) ∈ pj_tb := pj_t5 (List.mem_of_getElem? (i := 127) (by rfl)) (by rfl)
set_option maxRecDepth 5000 in
theorem cw_1213 : (.methodLink RL 44 ⟨"AlikeStepsModel", "fault", "()I"⟩ : Cond) ∈ pj_tb := pj_t5 (List.mem_of_getElem? (i := 173) (by rfl)) (by rfl)
set_option maxRecDepth 5000 in
theorem cw_1217 : (.methodLink RL 48 ⟨"AlikeStepsModel", "lay", "(III)I"⟩ : Cond) ∈ pj_tb := pj_t5 (List.mem_of_getElem? (i := 177) (by rfl)) (by rfl)
set_option maxRecDepth 5000 in
theorem cw_1232 : (.methodLink RL 52 ⟨"AlikeStepsModel", "cut", "(I)I"⟩ : Cond) ∈ pj_tb := pj_t5 (List.mem_of_getElem? (i := 192) (by rfl)) (by rfl)
set_option maxRecDepth 5000 in
theorem cw_1240 : (.methodLink RL 56 ⟨"AlikeStepsModel", "turn", "(I)I"⟩ : Cond) ∈ pj_tb := pj_t5 (List.mem_of_getElem? (i := 200) (by rfl)) (by rfl)
set_option maxRecDepth 5000 in
theorem cw_1244 : (.methodLink RL 61 ⟨"AlikeStepsModel", "become", "(II)I"⟩ : Cond) ∈ pj_tb := pj_t5 (List.mem_of_getElem? (i := 204) (by rfl)) (by rfl)
set_option maxRecDepth 5000 in
theorem cw_1249 : (.methodLink RL 65 ⟨"AlikeStepsModel", "undo", "()I"⟩ : Cond) ∈ pj_tb := pj_t5 (List.mem_of_getElem? (i := 209) (by rfl)) (by rfl)
set_option maxRecDepth 5000 in
theorem cw_1253 : (.methodLink RL 69 ⟨"AlikeStepsModel", "arc", "(II)I"⟩ : Cond) ∈ pj_tb := pj_t5 (List.mem_of_getElem? (i := 213) (by rfl)) (by rfl)
set_option maxRecDepth 5000 in
theorem cw_1257 : (.methodLink RL 73 ⟨"AlikeStepsModel", "moves", "(III)I"⟩ : Cond) ∈ pj_tb := pj_t5 (List.mem_of_getElem? (i := 217) (by rfl)) (by rfl)
set_option maxRecDepth 5000 in
theorem cw_1292 : (.methodLink RL 77 ⟨"AlikeStepsModel", "block", "(II)I"⟩ : Cond) ∈ pj_tb := pj_t6 (List.mem_of_getElem? (i := 12) (by rfl)) (by rfl)
set_option maxRecDepth 5000 in
theorem cw_1329 : (.methodLink RL 81 ⟨"AlikeStepsModel", "parts", "(II)I"⟩ : Cond) ∈ pj_tb := pj_t6 (List.mem_of_getElem? (i := 49) (by rfl)) (by rfl)
set_option maxRecDepth 5000 in
theorem cw_1337 : (.methodLink RL 85 ⟨"AlikeStepsModel", "behind", "(III)I"⟩ : Cond) ∈ pj_tb := pj_t6 (List.mem_of_getElem? (i := 57) (by rfl)) (by rfl)
set_option maxRecDepth 5000 in
theorem cw_1341 : (.methodLink RL 90 ⟨"AlikeStepsModel", "signs", "(II)J"⟩ : Cond) ∈ pj_tb := pj_t6 (List.mem_of_getElem? (i := 61) (by rfl)) (by rfl)
set_option maxRecDepth 5000 in
theorem cw_1346 : (.methodLink RL 94 ⟨"AlikeStepsModel", "parted", "(III)I"⟩ : Cond) ∈ pj_tb := pj_t6 (List.mem_of_getElem? (i := 66) (by rfl)) (by rfl)
set_option maxRecDepth 5000 in
theorem cw_1354 : (.methodLink RL 99 ⟨"AlikeStepsModel", "tells", "(IIII)I"⟩ : Cond) ∈ pj_tb := pj_t6 (List.mem_of_getElem? (i := 74) (by rfl)) (by rfl)
set_option maxRecDepth 5000 in
theorem cw_1381 : (.methodLink RL 103 ⟨"AlikeStepsModel", "depth", "(III)I"⟩ : Cond) ∈ pj_tb := pj_t6 (List.mem_of_getElem? (i := 101) (by rfl)) (by rfl)
set_option maxRecDepth 5000 in
theorem cw_1385 : (.methodLink RL 107 ⟨"AlikeStepsModel", "holds", "(IIII)I"⟩ : Cond) ∈ pj_tb := pj_t6 (List.mem_of_getElem? (i := 105) (by rfl)) (by rfl)
set_option maxRecDepth 5000 in
theorem cw_1393 : (.methodLink RL 111 ⟨"AlikeStepsModel", "small", "(III)I"⟩ : Cond) ∈ pj_tb := pj_t6 (List.mem_of_getElem? (i := 113) (by rfl)) (by rfl)
set_option maxRecDepth 5000 in
theorem cw_1401 : (.methodLink RL 115 ⟨"AlikeStepsModel", "arcs", "(I)I"⟩ : Cond) ∈ pj_tb := pj_t6 (List.mem_of_getElem? (i := 121) (by rfl)) (by rfl)
set_option maxRecDepth 5000 in
theorem cw_1405 : (.methodLink RL 119 ⟨"AlikeStepsModel", "words", "(II)I"⟩ : Cond) ∈ pj_tb := pj_t6 (List.mem_of_getElem? (i := 125) (by rfl)) (by rfl)
set_option maxRecDepth 5000 in
theorem cw_1409 : (.methodLink RL 123 ⟨"AlikeStepsModel", "walk", "(III)I"⟩ : Cond) ∈ pj_tb := pj_t6 (List.mem_of_getElem? (i := 129) (by rfl)) (by rfl)
set_option maxRecDepth 5000 in
theorem cw_1424 : (.methodLink RL 127 ⟨"AlikeStepsModel", "fits", "(IIII)I"⟩ : Cond) ∈ pj_tb := pj_t6 (List.mem_of_getElem? (i := 144) (by rfl)) (by rfl)
set_option maxRecDepth 5000 in
theorem cw_1428 : (.methodLink RL 131 ⟨"AlikeStepsModel", "image", "(I)I"⟩ : Cond) ∈ pj_tb := pj_t6 (List.mem_of_getElem? (i := 148) (by rfl)) (by rfl)
set_option maxRecDepth 5000 in
theorem cw_1432 : (.methodLink RL 135 ⟨"AlikeStepsModel", "restore", "(I)I"⟩ : Cond) ∈ pj_tb := pj_t6 (List.mem_of_getElem? (i := 152) (by rfl)) (by rfl)
set_option maxRecDepth 5000 in
theorem cw_1436 : (.methodLink RL 139 ⟨"AlikeStepsModel", "kind", "(I)I"⟩ : Cond) ∈ pj_tb := pj_t6 (List.mem_of_getElem? (i := 156) (by rfl)) (by rfl)
set_option maxRecDepth 5000 in
theorem cw_1444 : (.methodLink RL 143 ⟨"AlikeStepsModel", "as", "(II)I"⟩ : Cond) ∈ pj_tb := pj_t6 (List.mem_of_getElem? (i := 164) (by rfl)) (by rfl)
set_option maxRecDepth 5000 in
theorem cw_1448 : (.methodLink RL 147 ⟨"AlikeStepsModel", "ask", "(II)I"⟩ : Cond) ∈ pj_tb := pj_t6 (List.mem_of_getElem? (i := 168) (by rfl)) (by rfl)
set_option maxRecDepth 5000 in
theorem cw_1476 : (.methodLink RL 151 ⟨"AlikeStepsModel", "trace", "(I)I"⟩ : Cond) ∈ pj_tb := pj_t6 (List.mem_of_getElem? (i := 196) (by rfl)) (by rfl)
set_option maxRecDepth 5000 in
theorem cw_1480 : (.methodLink RL 155 ⟨"AlikeStepsModel", "count", "(I)I"⟩ : Cond) ∈ pj_tb := pj_t6 (List.mem_of_getElem? (i := 200) (by rfl)) (by rfl)
set_option maxRecDepth 5000 in
theorem cw_1484 : (.methodLink RL 159 ⟨"AlikeStepsModel", "status", "()I"⟩ : Cond) ∈ pj_tb := pj_t6 (List.mem_of_getElem? (i := 204) (by rfl)) (by rfl)
/-! the law, from the head of its loop on -/
abbrev c_L_law : ByteArray := code
noncomputable def H_L_law_18 (nS : Nat) (xS : Nat → Int32) : Nat → Int32 → pj_M → Option (Int32 × pj_M)
  | 0, _, _ => none
  | n1 + 1, x3, m => (if ((Int32.ofNat nS) - 6) < x3 then (some (1, m)) else (if x3 < 0 ∨ nS ≤ x3.toNatClampNeg then none else (if ((xS x3.toNatClampNeg) &&& 63) = 0 then (if (x3 + 1) < 0 ∨ nS ≤ (x3 + 1).toNatClampNeg then none else (if (x3 + 2) < 0 ∨ nS ≤ (x3 + 2).toNatClampNeg then none else (if (x3 + 3) < 0 ∨ nS ≤ (x3 + 3).toNatClampNeg then none else ((F_X10_row (xS (x3 + 1).toNatClampNeg) (xS (x3 + 2).toNatClampNeg) (xS (x3 + 3).toNatClampNeg) m).bind fun q1 => (if (x3 + 1) < 0 ∨ nS ≤ (x3 + 1).toNatClampNeg then none else (if (x3 + 2) < 0 ∨ nS ≤ (x3 + 2).toNatClampNeg then none else (if (x3 + 3) < 0 ∨ nS ≤ (x3 + 3).toNatClampNeg then none else ((F_X11_row (xS (x3 + 1).toNatClampNeg) (xS (x3 + 2).toNatClampNeg) (xS (x3 + 3).toNatClampNeg) q1.2).bind fun q2 => (if q1.1 = q2.1 then (H_L_law_18 nS xS n1 (x3 + 6) q2.2) else (some (0, q2.2))))))))))) else (if ((xS x3.toNatClampNeg) &&& 63) = 1 then (if (x3 + 1) < 0 ∨ nS ≤ (x3 + 1).toNatClampNeg then none else (if (x3 + 2) < 0 ∨ nS ≤ (x3 + 2).toNatClampNeg then none else (if (x3 + 3) < 0 ∨ nS ≤ (x3 + 3).toNatClampNeg then none else ((F_X10_set (xS (x3 + 1).toNatClampNeg) (xS (x3 + 2).toNatClampNeg) (xS (x3 + 3).toNatClampNeg) m).bind fun q3 => (if (x3 + 1) < 0 ∨ nS ≤ (x3 + 1).toNatClampNeg then none else (if (x3 + 2) < 0 ∨ nS ≤ (x3 + 2).toNatClampNeg then none else (if (x3 + 3) < 0 ∨ nS ≤ (x3 + 3).toNatClampNeg then none else ((F_X11_set (xS (x3 + 1).toNatClampNeg) (xS (x3 + 2).toNatClampNeg) (xS (x3 + 3).toNatClampNeg) q3.2).bind fun q4 => (if q3.1 = q4.1 then (H_L_law_18 nS xS n1 (x3 + 6) q4.2) else (some (0, q4.2))))))))))) else (if ((xS x3.toNatClampNeg) &&& 63) = 2 then (if (x3 + 1) < 0 ∨ nS ≤ (x3 + 1).toNatClampNeg then none else (if (x3 + 2) < 0 ∨ nS ≤ (x3 + 2).toNatClampNeg then none else (if (x3 + 3) < 0 ∨ nS ≤ (x3 + 3).toNatClampNeg then none else (if (x3 + 4) < 0 ∨ nS ≤ (x3 + 4).toNatClampNeg then none else (if (x3 + 5) < 0 ∨ nS ≤ (x3 + 5).toNatClampNeg then none else ((F_X10_copy (xS (x3 + 1).toNatClampNeg) (xS (x3 + 2).toNatClampNeg) (xS (x3 + 3).toNatClampNeg) (xS (x3 + 4).toNatClampNeg) (xS (x3 + 5).toNatClampNeg) m).bind fun q5 => (if (x3 + 1) < 0 ∨ nS ≤ (x3 + 1).toNatClampNeg then none else (if (x3 + 2) < 0 ∨ nS ≤ (x3 + 2).toNatClampNeg then none else (if (x3 + 3) < 0 ∨ nS ≤ (x3 + 3).toNatClampNeg then none else (if (x3 + 4) < 0 ∨ nS ≤ (x3 + 4).toNatClampNeg then none else (if (x3 + 5) < 0 ∨ nS ≤ (x3 + 5).toNatClampNeg then none else ((F_X11_copy (xS (x3 + 1).toNatClampNeg) (xS (x3 + 2).toNatClampNeg) (xS (x3 + 3).toNatClampNeg) (xS (x3 + 4).toNatClampNeg) (xS (x3 + 5).toNatClampNeg) q5.2).bind fun q6 => (if q5.1 = q6.1 then (H_L_law_18 nS xS n1 (x3 + 6) q6.2) else (some (0, q6.2))))))))))))))) else (if ((xS x3.toNatClampNeg) &&& 63) = 3 then (if (x3 + 1) < 0 ∨ nS ≤ (x3 + 1).toNatClampNeg then none else ((F_X10_drop (xS (x3 + 1).toNatClampNeg) m).bind fun q7 => (if (x3 + 1) < 0 ∨ nS ≤ (x3 + 1).toNatClampNeg then none else ((F_X11_drop (xS (x3 + 1).toNatClampNeg) q7.2).bind fun q8 => (if q7.1 = q8.1 then (H_L_law_18 nS xS n1 (x3 + 6) q8.2) else (some (0, q8.2))))))) else (if ((xS x3.toNatClampNeg) &&& 63) = 4 then (if (x3 + 1) < 0 ∨ nS ≤ (x3 + 1).toNatClampNeg then none else ((F_X10_feed (xS (x3 + 1).toNatClampNeg) m).bind fun q9 => (if (x3 + 1) < 0 ∨ nS ≤ (x3 + 1).toNatClampNeg then none else ((F_X11_feed (xS (x3 + 1).toNatClampNeg) q9.2).bind fun q10 => (if q9.1 = q10.1 then (H_L_law_18 nS xS n1 (x3 + 6) q10.2) else (some (0, q10.2))))))) else (if ((xS x3.toNatClampNeg) &&& 63) = 5 then ((F_X10_system m).bind fun q11 => ((F_X11_system q11.2).bind fun q12 => (if q11.1 = q12.1 then (H_L_law_18 nS xS n1 (x3 + 6) q12.2) else (some (0, q12.2))))) else (if ((xS x3.toNatClampNeg) &&& 63) = 6 then ((F_X10_fault m).bind fun q13 => ((F_X11_fault q13.2).bind fun q14 => (if q13.1 = q14.1 then (H_L_law_18 nS xS n1 (x3 + 6) q14.2) else (some (0, q14.2))))) else (if ((xS x3.toNatClampNeg) &&& 63) = 7 then (if (x3 + 1) < 0 ∨ nS ≤ (x3 + 1).toNatClampNeg then none else (if (x3 + 2) < 0 ∨ nS ≤ (x3 + 2).toNatClampNeg then none else (if (x3 + 3) < 0 ∨ nS ≤ (x3 + 3).toNatClampNeg then none else ((F_X10_lay (xS (x3 + 1).toNatClampNeg) (xS (x3 + 2).toNatClampNeg) (xS (x3 + 3).toNatClampNeg) m).bind fun q15 => (if (x3 + 1) < 0 ∨ nS ≤ (x3 + 1).toNatClampNeg then none else (if (x3 + 2) < 0 ∨ nS ≤ (x3 + 2).toNatClampNeg then none else (if (x3 + 3) < 0 ∨ nS ≤ (x3 + 3).toNatClampNeg then none else ((F_X11_lay (xS (x3 + 1).toNatClampNeg) (xS (x3 + 2).toNatClampNeg) (xS (x3 + 3).toNatClampNeg) q15.2).bind fun q16 => (if q15.1 = q16.1 then (H_L_law_18 nS xS n1 (x3 + 6) q16.2) else (some (0, q16.2))))))))))) else (if ((xS x3.toNatClampNeg) &&& 63) = 8 then (if (x3 + 1) < 0 ∨ nS ≤ (x3 + 1).toNatClampNeg then none else ((F_X10_cut (xS (x3 + 1).toNatClampNeg) m).bind fun q17 => (if (x3 + 1) < 0 ∨ nS ≤ (x3 + 1).toNatClampNeg then none else ((F_X11_cut (xS (x3 + 1).toNatClampNeg) q17.2).bind fun q18 => (if q17.1 = q18.1 then (H_L_law_18 nS xS n1 (x3 + 6) q18.2) else (some (0, q18.2))))))) else (if ((xS x3.toNatClampNeg) &&& 63) = 9 then (if (x3 + 1) < 0 ∨ nS ≤ (x3 + 1).toNatClampNeg then none else ((F_X10_turn (xS (x3 + 1).toNatClampNeg) m).bind fun q19 => (if (x3 + 1) < 0 ∨ nS ≤ (x3 + 1).toNatClampNeg then none else ((F_X11_turn (xS (x3 + 1).toNatClampNeg) q19.2).bind fun q20 => (if q19.1 = q20.1 then (H_L_law_18 nS xS n1 (x3 + 6) q20.2) else (some (0, q20.2))))))) else (if ((xS x3.toNatClampNeg) &&& 63) = 10 then (if (x3 + 1) < 0 ∨ nS ≤ (x3 + 1).toNatClampNeg then none else (if (x3 + 2) < 0 ∨ nS ≤ (x3 + 2).toNatClampNeg then none else ((F_X10_become (xS (x3 + 1).toNatClampNeg) (xS (x3 + 2).toNatClampNeg) m).bind fun q21 => (if (x3 + 1) < 0 ∨ nS ≤ (x3 + 1).toNatClampNeg then none else (if (x3 + 2) < 0 ∨ nS ≤ (x3 + 2).toNatClampNeg then none else ((F_X11_become (xS (x3 + 1).toNatClampNeg) (xS (x3 + 2).toNatClampNeg) q21.2).bind fun q22 => (if q21.1 = q22.1 then (H_L_law_18 nS xS n1 (x3 + 6) q22.2) else (some (0, q22.2))))))))) else (if ((xS x3.toNatClampNeg) &&& 63) = 11 then ((F_X10_undo m).bind fun q23 => ((F_X11_undo q23.2).bind fun q24 => (if q23.1 = q24.1 then (H_L_law_18 nS xS n1 (x3 + 6) q24.2) else (some (0, q24.2))))) else (if ((xS x3.toNatClampNeg) &&& 63) = 12 then (if (x3 + 1) < 0 ∨ nS ≤ (x3 + 1).toNatClampNeg then none else (if (x3 + 2) < 0 ∨ nS ≤ (x3 + 2).toNatClampNeg then none else ((F_X10_arc (xS (x3 + 1).toNatClampNeg) (xS (x3 + 2).toNatClampNeg) m).bind fun q25 => (if (x3 + 1) < 0 ∨ nS ≤ (x3 + 1).toNatClampNeg then none else (if (x3 + 2) < 0 ∨ nS ≤ (x3 + 2).toNatClampNeg then none else ((F_X11_arc (xS (x3 + 1).toNatClampNeg) (xS (x3 + 2).toNatClampNeg) q25.2).bind fun q26 => (if q25.1 = q26.1 then (H_L_law_18 nS xS n1 (x3 + 6) q26.2) else (some (0, q26.2))))))))) else (if ((xS x3.toNatClampNeg) &&& 63) = 13 then (if (x3 + 1) < 0 ∨ nS ≤ (x3 + 1).toNatClampNeg then none else (if (x3 + 2) < 0 ∨ nS ≤ (x3 + 2).toNatClampNeg then none else (if (x3 + 3) < 0 ∨ nS ≤ (x3 + 3).toNatClampNeg then none else ((F_X10_moves (xS (x3 + 1).toNatClampNeg) (xS (x3 + 2).toNatClampNeg) (xS (x3 + 3).toNatClampNeg) m).bind fun q27 => (if (x3 + 1) < 0 ∨ nS ≤ (x3 + 1).toNatClampNeg then none else (if (x3 + 2) < 0 ∨ nS ≤ (x3 + 2).toNatClampNeg then none else (if (x3 + 3) < 0 ∨ nS ≤ (x3 + 3).toNatClampNeg then none else ((F_X11_moves (xS (x3 + 1).toNatClampNeg) (xS (x3 + 2).toNatClampNeg) (xS (x3 + 3).toNatClampNeg) q27.2).bind fun q28 => (if q27.1 = q28.1 then (H_L_law_18 nS xS n1 (x3 + 6) q28.2) else (some (0, q28.2))))))))))) else (if ((xS x3.toNatClampNeg) &&& 63) = 14 then (if (x3 + 1) < 0 ∨ nS ≤ (x3 + 1).toNatClampNeg then none else (if (x3 + 2) < 0 ∨ nS ≤ (x3 + 2).toNatClampNeg then none else ((F_X10_block (xS (x3 + 1).toNatClampNeg) (xS (x3 + 2).toNatClampNeg) m).bind fun q29 => (if (x3 + 1) < 0 ∨ nS ≤ (x3 + 1).toNatClampNeg then none else (if (x3 + 2) < 0 ∨ nS ≤ (x3 + 2).toNatClampNeg then none else ((F_X11_block (xS (x3 + 1).toNatClampNeg) (xS (x3 + 2).toNatClampNeg) q29.2).bind fun q30 => (if q29.1 = q30.1 then (H_L_law_18 nS xS n1 (x3 + 6) q30.2) else (some (0, q30.2))))))))) else (if ((xS x3.toNatClampNeg) &&& 63) = 15 then (if (x3 + 1) < 0 ∨ nS ≤ (x3 + 1).toNatClampNeg then none else (if (x3 + 2) < 0 ∨ nS ≤ (x3 + 2).toNatClampNeg then none else ((F_X10_parts (xS (x3 + 1).toNatClampNeg) (xS (x3 + 2).toNatClampNeg) m).bind fun q31 => (if (x3 + 1) < 0 ∨ nS ≤ (x3 + 1).toNatClampNeg then none else (if (x3 + 2) < 0 ∨ nS ≤ (x3 + 2).toNatClampNeg then none else ((F_X11_parts (xS (x3 + 1).toNatClampNeg) (xS (x3 + 2).toNatClampNeg) q31.2).bind fun q32 => (if q31.1 = q32.1 then (H_L_law_18 nS xS n1 (x3 + 6) q32.2) else (some (0, q32.2))))))))) else (if ((xS x3.toNatClampNeg) &&& 63) = 16 then (if (x3 + 1) < 0 ∨ nS ≤ (x3 + 1).toNatClampNeg then none else (if (x3 + 2) < 0 ∨ nS ≤ (x3 + 2).toNatClampNeg then none else (if (x3 + 3) < 0 ∨ nS ≤ (x3 + 3).toNatClampNeg then none else ((F_X10_behind (xS (x3 + 1).toNatClampNeg) (xS (x3 + 2).toNatClampNeg) (xS (x3 + 3).toNatClampNeg) m).bind fun q33 => (if (x3 + 1) < 0 ∨ nS ≤ (x3 + 1).toNatClampNeg then none else (if (x3 + 2) < 0 ∨ nS ≤ (x3 + 2).toNatClampNeg then none else (if (x3 + 3) < 0 ∨ nS ≤ (x3 + 3).toNatClampNeg then none else ((F_X11_behind (xS (x3 + 1).toNatClampNeg) (xS (x3 + 2).toNatClampNeg) (xS (x3 + 3).toNatClampNeg) q33.2).bind fun q34 => (if q33.1 = q34.1 then (H_L_law_18 nS xS n1 (x3 + 6) q34.2) else (some (0, q34.2))))))))))) else (if ((xS x3.toNatClampNeg) &&& 63) = 17 then (if (x3 + 1) < 0 ∨ nS ≤ (x3 + 1).toNatClampNeg then none else (if (x3 + 2) < 0 ∨ nS ≤ (x3 + 2).toNatClampNeg then none else ((F_X10_signs (xS (x3 + 1).toNatClampNeg) (xS (x3 + 2).toNatClampNeg) m).bind fun q35 => (if (x3 + 1) < 0 ∨ nS ≤ (x3 + 1).toNatClampNeg then none else (if (x3 + 2) < 0 ∨ nS ≤ (x3 + 2).toNatClampNeg then none else ((F_X11_signs (xS (x3 + 1).toNatClampNeg) (xS (x3 + 2).toNatClampNeg) q35.2).bind fun q36 => (if (lg_cmp q35.1 q36.1) = 0 then (H_L_law_18 nS xS n1 (x3 + 6) q36.2) else (some (0, q36.2))))))))) else (if ((xS x3.toNatClampNeg) &&& 63) = 18 then (if (x3 + 1) < 0 ∨ nS ≤ (x3 + 1).toNatClampNeg then none else (if (x3 + 2) < 0 ∨ nS ≤ (x3 + 2).toNatClampNeg then none else (if (x3 + 3) < 0 ∨ nS ≤ (x3 + 3).toNatClampNeg then none else ((F_X10_parted (xS (x3 + 1).toNatClampNeg) (xS (x3 + 2).toNatClampNeg) (xS (x3 + 3).toNatClampNeg) m).bind fun q37 => (if (x3 + 1) < 0 ∨ nS ≤ (x3 + 1).toNatClampNeg then none else (if (x3 + 2) < 0 ∨ nS ≤ (x3 + 2).toNatClampNeg then none else (if (x3 + 3) < 0 ∨ nS ≤ (x3 + 3).toNatClampNeg then none else ((F_X11_parted (xS (x3 + 1).toNatClampNeg) (xS (x3 + 2).toNatClampNeg) (xS (x3 + 3).toNatClampNeg) q37.2).bind fun q38 => (if q37.1 = q38.1 then (H_L_law_18 nS xS n1 (x3 + 6) q38.2) else (some (0, q38.2))))))))))) else (if ((xS x3.toNatClampNeg) &&& 63) = 19 then (if (x3 + 1) < 0 ∨ nS ≤ (x3 + 1).toNatClampNeg then none else (if (x3 + 2) < 0 ∨ nS ≤ (x3 + 2).toNatClampNeg then none else (if (x3 + 3) < 0 ∨ nS ≤ (x3 + 3).toNatClampNeg then none else (if (x3 + 4) < 0 ∨ nS ≤ (x3 + 4).toNatClampNeg then none else ((F_X10_tells (xS (x3 + 1).toNatClampNeg) (xS (x3 + 2).toNatClampNeg) (xS (x3 + 3).toNatClampNeg) (xS (x3 + 4).toNatClampNeg) m).bind fun q39 => (if (x3 + 1) < 0 ∨ nS ≤ (x3 + 1).toNatClampNeg then none else (if (x3 + 2) < 0 ∨ nS ≤ (x3 + 2).toNatClampNeg then none else (if (x3 + 3) < 0 ∨ nS ≤ (x3 + 3).toNatClampNeg then none else (if (x3 + 4) < 0 ∨ nS ≤ (x3 + 4).toNatClampNeg then none else ((F_X11_tells (xS (x3 + 1).toNatClampNeg) (xS (x3 + 2).toNatClampNeg) (xS (x3 + 3).toNatClampNeg) (xS (x3 + 4).toNatClampNeg) q39.2).bind fun q40 => (if q39.1 = q40.1 then (H_L_law_18 nS xS n1 (x3 + 6) q40.2) else (some (0, q40.2))))))))))))) else (if ((xS x3.toNatClampNeg) &&& 63) = 20 then (if (x3 + 1) < 0 ∨ nS ≤ (x3 + 1).toNatClampNeg then none else (if (x3 + 2) < 0 ∨ nS ≤ (x3 + 2).toNatClampNeg then none else (if (x3 + 3) < 0 ∨ nS ≤ (x3 + 3).toNatClampNeg then none else ((F_X10_depth (xS (x3 + 1).toNatClampNeg) (xS (x3 + 2).toNatClampNeg) (xS (x3 + 3).toNatClampNeg) m).bind fun q41 => (if (x3 + 1) < 0 ∨ nS ≤ (x3 + 1).toNatClampNeg then none else (if (x3 + 2) < 0 ∨ nS ≤ (x3 + 2).toNatClampNeg then none else (if (x3 + 3) < 0 ∨ nS ≤ (x3 + 3).toNatClampNeg then none else ((F_X11_depth (xS (x3 + 1).toNatClampNeg) (xS (x3 + 2).toNatClampNeg) (xS (x3 + 3).toNatClampNeg) q41.2).bind fun q42 => (if q41.1 = q42.1 then (H_L_law_18 nS xS n1 (x3 + 6) q42.2) else (some (0, q42.2))))))))))) else (if ((xS x3.toNatClampNeg) &&& 63) = 21 then (if (x3 + 1) < 0 ∨ nS ≤ (x3 + 1).toNatClampNeg then none else (if (x3 + 2) < 0 ∨ nS ≤ (x3 + 2).toNatClampNeg then none else (if (x3 + 3) < 0 ∨ nS ≤ (x3 + 3).toNatClampNeg then none else (if (x3 + 4) < 0 ∨ nS ≤ (x3 + 4).toNatClampNeg then none else ((F_X10_holds (xS (x3 + 1).toNatClampNeg) (xS (x3 + 2).toNatClampNeg) (xS (x3 + 3).toNatClampNeg) (xS (x3 + 4).toNatClampNeg) m).bind fun q43 => (if (x3 + 1) < 0 ∨ nS ≤ (x3 + 1).toNatClampNeg then none else (if (x3 + 2) < 0 ∨ nS ≤ (x3 + 2).toNatClampNeg then none else (if (x3 + 3) < 0 ∨ nS ≤ (x3 + 3).toNatClampNeg then none else (if (x3 + 4) < 0 ∨ nS ≤ (x3 + 4).toNatClampNeg then none else ((F_X11_holds (xS (x3 + 1).toNatClampNeg) (xS (x3 + 2).toNatClampNeg) (xS (x3 + 3).toNatClampNeg) (xS (x3 + 4).toNatClampNeg) q43.2).bind fun q44 => (if q43.1 = q44.1 then (H_L_law_18 nS xS n1 (x3 + 6) q44.2) else (some (0, q44.2))))))))))))) else (if ((xS x3.toNatClampNeg) &&& 63) = 22 then (if (x3 + 1) < 0 ∨ nS ≤ (x3 + 1).toNatClampNeg then none else (if (x3 + 2) < 0 ∨ nS ≤ (x3 + 2).toNatClampNeg then none else (if (x3 + 3) < 0 ∨ nS ≤ (x3 + 3).toNatClampNeg then none else ((F_X10_small (xS (x3 + 1).toNatClampNeg) (xS (x3 + 2).toNatClampNeg) (xS (x3 + 3).toNatClampNeg) m).bind fun q45 => (if (x3 + 1) < 0 ∨ nS ≤ (x3 + 1).toNatClampNeg then none else (if (x3 + 2) < 0 ∨ nS ≤ (x3 + 2).toNatClampNeg then none else (if (x3 + 3) < 0 ∨ nS ≤ (x3 + 3).toNatClampNeg then none else ((F_X11_small (xS (x3 + 1).toNatClampNeg) (xS (x3 + 2).toNatClampNeg) (xS (x3 + 3).toNatClampNeg) q45.2).bind fun q46 => (if q45.1 = q46.1 then (H_L_law_18 nS xS n1 (x3 + 6) q46.2) else (some (0, q46.2))))))))))) else (if ((xS x3.toNatClampNeg) &&& 63) = 23 then (if (x3 + 1) < 0 ∨ nS ≤ (x3 + 1).toNatClampNeg then none else ((F_X10_arcs (xS (x3 + 1).toNatClampNeg) m).bind fun q47 => (if (x3 + 1) < 0 ∨ nS ≤ (x3 + 1).toNatClampNeg then none else ((F_X11_arcs (xS (x3 + 1).toNatClampNeg) q47.2).bind fun q48 => (if q47.1 = q48.1 then (H_L_law_18 nS xS n1 (x3 + 6) q48.2) else (some (0, q48.2))))))) else (if ((xS x3.toNatClampNeg) &&& 63) = 24 then (if (x3 + 1) < 0 ∨ nS ≤ (x3 + 1).toNatClampNeg then none else (if (x3 + 2) < 0 ∨ nS ≤ (x3 + 2).toNatClampNeg then none else ((F_X10_words (xS (x3 + 1).toNatClampNeg) (xS (x3 + 2).toNatClampNeg) m).bind fun q49 => (if (x3 + 1) < 0 ∨ nS ≤ (x3 + 1).toNatClampNeg then none else (if (x3 + 2) < 0 ∨ nS ≤ (x3 + 2).toNatClampNeg then none else ((F_X11_words (xS (x3 + 1).toNatClampNeg) (xS (x3 + 2).toNatClampNeg) q49.2).bind fun q50 => (if q49.1 = q50.1 then (H_L_law_18 nS xS n1 (x3 + 6) q50.2) else (some (0, q50.2))))))))) else (if ((xS x3.toNatClampNeg) &&& 63) = 25 then (if (x3 + 1) < 0 ∨ nS ≤ (x3 + 1).toNatClampNeg then none else (if (x3 + 2) < 0 ∨ nS ≤ (x3 + 2).toNatClampNeg then none else (if (x3 + 3) < 0 ∨ nS ≤ (x3 + 3).toNatClampNeg then none else ((F_X10_walk (xS (x3 + 1).toNatClampNeg) (xS (x3 + 2).toNatClampNeg) (xS (x3 + 3).toNatClampNeg) m).bind fun q51 => (if (x3 + 1) < 0 ∨ nS ≤ (x3 + 1).toNatClampNeg then none else (if (x3 + 2) < 0 ∨ nS ≤ (x3 + 2).toNatClampNeg then none else (if (x3 + 3) < 0 ∨ nS ≤ (x3 + 3).toNatClampNeg then none else ((F_X11_walk (xS (x3 + 1).toNatClampNeg) (xS (x3 + 2).toNatClampNeg) (xS (x3 + 3).toNatClampNeg) q51.2).bind fun q52 => (if q51.1 = q52.1 then (H_L_law_18 nS xS n1 (x3 + 6) q52.2) else (some (0, q52.2))))))))))) else (if ((xS x3.toNatClampNeg) &&& 63) = 26 then (if (x3 + 1) < 0 ∨ nS ≤ (x3 + 1).toNatClampNeg then none else (if (x3 + 2) < 0 ∨ nS ≤ (x3 + 2).toNatClampNeg then none else (if (x3 + 3) < 0 ∨ nS ≤ (x3 + 3).toNatClampNeg then none else (if (x3 + 4) < 0 ∨ nS ≤ (x3 + 4).toNatClampNeg then none else ((F_X10_fits (xS (x3 + 1).toNatClampNeg) (xS (x3 + 2).toNatClampNeg) (xS (x3 + 3).toNatClampNeg) (xS (x3 + 4).toNatClampNeg) m).bind fun q53 => (if (x3 + 1) < 0 ∨ nS ≤ (x3 + 1).toNatClampNeg then none else (if (x3 + 2) < 0 ∨ nS ≤ (x3 + 2).toNatClampNeg then none else (if (x3 + 3) < 0 ∨ nS ≤ (x3 + 3).toNatClampNeg then none else (if (x3 + 4) < 0 ∨ nS ≤ (x3 + 4).toNatClampNeg then none else ((F_X11_fits (xS (x3 + 1).toNatClampNeg) (xS (x3 + 2).toNatClampNeg) (xS (x3 + 3).toNatClampNeg) (xS (x3 + 4).toNatClampNeg) q53.2).bind fun q54 => (if q53.1 = q54.1 then (H_L_law_18 nS xS n1 (x3 + 6) q54.2) else (some (0, q54.2))))))))))))) else (if ((xS x3.toNatClampNeg) &&& 63) = 27 then (if (x3 + 1) < 0 ∨ nS ≤ (x3 + 1).toNatClampNeg then none else ((F_X10_image (xS (x3 + 1).toNatClampNeg) m).bind fun q55 => (if (x3 + 1) < 0 ∨ nS ≤ (x3 + 1).toNatClampNeg then none else ((F_X11_image (xS (x3 + 1).toNatClampNeg) q55.2).bind fun q56 => (if q55.1 = q56.1 then (H_L_law_18 nS xS n1 (x3 + 6) q56.2) else (some (0, q56.2))))))) else (if ((xS x3.toNatClampNeg) &&& 63) = 28 then (if (x3 + 1) < 0 ∨ nS ≤ (x3 + 1).toNatClampNeg then none else ((F_X10_restore (xS (x3 + 1).toNatClampNeg) m).bind fun q57 => (if (x3 + 1) < 0 ∨ nS ≤ (x3 + 1).toNatClampNeg then none else ((F_X11_restore (xS (x3 + 1).toNatClampNeg) q57.2).bind fun q58 => (if q57.1 = q58.1 then (H_L_law_18 nS xS n1 (x3 + 6) q58.2) else (some (0, q58.2))))))) else (if ((xS x3.toNatClampNeg) &&& 63) = 29 then (if (x3 + 1) < 0 ∨ nS ≤ (x3 + 1).toNatClampNeg then none else ((F_X10_kind (xS (x3 + 1).toNatClampNeg) m).bind fun q59 => (if (x3 + 1) < 0 ∨ nS ≤ (x3 + 1).toNatClampNeg then none else ((F_X11_kind (xS (x3 + 1).toNatClampNeg) q59.2).bind fun q60 => (if q59.1 = q60.1 then (H_L_law_18 nS xS n1 (x3 + 6) q60.2) else (some (0, q60.2))))))) else (if ((xS x3.toNatClampNeg) &&& 63) = 30 then (if (x3 + 1) < 0 ∨ nS ≤ (x3 + 1).toNatClampNeg then none else (if (x3 + 2) < 0 ∨ nS ≤ (x3 + 2).toNatClampNeg then none else ((F_X10_as (xS (x3 + 1).toNatClampNeg) (xS (x3 + 2).toNatClampNeg) m).bind fun q61 => (if (x3 + 1) < 0 ∨ nS ≤ (x3 + 1).toNatClampNeg then none else (if (x3 + 2) < 0 ∨ nS ≤ (x3 + 2).toNatClampNeg then none else ((F_X11_as (xS (x3 + 1).toNatClampNeg) (xS (x3 + 2).toNatClampNeg) q61.2).bind fun q62 => (if q61.1 = q62.1 then (H_L_law_18 nS xS n1 (x3 + 6) q62.2) else (some (0, q62.2))))))))) else (if ((xS x3.toNatClampNeg) &&& 63) = 31 then (if (x3 + 1) < 0 ∨ nS ≤ (x3 + 1).toNatClampNeg then none else (if (x3 + 2) < 0 ∨ nS ≤ (x3 + 2).toNatClampNeg then none else ((F_X10_ask (xS (x3 + 1).toNatClampNeg) (xS (x3 + 2).toNatClampNeg) m).bind fun q63 => (if (x3 + 1) < 0 ∨ nS ≤ (x3 + 1).toNatClampNeg then none else (if (x3 + 2) < 0 ∨ nS ≤ (x3 + 2).toNatClampNeg then none else ((F_X11_ask (xS (x3 + 1).toNatClampNeg) (xS (x3 + 2).toNatClampNeg) q63.2).bind fun q64 => (if q63.1 = q64.1 then (H_L_law_18 nS xS n1 (x3 + 6) q64.2) else (some (0, q64.2))))))))) else (if ((xS x3.toNatClampNeg) &&& 63) = 32 then (if (x3 + 1) < 0 ∨ nS ≤ (x3 + 1).toNatClampNeg then none else ((F_X10_trace (xS (x3 + 1).toNatClampNeg) m).bind fun q65 => (if (x3 + 1) < 0 ∨ nS ≤ (x3 + 1).toNatClampNeg then none else ((F_X11_trace (xS (x3 + 1).toNatClampNeg) q65.2).bind fun q66 => (if q65.1 = q66.1 then (H_L_law_18 nS xS n1 (x3 + 6) q66.2) else (some (0, q66.2))))))) else (if ((xS x3.toNatClampNeg) &&& 63) = 33 then (if (x3 + 1) < 0 ∨ nS ≤ (x3 + 1).toNatClampNeg then none else ((F_X10_count (xS (x3 + 1).toNatClampNeg) m).bind fun q67 => (if (x3 + 1) < 0 ∨ nS ≤ (x3 + 1).toNatClampNeg then none else ((F_X11_count (xS (x3 + 1).toNatClampNeg) q67.2).bind fun q68 => (if q67.1 = q68.1 then (H_L_law_18 nS xS n1 (x3 + 6) q68.2) else (some (0, q68.2))))))) else (if ((xS x3.toNatClampNeg) &&& 63) = 34 then ((F_X10_status m).bind fun q69 => ((F_X11_status q69.2).bind fun q70 => (if q69.1 = q70.1 then (H_L_law_18 nS xS n1 (x3 + 6) q70.2) else (some (0, q70.2))))) else (H_L_law_18 nS xS n1 (x3 + 6) m))))))))))))))))))))))))))))))))))))))
noncomputable def tb_L_law_0 (nS : Nat) (xS : Nat → Int32) : List (Nat × pj_T (Int32 × pj_M)) := [(18, qs_ldi 3 19), (19, qs_lda 0 20), (20, qs_slen nS 21), (21, qs_ci 6 23), (23, qs_b2 (fun x y => x - y) 24), (24, qs_icgt 1350 27), (27, qs_lda 0 28), (28, qs_ldi 3 29), (29, qs_sald nS xS 30), (30, qs_ci 63 32), (32, qs_b2 (fun x y => x &&& y) 33), (33, qs_sw [(0, 188), (1, 231), (2, 274), (3, 337), (4, 360), (5, 383), (6, 396), (7, 409), (8, 452), (9, 475), (10, 498), (11, 531), (12, 544), (13, 577), (14, 620), (15, 653), (16, 686), (17, 729), (18, 763), (19, 806), (20, 859), (21, 902), (22, 955), (23, 998), (24, 1021), (25, 1054), (26, 1097), (27, 1150), (28, 1173), (29, 1196), (30, 1219), (31, 1252), (32, 1285), (33, 1308), (34, 1331)] 1344), (188, qs_lda 1 189), (189, qs_lda 0 190), (190, qs_ldi 3 191), (191, qs_ci 1 192), (192, qs_b2 (fun x y => x + y) 193), (193, qs_sald nS xS 194), (194, qs_lda 0 195), (195, qs_ldi 3 196), (196, qs_ci 2 197), (197, qs_b2 (fun x y => x + y) 198), (198, qs_sald nS xS 199), (199, qs_lda 0 200), (200, qs_ldi 3 201), (201, qs_ci 3 202), (202, qs_b2 (fun x y => x + y) 203), (203, qs_sald nS xS 204), (204, qs_vI 10 4 W_X10_row 207), (207, qs_lda 2 208), (208, qs_lda 0 209), (209, qs_ldi 3 210), (210, qs_ci 1 211), (211, qs_b2 (fun x y => x + y) 212), (212, qs_sald nS xS 213), (213, qs_lda 0 214), (214, qs_ldi 3 215), (215, qs_ci 2 216), (216, qs_b2 (fun x y => x + y) 217), (217, qs_sald nS xS 218)]
noncomputable def tb_L_law_1 (nS : Nat) (xS : Nat → Int32) : List (Nat × pj_T (Int32 × pj_M)) := [(218, qs_lda 0 219), (219, qs_ldi 3 220), (220, qs_ci 3 221), (221, qs_b2 (fun x y => x + y) 222), (222, qs_sald nS xS 223), (223, qs_vI 11 4 W_X11_row 226), (226, qs_iceq 1344 229), (229, qs_ci 0 230), (230, qs_zret), (231, qs_lda 1 232), (232, qs_lda 0 233), (233, qs_ldi 3 234), (234, qs_ci 1 235), (235, qs_b2 (fun x y => x + y) 236), (236, qs_sald nS xS 237), (237, qs_lda 0 238), (238, qs_ldi 3 239), (239, qs_ci 2 240), (240, qs_b2 (fun x y => x + y) 241), (241, qs_sald nS xS 242), (242, qs_lda 0 243), (243, qs_ldi 3 244), (244, qs_ci 3 245), (245, qs_b2 (fun x y => x + y) 246), (246, qs_sald nS xS 247), (247, qs_vI 10 4 W_X10_set 250), (250, qs_lda 2 251), (251, qs_lda 0 252), (252, qs_ldi 3 253), (253, qs_ci 1 254), (254, qs_b2 (fun x y => x + y) 255), (255, qs_sald nS xS 256), (256, qs_lda 0 257), (257, qs_ldi 3 258), (258, qs_ci 2 259), (259, qs_b2 (fun x y => x + y) 260), (260, qs_sald nS xS 261), (261, qs_lda 0 262), (262, qs_ldi 3 263), (263, qs_ci 3 264)]
noncomputable def tb_L_law_2 (nS : Nat) (xS : Nat → Int32) : List (Nat × pj_T (Int32 × pj_M)) := [(264, qs_b2 (fun x y => x + y) 265), (265, qs_sald nS xS 266), (266, qs_vI 11 4 W_X11_set 269), (269, qs_iceq 1344 272), (272, qs_ci 0 273), (273, qs_zret), (274, qs_lda 1 275), (275, qs_lda 0 276), (276, qs_ldi 3 277), (277, qs_ci 1 278), (278, qs_b2 (fun x y => x + y) 279), (279, qs_sald nS xS 280), (280, qs_lda 0 281), (281, qs_ldi 3 282), (282, qs_ci 2 283), (283, qs_b2 (fun x y => x + y) 284), (284, qs_sald nS xS 285), (285, qs_lda 0 286), (286, qs_ldi 3 287), (287, qs_ci 3 288), (288, qs_b2 (fun x y => x + y) 289), (289, qs_sald nS xS 290), (290, qs_lda 0 291), (291, qs_ldi 3 292), (292, qs_ci 4 293), (293, qs_b2 (fun x y => x + y) 294), (294, qs_sald nS xS 295), (295, qs_lda 0 296), (296, qs_ldi 3 297), (297, qs_ci 5 298), (298, qs_b2 (fun x y => x + y) 299), (299, qs_sald nS xS 300), (300, qs_vI 10 6 W_X10_copy 303), (303, qs_lda 2 304), (304, qs_lda 0 305), (305, qs_ldi 3 306), (306, qs_ci 1 307), (307, qs_b2 (fun x y => x + y) 308), (308, qs_sald nS xS 309), (309, qs_lda 0 310)]
noncomputable def tb_L_law_3 (nS : Nat) (xS : Nat → Int32) : List (Nat × pj_T (Int32 × pj_M)) := [(310, qs_ldi 3 311), (311, qs_ci 2 312), (312, qs_b2 (fun x y => x + y) 313), (313, qs_sald nS xS 314), (314, qs_lda 0 315), (315, qs_ldi 3 316), (316, qs_ci 3 317), (317, qs_b2 (fun x y => x + y) 318), (318, qs_sald nS xS 319), (319, qs_lda 0 320), (320, qs_ldi 3 321), (321, qs_ci 4 322), (322, qs_b2 (fun x y => x + y) 323), (323, qs_sald nS xS 324), (324, qs_lda 0 325), (325, qs_ldi 3 326), (326, qs_ci 5 327), (327, qs_b2 (fun x y => x + y) 328), (328, qs_sald nS xS 329), (329, qs_vI 11 6 W_X11_copy 332), (332, qs_iceq 1344 335), (335, qs_ci 0 336), (336, qs_zret), (337, qs_lda 1 338), (338, qs_lda 0 339), (339, qs_ldi 3 340), (340, qs_ci 1 341), (341, qs_b2 (fun x y => x + y) 342), (342, qs_sald nS xS 343), (343, qs_vI 10 2 W_X10_drop 346), (346, qs_lda 2 347), (347, qs_lda 0 348), (348, qs_ldi 3 349), (349, qs_ci 1 350), (350, qs_b2 (fun x y => x + y) 351), (351, qs_sald nS xS 352), (352, qs_vI 11 2 W_X11_drop 355), (355, qs_iceq 1344 358), (358, qs_ci 0 359), (359, qs_zret)]
noncomputable def tb_L_law_4 (nS : Nat) (xS : Nat → Int32) : List (Nat × pj_T (Int32 × pj_M)) := [(360, qs_lda 1 361), (361, qs_lda 0 362), (362, qs_ldi 3 363), (363, qs_ci 1 364), (364, qs_b2 (fun x y => x + y) 365), (365, qs_sald nS xS 366), (366, qs_vI 10 2 W_X10_feed 369), (369, qs_lda 2 370), (370, qs_lda 0 371), (371, qs_ldi 3 372), (372, qs_ci 1 373), (373, qs_b2 (fun x y => x + y) 374), (374, qs_sald nS xS 375), (375, qs_vI 11 2 W_X11_feed 378), (378, qs_iceq 1344 381), (381, qs_ci 0 382), (382, qs_zret), (383, qs_lda 1 384), (384, qs_vI 10 1 W_X10_system 387), (387, qs_lda 2 388), (388, qs_vI 11 1 W_X11_system 391), (391, qs_iceq 1344 394), (394, qs_ci 0 395), (395, qs_zret), (396, qs_lda 1 397), (397, qs_vI 10 1 W_X10_fault 400), (400, qs_lda 2 401), (401, qs_vI 11 1 W_X11_fault 404), (404, qs_iceq 1344 407), (407, qs_ci 0 408), (408, qs_zret), (409, qs_lda 1 410), (410, qs_lda 0 411), (411, qs_ldi 3 412), (412, qs_ci 1 413), (413, qs_b2 (fun x y => x + y) 414), (414, qs_sald nS xS 415), (415, qs_lda 0 416), (416, qs_ldi 3 417), (417, qs_ci 2 418)]
noncomputable def tb_L_law_5 (nS : Nat) (xS : Nat → Int32) : List (Nat × pj_T (Int32 × pj_M)) := [(418, qs_b2 (fun x y => x + y) 419), (419, qs_sald nS xS 420), (420, qs_lda 0 421), (421, qs_ldi 3 422), (422, qs_ci 3 423), (423, qs_b2 (fun x y => x + y) 424), (424, qs_sald nS xS 425), (425, qs_vI 10 4 W_X10_lay 428), (428, qs_lda 2 429), (429, qs_lda 0 430), (430, qs_ldi 3 431), (431, qs_ci 1 432), (432, qs_b2 (fun x y => x + y) 433), (433, qs_sald nS xS 434), (434, qs_lda 0 435), (435, qs_ldi 3 436), (436, qs_ci 2 437), (437, qs_b2 (fun x y => x + y) 438), (438, qs_sald nS xS 439), (439, qs_lda 0 440), (440, qs_ldi 3 441), (441, qs_ci 3 442), (442, qs_b2 (fun x y => x + y) 443), (443, qs_sald nS xS 444), (444, qs_vI 11 4 W_X11_lay 447), (447, qs_iceq 1344 450), (450, qs_ci 0 451), (451, qs_zret), (452, qs_lda 1 453), (453, qs_lda 0 454), (454, qs_ldi 3 455), (455, qs_ci 1 456), (456, qs_b2 (fun x y => x + y) 457), (457, qs_sald nS xS 458), (458, qs_vI 10 2 W_X10_cut 461), (461, qs_lda 2 462), (462, qs_lda 0 463), (463, qs_ldi 3 464), (464, qs_ci 1 465), (465, qs_b2 (fun x y => x + y) 466)]
noncomputable def tb_L_law_6 (nS : Nat) (xS : Nat → Int32) : List (Nat × pj_T (Int32 × pj_M)) := [(466, qs_sald nS xS 467), (467, qs_vI 11 2 W_X11_cut 470), (470, qs_iceq 1344 473), (473, qs_ci 0 474), (474, qs_zret), (475, qs_lda 1 476), (476, qs_lda 0 477), (477, qs_ldi 3 478), (478, qs_ci 1 479), (479, qs_b2 (fun x y => x + y) 480), (480, qs_sald nS xS 481), (481, qs_vI 10 2 W_X10_turn 484), (484, qs_lda 2 485), (485, qs_lda 0 486), (486, qs_ldi 3 487), (487, qs_ci 1 488), (488, qs_b2 (fun x y => x + y) 489), (489, qs_sald nS xS 490), (490, qs_vI 11 2 W_X11_turn 493), (493, qs_iceq 1344 496), (496, qs_ci 0 497), (497, qs_zret), (498, qs_lda 1 499), (499, qs_lda 0 500), (500, qs_ldi 3 501), (501, qs_ci 1 502), (502, qs_b2 (fun x y => x + y) 503), (503, qs_sald nS xS 504), (504, qs_lda 0 505), (505, qs_ldi 3 506), (506, qs_ci 2 507), (507, qs_b2 (fun x y => x + y) 508), (508, qs_sald nS xS 509), (509, qs_vI 10 3 W_X10_become 512), (512, qs_lda 2 513), (513, qs_lda 0 514), (514, qs_ldi 3 515), (515, qs_ci 1 516), (516, qs_b2 (fun x y => x + y) 517), (517, qs_sald nS xS 518)]
noncomputable def tb_L_law_7 (nS : Nat) (xS : Nat → Int32) : List (Nat × pj_T (Int32 × pj_M)) := [(518, qs_lda 0 519), (519, qs_ldi 3 520), (520, qs_ci 2 521), (521, qs_b2 (fun x y => x + y) 522), (522, qs_sald nS xS 523), (523, qs_vI 11 3 W_X11_become 526), (526, qs_iceq 1344 529), (529, qs_ci 0 530), (530, qs_zret), (531, qs_lda 1 532), (532, qs_vI 10 1 W_X10_undo 535), (535, qs_lda 2 536), (536, qs_vI 11 1 W_X11_undo 539), (539, qs_iceq 1344 542), (542, qs_ci 0 543), (543, qs_zret), (544, qs_lda 1 545), (545, qs_lda 0 546), (546, qs_ldi 3 547), (547, qs_ci 1 548), (548, qs_b2 (fun x y => x + y) 549), (549, qs_sald nS xS 550), (550, qs_lda 0 551), (551, qs_ldi 3 552), (552, qs_ci 2 553), (553, qs_b2 (fun x y => x + y) 554), (554, qs_sald nS xS 555), (555, qs_vI 10 3 W_X10_arc 558), (558, qs_lda 2 559), (559, qs_lda 0 560), (560, qs_ldi 3 561), (561, qs_ci 1 562), (562, qs_b2 (fun x y => x + y) 563), (563, qs_sald nS xS 564), (564, qs_lda 0 565), (565, qs_ldi 3 566), (566, qs_ci 2 567), (567, qs_b2 (fun x y => x + y) 568), (568, qs_sald nS xS 569), (569, qs_vI 11 3 W_X11_arc 572)]
noncomputable def tb_L_law_8 (nS : Nat) (xS : Nat → Int32) : List (Nat × pj_T (Int32 × pj_M)) := [(572, qs_iceq 1344 575), (575, qs_ci 0 576), (576, qs_zret), (577, qs_lda 1 578), (578, qs_lda 0 579), (579, qs_ldi 3 580), (580, qs_ci 1 581), (581, qs_b2 (fun x y => x + y) 582), (582, qs_sald nS xS 583), (583, qs_lda 0 584), (584, qs_ldi 3 585), (585, qs_ci 2 586), (586, qs_b2 (fun x y => x + y) 587), (587, qs_sald nS xS 588), (588, qs_lda 0 589), (589, qs_ldi 3 590), (590, qs_ci 3 591), (591, qs_b2 (fun x y => x + y) 592), (592, qs_sald nS xS 593), (593, qs_vI 10 4 W_X10_moves 596), (596, qs_lda 2 597), (597, qs_lda 0 598), (598, qs_ldi 3 599), (599, qs_ci 1 600), (600, qs_b2 (fun x y => x + y) 601), (601, qs_sald nS xS 602), (602, qs_lda 0 603), (603, qs_ldi 3 604), (604, qs_ci 2 605), (605, qs_b2 (fun x y => x + y) 606), (606, qs_sald nS xS 607), (607, qs_lda 0 608), (608, qs_ldi 3 609), (609, qs_ci 3 610), (610, qs_b2 (fun x y => x + y) 611), (611, qs_sald nS xS 612), (612, qs_vI 11 4 W_X11_moves 615), (615, qs_iceq 1344 618), (618, qs_ci 0 619), (619, qs_zret)]
noncomputable def tb_L_law_9 (nS : Nat) (xS : Nat → Int32) : List (Nat × pj_T (Int32 × pj_M)) := [(620, qs_lda 1 621), (621, qs_lda 0 622), (622, qs_ldi 3 623), (623, qs_ci 1 624), (624, qs_b2 (fun x y => x + y) 625), (625, qs_sald nS xS 626), (626, qs_lda 0 627), (627, qs_ldi 3 628), (628, qs_ci 2 629), (629, qs_b2 (fun x y => x + y) 630), (630, qs_sald nS xS 631), (631, qs_vI 10 3 W_X10_block 634), (634, qs_lda 2 635), (635, qs_lda 0 636), (636, qs_ldi 3 637), (637, qs_ci 1 638), (638, qs_b2 (fun x y => x + y) 639), (639, qs_sald nS xS 640), (640, qs_lda 0 641), (641, qs_ldi 3 642), (642, qs_ci 2 643), (643, qs_b2 (fun x y => x + y) 644), (644, qs_sald nS xS 645), (645, qs_vI 11 3 W_X11_block 648), (648, qs_iceq 1344 651), (651, qs_ci 0 652), (652, qs_zret), (653, qs_lda 1 654), (654, qs_lda 0 655), (655, qs_ldi 3 656), (656, qs_ci 1 657), (657, qs_b2 (fun x y => x + y) 658), (658, qs_sald nS xS 659), (659, qs_lda 0 660), (660, qs_ldi 3 661), (661, qs_ci 2 662), (662, qs_b2 (fun x y => x + y) 663), (663, qs_sald nS xS 664), (664, qs_vI 10 3 W_X10_parts 667), (667, qs_lda 2 668)]
noncomputable def tb_L_law_10 (nS : Nat) (xS : Nat → Int32) : List (Nat × pj_T (Int32 × pj_M)) := [(668, qs_lda 0 669), (669, qs_ldi 3 670), (670, qs_ci 1 671), (671, qs_b2 (fun x y => x + y) 672), (672, qs_sald nS xS 673), (673, qs_lda 0 674), (674, qs_ldi 3 675), (675, qs_ci 2 676), (676, qs_b2 (fun x y => x + y) 677), (677, qs_sald nS xS 678), (678, qs_vI 11 3 W_X11_parts 681), (681, qs_iceq 1344 684), (684, qs_ci 0 685), (685, qs_zret), (686, qs_lda 1 687), (687, qs_lda 0 688), (688, qs_ldi 3 689), (689, qs_ci 1 690), (690, qs_b2 (fun x y => x + y) 691), (691, qs_sald nS xS 692), (692, qs_lda 0 693), (693, qs_ldi 3 694), (694, qs_ci 2 695), (695, qs_b2 (fun x y => x + y) 696), (696, qs_sald nS xS 697), (697, qs_lda 0 698), (698, qs_ldi 3 699), (699, qs_ci 3 700), (700, qs_b2 (fun x y => x + y) 701), (701, qs_sald nS xS 702), (702, qs_vI 10 4 W_X10_behind 705), (705, qs_lda 2 706), (706, qs_lda 0 707), (707, qs_ldi 3 708), (708, qs_ci 1 709), (709, qs_b2 (fun x y => x + y) 710), (710, qs_sald nS xS 711), (711, qs_lda 0 712), (712, qs_ldi 3 713), (713, qs_ci 2 714)]
noncomputable def tb_L_law_11 (nS : Nat) (xS : Nat → Int32) : List (Nat × pj_T (Int32 × pj_M)) := [(714, qs_b2 (fun x y => x + y) 715), (715, qs_sald nS xS 716), (716, qs_lda 0 717), (717, qs_ldi 3 718), (718, qs_ci 3 719), (719, qs_b2 (fun x y => x + y) 720), (720, qs_sald nS xS 721), (721, qs_vI 11 4 W_X11_behind 724), (724, qs_iceq 1344 727), (727, qs_ci 0 728), (728, qs_zret), (729, qs_lda 1 730), (730, qs_lda 0 731), (731, qs_ldi 3 732), (732, qs_ci 1 733), (733, qs_b2 (fun x y => x + y) 734), (734, qs_sald nS xS 735), (735, qs_lda 0 736), (736, qs_ldi 3 737), (737, qs_ci 2 738), (738, qs_b2 (fun x y => x + y) 739), (739, qs_sald nS xS 740), (740, qs_vL 10 3 W_X10_signs 743), (743, qs_lda 2 744), (744, qs_lda 0 745), (745, qs_ldi 3 746), (746, qs_ci 1 747), (747, qs_b2 (fun x y => x + y) 748), (748, qs_sald nS xS 749), (749, qs_lda 0 750), (750, qs_ldi 3 751), (751, qs_ci 2 752), (752, qs_b2 (fun x y => x + y) 753), (753, qs_sald nS xS 754), (754, qs_vL 11 3 W_X11_signs 757), (757, qs_lcmp 758), (758, qs_ifeq 1344 761), (761, qs_ci 0 762), (762, qs_zret), (763, qs_lda 1 764)]
noncomputable def tb_L_law_12 (nS : Nat) (xS : Nat → Int32) : List (Nat × pj_T (Int32 × pj_M)) := [(764, qs_lda 0 765), (765, qs_ldi 3 766), (766, qs_ci 1 767), (767, qs_b2 (fun x y => x + y) 768), (768, qs_sald nS xS 769), (769, qs_lda 0 770), (770, qs_ldi 3 771), (771, qs_ci 2 772), (772, qs_b2 (fun x y => x + y) 773), (773, qs_sald nS xS 774), (774, qs_lda 0 775), (775, qs_ldi 3 776), (776, qs_ci 3 777), (777, qs_b2 (fun x y => x + y) 778), (778, qs_sald nS xS 779), (779, qs_vI 10 4 W_X10_parted 782), (782, qs_lda 2 783), (783, qs_lda 0 784), (784, qs_ldi 3 785), (785, qs_ci 1 786), (786, qs_b2 (fun x y => x + y) 787), (787, qs_sald nS xS 788), (788, qs_lda 0 789), (789, qs_ldi 3 790), (790, qs_ci 2 791), (791, qs_b2 (fun x y => x + y) 792), (792, qs_sald nS xS 793), (793, qs_lda 0 794), (794, qs_ldi 3 795), (795, qs_ci 3 796), (796, qs_b2 (fun x y => x + y) 797), (797, qs_sald nS xS 798), (798, qs_vI 11 4 W_X11_parted 801), (801, qs_iceq 1344 804), (804, qs_ci 0 805), (805, qs_zret), (806, qs_lda 1 807), (807, qs_lda 0 808), (808, qs_ldi 3 809), (809, qs_ci 1 810)]
noncomputable def tb_L_law_13 (nS : Nat) (xS : Nat → Int32) : List (Nat × pj_T (Int32 × pj_M)) := [(810, qs_b2 (fun x y => x + y) 811), (811, qs_sald nS xS 812), (812, qs_lda 0 813), (813, qs_ldi 3 814), (814, qs_ci 2 815), (815, qs_b2 (fun x y => x + y) 816), (816, qs_sald nS xS 817), (817, qs_lda 0 818), (818, qs_ldi 3 819), (819, qs_ci 3 820), (820, qs_b2 (fun x y => x + y) 821), (821, qs_sald nS xS 822), (822, qs_lda 0 823), (823, qs_ldi 3 824), (824, qs_ci 4 825), (825, qs_b2 (fun x y => x + y) 826), (826, qs_sald nS xS 827), (827, qs_vI 10 5 W_X10_tells 830), (830, qs_lda 2 831), (831, qs_lda 0 832), (832, qs_ldi 3 833), (833, qs_ci 1 834), (834, qs_b2 (fun x y => x + y) 835), (835, qs_sald nS xS 836), (836, qs_lda 0 837), (837, qs_ldi 3 838), (838, qs_ci 2 839), (839, qs_b2 (fun x y => x + y) 840), (840, qs_sald nS xS 841), (841, qs_lda 0 842), (842, qs_ldi 3 843), (843, qs_ci 3 844), (844, qs_b2 (fun x y => x + y) 845), (845, qs_sald nS xS 846), (846, qs_lda 0 847), (847, qs_ldi 3 848), (848, qs_ci 4 849), (849, qs_b2 (fun x y => x + y) 850), (850, qs_sald nS xS 851), (851, qs_vI 11 5 W_X11_tells 854)]
noncomputable def tb_L_law_14 (nS : Nat) (xS : Nat → Int32) : List (Nat × pj_T (Int32 × pj_M)) := [(854, qs_iceq 1344 857), (857, qs_ci 0 858), (858, qs_zret), (859, qs_lda 1 860), (860, qs_lda 0 861), (861, qs_ldi 3 862), (862, qs_ci 1 863), (863, qs_b2 (fun x y => x + y) 864), (864, qs_sald nS xS 865), (865, qs_lda 0 866), (866, qs_ldi 3 867), (867, qs_ci 2 868), (868, qs_b2 (fun x y => x + y) 869), (869, qs_sald nS xS 870), (870, qs_lda 0 871), (871, qs_ldi 3 872), (872, qs_ci 3 873), (873, qs_b2 (fun x y => x + y) 874), (874, qs_sald nS xS 875), (875, qs_vI 10 4 W_X10_depth 878), (878, qs_lda 2 879), (879, qs_lda 0 880), (880, qs_ldi 3 881), (881, qs_ci 1 882), (882, qs_b2 (fun x y => x + y) 883), (883, qs_sald nS xS 884), (884, qs_lda 0 885), (885, qs_ldi 3 886), (886, qs_ci 2 887), (887, qs_b2 (fun x y => x + y) 888), (888, qs_sald nS xS 889), (889, qs_lda 0 890), (890, qs_ldi 3 891), (891, qs_ci 3 892), (892, qs_b2 (fun x y => x + y) 893), (893, qs_sald nS xS 894), (894, qs_vI 11 4 W_X11_depth 897), (897, qs_iceq 1344 900), (900, qs_ci 0 901), (901, qs_zret)]
noncomputable def tb_L_law_15 (nS : Nat) (xS : Nat → Int32) : List (Nat × pj_T (Int32 × pj_M)) := [(902, qs_lda 1 903), (903, qs_lda 0 904), (904, qs_ldi 3 905), (905, qs_ci 1 906), (906, qs_b2 (fun x y => x + y) 907), (907, qs_sald nS xS 908), (908, qs_lda 0 909), (909, qs_ldi 3 910), (910, qs_ci 2 911), (911, qs_b2 (fun x y => x + y) 912), (912, qs_sald nS xS 913), (913, qs_lda 0 914), (914, qs_ldi 3 915), (915, qs_ci 3 916), (916, qs_b2 (fun x y => x + y) 917), (917, qs_sald nS xS 918), (918, qs_lda 0 919), (919, qs_ldi 3 920), (920, qs_ci 4 921), (921, qs_b2 (fun x y => x + y) 922), (922, qs_sald nS xS 923), (923, qs_vI 10 5 W_X10_holds 926), (926, qs_lda 2 927), (927, qs_lda 0 928), (928, qs_ldi 3 929), (929, qs_ci 1 930), (930, qs_b2 (fun x y => x + y) 931), (931, qs_sald nS xS 932), (932, qs_lda 0 933), (933, qs_ldi 3 934), (934, qs_ci 2 935), (935, qs_b2 (fun x y => x + y) 936), (936, qs_sald nS xS 937), (937, qs_lda 0 938), (938, qs_ldi 3 939), (939, qs_ci 3 940), (940, qs_b2 (fun x y => x + y) 941), (941, qs_sald nS xS 942), (942, qs_lda 0 943), (943, qs_ldi 3 944)]
noncomputable def tb_L_law_16 (nS : Nat) (xS : Nat → Int32) : List (Nat × pj_T (Int32 × pj_M)) := [(944, qs_ci 4 945), (945, qs_b2 (fun x y => x + y) 946), (946, qs_sald nS xS 947), (947, qs_vI 11 5 W_X11_holds 950), (950, qs_iceq 1344 953), (953, qs_ci 0 954), (954, qs_zret), (955, qs_lda 1 956), (956, qs_lda 0 957), (957, qs_ldi 3 958), (958, qs_ci 1 959), (959, qs_b2 (fun x y => x + y) 960), (960, qs_sald nS xS 961), (961, qs_lda 0 962), (962, qs_ldi 3 963), (963, qs_ci 2 964), (964, qs_b2 (fun x y => x + y) 965), (965, qs_sald nS xS 966), (966, qs_lda 0 967), (967, qs_ldi 3 968), (968, qs_ci 3 969), (969, qs_b2 (fun x y => x + y) 970), (970, qs_sald nS xS 971), (971, qs_vI 10 4 W_X10_small 974), (974, qs_lda 2 975), (975, qs_lda 0 976), (976, qs_ldi 3 977), (977, qs_ci 1 978), (978, qs_b2 (fun x y => x + y) 979), (979, qs_sald nS xS 980), (980, qs_lda 0 981), (981, qs_ldi 3 982), (982, qs_ci 2 983), (983, qs_b2 (fun x y => x + y) 984), (984, qs_sald nS xS 985), (985, qs_lda 0 986), (986, qs_ldi 3 987), (987, qs_ci 3 988), (988, qs_b2 (fun x y => x + y) 989), (989, qs_sald nS xS 990)]
noncomputable def tb_L_law_17 (nS : Nat) (xS : Nat → Int32) : List (Nat × pj_T (Int32 × pj_M)) := [(990, qs_vI 11 4 W_X11_small 993), (993, qs_iceq 1344 996), (996, qs_ci 0 997), (997, qs_zret), (998, qs_lda 1 999), (999, qs_lda 0 1000), (1000, qs_ldi 3 1001), (1001, qs_ci 1 1002), (1002, qs_b2 (fun x y => x + y) 1003), (1003, qs_sald nS xS 1004), (1004, qs_vI 10 2 W_X10_arcs 1007), (1007, qs_lda 2 1008), (1008, qs_lda 0 1009), (1009, qs_ldi 3 1010), (1010, qs_ci 1 1011), (1011, qs_b2 (fun x y => x + y) 1012), (1012, qs_sald nS xS 1013), (1013, qs_vI 11 2 W_X11_arcs 1016), (1016, qs_iceq 1344 1019), (1019, qs_ci 0 1020), (1020, qs_zret), (1021, qs_lda 1 1022), (1022, qs_lda 0 1023), (1023, qs_ldi 3 1024), (1024, qs_ci 1 1025), (1025, qs_b2 (fun x y => x + y) 1026), (1026, qs_sald nS xS 1027), (1027, qs_lda 0 1028), (1028, qs_ldi 3 1029), (1029, qs_ci 2 1030), (1030, qs_b2 (fun x y => x + y) 1031), (1031, qs_sald nS xS 1032), (1032, qs_vI 10 3 W_X10_words 1035), (1035, qs_lda 2 1036), (1036, qs_lda 0 1037), (1037, qs_ldi 3 1038), (1038, qs_ci 1 1039), (1039, qs_b2 (fun x y => x + y) 1040), (1040, qs_sald nS xS 1041), (1041, qs_lda 0 1042)]
noncomputable def tb_L_law_18 (nS : Nat) (xS : Nat → Int32) : List (Nat × pj_T (Int32 × pj_M)) := [(1042, qs_ldi 3 1043), (1043, qs_ci 2 1044), (1044, qs_b2 (fun x y => x + y) 1045), (1045, qs_sald nS xS 1046), (1046, qs_vI 11 3 W_X11_words 1049), (1049, qs_iceq 1344 1052), (1052, qs_ci 0 1053), (1053, qs_zret), (1054, qs_lda 1 1055), (1055, qs_lda 0 1056), (1056, qs_ldi 3 1057), (1057, qs_ci 1 1058), (1058, qs_b2 (fun x y => x + y) 1059), (1059, qs_sald nS xS 1060), (1060, qs_lda 0 1061), (1061, qs_ldi 3 1062), (1062, qs_ci 2 1063), (1063, qs_b2 (fun x y => x + y) 1064), (1064, qs_sald nS xS 1065), (1065, qs_lda 0 1066), (1066, qs_ldi 3 1067), (1067, qs_ci 3 1068), (1068, qs_b2 (fun x y => x + y) 1069), (1069, qs_sald nS xS 1070), (1070, qs_vI 10 4 W_X10_walk 1073), (1073, qs_lda 2 1074), (1074, qs_lda 0 1075), (1075, qs_ldi 3 1076), (1076, qs_ci 1 1077), (1077, qs_b2 (fun x y => x + y) 1078), (1078, qs_sald nS xS 1079), (1079, qs_lda 0 1080), (1080, qs_ldi 3 1081), (1081, qs_ci 2 1082), (1082, qs_b2 (fun x y => x + y) 1083), (1083, qs_sald nS xS 1084), (1084, qs_lda 0 1085), (1085, qs_ldi 3 1086), (1086, qs_ci 3 1087), (1087, qs_b2 (fun x y => x + y) 1088)]
noncomputable def tb_L_law_19 (nS : Nat) (xS : Nat → Int32) : List (Nat × pj_T (Int32 × pj_M)) := [(1088, qs_sald nS xS 1089), (1089, qs_vI 11 4 W_X11_walk 1092), (1092, qs_iceq 1344 1095), (1095, qs_ci 0 1096), (1096, qs_zret), (1097, qs_lda 1 1098), (1098, qs_lda 0 1099), (1099, qs_ldi 3 1100), (1100, qs_ci 1 1101), (1101, qs_b2 (fun x y => x + y) 1102), (1102, qs_sald nS xS 1103), (1103, qs_lda 0 1104), (1104, qs_ldi 3 1105), (1105, qs_ci 2 1106), (1106, qs_b2 (fun x y => x + y) 1107), (1107, qs_sald nS xS 1108), (1108, qs_lda 0 1109), (1109, qs_ldi 3 1110), (1110, qs_ci 3 1111), (1111, qs_b2 (fun x y => x + y) 1112), (1112, qs_sald nS xS 1113), (1113, qs_lda 0 1114), (1114, qs_ldi 3 1115), (1115, qs_ci 4 1116), (1116, qs_b2 (fun x y => x + y) 1117), (1117, qs_sald nS xS 1118), (1118, qs_vI 10 5 W_X10_fits 1121), (1121, qs_lda 2 1122), (1122, qs_lda 0 1123), (1123, qs_ldi 3 1124), (1124, qs_ci 1 1125), (1125, qs_b2 (fun x y => x + y) 1126), (1126, qs_sald nS xS 1127), (1127, qs_lda 0 1128), (1128, qs_ldi 3 1129), (1129, qs_ci 2 1130), (1130, qs_b2 (fun x y => x + y) 1131), (1131, qs_sald nS xS 1132), (1132, qs_lda 0 1133), (1133, qs_ldi 3 1134)]
noncomputable def tb_L_law_20 (nS : Nat) (xS : Nat → Int32) : List (Nat × pj_T (Int32 × pj_M)) := [(1134, qs_ci 3 1135), (1135, qs_b2 (fun x y => x + y) 1136), (1136, qs_sald nS xS 1137), (1137, qs_lda 0 1138), (1138, qs_ldi 3 1139), (1139, qs_ci 4 1140), (1140, qs_b2 (fun x y => x + y) 1141), (1141, qs_sald nS xS 1142), (1142, qs_vI 11 5 W_X11_fits 1145), (1145, qs_iceq 1344 1148), (1148, qs_ci 0 1149), (1149, qs_zret), (1150, qs_lda 1 1151), (1151, qs_lda 0 1152), (1152, qs_ldi 3 1153), (1153, qs_ci 1 1154), (1154, qs_b2 (fun x y => x + y) 1155), (1155, qs_sald nS xS 1156), (1156, qs_vI 10 2 W_X10_image 1159), (1159, qs_lda 2 1160), (1160, qs_lda 0 1161), (1161, qs_ldi 3 1162), (1162, qs_ci 1 1163), (1163, qs_b2 (fun x y => x + y) 1164), (1164, qs_sald nS xS 1165), (1165, qs_vI 11 2 W_X11_image 1168), (1168, qs_iceq 1344 1171), (1171, qs_ci 0 1172), (1172, qs_zret), (1173, qs_lda 1 1174), (1174, qs_lda 0 1175), (1175, qs_ldi 3 1176), (1176, qs_ci 1 1177), (1177, qs_b2 (fun x y => x + y) 1178), (1178, qs_sald nS xS 1179), (1179, qs_vI 10 2 W_X10_restore 1182), (1182, qs_lda 2 1183), (1183, qs_lda 0 1184), (1184, qs_ldi 3 1185), (1185, qs_ci 1 1186)]
noncomputable def tb_L_law_21 (nS : Nat) (xS : Nat → Int32) : List (Nat × pj_T (Int32 × pj_M)) := [(1186, qs_b2 (fun x y => x + y) 1187), (1187, qs_sald nS xS 1188), (1188, qs_vI 11 2 W_X11_restore 1191), (1191, qs_iceq 1344 1194), (1194, qs_ci 0 1195), (1195, qs_zret), (1196, qs_lda 1 1197), (1197, qs_lda 0 1198), (1198, qs_ldi 3 1199), (1199, qs_ci 1 1200), (1200, qs_b2 (fun x y => x + y) 1201), (1201, qs_sald nS xS 1202), (1202, qs_vI 10 2 W_X10_kind 1205), (1205, qs_lda 2 1206), (1206, qs_lda 0 1207), (1207, qs_ldi 3 1208), (1208, qs_ci 1 1209), (1209, qs_b2 (fun x y => x + y) 1210), (1210, qs_sald nS xS 1211), (1211, qs_vI 11 2 W_X11_kind 1214), (1214, qs_iceq 1344 1217), (1217, qs_ci 0 1218), (1218, qs_zret), (1219, qs_lda 1 1220), (1220, qs_lda 0 1221), (1221, qs_ldi 3 1222), (1222, qs_ci 1 1223), (1223, qs_b2 (fun x y => x + y) 1224), (1224, qs_sald nS xS 1225), (1225, qs_lda 0 1226), (1226, qs_ldi 3 1227), (1227, qs_ci 2 1228), (1228, qs_b2 (fun x y => x + y) 1229), (1229, qs_sald nS xS 1230), (1230, qs_vI 10 3 W_X10_as 1233), (1233, qs_lda 2 1234), (1234, qs_lda 0 1235), (1235, qs_ldi 3 1236), (1236, qs_ci 1 1237), (1237, qs_b2 (fun x y => x + y) 1238)]
noncomputable def tb_L_law_22 (nS : Nat) (xS : Nat → Int32) : List (Nat × pj_T (Int32 × pj_M)) := [(1238, qs_sald nS xS 1239), (1239, qs_lda 0 1240), (1240, qs_ldi 3 1241), (1241, qs_ci 2 1242), (1242, qs_b2 (fun x y => x + y) 1243), (1243, qs_sald nS xS 1244), (1244, qs_vI 11 3 W_X11_as 1247), (1247, qs_iceq 1344 1250), (1250, qs_ci 0 1251), (1251, qs_zret), (1252, qs_lda 1 1253), (1253, qs_lda 0 1254), (1254, qs_ldi 3 1255), (1255, qs_ci 1 1256), (1256, qs_b2 (fun x y => x + y) 1257), (1257, qs_sald nS xS 1258), (1258, qs_lda 0 1259), (1259, qs_ldi 3 1260), (1260, qs_ci 2 1261), (1261, qs_b2 (fun x y => x + y) 1262), (1262, qs_sald nS xS 1263), (1263, qs_vI 10 3 W_X10_ask 1266), (1266, qs_lda 2 1267), (1267, qs_lda 0 1268), (1268, qs_ldi 3 1269), (1269, qs_ci 1 1270), (1270, qs_b2 (fun x y => x + y) 1271), (1271, qs_sald nS xS 1272), (1272, qs_lda 0 1273), (1273, qs_ldi 3 1274), (1274, qs_ci 2 1275), (1275, qs_b2 (fun x y => x + y) 1276), (1276, qs_sald nS xS 1277), (1277, qs_vI 11 3 W_X11_ask 1280), (1280, qs_iceq 1344 1283), (1283, qs_ci 0 1284), (1284, qs_zret), (1285, qs_lda 1 1286), (1286, qs_lda 0 1287), (1287, qs_ldi 3 1288)]
noncomputable def tb_L_law_23 (nS : Nat) (xS : Nat → Int32) : List (Nat × pj_T (Int32 × pj_M)) := [(1288, qs_ci 1 1289), (1289, qs_b2 (fun x y => x + y) 1290), (1290, qs_sald nS xS 1291), (1291, qs_vI 10 2 W_X10_trace 1294), (1294, qs_lda 2 1295), (1295, qs_lda 0 1296), (1296, qs_ldi 3 1297), (1297, qs_ci 1 1298), (1298, qs_b2 (fun x y => x + y) 1299), (1299, qs_sald nS xS 1300), (1300, qs_vI 11 2 W_X11_trace 1303), (1303, qs_iceq 1344 1306), (1306, qs_ci 0 1307), (1307, qs_zret), (1308, qs_lda 1 1309), (1309, qs_lda 0 1310), (1310, qs_ldi 3 1311), (1311, qs_ci 1 1312), (1312, qs_b2 (fun x y => x + y) 1313), (1313, qs_sald nS xS 1314), (1314, qs_vI 10 2 W_X10_count 1317), (1317, qs_lda 2 1318), (1318, qs_lda 0 1319), (1319, qs_ldi 3 1320), (1320, qs_ci 1 1321), (1321, qs_b2 (fun x y => x + y) 1322), (1322, qs_sald nS xS 1323), (1323, qs_vI 11 2 W_X11_count 1326), (1326, qs_iceq 1344 1329), (1329, qs_ci 0 1330), (1330, qs_zret), (1331, qs_lda 1 1332), (1332, qs_vI 10 1 W_X10_status 1335), (1335, qs_lda 2 1336), (1336, qs_vI 11 1 W_X11_status 1339), (1339, qs_iceq 1344 1342), (1342, qs_ci 0 1343), (1343, qs_zret), (1344, qs_inc 3 6 1347), (1347, qs_go 18)]
noncomputable def tb_L_law_24 (nS : Nat) (xS : Nat → Int32) : List (Nat × pj_T (Int32 × pj_M)) := [(1350, qs_ci 1 1351), (1351, qs_zret)]
noncomputable def tb_L_law (nS : Nat) (xS : Nat → Int32) : List (Nat × pj_T (Int32 × pj_M)) := tb_L_law_0 nS xS ++ (tb_L_law_1 nS xS ++ (tb_L_law_2 nS xS ++ (tb_L_law_3 nS xS ++ (tb_L_law_4 nS xS ++ (tb_L_law_5 nS xS ++ (tb_L_law_6 nS xS ++ (tb_L_law_7 nS xS ++ (tb_L_law_8 nS xS ++ (tb_L_law_9 nS xS ++ (tb_L_law_10 nS xS ++ (tb_L_law_11 nS xS ++ (tb_L_law_12 nS xS ++ (tb_L_law_13 nS xS ++ (tb_L_law_14 nS xS ++ (tb_L_law_15 nS xS ++ (tb_L_law_16 nS xS ++ (tb_L_law_17 nS xS ++ (tb_L_law_18 nS xS ++ (tb_L_law_19 nS xS ++ (tb_L_law_20 nS xS ++ (tb_L_law_21 nS xS ++ (tb_L_law_22 nS xS ++ (tb_L_law_23 nS xS ++ (tb_L_law_24 nS xS))))))))))))))))))))))))
set_option maxRecDepth 20000 in
theorem sd_L_law_0 {G : pj_E} {A : Nat → Prop} {P : pj_P} {S : pj_U} {Z : pj_Z} (C : pj_C (G, A, (c_L_law, RL, 4, (some .boolean), 17), P, S, Z)) {nS : Nat} {xS : Nat → Int32} (hn : pj_sL (G, A, (c_L_law, RL, 4, (some .boolean), 17), P, S, Z) = nS) (hs : pj_sxs (G, A, (c_L_law, RL, 4, (some .boolean), 17), P, S, Z) = xS) : ∀ q ∈ tb_L_law_0 nS xS, pj_S (G, A, (c_L_law, RL, 4, (some .boolean), 17), P, S, Z) pj_eI q.1 q.2 :=
  List.forall_mem_cons.mpr ⟨qz_iload_n C (show decode c_L_law 18 = .ok (.iload_n 3, 1) by decide +kernel) rfl,
  List.forall_mem_cons.mpr ⟨qz_aload_n C (show decode c_L_law 19 = .ok (.aload_n 0, 1) by decide +kernel) rfl,
  List.forall_mem_cons.mpr ⟨qz_slen C hn (show decode c_L_law 20 = .ok (.arraylength, 1) by decide +kernel),
  List.forall_mem_cons.mpr ⟨qz_bipush C (show decode c_L_law 21 = .ok (.bipush 6, 2) by decide +kernel) (by decide +kernel),
  List.forall_mem_cons.mpr ⟨qz_isub C (show decode c_L_law 23 = .ok (.isub, 1) by decide +kernel),
  List.forall_mem_cons.mpr ⟨qz_icgt C (show decode c_L_law 24 = .ok (.if_icmp .gt 1326, 3) by decide +kernel) (by decide),
  List.forall_mem_cons.mpr ⟨qz_aload_n C (show decode c_L_law 27 = .ok (.aload_n 0, 1) by decide +kernel) rfl,
  List.forall_mem_cons.mpr ⟨qz_iload_n C (show decode c_L_law 28 = .ok (.iload_n 3, 1) by decide +kernel) rfl,
  List.forall_mem_cons.mpr ⟨qz_sald C hn hs (show decode c_L_law 29 = .ok (.iaload, 1) by decide +kernel),
  List.forall_mem_cons.mpr ⟨qz_bipush C (show decode c_L_law 30 = .ok (.bipush 63, 2) by decide +kernel) (by decide +kernel),
  List.forall_mem_cons.mpr ⟨qz_iand C (show decode c_L_law 32 = .ok (.iand, 1) by decide +kernel),
  List.forall_mem_cons.mpr ⟨qz_tsw C (show decode c_L_law 33 = .ok (.tableswitch 1311 0 34 #[155, 198, 241, 304, 327, 350, 363, 376, 419, 442, 465, 498, 511, 544, 587, 620, 653, 696, 730, 773, 826, 869, 922, 965, 988, 1021, 1064, 1117, 1140, 1163, 1186, 1219, 1252, 1275, 1298], 155) by decide +kernel) (by decide +kernel),
  List.forall_mem_cons.mpr ⟨qz_aload_n C (show decode c_L_law 188 = .ok (.aload_n 1, 1) by decide +kernel) rfl,
  List.forall_mem_cons.mpr ⟨qz_aload_n C (show decode c_L_law 189 = .ok (.aload_n 0, 1) by decide +kernel) rfl,
  List.forall_mem_cons.mpr ⟨qz_iload_n C (show decode c_L_law 190 = .ok (.iload_n 3, 1) by decide +kernel) rfl,
  List.forall_mem_cons.mpr ⟨qz_iconst C (show decode c_L_law 191 = .ok (.iconst 1, 1) by decide +kernel) (by decide +kernel),
  List.forall_mem_cons.mpr ⟨qz_iadd C (show decode c_L_law 192 = .ok (.iadd, 1) by decide +kernel),
  List.forall_mem_cons.mpr ⟨qz_sald C hn hs (show decode c_L_law 193 = .ok (.iaload, 1) by decide +kernel),
  List.forall_mem_cons.mpr ⟨qz_aload_n C (show decode c_L_law 194 = .ok (.aload_n 0, 1) by decide +kernel) rfl,
  List.forall_mem_cons.mpr ⟨qz_iload_n C (show decode c_L_law 195 = .ok (.iload_n 3, 1) by decide +kernel) rfl,
  List.forall_mem_cons.mpr ⟨qz_iconst C (show decode c_L_law 196 = .ok (.iconst 2, 1) by decide +kernel) (by decide +kernel),
  List.forall_mem_cons.mpr ⟨qz_iadd C (show decode c_L_law 197 = .ok (.iadd, 1) by decide +kernel),
  List.forall_mem_cons.mpr ⟨qz_sald C hn hs (show decode c_L_law 198 = .ok (.iaload, 1) by decide +kernel),
  List.forall_mem_cons.mpr ⟨qz_aload_n C (show decode c_L_law 199 = .ok (.aload_n 0, 1) by decide +kernel) rfl,
  List.forall_mem_cons.mpr ⟨qz_iload_n C (show decode c_L_law 200 = .ok (.iload_n 3, 1) by decide +kernel) rfl,
  List.forall_mem_cons.mpr ⟨qz_iconst C (show decode c_L_law 201 = .ok (.iconst 3, 1) by decide +kernel) (by decide +kernel),
  List.forall_mem_cons.mpr ⟨qz_iadd C (show decode c_L_law 202 = .ok (.iadd, 1) by decide +kernel),
  List.forall_mem_cons.mpr ⟨qz_sald C hn hs (show decode c_L_law 203 = .ok (.iaload, 1) by decide +kernel),
  List.forall_mem_cons.mpr ⟨qz_vI C (show decode c_L_law 204 = .ok (.invokevirtual 13, 3) by decide +kernel) ct_X10_row mv_X10_row cw_354 vcX10 (show 2 < 17 by omega),
  List.forall_mem_cons.mpr ⟨qz_aload_n C (show decode c_L_law 207 = .ok (.aload_n 2, 1) by decide +kernel) rfl,
  List.forall_mem_cons.mpr ⟨qz_aload_n C (show decode c_L_law 208 = .ok (.aload_n 0, 1) by decide +kernel) rfl,
  List.forall_mem_cons.mpr ⟨qz_iload_n C (show decode c_L_law 209 = .ok (.iload_n 3, 1) by decide +kernel) rfl,
  List.forall_mem_cons.mpr ⟨qz_iconst C (show decode c_L_law 210 = .ok (.iconst 1, 1) by decide +kernel) (by decide +kernel),
  List.forall_mem_cons.mpr ⟨qz_iadd C (show decode c_L_law 211 = .ok (.iadd, 1) by decide +kernel),
  List.forall_mem_cons.mpr ⟨qz_sald C hn hs (show decode c_L_law 212 = .ok (.iaload, 1) by decide +kernel),
  List.forall_mem_cons.mpr ⟨qz_aload_n C (show decode c_L_law 213 = .ok (.aload_n 0, 1) by decide +kernel) rfl,
  List.forall_mem_cons.mpr ⟨qz_iload_n C (show decode c_L_law 214 = .ok (.iload_n 3, 1) by decide +kernel) rfl,
  List.forall_mem_cons.mpr ⟨qz_iconst C (show decode c_L_law 215 = .ok (.iconst 2, 1) by decide +kernel) (by decide +kernel),
  List.forall_mem_cons.mpr ⟨qz_iadd C (show decode c_L_law 216 = .ok (.iadd, 1) by decide +kernel),
  List.forall_mem_cons.mpr ⟨qz_sald C hn hs (show decode c_L_law 217 = .ok (.iaload, 1) by decide +kernel),
  (fun q h => by cases h)⟩⟩⟩⟩⟩⟩⟩⟩⟩⟩⟩⟩⟩⟩⟩⟩⟩⟩⟩⟩⟩⟩⟩⟩⟩⟩⟩⟩⟩⟩⟩⟩⟩⟩⟩⟩⟩⟩⟩⟩
set_option maxRecDepth 20000 in
theorem sd_L_law_1 {G : pj_E} {A : Nat → Prop} {P : pj_P} {S : pj_U} {Z : pj_Z} (C : pj_C (G, A, (c_L_law, RL, 4, (some .boolean), 17), P, S, Z)) {nS : Nat} {xS : Nat → Int32} (hn : pj_sL (G, A, (c_L_law, RL, 4, (some .boolean), 17), P, S, Z) = nS) (hs : pj_sxs (G, A, (c_L_law, RL, 4, (some .boolean), 17), P, S, Z) = xS) : ∀ q ∈ tb_L_law_1 nS xS, pj_S (G, A, (c_L_law, RL, 4, (some .boolean), 17), P, S, Z) pj_eI q.1 q.2 :=
  List.forall_mem_cons.mpr ⟨qz_aload_n C (show decode c_L_law 218 = .ok (.aload_n 0, 1) by decide +kernel) rfl,
  List.forall_mem_cons.mpr ⟨qz_iload_n C (show decode c_L_law 219 = .ok (.iload_n 3, 1) by decide +kernel) rfl,
  List.forall_mem_cons.mpr ⟨qz_iconst C (show decode c_L_law 220 = .ok (.iconst 3, 1) by decide +kernel) (by decide +kernel),
  List.forall_mem_cons.mpr ⟨qz_iadd C (show decode c_L_law 221 = .ok (.iadd, 1) by decide +kernel),
  List.forall_mem_cons.mpr ⟨qz_sald C hn hs (show decode c_L_law 222 = .ok (.iaload, 1) by decide +kernel),
  List.forall_mem_cons.mpr ⟨qz_vI C (show decode c_L_law 223 = .ok (.invokevirtual 17, 3) by decide +kernel) ct_X11_row mv_X11_row cw_1119 vcX11 (show 3 < 17 by omega),
  List.forall_mem_cons.mpr ⟨qz_iceq C (show decode c_L_law 226 = .ok (.if_icmp .eq 1118, 3) by decide +kernel) (by decide),
  List.forall_mem_cons.mpr ⟨qz_iconst C (show decode c_L_law 229 = .ok (.iconst 0, 1) by decide +kernel) (by decide +kernel),
  List.forall_mem_cons.mpr ⟨qz_zret C (show decode c_L_law 230 = .ok (.ireturn, 1) by decide +kernel) rfl,
  List.forall_mem_cons.mpr ⟨qz_aload_n C (show decode c_L_law 231 = .ok (.aload_n 1, 1) by decide +kernel) rfl,
  List.forall_mem_cons.mpr ⟨qz_aload_n C (show decode c_L_law 232 = .ok (.aload_n 0, 1) by decide +kernel) rfl,
  List.forall_mem_cons.mpr ⟨qz_iload_n C (show decode c_L_law 233 = .ok (.iload_n 3, 1) by decide +kernel) rfl,
  List.forall_mem_cons.mpr ⟨qz_iconst C (show decode c_L_law 234 = .ok (.iconst 1, 1) by decide +kernel) (by decide +kernel),
  List.forall_mem_cons.mpr ⟨qz_iadd C (show decode c_L_law 235 = .ok (.iadd, 1) by decide +kernel),
  List.forall_mem_cons.mpr ⟨qz_sald C hn hs (show decode c_L_law 236 = .ok (.iaload, 1) by decide +kernel),
  List.forall_mem_cons.mpr ⟨qz_aload_n C (show decode c_L_law 237 = .ok (.aload_n 0, 1) by decide +kernel) rfl,
  List.forall_mem_cons.mpr ⟨qz_iload_n C (show decode c_L_law 238 = .ok (.iload_n 3, 1) by decide +kernel) rfl,
  List.forall_mem_cons.mpr ⟨qz_iconst C (show decode c_L_law 239 = .ok (.iconst 2, 1) by decide +kernel) (by decide +kernel),
  List.forall_mem_cons.mpr ⟨qz_iadd C (show decode c_L_law 240 = .ok (.iadd, 1) by decide +kernel),
  List.forall_mem_cons.mpr ⟨qz_sald C hn hs (show decode c_L_law 241 = .ok (.iaload, 1) by decide +kernel),
  List.forall_mem_cons.mpr ⟨qz_aload_n C (show decode c_L_law 242 = .ok (.aload_n 0, 1) by decide +kernel) rfl,
  List.forall_mem_cons.mpr ⟨qz_iload_n C (show decode c_L_law 243 = .ok (.iload_n 3, 1) by decide +kernel) rfl,
  List.forall_mem_cons.mpr ⟨qz_iconst C (show decode c_L_law 244 = .ok (.iconst 3, 1) by decide +kernel) (by decide +kernel),
  List.forall_mem_cons.mpr ⟨qz_iadd C (show decode c_L_law 245 = .ok (.iadd, 1) by decide +kernel),
  List.forall_mem_cons.mpr ⟨qz_sald C hn hs (show decode c_L_law 246 = .ok (.iaload, 1) by decide +kernel),
  List.forall_mem_cons.mpr ⟨qz_vI C (show decode c_L_law 247 = .ok (.invokevirtual 18, 3) by decide +kernel) ct_X10_set mv_X10_set cw_378 vcX10 (show 3 < 17 by omega),
  List.forall_mem_cons.mpr ⟨qz_aload_n C (show decode c_L_law 250 = .ok (.aload_n 2, 1) by decide +kernel) rfl,
  List.forall_mem_cons.mpr ⟨qz_aload_n C (show decode c_L_law 251 = .ok (.aload_n 0, 1) by decide +kernel) rfl,
  List.forall_mem_cons.mpr ⟨qz_iload_n C (show decode c_L_law 252 = .ok (.iload_n 3, 1) by decide +kernel) rfl,
  List.forall_mem_cons.mpr ⟨qz_iconst C (show decode c_L_law 253 = .ok (.iconst 1, 1) by decide +kernel) (by decide +kernel),
  List.forall_mem_cons.mpr ⟨qz_iadd C (show decode c_L_law 254 = .ok (.iadd, 1) by decide +kernel),
  List.forall_mem_cons.mpr ⟨qz_sald C hn hs (show decode c_L_law 255 = .ok (.iaload, 1) by decide +kernel),
  List.forall_mem_cons.mpr ⟨qz_aload_n C (show decode c_L_law 256 = .ok (.aload_n 0, 1) by decide +kernel) rfl,
  List.forall_mem_cons.mpr ⟨qz_iload_n C (show decode c_L_law 257 = .ok (.iload_n 3, 1) by decide +kernel) rfl,
  List.forall_mem_cons.mpr ⟨qz_iconst C (show decode c_L_law 258 = .ok (.iconst 2, 1) by decide +kernel) (by decide +kernel),
  List.forall_mem_cons.mpr ⟨qz_iadd C (show decode c_L_law 259 = .ok (.iadd, 1) by decide +kernel),
  List.forall_mem_cons.mpr ⟨qz_sald C hn hs (show decode c_L_law 260 = .ok (.iaload, 1) by decide +kernel),
  List.forall_mem_cons.mpr ⟨qz_aload_n C (show decode c_L_law 261 = .ok (.aload_n 0, 1) by decide +kernel) rfl,
  List.forall_mem_cons.mpr ⟨qz_iload_n C (show decode c_L_law 262 = .ok (.iload_n 3, 1) by decide +kernel) rfl,
  List.forall_mem_cons.mpr ⟨qz_iconst C (show decode c_L_law 263 = .ok (.iconst 3, 1) by decide +kernel) (by decide +kernel),
  (fun q h => by cases h)⟩⟩⟩⟩⟩⟩⟩⟩⟩⟩⟩⟩⟩⟩⟩⟩⟩⟩⟩⟩⟩⟩⟩⟩⟩⟩⟩⟩⟩⟩⟩⟩⟩⟩⟩⟩⟩⟩⟩⟩
set_option maxRecDepth 20000 in
theorem sd_L_law_2 {G : pj_E} {A : Nat → Prop} {P : pj_P} {S : pj_U} {Z : pj_Z} (C : pj_C (G, A, (c_L_law, RL, 4, (some .boolean), 17), P, S, Z)) {nS : Nat} {xS : Nat → Int32} (hn : pj_sL (G, A, (c_L_law, RL, 4, (some .boolean), 17), P, S, Z) = nS) (hs : pj_sxs (G, A, (c_L_law, RL, 4, (some .boolean), 17), P, S, Z) = xS) : ∀ q ∈ tb_L_law_2 nS xS, pj_S (G, A, (c_L_law, RL, 4, (some .boolean), 17), P, S, Z) pj_eI q.1 q.2 :=
  List.forall_mem_cons.mpr ⟨qz_iadd C (show decode c_L_law 264 = .ok (.iadd, 1) by decide +kernel),
  List.forall_mem_cons.mpr ⟨qz_sald C hn hs (show decode c_L_law 265 = .ok (.iaload, 1) by decide +kernel),
  List.forall_mem_cons.mpr ⟨qz_vI C (show decode c_L_law 266 = .ok (.invokevirtual 21, 3) by decide +kernel) ct_X11_set mv_X11_set cw_1139 vcX11 (show 3 < 17 by omega),
  List.forall_mem_cons.mpr ⟨qz_iceq C (show decode c_L_law 269 = .ok (.if_icmp .eq 1075, 3) by decide +kernel) (by decide),
  List.forall_mem_cons.mpr ⟨qz_iconst C (show decode c_L_law 272 = .ok (.iconst 0, 1) by decide +kernel) (by decide +kernel),
  List.forall_mem_cons.mpr ⟨qz_zret C (show decode c_L_law 273 = .ok (.ireturn, 1) by decide +kernel) rfl,
  List.forall_mem_cons.mpr ⟨qz_aload_n C (show decode c_L_law 274 = .ok (.aload_n 1, 1) by decide +kernel) rfl,
  List.forall_mem_cons.mpr ⟨qz_aload_n C (show decode c_L_law 275 = .ok (.aload_n 0, 1) by decide +kernel) rfl,
  List.forall_mem_cons.mpr ⟨qz_iload_n C (show decode c_L_law 276 = .ok (.iload_n 3, 1) by decide +kernel) rfl,
  List.forall_mem_cons.mpr ⟨qz_iconst C (show decode c_L_law 277 = .ok (.iconst 1, 1) by decide +kernel) (by decide +kernel),
  List.forall_mem_cons.mpr ⟨qz_iadd C (show decode c_L_law 278 = .ok (.iadd, 1) by decide +kernel),
  List.forall_mem_cons.mpr ⟨qz_sald C hn hs (show decode c_L_law 279 = .ok (.iaload, 1) by decide +kernel),
  List.forall_mem_cons.mpr ⟨qz_aload_n C (show decode c_L_law 280 = .ok (.aload_n 0, 1) by decide +kernel) rfl,
  List.forall_mem_cons.mpr ⟨qz_iload_n C (show decode c_L_law 281 = .ok (.iload_n 3, 1) by decide +kernel) rfl,
  List.forall_mem_cons.mpr ⟨qz_iconst C (show decode c_L_law 282 = .ok (.iconst 2, 1) by decide +kernel) (by decide +kernel),
  List.forall_mem_cons.mpr ⟨qz_iadd C (show decode c_L_law 283 = .ok (.iadd, 1) by decide +kernel),
  List.forall_mem_cons.mpr ⟨qz_sald C hn hs (show decode c_L_law 284 = .ok (.iaload, 1) by decide +kernel),
  List.forall_mem_cons.mpr ⟨qz_aload_n C (show decode c_L_law 285 = .ok (.aload_n 0, 1) by decide +kernel) rfl,
  List.forall_mem_cons.mpr ⟨qz_iload_n C (show decode c_L_law 286 = .ok (.iload_n 3, 1) by decide +kernel) rfl,
  List.forall_mem_cons.mpr ⟨qz_iconst C (show decode c_L_law 287 = .ok (.iconst 3, 1) by decide +kernel) (by decide +kernel),
  List.forall_mem_cons.mpr ⟨qz_iadd C (show decode c_L_law 288 = .ok (.iadd, 1) by decide +kernel),
  List.forall_mem_cons.mpr ⟨qz_sald C hn hs (show decode c_L_law 289 = .ok (.iaload, 1) by decide +kernel),
  List.forall_mem_cons.mpr ⟨qz_aload_n C (show decode c_L_law 290 = .ok (.aload_n 0, 1) by decide +kernel) rfl,
  List.forall_mem_cons.mpr ⟨qz_iload_n C (show decode c_L_law 291 = .ok (.iload_n 3, 1) by decide +kernel) rfl,
  List.forall_mem_cons.mpr ⟨qz_iconst C (show decode c_L_law 292 = .ok (.iconst 4, 1) by decide +kernel) (by decide +kernel),
  List.forall_mem_cons.mpr ⟨qz_iadd C (show decode c_L_law 293 = .ok (.iadd, 1) by decide +kernel),
  List.forall_mem_cons.mpr ⟨qz_sald C hn hs (show decode c_L_law 294 = .ok (.iaload, 1) by decide +kernel),
  List.forall_mem_cons.mpr ⟨qz_aload_n C (show decode c_L_law 295 = .ok (.aload_n 0, 1) by decide +kernel) rfl,
  List.forall_mem_cons.mpr ⟨qz_iload_n C (show decode c_L_law 296 = .ok (.iload_n 3, 1) by decide +kernel) rfl,
  List.forall_mem_cons.mpr ⟨qz_iconst C (show decode c_L_law 297 = .ok (.iconst 5, 1) by decide +kernel) (by decide +kernel),
  List.forall_mem_cons.mpr ⟨qz_iadd C (show decode c_L_law 298 = .ok (.iadd, 1) by decide +kernel),
  List.forall_mem_cons.mpr ⟨qz_sald C hn hs (show decode c_L_law 299 = .ok (.iaload, 1) by decide +kernel),
  List.forall_mem_cons.mpr ⟨qz_vI C (show decode c_L_law 300 = .ok (.invokevirtual 22, 3) by decide +kernel) ct_X10_copy mv_X10_copy cw_397 vcX10 (show 2 < 17 by omega),
  List.forall_mem_cons.mpr ⟨qz_aload_n C (show decode c_L_law 303 = .ok (.aload_n 2, 1) by decide +kernel) rfl,
  List.forall_mem_cons.mpr ⟨qz_aload_n C (show decode c_L_law 304 = .ok (.aload_n 0, 1) by decide +kernel) rfl,
  List.forall_mem_cons.mpr ⟨qz_iload_n C (show decode c_L_law 305 = .ok (.iload_n 3, 1) by decide +kernel) rfl,
  List.forall_mem_cons.mpr ⟨qz_iconst C (show decode c_L_law 306 = .ok (.iconst 1, 1) by decide +kernel) (by decide +kernel),
  List.forall_mem_cons.mpr ⟨qz_iadd C (show decode c_L_law 307 = .ok (.iadd, 1) by decide +kernel),
  List.forall_mem_cons.mpr ⟨qz_sald C hn hs (show decode c_L_law 308 = .ok (.iaload, 1) by decide +kernel),
  List.forall_mem_cons.mpr ⟨qz_aload_n C (show decode c_L_law 309 = .ok (.aload_n 0, 1) by decide +kernel) rfl,
  (fun q h => by cases h)⟩⟩⟩⟩⟩⟩⟩⟩⟩⟩⟩⟩⟩⟩⟩⟩⟩⟩⟩⟩⟩⟩⟩⟩⟩⟩⟩⟩⟩⟩⟩⟩⟩⟩⟩⟩⟩⟩⟩⟩
set_option maxRecDepth 20000 in
theorem sd_L_law_3 {G : pj_E} {A : Nat → Prop} {P : pj_P} {S : pj_U} {Z : pj_Z} (C : pj_C (G, A, (c_L_law, RL, 4, (some .boolean), 17), P, S, Z)) {nS : Nat} {xS : Nat → Int32} (hn : pj_sL (G, A, (c_L_law, RL, 4, (some .boolean), 17), P, S, Z) = nS) (hs : pj_sxs (G, A, (c_L_law, RL, 4, (some .boolean), 17), P, S, Z) = xS) : ∀ q ∈ tb_L_law_3 nS xS, pj_S (G, A, (c_L_law, RL, 4, (some .boolean), 17), P, S, Z) pj_eI q.1 q.2 :=
  List.forall_mem_cons.mpr ⟨qz_iload_n C (show decode c_L_law 310 = .ok (.iload_n 3, 1) by decide +kernel) rfl,
  List.forall_mem_cons.mpr ⟨qz_iconst C (show decode c_L_law 311 = .ok (.iconst 2, 1) by decide +kernel) (by decide +kernel),
  List.forall_mem_cons.mpr ⟨qz_iadd C (show decode c_L_law 312 = .ok (.iadd, 1) by decide +kernel),
  List.forall_mem_cons.mpr ⟨qz_sald C hn hs (show decode c_L_law 313 = .ok (.iaload, 1) by decide +kernel),
  List.forall_mem_cons.mpr ⟨qz_aload_n C (show decode c_L_law 314 = .ok (.aload_n 0, 1) by decide +kernel) rfl,
  List.forall_mem_cons.mpr ⟨qz_iload_n C (show decode c_L_law 315 = .ok (.iload_n 3, 1) by decide +kernel) rfl,
  List.forall_mem_cons.mpr ⟨qz_iconst C (show decode c_L_law 316 = .ok (.iconst 3, 1) by decide +kernel) (by decide +kernel),
  List.forall_mem_cons.mpr ⟨qz_iadd C (show decode c_L_law 317 = .ok (.iadd, 1) by decide +kernel),
  List.forall_mem_cons.mpr ⟨qz_sald C hn hs (show decode c_L_law 318 = .ok (.iaload, 1) by decide +kernel),
  List.forall_mem_cons.mpr ⟨qz_aload_n C (show decode c_L_law 319 = .ok (.aload_n 0, 1) by decide +kernel) rfl,
  List.forall_mem_cons.mpr ⟨qz_iload_n C (show decode c_L_law 320 = .ok (.iload_n 3, 1) by decide +kernel) rfl,
  List.forall_mem_cons.mpr ⟨qz_iconst C (show decode c_L_law 321 = .ok (.iconst 4, 1) by decide +kernel) (by decide +kernel),
  List.forall_mem_cons.mpr ⟨qz_iadd C (show decode c_L_law 322 = .ok (.iadd, 1) by decide +kernel),
  List.forall_mem_cons.mpr ⟨qz_sald C hn hs (show decode c_L_law 323 = .ok (.iaload, 1) by decide +kernel),
  List.forall_mem_cons.mpr ⟨qz_aload_n C (show decode c_L_law 324 = .ok (.aload_n 0, 1) by decide +kernel) rfl,
  List.forall_mem_cons.mpr ⟨qz_iload_n C (show decode c_L_law 325 = .ok (.iload_n 3, 1) by decide +kernel) rfl,
  List.forall_mem_cons.mpr ⟨qz_iconst C (show decode c_L_law 326 = .ok (.iconst 5, 1) by decide +kernel) (by decide +kernel),
  List.forall_mem_cons.mpr ⟨qz_iadd C (show decode c_L_law 327 = .ok (.iadd, 1) by decide +kernel),
  List.forall_mem_cons.mpr ⟨qz_sald C hn hs (show decode c_L_law 328 = .ok (.iaload, 1) by decide +kernel),
  List.forall_mem_cons.mpr ⟨qz_vI C (show decode c_L_law 329 = .ok (.invokevirtual 26, 3) by decide +kernel) ct_X11_copy mv_X11_copy cw_1150 vcX11 (show 3 < 17 by omega),
  List.forall_mem_cons.mpr ⟨qz_iceq C (show decode c_L_law 332 = .ok (.if_icmp .eq 1012, 3) by decide +kernel) (by decide),
  List.forall_mem_cons.mpr ⟨qz_iconst C (show decode c_L_law 335 = .ok (.iconst 0, 1) by decide +kernel) (by decide +kernel),
  List.forall_mem_cons.mpr ⟨qz_zret C (show decode c_L_law 336 = .ok (.ireturn, 1) by decide +kernel) rfl,
  List.forall_mem_cons.mpr ⟨qz_aload_n C (show decode c_L_law 337 = .ok (.aload_n 1, 1) by decide +kernel) rfl,
  List.forall_mem_cons.mpr ⟨qz_aload_n C (show decode c_L_law 338 = .ok (.aload_n 0, 1) by decide +kernel) rfl,
  List.forall_mem_cons.mpr ⟨qz_iload_n C (show decode c_L_law 339 = .ok (.iload_n 3, 1) by decide +kernel) rfl,
  List.forall_mem_cons.mpr ⟨qz_iconst C (show decode c_L_law 340 = .ok (.iconst 1, 1) by decide +kernel) (by decide +kernel),
  List.forall_mem_cons.mpr ⟨qz_iadd C (show decode c_L_law 341 = .ok (.iadd, 1) by decide +kernel),
  List.forall_mem_cons.mpr ⟨qz_sald C hn hs (show decode c_L_law 342 = .ok (.iaload, 1) by decide +kernel),
  List.forall_mem_cons.mpr ⟨qz_vI C (show decode c_L_law 343 = .ok (.invokevirtual 27, 3) by decide +kernel) ct_X10_drop mv_X10_drop cw_416 vcX10 (show 2 < 17 by omega),
  List.forall_mem_cons.mpr ⟨qz_aload_n C (show decode c_L_law 346 = .ok (.aload_n 2, 1) by decide +kernel) rfl,
  List.forall_mem_cons.mpr ⟨qz_aload_n C (show decode c_L_law 347 = .ok (.aload_n 0, 1) by decide +kernel) rfl,
  List.forall_mem_cons.mpr ⟨qz_iload_n C (show decode c_L_law 348 = .ok (.iload_n 3, 1) by decide +kernel) rfl,
  List.forall_mem_cons.mpr ⟨qz_iconst C (show decode c_L_law 349 = .ok (.iconst 1, 1) by decide +kernel) (by decide +kernel),
  List.forall_mem_cons.mpr ⟨qz_iadd C (show decode c_L_law 350 = .ok (.iadd, 1) by decide +kernel),
  List.forall_mem_cons.mpr ⟨qz_sald C hn hs (show decode c_L_law 351 = .ok (.iaload, 1) by decide +kernel),
  List.forall_mem_cons.mpr ⟨qz_vI C (show decode c_L_law 352 = .ok (.invokevirtual 31, 3) by decide +kernel) ct_X11_drop mv_X11_drop cw_1158 vcX11 (show 3 < 17 by omega),
  List.forall_mem_cons.mpr ⟨qz_iceq C (show decode c_L_law 355 = .ok (.if_icmp .eq 989, 3) by decide +kernel) (by decide),
  List.forall_mem_cons.mpr ⟨qz_iconst C (show decode c_L_law 358 = .ok (.iconst 0, 1) by decide +kernel) (by decide +kernel),
  List.forall_mem_cons.mpr ⟨qz_zret C (show decode c_L_law 359 = .ok (.ireturn, 1) by decide +kernel) rfl,
  (fun q h => by cases h)⟩⟩⟩⟩⟩⟩⟩⟩⟩⟩⟩⟩⟩⟩⟩⟩⟩⟩⟩⟩⟩⟩⟩⟩⟩⟩⟩⟩⟩⟩⟩⟩⟩⟩⟩⟩⟩⟩⟩⟩
set_option maxRecDepth 20000 in
theorem sd_L_law_4 {G : pj_E} {A : Nat → Prop} {P : pj_P} {S : pj_U} {Z : pj_Z} (C : pj_C (G, A, (c_L_law, RL, 4, (some .boolean), 17), P, S, Z)) {nS : Nat} {xS : Nat → Int32} (hn : pj_sL (G, A, (c_L_law, RL, 4, (some .boolean), 17), P, S, Z) = nS) (hs : pj_sxs (G, A, (c_L_law, RL, 4, (some .boolean), 17), P, S, Z) = xS) : ∀ q ∈ tb_L_law_4 nS xS, pj_S (G, A, (c_L_law, RL, 4, (some .boolean), 17), P, S, Z) pj_eI q.1 q.2 :=
  List.forall_mem_cons.mpr ⟨qz_aload_n C (show decode c_L_law 360 = .ok (.aload_n 1, 1) by decide +kernel) rfl,
  List.forall_mem_cons.mpr ⟨qz_aload_n C (show decode c_L_law 361 = .ok (.aload_n 0, 1) by decide +kernel) rfl,
  List.forall_mem_cons.mpr ⟨qz_iload_n C (show decode c_L_law 362 = .ok (.iload_n 3, 1) by decide +kernel) rfl,
  List.forall_mem_cons.mpr ⟨qz_iconst C (show decode c_L_law 363 = .ok (.iconst 1, 1) by decide +kernel) (by decide +kernel),
  List.forall_mem_cons.mpr ⟨qz_iadd C (show decode c_L_law 364 = .ok (.iadd, 1) by decide +kernel),
  List.forall_mem_cons.mpr ⟨qz_sald C hn hs (show decode c_L_law 365 = .ok (.iaload, 1) by decide +kernel),
  List.forall_mem_cons.mpr ⟨qz_vI C (show decode c_L_law 366 = .ok (.invokevirtual 32, 3) by decide +kernel) ct_X10_feed mv_X10_feed cw_424 vcX10 (show 3 < 17 by omega),
  List.forall_mem_cons.mpr ⟨qz_aload_n C (show decode c_L_law 369 = .ok (.aload_n 2, 1) by decide +kernel) rfl,
  List.forall_mem_cons.mpr ⟨qz_aload_n C (show decode c_L_law 370 = .ok (.aload_n 0, 1) by decide +kernel) rfl,
  List.forall_mem_cons.mpr ⟨qz_iload_n C (show decode c_L_law 371 = .ok (.iload_n 3, 1) by decide +kernel) rfl,
  List.forall_mem_cons.mpr ⟨qz_iconst C (show decode c_L_law 372 = .ok (.iconst 1, 1) by decide +kernel) (by decide +kernel),
  List.forall_mem_cons.mpr ⟨qz_iadd C (show decode c_L_law 373 = .ok (.iadd, 1) by decide +kernel),
  List.forall_mem_cons.mpr ⟨qz_sald C hn hs (show decode c_L_law 374 = .ok (.iaload, 1) by decide +kernel),
  List.forall_mem_cons.mpr ⟨qz_vI C (show decode c_L_law 375 = .ok (.invokevirtual 35, 3) by decide +kernel) ct_X11_feed mv_X11_feed cw_1162 vcX11 (show 2 < 17 by omega),
  List.forall_mem_cons.mpr ⟨qz_iceq C (show decode c_L_law 378 = .ok (.if_icmp .eq 966, 3) by decide +kernel) (by decide),
  List.forall_mem_cons.mpr ⟨qz_iconst C (show decode c_L_law 381 = .ok (.iconst 0, 1) by decide +kernel) (by decide +kernel),
  List.forall_mem_cons.mpr ⟨qz_zret C (show decode c_L_law 382 = .ok (.ireturn, 1) by decide +kernel) rfl,
  List.forall_mem_cons.mpr ⟨qz_aload_n C (show decode c_L_law 383 = .ok (.aload_n 1, 1) by decide +kernel) rfl,
  List.forall_mem_cons.mpr ⟨qz_vI C (show decode c_L_law 384 = .ok (.invokevirtual 36, 3) by decide +kernel) ct_X10_system mv_X10_system cw_438 vcX10 (show 7 < 17 by omega),
  List.forall_mem_cons.mpr ⟨qz_aload_n C (show decode c_L_law 387 = .ok (.aload_n 2, 1) by decide +kernel) rfl,
  List.forall_mem_cons.mpr ⟨qz_vI C (show decode c_L_law 388 = .ok (.invokevirtual 40, 3) by decide +kernel) ct_X11_system mv_X11_system cw_1167 vcX11 (show 6 < 17 by omega),
  List.forall_mem_cons.mpr ⟨qz_iceq C (show decode c_L_law 391 = .ok (.if_icmp .eq 953, 3) by decide +kernel) (by decide),
  List.forall_mem_cons.mpr ⟨qz_iconst C (show decode c_L_law 394 = .ok (.iconst 0, 1) by decide +kernel) (by decide +kernel),
  List.forall_mem_cons.mpr ⟨qz_zret C (show decode c_L_law 395 = .ok (.ireturn, 1) by decide +kernel) rfl,
  List.forall_mem_cons.mpr ⟨qz_aload_n C (show decode c_L_law 396 = .ok (.aload_n 1, 1) by decide +kernel) rfl,
  List.forall_mem_cons.mpr ⟨qz_vI C (show decode c_L_law 397 = .ok (.invokevirtual 41, 3) by decide +kernel) ct_X10_fault mv_X10_fault cw_530 vcX10 (show 1 < 17 by omega),
  List.forall_mem_cons.mpr ⟨qz_aload_n C (show decode c_L_law 400 = .ok (.aload_n 2, 1) by decide +kernel) rfl,
  List.forall_mem_cons.mpr ⟨qz_vI C (show decode c_L_law 401 = .ok (.invokevirtual 44, 3) by decide +kernel) ct_X11_fault mv_X11_fault cw_1213 vcX11 (show 1 < 17 by omega),
  List.forall_mem_cons.mpr ⟨qz_iceq C (show decode c_L_law 404 = .ok (.if_icmp .eq 940, 3) by decide +kernel) (by decide),
  List.forall_mem_cons.mpr ⟨qz_iconst C (show decode c_L_law 407 = .ok (.iconst 0, 1) by decide +kernel) (by decide +kernel),
  List.forall_mem_cons.mpr ⟨qz_zret C (show decode c_L_law 408 = .ok (.ireturn, 1) by decide +kernel) rfl,
  List.forall_mem_cons.mpr ⟨qz_aload_n C (show decode c_L_law 409 = .ok (.aload_n 1, 1) by decide +kernel) rfl,
  List.forall_mem_cons.mpr ⟨qz_aload_n C (show decode c_L_law 410 = .ok (.aload_n 0, 1) by decide +kernel) rfl,
  List.forall_mem_cons.mpr ⟨qz_iload_n C (show decode c_L_law 411 = .ok (.iload_n 3, 1) by decide +kernel) rfl,
  List.forall_mem_cons.mpr ⟨qz_iconst C (show decode c_L_law 412 = .ok (.iconst 1, 1) by decide +kernel) (by decide +kernel),
  List.forall_mem_cons.mpr ⟨qz_iadd C (show decode c_L_law 413 = .ok (.iadd, 1) by decide +kernel),
  List.forall_mem_cons.mpr ⟨qz_sald C hn hs (show decode c_L_law 414 = .ok (.iaload, 1) by decide +kernel),
  List.forall_mem_cons.mpr ⟨qz_aload_n C (show decode c_L_law 415 = .ok (.aload_n 0, 1) by decide +kernel) rfl,
  List.forall_mem_cons.mpr ⟨qz_iload_n C (show decode c_L_law 416 = .ok (.iload_n 3, 1) by decide +kernel) rfl,
  List.forall_mem_cons.mpr ⟨qz_iconst C (show decode c_L_law 417 = .ok (.iconst 2, 1) by decide +kernel) (by decide +kernel),
  (fun q h => by cases h)⟩⟩⟩⟩⟩⟩⟩⟩⟩⟩⟩⟩⟩⟩⟩⟩⟩⟩⟩⟩⟩⟩⟩⟩⟩⟩⟩⟩⟩⟩⟩⟩⟩⟩⟩⟩⟩⟩⟩⟩
set_option maxRecDepth 20000 in
theorem sd_L_law_5 {G : pj_E} {A : Nat → Prop} {P : pj_P} {S : pj_U} {Z : pj_Z} (C : pj_C (G, A, (c_L_law, RL, 4, (some .boolean), 17), P, S, Z)) {nS : Nat} {xS : Nat → Int32} (hn : pj_sL (G, A, (c_L_law, RL, 4, (some .boolean), 17), P, S, Z) = nS) (hs : pj_sxs (G, A, (c_L_law, RL, 4, (some .boolean), 17), P, S, Z) = xS) : ∀ q ∈ tb_L_law_5 nS xS, pj_S (G, A, (c_L_law, RL, 4, (some .boolean), 17), P, S, Z) pj_eI q.1 q.2 :=
  List.forall_mem_cons.mpr ⟨qz_iadd C (show decode c_L_law 418 = .ok (.iadd, 1) by decide +kernel),
  List.forall_mem_cons.mpr ⟨qz_sald C hn hs (show decode c_L_law 419 = .ok (.iaload, 1) by decide +kernel),
  List.forall_mem_cons.mpr ⟨qz_aload_n C (show decode c_L_law 420 = .ok (.aload_n 0, 1) by decide +kernel) rfl,
  List.forall_mem_cons.mpr ⟨qz_iload_n C (show decode c_L_law 421 = .ok (.iload_n 3, 1) by decide +kernel) rfl,
  List.forall_mem_cons.mpr ⟨qz_iconst C (show decode c_L_law 422 = .ok (.iconst 3, 1) by decide +kernel) (by decide +kernel),
  List.forall_mem_cons.mpr ⟨qz_iadd C (show decode c_L_law 423 = .ok (.iadd, 1) by decide +kernel),
  List.forall_mem_cons.mpr ⟨qz_sald C hn hs (show decode c_L_law 424 = .ok (.iaload, 1) by decide +kernel),
  List.forall_mem_cons.mpr ⟨qz_vI C (show decode c_L_law 425 = .ok (.invokevirtual 45, 3) by decide +kernel) ct_X10_lay mv_X10_lay cw_534 vcX10 (show 4 < 17 by omega),
  List.forall_mem_cons.mpr ⟨qz_aload_n C (show decode c_L_law 428 = .ok (.aload_n 2, 1) by decide +kernel) rfl,
  List.forall_mem_cons.mpr ⟨qz_aload_n C (show decode c_L_law 429 = .ok (.aload_n 0, 1) by decide +kernel) rfl,
  List.forall_mem_cons.mpr ⟨qz_iload_n C (show decode c_L_law 430 = .ok (.iload_n 3, 1) by decide +kernel) rfl,
  List.forall_mem_cons.mpr ⟨qz_iconst C (show decode c_L_law 431 = .ok (.iconst 1, 1) by decide +kernel) (by decide +kernel),
  List.forall_mem_cons.mpr ⟨qz_iadd C (show decode c_L_law 432 = .ok (.iadd, 1) by decide +kernel),
  List.forall_mem_cons.mpr ⟨qz_sald C hn hs (show decode c_L_law 433 = .ok (.iaload, 1) by decide +kernel),
  List.forall_mem_cons.mpr ⟨qz_aload_n C (show decode c_L_law 434 = .ok (.aload_n 0, 1) by decide +kernel) rfl,
  List.forall_mem_cons.mpr ⟨qz_iload_n C (show decode c_L_law 435 = .ok (.iload_n 3, 1) by decide +kernel) rfl,
  List.forall_mem_cons.mpr ⟨qz_iconst C (show decode c_L_law 436 = .ok (.iconst 2, 1) by decide +kernel) (by decide +kernel),
  List.forall_mem_cons.mpr ⟨qz_iadd C (show decode c_L_law 437 = .ok (.iadd, 1) by decide +kernel),
  List.forall_mem_cons.mpr ⟨qz_sald C hn hs (show decode c_L_law 438 = .ok (.iaload, 1) by decide +kernel),
  List.forall_mem_cons.mpr ⟨qz_aload_n C (show decode c_L_law 439 = .ok (.aload_n 0, 1) by decide +kernel) rfl,
  List.forall_mem_cons.mpr ⟨qz_iload_n C (show decode c_L_law 440 = .ok (.iload_n 3, 1) by decide +kernel) rfl,
  List.forall_mem_cons.mpr ⟨qz_iconst C (show decode c_L_law 441 = .ok (.iconst 3, 1) by decide +kernel) (by decide +kernel),
  List.forall_mem_cons.mpr ⟨qz_iadd C (show decode c_L_law 442 = .ok (.iadd, 1) by decide +kernel),
  List.forall_mem_cons.mpr ⟨qz_sald C hn hs (show decode c_L_law 443 = .ok (.iaload, 1) by decide +kernel),
  List.forall_mem_cons.mpr ⟨qz_vI C (show decode c_L_law 444 = .ok (.invokevirtual 48, 3) by decide +kernel) ct_X11_lay mv_X11_lay cw_1217 vcX11 (show 3 < 17 by omega),
  List.forall_mem_cons.mpr ⟨qz_iceq C (show decode c_L_law 447 = .ok (.if_icmp .eq 897, 3) by decide +kernel) (by decide),
  List.forall_mem_cons.mpr ⟨qz_iconst C (show decode c_L_law 450 = .ok (.iconst 0, 1) by decide +kernel) (by decide +kernel),
  List.forall_mem_cons.mpr ⟨qz_zret C (show decode c_L_law 451 = .ok (.ireturn, 1) by decide +kernel) rfl,
  List.forall_mem_cons.mpr ⟨qz_aload_n C (show decode c_L_law 452 = .ok (.aload_n 1, 1) by decide +kernel) rfl,
  List.forall_mem_cons.mpr ⟨qz_aload_n C (show decode c_L_law 453 = .ok (.aload_n 0, 1) by decide +kernel) rfl,
  List.forall_mem_cons.mpr ⟨qz_iload_n C (show decode c_L_law 454 = .ok (.iload_n 3, 1) by decide +kernel) rfl,
  List.forall_mem_cons.mpr ⟨qz_iconst C (show decode c_L_law 455 = .ok (.iconst 1, 1) by decide +kernel) (by decide +kernel),
  List.forall_mem_cons.mpr ⟨qz_iadd C (show decode c_L_law 456 = .ok (.iadd, 1) by decide +kernel),
  List.forall_mem_cons.mpr ⟨qz_sald C hn hs (show decode c_L_law 457 = .ok (.iaload, 1) by decide +kernel),
  List.forall_mem_cons.mpr ⟨qz_vI C (show decode c_L_law 458 = .ok (.invokevirtual 49, 3) by decide +kernel) ct_X10_cut mv_X10_cut cw_553 vcX10 (show 3 < 17 by omega),
  List.forall_mem_cons.mpr ⟨qz_aload_n C (show decode c_L_law 461 = .ok (.aload_n 2, 1) by decide +kernel) rfl,
  List.forall_mem_cons.mpr ⟨qz_aload_n C (show decode c_L_law 462 = .ok (.aload_n 0, 1) by decide +kernel) rfl,
  List.forall_mem_cons.mpr ⟨qz_iload_n C (show decode c_L_law 463 = .ok (.iload_n 3, 1) by decide +kernel) rfl,
  List.forall_mem_cons.mpr ⟨qz_iconst C (show decode c_L_law 464 = .ok (.iconst 1, 1) by decide +kernel) (by decide +kernel),
  List.forall_mem_cons.mpr ⟨qz_iadd C (show decode c_L_law 465 = .ok (.iadd, 1) by decide +kernel),
  (fun q h => by cases h)⟩⟩⟩⟩⟩⟩⟩⟩⟩⟩⟩⟩⟩⟩⟩⟩⟩⟩⟩⟩⟩⟩⟩⟩⟩⟩⟩⟩⟩⟩⟩⟩⟩⟩⟩⟩⟩⟩⟩⟩
set_option maxRecDepth 20000 in
theorem sd_L_law_6 {G : pj_E} {A : Nat → Prop} {P : pj_P} {S : pj_U} {Z : pj_Z} (C : pj_C (G, A, (c_L_law, RL, 4, (some .boolean), 17), P, S, Z)) {nS : Nat} {xS : Nat → Int32} (hn : pj_sL (G, A, (c_L_law, RL, 4, (some .boolean), 17), P, S, Z) = nS) (hs : pj_sxs (G, A, (c_L_law, RL, 4, (some .boolean), 17), P, S, Z) = xS) : ∀ q ∈ tb_L_law_6 nS xS, pj_S (G, A, (c_L_law, RL, 4, (some .boolean), 17), P, S, Z) pj_eI q.1 q.2 :=
  List.forall_mem_cons.mpr ⟨qz_sald C hn hs (show decode c_L_law 466 = .ok (.iaload, 1) by decide +kernel),
  List.forall_mem_cons.mpr ⟨qz_vI C (show decode c_L_law 467 = .ok (.invokevirtual 52, 3) by decide +kernel) ct_X11_cut mv_X11_cut cw_1232 vcX11 (show 3 < 17 by omega),
  List.forall_mem_cons.mpr ⟨qz_iceq C (show decode c_L_law 470 = .ok (.if_icmp .eq 874, 3) by decide +kernel) (by decide),
  List.forall_mem_cons.mpr ⟨qz_iconst C (show decode c_L_law 473 = .ok (.iconst 0, 1) by decide +kernel) (by decide +kernel),
  List.forall_mem_cons.mpr ⟨qz_zret C (show decode c_L_law 474 = .ok (.ireturn, 1) by decide +kernel) rfl,
  List.forall_mem_cons.mpr ⟨qz_aload_n C (show decode c_L_law 475 = .ok (.aload_n 1, 1) by decide +kernel) rfl,
  List.forall_mem_cons.mpr ⟨qz_aload_n C (show decode c_L_law 476 = .ok (.aload_n 0, 1) by decide +kernel) rfl,
  List.forall_mem_cons.mpr ⟨qz_iload_n C (show decode c_L_law 477 = .ok (.iload_n 3, 1) by decide +kernel) rfl,
  List.forall_mem_cons.mpr ⟨qz_iconst C (show decode c_L_law 478 = .ok (.iconst 1, 1) by decide +kernel) (by decide +kernel),
  List.forall_mem_cons.mpr ⟨qz_iadd C (show decode c_L_law 479 = .ok (.iadd, 1) by decide +kernel),
  List.forall_mem_cons.mpr ⟨qz_sald C hn hs (show decode c_L_law 480 = .ok (.iaload, 1) by decide +kernel),
  List.forall_mem_cons.mpr ⟨qz_vI C (show decode c_L_law 481 = .ok (.invokevirtual 53, 3) by decide +kernel) ct_X10_turn mv_X10_turn cw_574 vcX10 (show 3 < 17 by omega),
  List.forall_mem_cons.mpr ⟨qz_aload_n C (show decode c_L_law 484 = .ok (.aload_n 2, 1) by decide +kernel) rfl,
  List.forall_mem_cons.mpr ⟨qz_aload_n C (show decode c_L_law 485 = .ok (.aload_n 0, 1) by decide +kernel) rfl,
  List.forall_mem_cons.mpr ⟨qz_iload_n C (show decode c_L_law 486 = .ok (.iload_n 3, 1) by decide +kernel) rfl,
  List.forall_mem_cons.mpr ⟨qz_iconst C (show decode c_L_law 487 = .ok (.iconst 1, 1) by decide +kernel) (by decide +kernel),
  List.forall_mem_cons.mpr ⟨qz_iadd C (show decode c_L_law 488 = .ok (.iadd, 1) by decide +kernel),
  List.forall_mem_cons.mpr ⟨qz_sald C hn hs (show decode c_L_law 489 = .ok (.iaload, 1) by decide +kernel),
  List.forall_mem_cons.mpr ⟨qz_vI C (show decode c_L_law 490 = .ok (.invokevirtual 56, 3) by decide +kernel) ct_X11_turn mv_X11_turn cw_1240 vcX11 (show 3 < 17 by omega),
  List.forall_mem_cons.mpr ⟨qz_iceq C (show decode c_L_law 493 = .ok (.if_icmp .eq 851, 3) by decide +kernel) (by decide),
  List.forall_mem_cons.mpr ⟨qz_iconst C (show decode c_L_law 496 = .ok (.iconst 0, 1) by decide +kernel) (by decide +kernel),
  List.forall_mem_cons.mpr ⟨qz_zret C (show decode c_L_law 497 = .ok (.ireturn, 1) by decide +kernel) rfl,
  List.forall_mem_cons.mpr ⟨qz_aload_n C (show decode c_L_law 498 = .ok (.aload_n 1, 1) by decide +kernel) rfl,
  List.forall_mem_cons.mpr ⟨qz_aload_n C (show decode c_L_law 499 = .ok (.aload_n 0, 1) by decide +kernel) rfl,
  List.forall_mem_cons.mpr ⟨qz_iload_n C (show decode c_L_law 500 = .ok (.iload_n 3, 1) by decide +kernel) rfl,
  List.forall_mem_cons.mpr ⟨qz_iconst C (show decode c_L_law 501 = .ok (.iconst 1, 1) by decide +kernel) (by decide +kernel),
  List.forall_mem_cons.mpr ⟨qz_iadd C (show decode c_L_law 502 = .ok (.iadd, 1) by decide +kernel),
  List.forall_mem_cons.mpr ⟨qz_sald C hn hs (show decode c_L_law 503 = .ok (.iaload, 1) by decide +kernel),
  List.forall_mem_cons.mpr ⟨qz_aload_n C (show decode c_L_law 504 = .ok (.aload_n 0, 1) by decide +kernel) rfl,
  List.forall_mem_cons.mpr ⟨qz_iload_n C (show decode c_L_law 505 = .ok (.iload_n 3, 1) by decide +kernel) rfl,
  List.forall_mem_cons.mpr ⟨qz_iconst C (show decode c_L_law 506 = .ok (.iconst 2, 1) by decide +kernel) (by decide +kernel),
  List.forall_mem_cons.mpr ⟨qz_iadd C (show decode c_L_law 507 = .ok (.iadd, 1) by decide +kernel),
  List.forall_mem_cons.mpr ⟨qz_sald C hn hs (show decode c_L_law 508 = .ok (.iaload, 1) by decide +kernel),
  List.forall_mem_cons.mpr ⟨qz_vI C (show decode c_L_law 509 = .ok (.invokevirtual 57, 3) by decide +kernel) ct_X10_become mv_X10_become cw_588 vcX10 (show 3 < 17 by omega),
  List.forall_mem_cons.mpr ⟨qz_aload_n C (show decode c_L_law 512 = .ok (.aload_n 2, 1) by decide +kernel) rfl,
  List.forall_mem_cons.mpr ⟨qz_aload_n C (show decode c_L_law 513 = .ok (.aload_n 0, 1) by decide +kernel) rfl,
  List.forall_mem_cons.mpr ⟨qz_iload_n C (show decode c_L_law 514 = .ok (.iload_n 3, 1) by decide +kernel) rfl,
  List.forall_mem_cons.mpr ⟨qz_iconst C (show decode c_L_law 515 = .ok (.iconst 1, 1) by decide +kernel) (by decide +kernel),
  List.forall_mem_cons.mpr ⟨qz_iadd C (show decode c_L_law 516 = .ok (.iadd, 1) by decide +kernel),
  List.forall_mem_cons.mpr ⟨qz_sald C hn hs (show decode c_L_law 517 = .ok (.iaload, 1) by decide +kernel),
  (fun q h => by cases h)⟩⟩⟩⟩⟩⟩⟩⟩⟩⟩⟩⟩⟩⟩⟩⟩⟩⟩⟩⟩⟩⟩⟩⟩⟩⟩⟩⟩⟩⟩⟩⟩⟩⟩⟩⟩⟩⟩⟩⟩
set_option maxRecDepth 20000 in
theorem sd_L_law_7 {G : pj_E} {A : Nat → Prop} {P : pj_P} {S : pj_U} {Z : pj_Z} (C : pj_C (G, A, (c_L_law, RL, 4, (some .boolean), 17), P, S, Z)) {nS : Nat} {xS : Nat → Int32} (hn : pj_sL (G, A, (c_L_law, RL, 4, (some .boolean), 17), P, S, Z) = nS) (hs : pj_sxs (G, A, (c_L_law, RL, 4, (some .boolean), 17), P, S, Z) = xS) : ∀ q ∈ tb_L_law_7 nS xS, pj_S (G, A, (c_L_law, RL, 4, (some .boolean), 17), P, S, Z) pj_eI q.1 q.2 :=
  List.forall_mem_cons.mpr ⟨qz_aload_n C (show decode c_L_law 518 = .ok (.aload_n 0, 1) by decide +kernel) rfl,
  List.forall_mem_cons.mpr ⟨qz_iload_n C (show decode c_L_law 519 = .ok (.iload_n 3, 1) by decide +kernel) rfl,
  List.forall_mem_cons.mpr ⟨qz_iconst C (show decode c_L_law 520 = .ok (.iconst 2, 1) by decide +kernel) (by decide +kernel),
  List.forall_mem_cons.mpr ⟨qz_iadd C (show decode c_L_law 521 = .ok (.iadd, 1) by decide +kernel),
  List.forall_mem_cons.mpr ⟨qz_sald C hn hs (show decode c_L_law 522 = .ok (.iaload, 1) by decide +kernel),
  List.forall_mem_cons.mpr ⟨qz_vI C (show decode c_L_law 523 = .ok (.invokevirtual 61, 3) by decide +kernel) ct_X11_become mv_X11_become cw_1244 vcX11 (show 3 < 17 by omega),
  List.forall_mem_cons.mpr ⟨qz_iceq C (show decode c_L_law 526 = .ok (.if_icmp .eq 818, 3) by decide +kernel) (by decide),
  List.forall_mem_cons.mpr ⟨qz_iconst C (show decode c_L_law 529 = .ok (.iconst 0, 1) by decide +kernel) (by decide +kernel),
  List.forall_mem_cons.mpr ⟨qz_zret C (show decode c_L_law 530 = .ok (.ireturn, 1) by decide +kernel) rfl,
  List.forall_mem_cons.mpr ⟨qz_aload_n C (show decode c_L_law 531 = .ok (.aload_n 1, 1) by decide +kernel) rfl,
  List.forall_mem_cons.mpr ⟨qz_vI C (show decode c_L_law 532 = .ok (.invokevirtual 62, 3) by decide +kernel) ct_X10_undo mv_X10_undo cw_605 vcX10 (show 4 < 17 by omega),
  List.forall_mem_cons.mpr ⟨qz_aload_n C (show decode c_L_law 535 = .ok (.aload_n 2, 1) by decide +kernel) rfl,
  List.forall_mem_cons.mpr ⟨qz_vI C (show decode c_L_law 536 = .ok (.invokevirtual 65, 3) by decide +kernel) ct_X11_undo mv_X11_undo cw_1249 vcX11 (show 2 < 17 by omega),
  List.forall_mem_cons.mpr ⟨qz_iceq C (show decode c_L_law 539 = .ok (.if_icmp .eq 805, 3) by decide +kernel) (by decide),
  List.forall_mem_cons.mpr ⟨qz_iconst C (show decode c_L_law 542 = .ok (.iconst 0, 1) by decide +kernel) (by decide +kernel),
  List.forall_mem_cons.mpr ⟨qz_zret C (show decode c_L_law 543 = .ok (.ireturn, 1) by decide +kernel) rfl,
  List.forall_mem_cons.mpr ⟨qz_aload_n C (show decode c_L_law 544 = .ok (.aload_n 1, 1) by decide +kernel) rfl,
  List.forall_mem_cons.mpr ⟨qz_aload_n C (show decode c_L_law 545 = .ok (.aload_n 0, 1) by decide +kernel) rfl,
  List.forall_mem_cons.mpr ⟨qz_iload_n C (show decode c_L_law 546 = .ok (.iload_n 3, 1) by decide +kernel) rfl,
  List.forall_mem_cons.mpr ⟨qz_iconst C (show decode c_L_law 547 = .ok (.iconst 1, 1) by decide +kernel) (by decide +kernel),
  List.forall_mem_cons.mpr ⟨qz_iadd C (show decode c_L_law 548 = .ok (.iadd, 1) by decide +kernel),
  List.forall_mem_cons.mpr ⟨qz_sald C hn hs (show decode c_L_law 549 = .ok (.iaload, 1) by decide +kernel),
  List.forall_mem_cons.mpr ⟨qz_aload_n C (show decode c_L_law 550 = .ok (.aload_n 0, 1) by decide +kernel) rfl,
  List.forall_mem_cons.mpr ⟨qz_iload_n C (show decode c_L_law 551 = .ok (.iload_n 3, 1) by decide +kernel) rfl,
  List.forall_mem_cons.mpr ⟨qz_iconst C (show decode c_L_law 552 = .ok (.iconst 2, 1) by decide +kernel) (by decide +kernel),
  List.forall_mem_cons.mpr ⟨qz_iadd C (show decode c_L_law 553 = .ok (.iadd, 1) by decide +kernel),
  List.forall_mem_cons.mpr ⟨qz_sald C hn hs (show decode c_L_law 554 = .ok (.iaload, 1) by decide +kernel),
  List.forall_mem_cons.mpr ⟨qz_vI C (show decode c_L_law 555 = .ok (.invokevirtual 66, 3) by decide +kernel) ct_X10_arc mv_X10_arc cw_622 vcX10 (show 2 < 17 by omega),
  List.forall_mem_cons.mpr ⟨qz_aload_n C (show decode c_L_law 558 = .ok (.aload_n 2, 1) by decide +kernel) rfl,
  List.forall_mem_cons.mpr ⟨qz_aload_n C (show decode c_L_law 559 = .ok (.aload_n 0, 1) by decide +kernel) rfl,
  List.forall_mem_cons.mpr ⟨qz_iload_n C (show decode c_L_law 560 = .ok (.iload_n 3, 1) by decide +kernel) rfl,
  List.forall_mem_cons.mpr ⟨qz_iconst C (show decode c_L_law 561 = .ok (.iconst 1, 1) by decide +kernel) (by decide +kernel),
  List.forall_mem_cons.mpr ⟨qz_iadd C (show decode c_L_law 562 = .ok (.iadd, 1) by decide +kernel),
  List.forall_mem_cons.mpr ⟨qz_sald C hn hs (show decode c_L_law 563 = .ok (.iaload, 1) by decide +kernel),
  List.forall_mem_cons.mpr ⟨qz_aload_n C (show decode c_L_law 564 = .ok (.aload_n 0, 1) by decide +kernel) rfl,
  List.forall_mem_cons.mpr ⟨qz_iload_n C (show decode c_L_law 565 = .ok (.iload_n 3, 1) by decide +kernel) rfl,
  List.forall_mem_cons.mpr ⟨qz_iconst C (show decode c_L_law 566 = .ok (.iconst 2, 1) by decide +kernel) (by decide +kernel),
  List.forall_mem_cons.mpr ⟨qz_iadd C (show decode c_L_law 567 = .ok (.iadd, 1) by decide +kernel),
  List.forall_mem_cons.mpr ⟨qz_sald C hn hs (show decode c_L_law 568 = .ok (.iaload, 1) by decide +kernel),
  List.forall_mem_cons.mpr ⟨qz_vI C (show decode c_L_law 569 = .ok (.invokevirtual 69, 3) by decide +kernel) ct_X11_arc mv_X11_arc cw_1253 vcX11 (show 3 < 17 by omega),
  (fun q h => by cases h)⟩⟩⟩⟩⟩⟩⟩⟩⟩⟩⟩⟩⟩⟩⟩⟩⟩⟩⟩⟩⟩⟩⟩⟩⟩⟩⟩⟩⟩⟩⟩⟩⟩⟩⟩⟩⟩⟩⟩⟩
set_option maxRecDepth 20000 in
theorem sd_L_law_8 {G : pj_E} {A : Nat → Prop} {P : pj_P} {S : pj_U} {Z : pj_Z} (C : pj_C (G, A, (c_L_law, RL, 4, (some .boolean), 17), P, S, Z)) {nS : Nat} {xS : Nat → Int32} (hn : pj_sL (G, A, (c_L_law, RL, 4, (some .boolean), 17), P, S, Z) = nS) (hs : pj_sxs (G, A, (c_L_law, RL, 4, (some .boolean), 17), P, S, Z) = xS) : ∀ q ∈ tb_L_law_8 nS xS, pj_S (G, A, (c_L_law, RL, 4, (some .boolean), 17), P, S, Z) pj_eI q.1 q.2 :=
  List.forall_mem_cons.mpr ⟨qz_iceq C (show decode c_L_law 572 = .ok (.if_icmp .eq 772, 3) by decide +kernel) (by decide),
  List.forall_mem_cons.mpr ⟨qz_iconst C (show decode c_L_law 575 = .ok (.iconst 0, 1) by decide +kernel) (by decide +kernel),
  List.forall_mem_cons.mpr ⟨qz_zret C (show decode c_L_law 576 = .ok (.ireturn, 1) by decide +kernel) rfl,
  List.forall_mem_cons.mpr ⟨qz_aload_n C (show decode c_L_law 577 = .ok (.aload_n 1, 1) by decide +kernel) rfl,
  List.forall_mem_cons.mpr ⟨qz_aload_n C (show decode c_L_law 578 = .ok (.aload_n 0, 1) by decide +kernel) rfl,
  List.forall_mem_cons.mpr ⟨qz_iload_n C (show decode c_L_law 579 = .ok (.iload_n 3, 1) by decide +kernel) rfl,
  List.forall_mem_cons.mpr ⟨qz_iconst C (show decode c_L_law 580 = .ok (.iconst 1, 1) by decide +kernel) (by decide +kernel),
  List.forall_mem_cons.mpr ⟨qz_iadd C (show decode c_L_law 581 = .ok (.iadd, 1) by decide +kernel),
  List.forall_mem_cons.mpr ⟨qz_sald C hn hs (show decode c_L_law 582 = .ok (.iaload, 1) by decide +kernel),
  List.forall_mem_cons.mpr ⟨qz_aload_n C (show decode c_L_law 583 = .ok (.aload_n 0, 1) by decide +kernel) rfl,
  List.forall_mem_cons.mpr ⟨qz_iload_n C (show decode c_L_law 584 = .ok (.iload_n 3, 1) by decide +kernel) rfl,
  List.forall_mem_cons.mpr ⟨qz_iconst C (show decode c_L_law 585 = .ok (.iconst 2, 1) by decide +kernel) (by decide +kernel),
  List.forall_mem_cons.mpr ⟨qz_iadd C (show decode c_L_law 586 = .ok (.iadd, 1) by decide +kernel),
  List.forall_mem_cons.mpr ⟨qz_sald C hn hs (show decode c_L_law 587 = .ok (.iaload, 1) by decide +kernel),
  List.forall_mem_cons.mpr ⟨qz_aload_n C (show decode c_L_law 588 = .ok (.aload_n 0, 1) by decide +kernel) rfl,
  List.forall_mem_cons.mpr ⟨qz_iload_n C (show decode c_L_law 589 = .ok (.iload_n 3, 1) by decide +kernel) rfl,
  List.forall_mem_cons.mpr ⟨qz_iconst C (show decode c_L_law 590 = .ok (.iconst 3, 1) by decide +kernel) (by decide +kernel),
  List.forall_mem_cons.mpr ⟨qz_iadd C (show decode c_L_law 591 = .ok (.iadd, 1) by decide +kernel),
  List.forall_mem_cons.mpr ⟨qz_sald C hn hs (show decode c_L_law 592 = .ok (.iaload, 1) by decide +kernel),
  List.forall_mem_cons.mpr ⟨qz_vI C (show decode c_L_law 593 = .ok (.invokevirtual 70, 3) by decide +kernel) ct_X10_moves mv_X10_moves cw_626 vcX10 (show 6 < 17 by omega),
  List.forall_mem_cons.mpr ⟨qz_aload_n C (show decode c_L_law 596 = .ok (.aload_n 2, 1) by decide +kernel) rfl,
  List.forall_mem_cons.mpr ⟨qz_aload_n C (show decode c_L_law 597 = .ok (.aload_n 0, 1) by decide +kernel) rfl,
  List.forall_mem_cons.mpr ⟨qz_iload_n C (show decode c_L_law 598 = .ok (.iload_n 3, 1) by decide +kernel) rfl,
  List.forall_mem_cons.mpr ⟨qz_iconst C (show decode c_L_law 599 = .ok (.iconst 1, 1) by decide +kernel) (by decide +kernel),
  List.forall_mem_cons.mpr ⟨qz_iadd C (show decode c_L_law 600 = .ok (.iadd, 1) by decide +kernel),
  List.forall_mem_cons.mpr ⟨qz_sald C hn hs (show decode c_L_law 601 = .ok (.iaload, 1) by decide +kernel),
  List.forall_mem_cons.mpr ⟨qz_aload_n C (show decode c_L_law 602 = .ok (.aload_n 0, 1) by decide +kernel) rfl,
  List.forall_mem_cons.mpr ⟨qz_iload_n C (show decode c_L_law 603 = .ok (.iload_n 3, 1) by decide +kernel) rfl,
  List.forall_mem_cons.mpr ⟨qz_iconst C (show decode c_L_law 604 = .ok (.iconst 2, 1) by decide +kernel) (by decide +kernel),
  List.forall_mem_cons.mpr ⟨qz_iadd C (show decode c_L_law 605 = .ok (.iadd, 1) by decide +kernel),
  List.forall_mem_cons.mpr ⟨qz_sald C hn hs (show decode c_L_law 606 = .ok (.iaload, 1) by decide +kernel),
  List.forall_mem_cons.mpr ⟨qz_aload_n C (show decode c_L_law 607 = .ok (.aload_n 0, 1) by decide +kernel) rfl,
  List.forall_mem_cons.mpr ⟨qz_iload_n C (show decode c_L_law 608 = .ok (.iload_n 3, 1) by decide +kernel) rfl,
  List.forall_mem_cons.mpr ⟨qz_iconst C (show decode c_L_law 609 = .ok (.iconst 3, 1) by decide +kernel) (by decide +kernel),
  List.forall_mem_cons.mpr ⟨qz_iadd C (show decode c_L_law 610 = .ok (.iadd, 1) by decide +kernel),
  List.forall_mem_cons.mpr ⟨qz_sald C hn hs (show decode c_L_law 611 = .ok (.iaload, 1) by decide +kernel),
  List.forall_mem_cons.mpr ⟨qz_vI C (show decode c_L_law 612 = .ok (.invokevirtual 73, 3) by decide +kernel) ct_X11_moves mv_X11_moves cw_1257 vcX11 (show 5 < 17 by omega),
  List.forall_mem_cons.mpr ⟨qz_iceq C (show decode c_L_law 615 = .ok (.if_icmp .eq 729, 3) by decide +kernel) (by decide),
  List.forall_mem_cons.mpr ⟨qz_iconst C (show decode c_L_law 618 = .ok (.iconst 0, 1) by decide +kernel) (by decide +kernel),
  List.forall_mem_cons.mpr ⟨qz_zret C (show decode c_L_law 619 = .ok (.ireturn, 1) by decide +kernel) rfl,
  (fun q h => by cases h)⟩⟩⟩⟩⟩⟩⟩⟩⟩⟩⟩⟩⟩⟩⟩⟩⟩⟩⟩⟩⟩⟩⟩⟩⟩⟩⟩⟩⟩⟩⟩⟩⟩⟩⟩⟩⟩⟩⟩⟩
set_option maxRecDepth 20000 in
theorem sd_L_law_9 {G : pj_E} {A : Nat → Prop} {P : pj_P} {S : pj_U} {Z : pj_Z} (C : pj_C (G, A, (c_L_law, RL, 4, (some .boolean), 17), P, S, Z)) {nS : Nat} {xS : Nat → Int32} (hn : pj_sL (G, A, (c_L_law, RL, 4, (some .boolean), 17), P, S, Z) = nS) (hs : pj_sxs (G, A, (c_L_law, RL, 4, (some .boolean), 17), P, S, Z) = xS) : ∀ q ∈ tb_L_law_9 nS xS, pj_S (G, A, (c_L_law, RL, 4, (some .boolean), 17), P, S, Z) pj_eI q.1 q.2 :=
  List.forall_mem_cons.mpr ⟨qz_aload_n C (show decode c_L_law 620 = .ok (.aload_n 1, 1) by decide +kernel) rfl,
  List.forall_mem_cons.mpr ⟨qz_aload_n C (show decode c_L_law 621 = .ok (.aload_n 0, 1) by decide +kernel) rfl,
  List.forall_mem_cons.mpr ⟨qz_iload_n C (show decode c_L_law 622 = .ok (.iload_n 3, 1) by decide +kernel) rfl,
  List.forall_mem_cons.mpr ⟨qz_iconst C (show decode c_L_law 623 = .ok (.iconst 1, 1) by decide +kernel) (by decide +kernel),
  List.forall_mem_cons.mpr ⟨qz_iadd C (show decode c_L_law 624 = .ok (.iadd, 1) by decide +kernel),
  List.forall_mem_cons.mpr ⟨qz_sald C hn hs (show decode c_L_law 625 = .ok (.iaload, 1) by decide +kernel),
  List.forall_mem_cons.mpr ⟨qz_aload_n C (show decode c_L_law 626 = .ok (.aload_n 0, 1) by decide +kernel) rfl,
  List.forall_mem_cons.mpr ⟨qz_iload_n C (show decode c_L_law 627 = .ok (.iload_n 3, 1) by decide +kernel) rfl,
  List.forall_mem_cons.mpr ⟨qz_iconst C (show decode c_L_law 628 = .ok (.iconst 2, 1) by decide +kernel) (by decide +kernel),
  List.forall_mem_cons.mpr ⟨qz_iadd C (show decode c_L_law 629 = .ok (.iadd, 1) by decide +kernel),
  List.forall_mem_cons.mpr ⟨qz_sald C hn hs (show decode c_L_law 630 = .ok (.iaload, 1) by decide +kernel),
  List.forall_mem_cons.mpr ⟨qz_vI C (show decode c_L_law 631 = .ok (.invokevirtual 74, 3) by decide +kernel) ct_X10_block mv_X10_block cw_682 vcX10 (show 7 < 17 by omega),
  List.forall_mem_cons.mpr ⟨qz_aload_n C (show decode c_L_law 634 = .ok (.aload_n 2, 1) by decide +kernel) rfl,
  List.forall_mem_cons.mpr ⟨qz_aload_n C (show decode c_L_law 635 = .ok (.aload_n 0, 1) by decide +kernel) rfl,
  List.forall_mem_cons.mpr ⟨qz_iload_n C (show decode c_L_law 636 = .ok (.iload_n 3, 1) by decide +kernel) rfl,
  List.forall_mem_cons.mpr ⟨qz_iconst C (show decode c_L_law 637 = .ok (.iconst 1, 1) by decide +kernel) (by decide +kernel),
  List.forall_mem_cons.mpr ⟨qz_iadd C (show decode c_L_law 638 = .ok (.iadd, 1) by decide +kernel),
  List.forall_mem_cons.mpr ⟨qz_sald C hn hs (show decode c_L_law 639 = .ok (.iaload, 1) by decide +kernel),
  List.forall_mem_cons.mpr ⟨qz_aload_n C (show decode c_L_law 640 = .ok (.aload_n 0, 1) by decide +kernel) rfl,
  List.forall_mem_cons.mpr ⟨qz_iload_n C (show decode c_L_law 641 = .ok (.iload_n 3, 1) by decide +kernel) rfl,
  List.forall_mem_cons.mpr ⟨qz_iconst C (show decode c_L_law 642 = .ok (.iconst 2, 1) by decide +kernel) (by decide +kernel),
  List.forall_mem_cons.mpr ⟨qz_iadd C (show decode c_L_law 643 = .ok (.iadd, 1) by decide +kernel),
  List.forall_mem_cons.mpr ⟨qz_sald C hn hs (show decode c_L_law 644 = .ok (.iaload, 1) by decide +kernel),
  List.forall_mem_cons.mpr ⟨qz_vI C (show decode c_L_law 645 = .ok (.invokevirtual 77, 3) by decide +kernel) ct_X11_block mv_X11_block cw_1292 vcX11 (show 7 < 17 by omega),
  List.forall_mem_cons.mpr ⟨qz_iceq C (show decode c_L_law 648 = .ok (.if_icmp .eq 696, 3) by decide +kernel) (by decide),
  List.forall_mem_cons.mpr ⟨qz_iconst C (show decode c_L_law 651 = .ok (.iconst 0, 1) by decide +kernel) (by decide +kernel),
  List.forall_mem_cons.mpr ⟨qz_zret C (show decode c_L_law 652 = .ok (.ireturn, 1) by decide +kernel) rfl,
  List.forall_mem_cons.mpr ⟨qz_aload_n C (show decode c_L_law 653 = .ok (.aload_n 1, 1) by decide +kernel) rfl,
  List.forall_mem_cons.mpr ⟨qz_aload_n C (show decode c_L_law 654 = .ok (.aload_n 0, 1) by decide +kernel) rfl,
  List.forall_mem_cons.mpr ⟨qz_iload_n C (show decode c_L_law 655 = .ok (.iload_n 3, 1) by decide +kernel) rfl,
  List.forall_mem_cons.mpr ⟨qz_iconst C (show decode c_L_law 656 = .ok (.iconst 1, 1) by decide +kernel) (by decide +kernel),
  List.forall_mem_cons.mpr ⟨qz_iadd C (show decode c_L_law 657 = .ok (.iadd, 1) by decide +kernel),
  List.forall_mem_cons.mpr ⟨qz_sald C hn hs (show decode c_L_law 658 = .ok (.iaload, 1) by decide +kernel),
  List.forall_mem_cons.mpr ⟨qz_aload_n C (show decode c_L_law 659 = .ok (.aload_n 0, 1) by decide +kernel) rfl,
  List.forall_mem_cons.mpr ⟨qz_iload_n C (show decode c_L_law 660 = .ok (.iload_n 3, 1) by decide +kernel) rfl,
  List.forall_mem_cons.mpr ⟨qz_iconst C (show decode c_L_law 661 = .ok (.iconst 2, 1) by decide +kernel) (by decide +kernel),
  List.forall_mem_cons.mpr ⟨qz_iadd C (show decode c_L_law 662 = .ok (.iadd, 1) by decide +kernel),
  List.forall_mem_cons.mpr ⟨qz_sald C hn hs (show decode c_L_law 663 = .ok (.iaload, 1) by decide +kernel),
  List.forall_mem_cons.mpr ⟨qz_vI C (show decode c_L_law 664 = .ok (.invokevirtual 78, 3) by decide +kernel) ct_X10_parts mv_X10_parts cw_739 vcX10 (show 7 < 17 by omega),
  List.forall_mem_cons.mpr ⟨qz_aload_n C (show decode c_L_law 667 = .ok (.aload_n 2, 1) by decide +kernel) rfl,
  (fun q h => by cases h)⟩⟩⟩⟩⟩⟩⟩⟩⟩⟩⟩⟩⟩⟩⟩⟩⟩⟩⟩⟩⟩⟩⟩⟩⟩⟩⟩⟩⟩⟩⟩⟩⟩⟩⟩⟩⟩⟩⟩⟩
set_option maxRecDepth 20000 in
theorem sd_L_law_10 {G : pj_E} {A : Nat → Prop} {P : pj_P} {S : pj_U} {Z : pj_Z} (C : pj_C (G, A, (c_L_law, RL, 4, (some .boolean), 17), P, S, Z)) {nS : Nat} {xS : Nat → Int32} (hn : pj_sL (G, A, (c_L_law, RL, 4, (some .boolean), 17), P, S, Z) = nS) (hs : pj_sxs (G, A, (c_L_law, RL, 4, (some .boolean), 17), P, S, Z) = xS) : ∀ q ∈ tb_L_law_10 nS xS, pj_S (G, A, (c_L_law, RL, 4, (some .boolean), 17), P, S, Z) pj_eI q.1 q.2 :=
  List.forall_mem_cons.mpr ⟨qz_aload_n C (show decode c_L_law 668 = .ok (.aload_n 0, 1) by decide +kernel) rfl,
  List.forall_mem_cons.mpr ⟨qz_iload_n C (show decode c_L_law 669 = .ok (.iload_n 3, 1) by decide +kernel) rfl,
  List.forall_mem_cons.mpr ⟨qz_iconst C (show decode c_L_law 670 = .ok (.iconst 1, 1) by decide +kernel) (by decide +kernel),
  List.forall_mem_cons.mpr ⟨qz_iadd C (show decode c_L_law 671 = .ok (.iadd, 1) by decide +kernel),
  List.forall_mem_cons.mpr ⟨qz_sald C hn hs (show decode c_L_law 672 = .ok (.iaload, 1) by decide +kernel),
  List.forall_mem_cons.mpr ⟨qz_aload_n C (show decode c_L_law 673 = .ok (.aload_n 0, 1) by decide +kernel) rfl,
  List.forall_mem_cons.mpr ⟨qz_iload_n C (show decode c_L_law 674 = .ok (.iload_n 3, 1) by decide +kernel) rfl,
  List.forall_mem_cons.mpr ⟨qz_iconst C (show decode c_L_law 675 = .ok (.iconst 2, 1) by decide +kernel) (by decide +kernel),
  List.forall_mem_cons.mpr ⟨qz_iadd C (show decode c_L_law 676 = .ok (.iadd, 1) by decide +kernel),
  List.forall_mem_cons.mpr ⟨qz_sald C hn hs (show decode c_L_law 677 = .ok (.iaload, 1) by decide +kernel),
  List.forall_mem_cons.mpr ⟨qz_vI C (show decode c_L_law 678 = .ok (.invokevirtual 81, 3) by decide +kernel) ct_X11_parts mv_X11_parts cw_1329 vcX11 (show 6 < 17 by omega),
  List.forall_mem_cons.mpr ⟨qz_iceq C (show decode c_L_law 681 = .ok (.if_icmp .eq 663, 3) by decide +kernel) (by decide),
  List.forall_mem_cons.mpr ⟨qz_iconst C (show decode c_L_law 684 = .ok (.iconst 0, 1) by decide +kernel) (by decide +kernel),
  List.forall_mem_cons.mpr ⟨qz_zret C (show decode c_L_law 685 = .ok (.ireturn, 1) by decide +kernel) rfl,
  List.forall_mem_cons.mpr ⟨qz_aload_n C (show decode c_L_law 686 = .ok (.aload_n 1, 1) by decide +kernel) rfl,
  List.forall_mem_cons.mpr ⟨qz_aload_n C (show decode c_L_law 687 = .ok (.aload_n 0, 1) by decide +kernel) rfl,
  List.forall_mem_cons.mpr ⟨qz_iload_n C (show decode c_L_law 688 = .ok (.iload_n 3, 1) by decide +kernel) rfl,
  List.forall_mem_cons.mpr ⟨qz_iconst C (show decode c_L_law 689 = .ok (.iconst 1, 1) by decide +kernel) (by decide +kernel),
  List.forall_mem_cons.mpr ⟨qz_iadd C (show decode c_L_law 690 = .ok (.iadd, 1) by decide +kernel),
  List.forall_mem_cons.mpr ⟨qz_sald C hn hs (show decode c_L_law 691 = .ok (.iaload, 1) by decide +kernel),
  List.forall_mem_cons.mpr ⟨qz_aload_n C (show decode c_L_law 692 = .ok (.aload_n 0, 1) by decide +kernel) rfl,
  List.forall_mem_cons.mpr ⟨qz_iload_n C (show decode c_L_law 693 = .ok (.iload_n 3, 1) by decide +kernel) rfl,
  List.forall_mem_cons.mpr ⟨qz_iconst C (show decode c_L_law 694 = .ok (.iconst 2, 1) by decide +kernel) (by decide +kernel),
  List.forall_mem_cons.mpr ⟨qz_iadd C (show decode c_L_law 695 = .ok (.iadd, 1) by decide +kernel),
  List.forall_mem_cons.mpr ⟨qz_sald C hn hs (show decode c_L_law 696 = .ok (.iaload, 1) by decide +kernel),
  List.forall_mem_cons.mpr ⟨qz_aload_n C (show decode c_L_law 697 = .ok (.aload_n 0, 1) by decide +kernel) rfl,
  List.forall_mem_cons.mpr ⟨qz_iload_n C (show decode c_L_law 698 = .ok (.iload_n 3, 1) by decide +kernel) rfl,
  List.forall_mem_cons.mpr ⟨qz_iconst C (show decode c_L_law 699 = .ok (.iconst 3, 1) by decide +kernel) (by decide +kernel),
  List.forall_mem_cons.mpr ⟨qz_iadd C (show decode c_L_law 700 = .ok (.iadd, 1) by decide +kernel),
  List.forall_mem_cons.mpr ⟨qz_sald C hn hs (show decode c_L_law 701 = .ok (.iaload, 1) by decide +kernel),
  List.forall_mem_cons.mpr ⟨qz_vI C (show decode c_L_law 702 = .ok (.invokevirtual 82, 3) by decide +kernel) ct_X10_behind mv_X10_behind cw_751 vcX10 (show 7 < 17 by omega),
  List.forall_mem_cons.mpr ⟨qz_aload_n C (show decode c_L_law 705 = .ok (.aload_n 2, 1) by decide +kernel) rfl,
  List.forall_mem_cons.mpr ⟨qz_aload_n C (show decode c_L_law 706 = .ok (.aload_n 0, 1) by decide +kernel) rfl,
  List.forall_mem_cons.mpr ⟨qz_iload_n C (show decode c_L_law 707 = .ok (.iload_n 3, 1) by decide +kernel) rfl,
  List.forall_mem_cons.mpr ⟨qz_iconst C (show decode c_L_law 708 = .ok (.iconst 1, 1) by decide +kernel) (by decide +kernel),
  List.forall_mem_cons.mpr ⟨qz_iadd C (show decode c_L_law 709 = .ok (.iadd, 1) by decide +kernel),
  List.forall_mem_cons.mpr ⟨qz_sald C hn hs (show decode c_L_law 710 = .ok (.iaload, 1) by decide +kernel),
  List.forall_mem_cons.mpr ⟨qz_aload_n C (show decode c_L_law 711 = .ok (.aload_n 0, 1) by decide +kernel) rfl,
  List.forall_mem_cons.mpr ⟨qz_iload_n C (show decode c_L_law 712 = .ok (.iload_n 3, 1) by decide +kernel) rfl,
  List.forall_mem_cons.mpr ⟨qz_iconst C (show decode c_L_law 713 = .ok (.iconst 2, 1) by decide +kernel) (by decide +kernel),
  (fun q h => by cases h)⟩⟩⟩⟩⟩⟩⟩⟩⟩⟩⟩⟩⟩⟩⟩⟩⟩⟩⟩⟩⟩⟩⟩⟩⟩⟩⟩⟩⟩⟩⟩⟩⟩⟩⟩⟩⟩⟩⟩⟩
set_option maxRecDepth 20000 in
theorem sd_L_law_11 {G : pj_E} {A : Nat → Prop} {P : pj_P} {S : pj_U} {Z : pj_Z} (C : pj_C (G, A, (c_L_law, RL, 4, (some .boolean), 17), P, S, Z)) {nS : Nat} {xS : Nat → Int32} (hn : pj_sL (G, A, (c_L_law, RL, 4, (some .boolean), 17), P, S, Z) = nS) (hs : pj_sxs (G, A, (c_L_law, RL, 4, (some .boolean), 17), P, S, Z) = xS) : ∀ q ∈ tb_L_law_11 nS xS, pj_S (G, A, (c_L_law, RL, 4, (some .boolean), 17), P, S, Z) pj_eI q.1 q.2 :=
  List.forall_mem_cons.mpr ⟨qz_iadd C (show decode c_L_law 714 = .ok (.iadd, 1) by decide +kernel),
  List.forall_mem_cons.mpr ⟨qz_sald C hn hs (show decode c_L_law 715 = .ok (.iaload, 1) by decide +kernel),
  List.forall_mem_cons.mpr ⟨qz_aload_n C (show decode c_L_law 716 = .ok (.aload_n 0, 1) by decide +kernel) rfl,
  List.forall_mem_cons.mpr ⟨qz_iload_n C (show decode c_L_law 717 = .ok (.iload_n 3, 1) by decide +kernel) rfl,
  List.forall_mem_cons.mpr ⟨qz_iconst C (show decode c_L_law 718 = .ok (.iconst 3, 1) by decide +kernel) (by decide +kernel),
  List.forall_mem_cons.mpr ⟨qz_iadd C (show decode c_L_law 719 = .ok (.iadd, 1) by decide +kernel),
  List.forall_mem_cons.mpr ⟨qz_sald C hn hs (show decode c_L_law 720 = .ok (.iaload, 1) by decide +kernel),
  List.forall_mem_cons.mpr ⟨qz_vI C (show decode c_L_law 721 = .ok (.invokevirtual 85, 3) by decide +kernel) ct_X11_behind mv_X11_behind cw_1337 vcX11 (show 6 < 17 by omega),
  List.forall_mem_cons.mpr ⟨qz_iceq C (show decode c_L_law 724 = .ok (.if_icmp .eq 620, 3) by decide +kernel) (by decide),
  List.forall_mem_cons.mpr ⟨qz_iconst C (show decode c_L_law 727 = .ok (.iconst 0, 1) by decide +kernel) (by decide +kernel),
  List.forall_mem_cons.mpr ⟨qz_zret C (show decode c_L_law 728 = .ok (.ireturn, 1) by decide +kernel) rfl,
  List.forall_mem_cons.mpr ⟨qz_aload_n C (show decode c_L_law 729 = .ok (.aload_n 1, 1) by decide +kernel) rfl,
  List.forall_mem_cons.mpr ⟨qz_aload_n C (show decode c_L_law 730 = .ok (.aload_n 0, 1) by decide +kernel) rfl,
  List.forall_mem_cons.mpr ⟨qz_iload_n C (show decode c_L_law 731 = .ok (.iload_n 3, 1) by decide +kernel) rfl,
  List.forall_mem_cons.mpr ⟨qz_iconst C (show decode c_L_law 732 = .ok (.iconst 1, 1) by decide +kernel) (by decide +kernel),
  List.forall_mem_cons.mpr ⟨qz_iadd C (show decode c_L_law 733 = .ok (.iadd, 1) by decide +kernel),
  List.forall_mem_cons.mpr ⟨qz_sald C hn hs (show decode c_L_law 734 = .ok (.iaload, 1) by decide +kernel),
  List.forall_mem_cons.mpr ⟨qz_aload_n C (show decode c_L_law 735 = .ok (.aload_n 0, 1) by decide +kernel) rfl,
  List.forall_mem_cons.mpr ⟨qz_iload_n C (show decode c_L_law 736 = .ok (.iload_n 3, 1) by decide +kernel) rfl,
  List.forall_mem_cons.mpr ⟨qz_iconst C (show decode c_L_law 737 = .ok (.iconst 2, 1) by decide +kernel) (by decide +kernel),
  List.forall_mem_cons.mpr ⟨qz_iadd C (show decode c_L_law 738 = .ok (.iadd, 1) by decide +kernel),
  List.forall_mem_cons.mpr ⟨qz_sald C hn hs (show decode c_L_law 739 = .ok (.iaload, 1) by decide +kernel),
  List.forall_mem_cons.mpr ⟨qz_vL C (show decode c_L_law 740 = .ok (.invokevirtual 86, 3) by decide +kernel) ct_X10_signs mv_X10_signs cw_759 vcX10 (show 7 < 17 by omega),
  List.forall_mem_cons.mpr ⟨qz_aload_n C (show decode c_L_law 743 = .ok (.aload_n 2, 1) by decide +kernel) rfl,
  List.forall_mem_cons.mpr ⟨qz_aload_n C (show decode c_L_law 744 = .ok (.aload_n 0, 1) by decide +kernel) rfl,
  List.forall_mem_cons.mpr ⟨qz_iload_n C (show decode c_L_law 745 = .ok (.iload_n 3, 1) by decide +kernel) rfl,
  List.forall_mem_cons.mpr ⟨qz_iconst C (show decode c_L_law 746 = .ok (.iconst 1, 1) by decide +kernel) (by decide +kernel),
  List.forall_mem_cons.mpr ⟨qz_iadd C (show decode c_L_law 747 = .ok (.iadd, 1) by decide +kernel),
  List.forall_mem_cons.mpr ⟨qz_sald C hn hs (show decode c_L_law 748 = .ok (.iaload, 1) by decide +kernel),
  List.forall_mem_cons.mpr ⟨qz_aload_n C (show decode c_L_law 749 = .ok (.aload_n 0, 1) by decide +kernel) rfl,
  List.forall_mem_cons.mpr ⟨qz_iload_n C (show decode c_L_law 750 = .ok (.iload_n 3, 1) by decide +kernel) rfl,
  List.forall_mem_cons.mpr ⟨qz_iconst C (show decode c_L_law 751 = .ok (.iconst 2, 1) by decide +kernel) (by decide +kernel),
  List.forall_mem_cons.mpr ⟨qz_iadd C (show decode c_L_law 752 = .ok (.iadd, 1) by decide +kernel),
  List.forall_mem_cons.mpr ⟨qz_sald C hn hs (show decode c_L_law 753 = .ok (.iaload, 1) by decide +kernel),
  List.forall_mem_cons.mpr ⟨qz_vL C (show decode c_L_law 754 = .ok (.invokevirtual 90, 3) by decide +kernel) ct_X11_signs mv_X11_signs cw_1341 vcX11 (show 6 < 17 by omega),
  List.forall_mem_cons.mpr ⟨qz_lcmp C (show decode c_L_law 757 = .ok (.lcmp, 1) by decide +kernel),
  List.forall_mem_cons.mpr ⟨qz_ifeq C (show decode c_L_law 758 = .ok (.ifCond .eq 586, 3) by decide +kernel) (by decide),
  List.forall_mem_cons.mpr ⟨qz_iconst C (show decode c_L_law 761 = .ok (.iconst 0, 1) by decide +kernel) (by decide +kernel),
  List.forall_mem_cons.mpr ⟨qz_zret C (show decode c_L_law 762 = .ok (.ireturn, 1) by decide +kernel) rfl,
  List.forall_mem_cons.mpr ⟨qz_aload_n C (show decode c_L_law 763 = .ok (.aload_n 1, 1) by decide +kernel) rfl,
  (fun q h => by cases h)⟩⟩⟩⟩⟩⟩⟩⟩⟩⟩⟩⟩⟩⟩⟩⟩⟩⟩⟩⟩⟩⟩⟩⟩⟩⟩⟩⟩⟩⟩⟩⟩⟩⟩⟩⟩⟩⟩⟩⟩
set_option maxRecDepth 20000 in
theorem sd_L_law_12 {G : pj_E} {A : Nat → Prop} {P : pj_P} {S : pj_U} {Z : pj_Z} (C : pj_C (G, A, (c_L_law, RL, 4, (some .boolean), 17), P, S, Z)) {nS : Nat} {xS : Nat → Int32} (hn : pj_sL (G, A, (c_L_law, RL, 4, (some .boolean), 17), P, S, Z) = nS) (hs : pj_sxs (G, A, (c_L_law, RL, 4, (some .boolean), 17), P, S, Z) = xS) : ∀ q ∈ tb_L_law_12 nS xS, pj_S (G, A, (c_L_law, RL, 4, (some .boolean), 17), P, S, Z) pj_eI q.1 q.2 :=
  List.forall_mem_cons.mpr ⟨qz_aload_n C (show decode c_L_law 764 = .ok (.aload_n 0, 1) by decide +kernel) rfl,
  List.forall_mem_cons.mpr ⟨qz_iload_n C (show decode c_L_law 765 = .ok (.iload_n 3, 1) by decide +kernel) rfl,
  List.forall_mem_cons.mpr ⟨qz_iconst C (show decode c_L_law 766 = .ok (.iconst 1, 1) by decide +kernel) (by decide +kernel),
  List.forall_mem_cons.mpr ⟨qz_iadd C (show decode c_L_law 767 = .ok (.iadd, 1) by decide +kernel),
  List.forall_mem_cons.mpr ⟨qz_sald C hn hs (show decode c_L_law 768 = .ok (.iaload, 1) by decide +kernel),
  List.forall_mem_cons.mpr ⟨qz_aload_n C (show decode c_L_law 769 = .ok (.aload_n 0, 1) by decide +kernel) rfl,
  List.forall_mem_cons.mpr ⟨qz_iload_n C (show decode c_L_law 770 = .ok (.iload_n 3, 1) by decide +kernel) rfl,
  List.forall_mem_cons.mpr ⟨qz_iconst C (show decode c_L_law 771 = .ok (.iconst 2, 1) by decide +kernel) (by decide +kernel),
  List.forall_mem_cons.mpr ⟨qz_iadd C (show decode c_L_law 772 = .ok (.iadd, 1) by decide +kernel),
  List.forall_mem_cons.mpr ⟨qz_sald C hn hs (show decode c_L_law 773 = .ok (.iaload, 1) by decide +kernel),
  List.forall_mem_cons.mpr ⟨qz_aload_n C (show decode c_L_law 774 = .ok (.aload_n 0, 1) by decide +kernel) rfl,
  List.forall_mem_cons.mpr ⟨qz_iload_n C (show decode c_L_law 775 = .ok (.iload_n 3, 1) by decide +kernel) rfl,
  List.forall_mem_cons.mpr ⟨qz_iconst C (show decode c_L_law 776 = .ok (.iconst 3, 1) by decide +kernel) (by decide +kernel),
  List.forall_mem_cons.mpr ⟨qz_iadd C (show decode c_L_law 777 = .ok (.iadd, 1) by decide +kernel),
  List.forall_mem_cons.mpr ⟨qz_sald C hn hs (show decode c_L_law 778 = .ok (.iaload, 1) by decide +kernel),
  List.forall_mem_cons.mpr ⟨qz_vI C (show decode c_L_law 779 = .ok (.invokevirtual 91, 3) by decide +kernel) ct_X10_parted mv_X10_parted cw_768 vcX10 (show 7 < 17 by omega),
  List.forall_mem_cons.mpr ⟨qz_aload_n C (show decode c_L_law 782 = .ok (.aload_n 2, 1) by decide +kernel) rfl,
  List.forall_mem_cons.mpr ⟨qz_aload_n C (show decode c_L_law 783 = .ok (.aload_n 0, 1) by decide +kernel) rfl,
  List.forall_mem_cons.mpr ⟨qz_iload_n C (show decode c_L_law 784 = .ok (.iload_n 3, 1) by decide +kernel) rfl,
  List.forall_mem_cons.mpr ⟨qz_iconst C (show decode c_L_law 785 = .ok (.iconst 1, 1) by decide +kernel) (by decide +kernel),
  List.forall_mem_cons.mpr ⟨qz_iadd C (show decode c_L_law 786 = .ok (.iadd, 1) by decide +kernel),
  List.forall_mem_cons.mpr ⟨qz_sald C hn hs (show decode c_L_law 787 = .ok (.iaload, 1) by decide +kernel),
  List.forall_mem_cons.mpr ⟨qz_aload_n C (show decode c_L_law 788 = .ok (.aload_n 0, 1) by decide +kernel) rfl,
  List.forall_mem_cons.mpr ⟨qz_iload_n C (show decode c_L_law 789 = .ok (.iload_n 3, 1) by decide +kernel) rfl,
  List.forall_mem_cons.mpr ⟨qz_iconst C (show decode c_L_law 790 = .ok (.iconst 2, 1) by decide +kernel) (by decide +kernel),
  List.forall_mem_cons.mpr ⟨qz_iadd C (show decode c_L_law 791 = .ok (.iadd, 1) by decide +kernel),
  List.forall_mem_cons.mpr ⟨qz_sald C hn hs (show decode c_L_law 792 = .ok (.iaload, 1) by decide +kernel),
  List.forall_mem_cons.mpr ⟨qz_aload_n C (show decode c_L_law 793 = .ok (.aload_n 0, 1) by decide +kernel) rfl,
  List.forall_mem_cons.mpr ⟨qz_iload_n C (show decode c_L_law 794 = .ok (.iload_n 3, 1) by decide +kernel) rfl,
  List.forall_mem_cons.mpr ⟨qz_iconst C (show decode c_L_law 795 = .ok (.iconst 3, 1) by decide +kernel) (by decide +kernel),
  List.forall_mem_cons.mpr ⟨qz_iadd C (show decode c_L_law 796 = .ok (.iadd, 1) by decide +kernel),
  List.forall_mem_cons.mpr ⟨qz_sald C hn hs (show decode c_L_law 797 = .ok (.iaload, 1) by decide +kernel),
  List.forall_mem_cons.mpr ⟨qz_vI C (show decode c_L_law 798 = .ok (.invokevirtual 94, 3) by decide +kernel) ct_X11_parted mv_X11_parted cw_1346 vcX11 (show 6 < 17 by omega),
  List.forall_mem_cons.mpr ⟨qz_iceq C (show decode c_L_law 801 = .ok (.if_icmp .eq 543, 3) by decide +kernel) (by decide),
  List.forall_mem_cons.mpr ⟨qz_iconst C (show decode c_L_law 804 = .ok (.iconst 0, 1) by decide +kernel) (by decide +kernel),
  List.forall_mem_cons.mpr ⟨qz_zret C (show decode c_L_law 805 = .ok (.ireturn, 1) by decide +kernel) rfl,
  List.forall_mem_cons.mpr ⟨qz_aload_n C (show decode c_L_law 806 = .ok (.aload_n 1, 1) by decide +kernel) rfl,
  List.forall_mem_cons.mpr ⟨qz_aload_n C (show decode c_L_law 807 = .ok (.aload_n 0, 1) by decide +kernel) rfl,
  List.forall_mem_cons.mpr ⟨qz_iload_n C (show decode c_L_law 808 = .ok (.iload_n 3, 1) by decide +kernel) rfl,
  List.forall_mem_cons.mpr ⟨qz_iconst C (show decode c_L_law 809 = .ok (.iconst 1, 1) by decide +kernel) (by decide +kernel),
  (fun q h => by cases h)⟩⟩⟩⟩⟩⟩⟩⟩⟩⟩⟩⟩⟩⟩⟩⟩⟩⟩⟩⟩⟩⟩⟩⟩⟩⟩⟩⟩⟩⟩⟩⟩⟩⟩⟩⟩⟩⟩⟩⟩
set_option maxRecDepth 20000 in
theorem sd_L_law_13 {G : pj_E} {A : Nat → Prop} {P : pj_P} {S : pj_U} {Z : pj_Z} (C : pj_C (G, A, (c_L_law, RL, 4, (some .boolean), 17), P, S, Z)) {nS : Nat} {xS : Nat → Int32} (hn : pj_sL (G, A, (c_L_law, RL, 4, (some .boolean), 17), P, S, Z) = nS) (hs : pj_sxs (G, A, (c_L_law, RL, 4, (some .boolean), 17), P, S, Z) = xS) : ∀ q ∈ tb_L_law_13 nS xS, pj_S (G, A, (c_L_law, RL, 4, (some .boolean), 17), P, S, Z) pj_eI q.1 q.2 :=
  List.forall_mem_cons.mpr ⟨qz_iadd C (show decode c_L_law 810 = .ok (.iadd, 1) by decide +kernel),
  List.forall_mem_cons.mpr ⟨qz_sald C hn hs (show decode c_L_law 811 = .ok (.iaload, 1) by decide +kernel),
  List.forall_mem_cons.mpr ⟨qz_aload_n C (show decode c_L_law 812 = .ok (.aload_n 0, 1) by decide +kernel) rfl,
  List.forall_mem_cons.mpr ⟨qz_iload_n C (show decode c_L_law 813 = .ok (.iload_n 3, 1) by decide +kernel) rfl,
  List.forall_mem_cons.mpr ⟨qz_iconst C (show decode c_L_law 814 = .ok (.iconst 2, 1) by decide +kernel) (by decide +kernel),
  List.forall_mem_cons.mpr ⟨qz_iadd C (show decode c_L_law 815 = .ok (.iadd, 1) by decide +kernel),
  List.forall_mem_cons.mpr ⟨qz_sald C hn hs (show decode c_L_law 816 = .ok (.iaload, 1) by decide +kernel),
  List.forall_mem_cons.mpr ⟨qz_aload_n C (show decode c_L_law 817 = .ok (.aload_n 0, 1) by decide +kernel) rfl,
  List.forall_mem_cons.mpr ⟨qz_iload_n C (show decode c_L_law 818 = .ok (.iload_n 3, 1) by decide +kernel) rfl,
  List.forall_mem_cons.mpr ⟨qz_iconst C (show decode c_L_law 819 = .ok (.iconst 3, 1) by decide +kernel) (by decide +kernel),
  List.forall_mem_cons.mpr ⟨qz_iadd C (show decode c_L_law 820 = .ok (.iadd, 1) by decide +kernel),
  List.forall_mem_cons.mpr ⟨qz_sald C hn hs (show decode c_L_law 821 = .ok (.iaload, 1) by decide +kernel),
  List.forall_mem_cons.mpr ⟨qz_aload_n C (show decode c_L_law 822 = .ok (.aload_n 0, 1) by decide +kernel) rfl,
  List.forall_mem_cons.mpr ⟨qz_iload_n C (show decode c_L_law 823 = .ok (.iload_n 3, 1) by decide +kernel) rfl,
  List.forall_mem_cons.mpr ⟨qz_iconst C (show decode c_L_law 824 = .ok (.iconst 4, 1) by decide +kernel) (by decide +kernel),
  List.forall_mem_cons.mpr ⟨qz_iadd C (show decode c_L_law 825 = .ok (.iadd, 1) by decide +kernel),
  List.forall_mem_cons.mpr ⟨qz_sald C hn hs (show decode c_L_law 826 = .ok (.iaload, 1) by decide +kernel),
  List.forall_mem_cons.mpr ⟨qz_vI C (show decode c_L_law 827 = .ok (.invokevirtual 95, 3) by decide +kernel) ct_X10_tells mv_X10_tells cw_777 vcX10 (show 7 < 17 by omega),
  List.forall_mem_cons.mpr ⟨qz_aload_n C (show decode c_L_law 830 = .ok (.aload_n 2, 1) by decide +kernel) rfl,
  List.forall_mem_cons.mpr ⟨qz_aload_n C (show decode c_L_law 831 = .ok (.aload_n 0, 1) by decide +kernel) rfl,
  List.forall_mem_cons.mpr ⟨qz_iload_n C (show decode c_L_law 832 = .ok (.iload_n 3, 1) by decide +kernel) rfl,
  List.forall_mem_cons.mpr ⟨qz_iconst C (show decode c_L_law 833 = .ok (.iconst 1, 1) by decide +kernel) (by decide +kernel),
  List.forall_mem_cons.mpr ⟨qz_iadd C (show decode c_L_law 834 = .ok (.iadd, 1) by decide +kernel),
  List.forall_mem_cons.mpr ⟨qz_sald C hn hs (show decode c_L_law 835 = .ok (.iaload, 1) by decide +kernel),
  List.forall_mem_cons.mpr ⟨qz_aload_n C (show decode c_L_law 836 = .ok (.aload_n 0, 1) by decide +kernel) rfl,
  List.forall_mem_cons.mpr ⟨qz_iload_n C (show decode c_L_law 837 = .ok (.iload_n 3, 1) by decide +kernel) rfl,
  List.forall_mem_cons.mpr ⟨qz_iconst C (show decode c_L_law 838 = .ok (.iconst 2, 1) by decide +kernel) (by decide +kernel),
  List.forall_mem_cons.mpr ⟨qz_iadd C (show decode c_L_law 839 = .ok (.iadd, 1) by decide +kernel),
  List.forall_mem_cons.mpr ⟨qz_sald C hn hs (show decode c_L_law 840 = .ok (.iaload, 1) by decide +kernel),
  List.forall_mem_cons.mpr ⟨qz_aload_n C (show decode c_L_law 841 = .ok (.aload_n 0, 1) by decide +kernel) rfl,
  List.forall_mem_cons.mpr ⟨qz_iload_n C (show decode c_L_law 842 = .ok (.iload_n 3, 1) by decide +kernel) rfl,
  List.forall_mem_cons.mpr ⟨qz_iconst C (show decode c_L_law 843 = .ok (.iconst 3, 1) by decide +kernel) (by decide +kernel),
  List.forall_mem_cons.mpr ⟨qz_iadd C (show decode c_L_law 844 = .ok (.iadd, 1) by decide +kernel),
  List.forall_mem_cons.mpr ⟨qz_sald C hn hs (show decode c_L_law 845 = .ok (.iaload, 1) by decide +kernel),
  List.forall_mem_cons.mpr ⟨qz_aload_n C (show decode c_L_law 846 = .ok (.aload_n 0, 1) by decide +kernel) rfl,
  List.forall_mem_cons.mpr ⟨qz_iload_n C (show decode c_L_law 847 = .ok (.iload_n 3, 1) by decide +kernel) rfl,
  List.forall_mem_cons.mpr ⟨qz_iconst C (show decode c_L_law 848 = .ok (.iconst 4, 1) by decide +kernel) (by decide +kernel),
  List.forall_mem_cons.mpr ⟨qz_iadd C (show decode c_L_law 849 = .ok (.iadd, 1) by decide +kernel),
  List.forall_mem_cons.mpr ⟨qz_sald C hn hs (show decode c_L_law 850 = .ok (.iaload, 1) by decide +kernel),
  List.forall_mem_cons.mpr ⟨qz_vI C (show decode c_L_law 851 = .ok (.invokevirtual 99, 3) by decide +kernel) ct_X11_tells mv_X11_tells cw_1354 vcX11 (show 6 < 17 by omega),
  (fun q h => by cases h)⟩⟩⟩⟩⟩⟩⟩⟩⟩⟩⟩⟩⟩⟩⟩⟩⟩⟩⟩⟩⟩⟩⟩⟩⟩⟩⟩⟩⟩⟩⟩⟩⟩⟩⟩⟩⟩⟩⟩⟩
set_option maxRecDepth 20000 in
theorem sd_L_law_14 {G : pj_E} {A : Nat → Prop} {P : pj_P} {S : pj_U} {Z : pj_Z} (C : pj_C (G, A, (c_L_law, RL, 4, (some .boolean), 17), P, S, Z)) {nS : Nat} {xS : Nat → Int32} (hn : pj_sL (G, A, (c_L_law, RL, 4, (some .boolean), 17), P, S, Z) = nS) (hs : pj_sxs (G, A, (c_L_law, RL, 4, (some .boolean), 17), P, S, Z) = xS) : ∀ q ∈ tb_L_law_14 nS xS, pj_S (G, A, (c_L_law, RL, 4, (some .boolean), 17), P, S, Z) pj_eI q.1 q.2 :=
  List.forall_mem_cons.mpr ⟨qz_iceq C (show decode c_L_law 854 = .ok (.if_icmp .eq 490, 3) by decide +kernel) (by decide),
  List.forall_mem_cons.mpr ⟨qz_iconst C (show decode c_L_law 857 = .ok (.iconst 0, 1) by decide +kernel) (by decide +kernel),
  List.forall_mem_cons.mpr ⟨qz_zret C (show decode c_L_law 858 = .ok (.ireturn, 1) by decide +kernel) rfl,
  List.forall_mem_cons.mpr ⟨qz_aload_n C (show decode c_L_law 859 = .ok (.aload_n 1, 1) by decide +kernel) rfl,
  List.forall_mem_cons.mpr ⟨qz_aload_n C (show decode c_L_law 860 = .ok (.aload_n 0, 1) by decide +kernel) rfl,
  List.forall_mem_cons.mpr ⟨qz_iload_n C (show decode c_L_law 861 = .ok (.iload_n 3, 1) by decide +kernel) rfl,
  List.forall_mem_cons.mpr ⟨qz_iconst C (show decode c_L_law 862 = .ok (.iconst 1, 1) by decide +kernel) (by decide +kernel),
  List.forall_mem_cons.mpr ⟨qz_iadd C (show decode c_L_law 863 = .ok (.iadd, 1) by decide +kernel),
  List.forall_mem_cons.mpr ⟨qz_sald C hn hs (show decode c_L_law 864 = .ok (.iaload, 1) by decide +kernel),
  List.forall_mem_cons.mpr ⟨qz_aload_n C (show decode c_L_law 865 = .ok (.aload_n 0, 1) by decide +kernel) rfl,
  List.forall_mem_cons.mpr ⟨qz_iload_n C (show decode c_L_law 866 = .ok (.iload_n 3, 1) by decide +kernel) rfl,
  List.forall_mem_cons.mpr ⟨qz_iconst C (show decode c_L_law 867 = .ok (.iconst 2, 1) by decide +kernel) (by decide +kernel),
  List.forall_mem_cons.mpr ⟨qz_iadd C (show decode c_L_law 868 = .ok (.iadd, 1) by decide +kernel),
  List.forall_mem_cons.mpr ⟨qz_sald C hn hs (show decode c_L_law 869 = .ok (.iaload, 1) by decide +kernel),
  List.forall_mem_cons.mpr ⟨qz_aload_n C (show decode c_L_law 870 = .ok (.aload_n 0, 1) by decide +kernel) rfl,
  List.forall_mem_cons.mpr ⟨qz_iload_n C (show decode c_L_law 871 = .ok (.iload_n 3, 1) by decide +kernel) rfl,
  List.forall_mem_cons.mpr ⟨qz_iconst C (show decode c_L_law 872 = .ok (.iconst 3, 1) by decide +kernel) (by decide +kernel),
  List.forall_mem_cons.mpr ⟨qz_iadd C (show decode c_L_law 873 = .ok (.iadd, 1) by decide +kernel),
  List.forall_mem_cons.mpr ⟨qz_sald C hn hs (show decode c_L_law 874 = .ok (.iaload, 1) by decide +kernel),
  List.forall_mem_cons.mpr ⟨qz_vI C (show decode c_L_law 875 = .ok (.invokevirtual 100, 3) by decide +kernel) ct_X10_depth mv_X10_depth cw_835 vcX10 (show 7 < 17 by omega),
  List.forall_mem_cons.mpr ⟨qz_aload_n C (show decode c_L_law 878 = .ok (.aload_n 2, 1) by decide +kernel) rfl,
  List.forall_mem_cons.mpr ⟨qz_aload_n C (show decode c_L_law 879 = .ok (.aload_n 0, 1) by decide +kernel) rfl,
  List.forall_mem_cons.mpr ⟨qz_iload_n C (show decode c_L_law 880 = .ok (.iload_n 3, 1) by decide +kernel) rfl,
  List.forall_mem_cons.mpr ⟨qz_iconst C (show decode c_L_law 881 = .ok (.iconst 1, 1) by decide +kernel) (by decide +kernel),
  List.forall_mem_cons.mpr ⟨qz_iadd C (show decode c_L_law 882 = .ok (.iadd, 1) by decide +kernel),
  List.forall_mem_cons.mpr ⟨qz_sald C hn hs (show decode c_L_law 883 = .ok (.iaload, 1) by decide +kernel),
  List.forall_mem_cons.mpr ⟨qz_aload_n C (show decode c_L_law 884 = .ok (.aload_n 0, 1) by decide +kernel) rfl,
  List.forall_mem_cons.mpr ⟨qz_iload_n C (show decode c_L_law 885 = .ok (.iload_n 3, 1) by decide +kernel) rfl,
  List.forall_mem_cons.mpr ⟨qz_iconst C (show decode c_L_law 886 = .ok (.iconst 2, 1) by decide +kernel) (by decide +kernel),
  List.forall_mem_cons.mpr ⟨qz_iadd C (show decode c_L_law 887 = .ok (.iadd, 1) by decide +kernel),
  List.forall_mem_cons.mpr ⟨qz_sald C hn hs (show decode c_L_law 888 = .ok (.iaload, 1) by decide +kernel),
  List.forall_mem_cons.mpr ⟨qz_aload_n C (show decode c_L_law 889 = .ok (.aload_n 0, 1) by decide +kernel) rfl,
  List.forall_mem_cons.mpr ⟨qz_iload_n C (show decode c_L_law 890 = .ok (.iload_n 3, 1) by decide +kernel) rfl,
  List.forall_mem_cons.mpr ⟨qz_iconst C (show decode c_L_law 891 = .ok (.iconst 3, 1) by decide +kernel) (by decide +kernel),
  List.forall_mem_cons.mpr ⟨qz_iadd C (show decode c_L_law 892 = .ok (.iadd, 1) by decide +kernel),
  List.forall_mem_cons.mpr ⟨qz_sald C hn hs (show decode c_L_law 893 = .ok (.iaload, 1) by decide +kernel),
  List.forall_mem_cons.mpr ⟨qz_vI C (show decode c_L_law 894 = .ok (.invokevirtual 103, 3) by decide +kernel) ct_X11_depth mv_X11_depth cw_1381 vcX11 (show 6 < 17 by omega),
  List.forall_mem_cons.mpr ⟨qz_iceq C (show decode c_L_law 897 = .ok (.if_icmp .eq 447, 3) by decide +kernel) (by decide),
  List.forall_mem_cons.mpr ⟨qz_iconst C (show decode c_L_law 900 = .ok (.iconst 0, 1) by decide +kernel) (by decide +kernel),
  List.forall_mem_cons.mpr ⟨qz_zret C (show decode c_L_law 901 = .ok (.ireturn, 1) by decide +kernel) rfl,
  (fun q h => by cases h)⟩⟩⟩⟩⟩⟩⟩⟩⟩⟩⟩⟩⟩⟩⟩⟩⟩⟩⟩⟩⟩⟩⟩⟩⟩⟩⟩⟩⟩⟩⟩⟩⟩⟩⟩⟩⟩⟩⟩⟩
set_option maxRecDepth 20000 in
theorem sd_L_law_15 {G : pj_E} {A : Nat → Prop} {P : pj_P} {S : pj_U} {Z : pj_Z} (C : pj_C (G, A, (c_L_law, RL, 4, (some .boolean), 17), P, S, Z)) {nS : Nat} {xS : Nat → Int32} (hn : pj_sL (G, A, (c_L_law, RL, 4, (some .boolean), 17), P, S, Z) = nS) (hs : pj_sxs (G, A, (c_L_law, RL, 4, (some .boolean), 17), P, S, Z) = xS) : ∀ q ∈ tb_L_law_15 nS xS, pj_S (G, A, (c_L_law, RL, 4, (some .boolean), 17), P, S, Z) pj_eI q.1 q.2 :=
  List.forall_mem_cons.mpr ⟨qz_aload_n C (show decode c_L_law 902 = .ok (.aload_n 1, 1) by decide +kernel) rfl,
  List.forall_mem_cons.mpr ⟨qz_aload_n C (show decode c_L_law 903 = .ok (.aload_n 0, 1) by decide +kernel) rfl,
  List.forall_mem_cons.mpr ⟨qz_iload_n C (show decode c_L_law 904 = .ok (.iload_n 3, 1) by decide +kernel) rfl,
  List.forall_mem_cons.mpr ⟨qz_iconst C (show decode c_L_law 905 = .ok (.iconst 1, 1) by decide +kernel) (by decide +kernel),
  List.forall_mem_cons.mpr ⟨qz_iadd C (show decode c_L_law 906 = .ok (.iadd, 1) by decide +kernel),
  List.forall_mem_cons.mpr ⟨qz_sald C hn hs (show decode c_L_law 907 = .ok (.iaload, 1) by decide +kernel),
  List.forall_mem_cons.mpr ⟨qz_aload_n C (show decode c_L_law 908 = .ok (.aload_n 0, 1) by decide +kernel) rfl,
  List.forall_mem_cons.mpr ⟨qz_iload_n C (show decode c_L_law 909 = .ok (.iload_n 3, 1) by decide +kernel) rfl,
  List.forall_mem_cons.mpr ⟨qz_iconst C (show decode c_L_law 910 = .ok (.iconst 2, 1) by decide +kernel) (by decide +kernel),
  List.forall_mem_cons.mpr ⟨qz_iadd C (show decode c_L_law 911 = .ok (.iadd, 1) by decide +kernel),
  List.forall_mem_cons.mpr ⟨qz_sald C hn hs (show decode c_L_law 912 = .ok (.iaload, 1) by decide +kernel),
  List.forall_mem_cons.mpr ⟨qz_aload_n C (show decode c_L_law 913 = .ok (.aload_n 0, 1) by decide +kernel) rfl,
  List.forall_mem_cons.mpr ⟨qz_iload_n C (show decode c_L_law 914 = .ok (.iload_n 3, 1) by decide +kernel) rfl,
  List.forall_mem_cons.mpr ⟨qz_iconst C (show decode c_L_law 915 = .ok (.iconst 3, 1) by decide +kernel) (by decide +kernel),
  List.forall_mem_cons.mpr ⟨qz_iadd C (show decode c_L_law 916 = .ok (.iadd, 1) by decide +kernel),
  List.forall_mem_cons.mpr ⟨qz_sald C hn hs (show decode c_L_law 917 = .ok (.iaload, 1) by decide +kernel),
  List.forall_mem_cons.mpr ⟨qz_aload_n C (show decode c_L_law 918 = .ok (.aload_n 0, 1) by decide +kernel) rfl,
  List.forall_mem_cons.mpr ⟨qz_iload_n C (show decode c_L_law 919 = .ok (.iload_n 3, 1) by decide +kernel) rfl,
  List.forall_mem_cons.mpr ⟨qz_iconst C (show decode c_L_law 920 = .ok (.iconst 4, 1) by decide +kernel) (by decide +kernel),
  List.forall_mem_cons.mpr ⟨qz_iadd C (show decode c_L_law 921 = .ok (.iadd, 1) by decide +kernel),
  List.forall_mem_cons.mpr ⟨qz_sald C hn hs (show decode c_L_law 922 = .ok (.iaload, 1) by decide +kernel),
  List.forall_mem_cons.mpr ⟨qz_vI C (show decode c_L_law 923 = .ok (.invokevirtual 104, 3) by decide +kernel) ct_X10_holds mv_X10_holds cw_839 vcX10 (show 6 < 17 by omega),
  List.forall_mem_cons.mpr ⟨qz_aload_n C (show decode c_L_law 926 = .ok (.aload_n 2, 1) by decide +kernel) rfl,
  List.forall_mem_cons.mpr ⟨qz_aload_n C (show decode c_L_law 927 = .ok (.aload_n 0, 1) by decide +kernel) rfl,
  List.forall_mem_cons.mpr ⟨qz_iload_n C (show decode c_L_law 928 = .ok (.iload_n 3, 1) by decide +kernel) rfl,
  List.forall_mem_cons.mpr ⟨qz_iconst C (show decode c_L_law 929 = .ok (.iconst 1, 1) by decide +kernel) (by decide +kernel),
  List.forall_mem_cons.mpr ⟨qz_iadd C (show decode c_L_law 930 = .ok (.iadd, 1) by decide +kernel),
  List.forall_mem_cons.mpr ⟨qz_sald C hn hs (show decode c_L_law 931 = .ok (.iaload, 1) by decide +kernel),
  List.forall_mem_cons.mpr ⟨qz_aload_n C (show decode c_L_law 932 = .ok (.aload_n 0, 1) by decide +kernel) rfl,
  List.forall_mem_cons.mpr ⟨qz_iload_n C (show decode c_L_law 933 = .ok (.iload_n 3, 1) by decide +kernel) rfl,
  List.forall_mem_cons.mpr ⟨qz_iconst C (show decode c_L_law 934 = .ok (.iconst 2, 1) by decide +kernel) (by decide +kernel),
  List.forall_mem_cons.mpr ⟨qz_iadd C (show decode c_L_law 935 = .ok (.iadd, 1) by decide +kernel),
  List.forall_mem_cons.mpr ⟨qz_sald C hn hs (show decode c_L_law 936 = .ok (.iaload, 1) by decide +kernel),
  List.forall_mem_cons.mpr ⟨qz_aload_n C (show decode c_L_law 937 = .ok (.aload_n 0, 1) by decide +kernel) rfl,
  List.forall_mem_cons.mpr ⟨qz_iload_n C (show decode c_L_law 938 = .ok (.iload_n 3, 1) by decide +kernel) rfl,
  List.forall_mem_cons.mpr ⟨qz_iconst C (show decode c_L_law 939 = .ok (.iconst 3, 1) by decide +kernel) (by decide +kernel),
  List.forall_mem_cons.mpr ⟨qz_iadd C (show decode c_L_law 940 = .ok (.iadd, 1) by decide +kernel),
  List.forall_mem_cons.mpr ⟨qz_sald C hn hs (show decode c_L_law 941 = .ok (.iaload, 1) by decide +kernel),
  List.forall_mem_cons.mpr ⟨qz_aload_n C (show decode c_L_law 942 = .ok (.aload_n 0, 1) by decide +kernel) rfl,
  List.forall_mem_cons.mpr ⟨qz_iload_n C (show decode c_L_law 943 = .ok (.iload_n 3, 1) by decide +kernel) rfl,
  (fun q h => by cases h)⟩⟩⟩⟩⟩⟩⟩⟩⟩⟩⟩⟩⟩⟩⟩⟩⟩⟩⟩⟩⟩⟩⟩⟩⟩⟩⟩⟩⟩⟩⟩⟩⟩⟩⟩⟩⟩⟩⟩⟩
set_option maxRecDepth 20000 in
theorem sd_L_law_16 {G : pj_E} {A : Nat → Prop} {P : pj_P} {S : pj_U} {Z : pj_Z} (C : pj_C (G, A, (c_L_law, RL, 4, (some .boolean), 17), P, S, Z)) {nS : Nat} {xS : Nat → Int32} (hn : pj_sL (G, A, (c_L_law, RL, 4, (some .boolean), 17), P, S, Z) = nS) (hs : pj_sxs (G, A, (c_L_law, RL, 4, (some .boolean), 17), P, S, Z) = xS) : ∀ q ∈ tb_L_law_16 nS xS, pj_S (G, A, (c_L_law, RL, 4, (some .boolean), 17), P, S, Z) pj_eI q.1 q.2 :=
  List.forall_mem_cons.mpr ⟨qz_iconst C (show decode c_L_law 944 = .ok (.iconst 4, 1) by decide +kernel) (by decide +kernel),
  List.forall_mem_cons.mpr ⟨qz_iadd C (show decode c_L_law 945 = .ok (.iadd, 1) by decide +kernel),
  List.forall_mem_cons.mpr ⟨qz_sald C hn hs (show decode c_L_law 946 = .ok (.iaload, 1) by decide +kernel),
  List.forall_mem_cons.mpr ⟨qz_vI C (show decode c_L_law 947 = .ok (.invokevirtual 107, 3) by decide +kernel) ct_X11_holds mv_X11_holds cw_1385 vcX11 (show 5 < 17 by omega),
  List.forall_mem_cons.mpr ⟨qz_iceq C (show decode c_L_law 950 = .ok (.if_icmp .eq 394, 3) by decide +kernel) (by decide),
  List.forall_mem_cons.mpr ⟨qz_iconst C (show decode c_L_law 953 = .ok (.iconst 0, 1) by decide +kernel) (by decide +kernel),
  List.forall_mem_cons.mpr ⟨qz_zret C (show decode c_L_law 954 = .ok (.ireturn, 1) by decide +kernel) rfl,
  List.forall_mem_cons.mpr ⟨qz_aload_n C (show decode c_L_law 955 = .ok (.aload_n 1, 1) by decide +kernel) rfl,
  List.forall_mem_cons.mpr ⟨qz_aload_n C (show decode c_L_law 956 = .ok (.aload_n 0, 1) by decide +kernel) rfl,
  List.forall_mem_cons.mpr ⟨qz_iload_n C (show decode c_L_law 957 = .ok (.iload_n 3, 1) by decide +kernel) rfl,
  List.forall_mem_cons.mpr ⟨qz_iconst C (show decode c_L_law 958 = .ok (.iconst 1, 1) by decide +kernel) (by decide +kernel),
  List.forall_mem_cons.mpr ⟨qz_iadd C (show decode c_L_law 959 = .ok (.iadd, 1) by decide +kernel),
  List.forall_mem_cons.mpr ⟨qz_sald C hn hs (show decode c_L_law 960 = .ok (.iaload, 1) by decide +kernel),
  List.forall_mem_cons.mpr ⟨qz_aload_n C (show decode c_L_law 961 = .ok (.aload_n 0, 1) by decide +kernel) rfl,
  List.forall_mem_cons.mpr ⟨qz_iload_n C (show decode c_L_law 962 = .ok (.iload_n 3, 1) by decide +kernel) rfl,
  List.forall_mem_cons.mpr ⟨qz_iconst C (show decode c_L_law 963 = .ok (.iconst 2, 1) by decide +kernel) (by decide +kernel),
  List.forall_mem_cons.mpr ⟨qz_iadd C (show decode c_L_law 964 = .ok (.iadd, 1) by decide +kernel),
  List.forall_mem_cons.mpr ⟨qz_sald C hn hs (show decode c_L_law 965 = .ok (.iaload, 1) by decide +kernel),
  List.forall_mem_cons.mpr ⟨qz_aload_n C (show decode c_L_law 966 = .ok (.aload_n 0, 1) by decide +kernel) rfl,
  List.forall_mem_cons.mpr ⟨qz_iload_n C (show decode c_L_law 967 = .ok (.iload_n 3, 1) by decide +kernel) rfl,
  List.forall_mem_cons.mpr ⟨qz_iconst C (show decode c_L_law 968 = .ok (.iconst 3, 1) by decide +kernel) (by decide +kernel),
  List.forall_mem_cons.mpr ⟨qz_iadd C (show decode c_L_law 969 = .ok (.iadd, 1) by decide +kernel),
  List.forall_mem_cons.mpr ⟨qz_sald C hn hs (show decode c_L_law 970 = .ok (.iaload, 1) by decide +kernel),
  List.forall_mem_cons.mpr ⟨qz_vI C (show decode c_L_law 971 = .ok (.invokevirtual 108, 3) by decide +kernel) ct_X10_small mv_X10_small cw_881 vcX10 (show 7 < 17 by omega),
  List.forall_mem_cons.mpr ⟨qz_aload_n C (show decode c_L_law 974 = .ok (.aload_n 2, 1) by decide +kernel) rfl,
  List.forall_mem_cons.mpr ⟨qz_aload_n C (show decode c_L_law 975 = .ok (.aload_n 0, 1) by decide +kernel) rfl,
  List.forall_mem_cons.mpr ⟨qz_iload_n C (show decode c_L_law 976 = .ok (.iload_n 3, 1) by decide +kernel) rfl,
  List.forall_mem_cons.mpr ⟨qz_iconst C (show decode c_L_law 977 = .ok (.iconst 1, 1) by decide +kernel) (by decide +kernel),
  List.forall_mem_cons.mpr ⟨qz_iadd C (show decode c_L_law 978 = .ok (.iadd, 1) by decide +kernel),
  List.forall_mem_cons.mpr ⟨qz_sald C hn hs (show decode c_L_law 979 = .ok (.iaload, 1) by decide +kernel),
  List.forall_mem_cons.mpr ⟨qz_aload_n C (show decode c_L_law 980 = .ok (.aload_n 0, 1) by decide +kernel) rfl,
  List.forall_mem_cons.mpr ⟨qz_iload_n C (show decode c_L_law 981 = .ok (.iload_n 3, 1) by decide +kernel) rfl,
  List.forall_mem_cons.mpr ⟨qz_iconst C (show decode c_L_law 982 = .ok (.iconst 2, 1) by decide +kernel) (by decide +kernel),
  List.forall_mem_cons.mpr ⟨qz_iadd C (show decode c_L_law 983 = .ok (.iadd, 1) by decide +kernel),
  List.forall_mem_cons.mpr ⟨qz_sald C hn hs (show decode c_L_law 984 = .ok (.iaload, 1) by decide +kernel),
  List.forall_mem_cons.mpr ⟨qz_aload_n C (show decode c_L_law 985 = .ok (.aload_n 0, 1) by decide +kernel) rfl,
  List.forall_mem_cons.mpr ⟨qz_iload_n C (show decode c_L_law 986 = .ok (.iload_n 3, 1) by decide +kernel) rfl,
  List.forall_mem_cons.mpr ⟨qz_iconst C (show decode c_L_law 987 = .ok (.iconst 3, 1) by decide +kernel) (by decide +kernel),
  List.forall_mem_cons.mpr ⟨qz_iadd C (show decode c_L_law 988 = .ok (.iadd, 1) by decide +kernel),
  List.forall_mem_cons.mpr ⟨qz_sald C hn hs (show decode c_L_law 989 = .ok (.iaload, 1) by decide +kernel),
  (fun q h => by cases h)⟩⟩⟩⟩⟩⟩⟩⟩⟩⟩⟩⟩⟩⟩⟩⟩⟩⟩⟩⟩⟩⟩⟩⟩⟩⟩⟩⟩⟩⟩⟩⟩⟩⟩⟩⟩⟩⟩⟩⟩
set_option maxRecDepth 20000 in
theorem sd_L_law_17 {G : pj_E} {A : Nat → Prop} {P : pj_P} {S : pj_U} {Z : pj_Z} (C : pj_C (G, A, (c_L_law, RL, 4, (some .boolean), 17), P, S, Z)) {nS : Nat} {xS : Nat → Int32} (hn : pj_sL (G, A, (c_L_law, RL, 4, (some .boolean), 17), P, S, Z) = nS) (hs : pj_sxs (G, A, (c_L_law, RL, 4, (some .boolean), 17), P, S, Z) = xS) : ∀ q ∈ tb_L_law_17 nS xS, pj_S (G, A, (c_L_law, RL, 4, (some .boolean), 17), P, S, Z) pj_eI q.1 q.2 :=
  List.forall_mem_cons.mpr ⟨qz_vI C (show decode c_L_law 990 = .ok (.invokevirtual 111, 3) by decide +kernel) ct_X11_small mv_X11_small cw_1393 vcX11 (show 6 < 17 by omega),
  List.forall_mem_cons.mpr ⟨qz_iceq C (show decode c_L_law 993 = .ok (.if_icmp .eq 351, 3) by decide +kernel) (by decide),
  List.forall_mem_cons.mpr ⟨qz_iconst C (show decode c_L_law 996 = .ok (.iconst 0, 1) by decide +kernel) (by decide +kernel),
  List.forall_mem_cons.mpr ⟨qz_zret C (show decode c_L_law 997 = .ok (.ireturn, 1) by decide +kernel) rfl,
  List.forall_mem_cons.mpr ⟨qz_aload_n C (show decode c_L_law 998 = .ok (.aload_n 1, 1) by decide +kernel) rfl,
  List.forall_mem_cons.mpr ⟨qz_aload_n C (show decode c_L_law 999 = .ok (.aload_n 0, 1) by decide +kernel) rfl,
  List.forall_mem_cons.mpr ⟨qz_iload_n C (show decode c_L_law 1000 = .ok (.iload_n 3, 1) by decide +kernel) rfl,
  List.forall_mem_cons.mpr ⟨qz_iconst C (show decode c_L_law 1001 = .ok (.iconst 1, 1) by decide +kernel) (by decide +kernel),
  List.forall_mem_cons.mpr ⟨qz_iadd C (show decode c_L_law 1002 = .ok (.iadd, 1) by decide +kernel),
  List.forall_mem_cons.mpr ⟨qz_sald C hn hs (show decode c_L_law 1003 = .ok (.iaload, 1) by decide +kernel),
  List.forall_mem_cons.mpr ⟨qz_vI C (show decode c_L_law 1004 = .ok (.invokevirtual 112, 3) by decide +kernel) ct_X10_arcs mv_X10_arcs cw_889 vcX10 (show 7 < 17 by omega),
  List.forall_mem_cons.mpr ⟨qz_aload_n C (show decode c_L_law 1007 = .ok (.aload_n 2, 1) by decide +kernel) rfl,
  List.forall_mem_cons.mpr ⟨qz_aload_n C (show decode c_L_law 1008 = .ok (.aload_n 0, 1) by decide +kernel) rfl,
  List.forall_mem_cons.mpr ⟨qz_iload_n C (show decode c_L_law 1009 = .ok (.iload_n 3, 1) by decide +kernel) rfl,
  List.forall_mem_cons.mpr ⟨qz_iconst C (show decode c_L_law 1010 = .ok (.iconst 1, 1) by decide +kernel) (by decide +kernel),
  List.forall_mem_cons.mpr ⟨qz_iadd C (show decode c_L_law 1011 = .ok (.iadd, 1) by decide +kernel),
  List.forall_mem_cons.mpr ⟨qz_sald C hn hs (show decode c_L_law 1012 = .ok (.iaload, 1) by decide +kernel),
  List.forall_mem_cons.mpr ⟨qz_vI C (show decode c_L_law 1013 = .ok (.invokevirtual 115, 3) by decide +kernel) ct_X11_arcs mv_X11_arcs cw_1401 vcX11 (show 6 < 17 by omega),
  List.forall_mem_cons.mpr ⟨qz_iceq C (show decode c_L_law 1016 = .ok (.if_icmp .eq 328, 3) by decide +kernel) (by decide),
  List.forall_mem_cons.mpr ⟨qz_iconst C (show decode c_L_law 1019 = .ok (.iconst 0, 1) by decide +kernel) (by decide +kernel),
  List.forall_mem_cons.mpr ⟨qz_zret C (show decode c_L_law 1020 = .ok (.ireturn, 1) by decide +kernel) rfl,
  List.forall_mem_cons.mpr ⟨qz_aload_n C (show decode c_L_law 1021 = .ok (.aload_n 1, 1) by decide +kernel) rfl,
  List.forall_mem_cons.mpr ⟨qz_aload_n C (show decode c_L_law 1022 = .ok (.aload_n 0, 1) by decide +kernel) rfl,
  List.forall_mem_cons.mpr ⟨qz_iload_n C (show decode c_L_law 1023 = .ok (.iload_n 3, 1) by decide +kernel) rfl,
  List.forall_mem_cons.mpr ⟨qz_iconst C (show decode c_L_law 1024 = .ok (.iconst 1, 1) by decide +kernel) (by decide +kernel),
  List.forall_mem_cons.mpr ⟨qz_iadd C (show decode c_L_law 1025 = .ok (.iadd, 1) by decide +kernel),
  List.forall_mem_cons.mpr ⟨qz_sald C hn hs (show decode c_L_law 1026 = .ok (.iaload, 1) by decide +kernel),
  List.forall_mem_cons.mpr ⟨qz_aload_n C (show decode c_L_law 1027 = .ok (.aload_n 0, 1) by decide +kernel) rfl,
  List.forall_mem_cons.mpr ⟨qz_iload_n C (show decode c_L_law 1028 = .ok (.iload_n 3, 1) by decide +kernel) rfl,
  List.forall_mem_cons.mpr ⟨qz_iconst C (show decode c_L_law 1029 = .ok (.iconst 2, 1) by decide +kernel) (by decide +kernel),
  List.forall_mem_cons.mpr ⟨qz_iadd C (show decode c_L_law 1030 = .ok (.iadd, 1) by decide +kernel),
  List.forall_mem_cons.mpr ⟨qz_sald C hn hs (show decode c_L_law 1031 = .ok (.iaload, 1) by decide +kernel),
  List.forall_mem_cons.mpr ⟨qz_vI C (show decode c_L_law 1032 = .ok (.invokevirtual 116, 3) by decide +kernel) ct_X10_words mv_X10_words cw_899 vcX10 (show 12 < 17 by omega),
  List.forall_mem_cons.mpr ⟨qz_aload_n C (show decode c_L_law 1035 = .ok (.aload_n 2, 1) by decide +kernel) rfl,
  List.forall_mem_cons.mpr ⟨qz_aload_n C (show decode c_L_law 1036 = .ok (.aload_n 0, 1) by decide +kernel) rfl,
  List.forall_mem_cons.mpr ⟨qz_iload_n C (show decode c_L_law 1037 = .ok (.iload_n 3, 1) by decide +kernel) rfl,
  List.forall_mem_cons.mpr ⟨qz_iconst C (show decode c_L_law 1038 = .ok (.iconst 1, 1) by decide +kernel) (by decide +kernel),
  List.forall_mem_cons.mpr ⟨qz_iadd C (show decode c_L_law 1039 = .ok (.iadd, 1) by decide +kernel),
  List.forall_mem_cons.mpr ⟨qz_sald C hn hs (show decode c_L_law 1040 = .ok (.iaload, 1) by decide +kernel),
  List.forall_mem_cons.mpr ⟨qz_aload_n C (show decode c_L_law 1041 = .ok (.aload_n 0, 1) by decide +kernel) rfl,
  (fun q h => by cases h)⟩⟩⟩⟩⟩⟩⟩⟩⟩⟩⟩⟩⟩⟩⟩⟩⟩⟩⟩⟩⟩⟩⟩⟩⟩⟩⟩⟩⟩⟩⟩⟩⟩⟩⟩⟩⟩⟩⟩⟩
set_option maxRecDepth 20000 in
theorem sd_L_law_18 {G : pj_E} {A : Nat → Prop} {P : pj_P} {S : pj_U} {Z : pj_Z} (C : pj_C (G, A, (c_L_law, RL, 4, (some .boolean), 17), P, S, Z)) {nS : Nat} {xS : Nat → Int32} (hn : pj_sL (G, A, (c_L_law, RL, 4, (some .boolean), 17), P, S, Z) = nS) (hs : pj_sxs (G, A, (c_L_law, RL, 4, (some .boolean), 17), P, S, Z) = xS) : ∀ q ∈ tb_L_law_18 nS xS, pj_S (G, A, (c_L_law, RL, 4, (some .boolean), 17), P, S, Z) pj_eI q.1 q.2 :=
  List.forall_mem_cons.mpr ⟨qz_iload_n C (show decode c_L_law 1042 = .ok (.iload_n 3, 1) by decide +kernel) rfl,
  List.forall_mem_cons.mpr ⟨qz_iconst C (show decode c_L_law 1043 = .ok (.iconst 2, 1) by decide +kernel) (by decide +kernel),
  List.forall_mem_cons.mpr ⟨qz_iadd C (show decode c_L_law 1044 = .ok (.iadd, 1) by decide +kernel),
  List.forall_mem_cons.mpr ⟨qz_sald C hn hs (show decode c_L_law 1045 = .ok (.iaload, 1) by decide +kernel),
  List.forall_mem_cons.mpr ⟨qz_vI C (show decode c_L_law 1046 = .ok (.invokevirtual 119, 3) by decide +kernel) ct_X11_words mv_X11_words cw_1405 vcX11 (show 5 < 17 by omega),
  List.forall_mem_cons.mpr ⟨qz_iceq C (show decode c_L_law 1049 = .ok (.if_icmp .eq 295, 3) by decide +kernel) (by decide),
  List.forall_mem_cons.mpr ⟨qz_iconst C (show decode c_L_law 1052 = .ok (.iconst 0, 1) by decide +kernel) (by decide +kernel),
  List.forall_mem_cons.mpr ⟨qz_zret C (show decode c_L_law 1053 = .ok (.ireturn, 1) by decide +kernel) rfl,
  List.forall_mem_cons.mpr ⟨qz_aload_n C (show decode c_L_law 1054 = .ok (.aload_n 1, 1) by decide +kernel) rfl,
  List.forall_mem_cons.mpr ⟨qz_aload_n C (show decode c_L_law 1055 = .ok (.aload_n 0, 1) by decide +kernel) rfl,
  List.forall_mem_cons.mpr ⟨qz_iload_n C (show decode c_L_law 1056 = .ok (.iload_n 3, 1) by decide +kernel) rfl,
  List.forall_mem_cons.mpr ⟨qz_iconst C (show decode c_L_law 1057 = .ok (.iconst 1, 1) by decide +kernel) (by decide +kernel),
  List.forall_mem_cons.mpr ⟨qz_iadd C (show decode c_L_law 1058 = .ok (.iadd, 1) by decide +kernel),
  List.forall_mem_cons.mpr ⟨qz_sald C hn hs (show decode c_L_law 1059 = .ok (.iaload, 1) by decide +kernel),
  List.forall_mem_cons.mpr ⟨qz_aload_n C (show decode c_L_law 1060 = .ok (.aload_n 0, 1) by decide +kernel) rfl,
  List.forall_mem_cons.mpr ⟨qz_iload_n C (show decode c_L_law 1061 = .ok (.iload_n 3, 1) by decide +kernel) rfl,
  List.forall_mem_cons.mpr ⟨qz_iconst C (show decode c_L_law 1062 = .ok (.iconst 2, 1) by decide +kernel) (by decide +kernel),
  List.forall_mem_cons.mpr ⟨qz_iadd C (show decode c_L_law 1063 = .ok (.iadd, 1) by decide +kernel),
  List.forall_mem_cons.mpr ⟨qz_sald C hn hs (show decode c_L_law 1064 = .ok (.iaload, 1) by decide +kernel),
  List.forall_mem_cons.mpr ⟨qz_aload_n C (show decode c_L_law 1065 = .ok (.aload_n 0, 1) by decide +kernel) rfl,
  List.forall_mem_cons.mpr ⟨qz_iload_n C (show decode c_L_law 1066 = .ok (.iload_n 3, 1) by decide +kernel) rfl,
  List.forall_mem_cons.mpr ⟨qz_iconst C (show decode c_L_law 1067 = .ok (.iconst 3, 1) by decide +kernel) (by decide +kernel),
  List.forall_mem_cons.mpr ⟨qz_iadd C (show decode c_L_law 1068 = .ok (.iadd, 1) by decide +kernel),
  List.forall_mem_cons.mpr ⟨qz_sald C hn hs (show decode c_L_law 1069 = .ok (.iaload, 1) by decide +kernel),
  List.forall_mem_cons.mpr ⟨qz_vI C (show decode c_L_law 1070 = .ok (.invokevirtual 120, 3) by decide +kernel) ct_X10_walk mv_X10_walk cw_910 vcX10 (show 6 < 17 by omega),
  List.forall_mem_cons.mpr ⟨qz_aload_n C (show decode c_L_law 1073 = .ok (.aload_n 2, 1) by decide +kernel) rfl,
  List.forall_mem_cons.mpr ⟨qz_aload_n C (show decode c_L_law 1074 = .ok (.aload_n 0, 1) by decide +kernel) rfl,
  List.forall_mem_cons.mpr ⟨qz_iload_n C (show decode c_L_law 1075 = .ok (.iload_n 3, 1) by decide +kernel) rfl,
  List.forall_mem_cons.mpr ⟨qz_iconst C (show decode c_L_law 1076 = .ok (.iconst 1, 1) by decide +kernel) (by decide +kernel),
  List.forall_mem_cons.mpr ⟨qz_iadd C (show decode c_L_law 1077 = .ok (.iadd, 1) by decide +kernel),
  List.forall_mem_cons.mpr ⟨qz_sald C hn hs (show decode c_L_law 1078 = .ok (.iaload, 1) by decide +kernel),
  List.forall_mem_cons.mpr ⟨qz_aload_n C (show decode c_L_law 1079 = .ok (.aload_n 0, 1) by decide +kernel) rfl,
  List.forall_mem_cons.mpr ⟨qz_iload_n C (show decode c_L_law 1080 = .ok (.iload_n 3, 1) by decide +kernel) rfl,
  List.forall_mem_cons.mpr ⟨qz_iconst C (show decode c_L_law 1081 = .ok (.iconst 2, 1) by decide +kernel) (by decide +kernel),
  List.forall_mem_cons.mpr ⟨qz_iadd C (show decode c_L_law 1082 = .ok (.iadd, 1) by decide +kernel),
  List.forall_mem_cons.mpr ⟨qz_sald C hn hs (show decode c_L_law 1083 = .ok (.iaload, 1) by decide +kernel),
  List.forall_mem_cons.mpr ⟨qz_aload_n C (show decode c_L_law 1084 = .ok (.aload_n 0, 1) by decide +kernel) rfl,
  List.forall_mem_cons.mpr ⟨qz_iload_n C (show decode c_L_law 1085 = .ok (.iload_n 3, 1) by decide +kernel) rfl,
  List.forall_mem_cons.mpr ⟨qz_iconst C (show decode c_L_law 1086 = .ok (.iconst 3, 1) by decide +kernel) (by decide +kernel),
  List.forall_mem_cons.mpr ⟨qz_iadd C (show decode c_L_law 1087 = .ok (.iadd, 1) by decide +kernel),
  (fun q h => by cases h)⟩⟩⟩⟩⟩⟩⟩⟩⟩⟩⟩⟩⟩⟩⟩⟩⟩⟩⟩⟩⟩⟩⟩⟩⟩⟩⟩⟩⟩⟩⟩⟩⟩⟩⟩⟩⟩⟩⟩⟩
set_option maxRecDepth 20000 in
theorem sd_L_law_19 {G : pj_E} {A : Nat → Prop} {P : pj_P} {S : pj_U} {Z : pj_Z} (C : pj_C (G, A, (c_L_law, RL, 4, (some .boolean), 17), P, S, Z)) {nS : Nat} {xS : Nat → Int32} (hn : pj_sL (G, A, (c_L_law, RL, 4, (some .boolean), 17), P, S, Z) = nS) (hs : pj_sxs (G, A, (c_L_law, RL, 4, (some .boolean), 17), P, S, Z) = xS) : ∀ q ∈ tb_L_law_19 nS xS, pj_S (G, A, (c_L_law, RL, 4, (some .boolean), 17), P, S, Z) pj_eI q.1 q.2 :=
  List.forall_mem_cons.mpr ⟨qz_sald C hn hs (show decode c_L_law 1088 = .ok (.iaload, 1) by decide +kernel),
  List.forall_mem_cons.mpr ⟨qz_vI C (show decode c_L_law 1089 = .ok (.invokevirtual 123, 3) by decide +kernel) ct_X11_walk mv_X11_walk cw_1409 vcX11 (show 5 < 17 by omega),
  List.forall_mem_cons.mpr ⟨qz_iceq C (show decode c_L_law 1092 = .ok (.if_icmp .eq 252, 3) by decide +kernel) (by decide),
  List.forall_mem_cons.mpr ⟨qz_iconst C (show decode c_L_law 1095 = .ok (.iconst 0, 1) by decide +kernel) (by decide +kernel),
  List.forall_mem_cons.mpr ⟨qz_zret C (show decode c_L_law 1096 = .ok (.ireturn, 1) by decide +kernel) rfl,
  List.forall_mem_cons.mpr ⟨qz_aload_n C (show decode c_L_law 1097 = .ok (.aload_n 1, 1) by decide +kernel) rfl,
  List.forall_mem_cons.mpr ⟨qz_aload_n C (show decode c_L_law 1098 = .ok (.aload_n 0, 1) by decide +kernel) rfl,
  List.forall_mem_cons.mpr ⟨qz_iload_n C (show decode c_L_law 1099 = .ok (.iload_n 3, 1) by decide +kernel) rfl,
  List.forall_mem_cons.mpr ⟨qz_iconst C (show decode c_L_law 1100 = .ok (.iconst 1, 1) by decide +kernel) (by decide +kernel),
  List.forall_mem_cons.mpr ⟨qz_iadd C (show decode c_L_law 1101 = .ok (.iadd, 1) by decide +kernel),
  List.forall_mem_cons.mpr ⟨qz_sald C hn hs (show decode c_L_law 1102 = .ok (.iaload, 1) by decide +kernel),
  List.forall_mem_cons.mpr ⟨qz_aload_n C (show decode c_L_law 1103 = .ok (.aload_n 0, 1) by decide +kernel) rfl,
  List.forall_mem_cons.mpr ⟨qz_iload_n C (show decode c_L_law 1104 = .ok (.iload_n 3, 1) by decide +kernel) rfl,
  List.forall_mem_cons.mpr ⟨qz_iconst C (show decode c_L_law 1105 = .ok (.iconst 2, 1) by decide +kernel) (by decide +kernel),
  List.forall_mem_cons.mpr ⟨qz_iadd C (show decode c_L_law 1106 = .ok (.iadd, 1) by decide +kernel),
  List.forall_mem_cons.mpr ⟨qz_sald C hn hs (show decode c_L_law 1107 = .ok (.iaload, 1) by decide +kernel),
  List.forall_mem_cons.mpr ⟨qz_aload_n C (show decode c_L_law 1108 = .ok (.aload_n 0, 1) by decide +kernel) rfl,
  List.forall_mem_cons.mpr ⟨qz_iload_n C (show decode c_L_law 1109 = .ok (.iload_n 3, 1) by decide +kernel) rfl,
  List.forall_mem_cons.mpr ⟨qz_iconst C (show decode c_L_law 1110 = .ok (.iconst 3, 1) by decide +kernel) (by decide +kernel),
  List.forall_mem_cons.mpr ⟨qz_iadd C (show decode c_L_law 1111 = .ok (.iadd, 1) by decide +kernel),
  List.forall_mem_cons.mpr ⟨qz_sald C hn hs (show decode c_L_law 1112 = .ok (.iaload, 1) by decide +kernel),
  List.forall_mem_cons.mpr ⟨qz_aload_n C (show decode c_L_law 1113 = .ok (.aload_n 0, 1) by decide +kernel) rfl,
  List.forall_mem_cons.mpr ⟨qz_iload_n C (show decode c_L_law 1114 = .ok (.iload_n 3, 1) by decide +kernel) rfl,
  List.forall_mem_cons.mpr ⟨qz_iconst C (show decode c_L_law 1115 = .ok (.iconst 4, 1) by decide +kernel) (by decide +kernel),
  List.forall_mem_cons.mpr ⟨qz_iadd C (show decode c_L_law 1116 = .ok (.iadd, 1) by decide +kernel),
  List.forall_mem_cons.mpr ⟨qz_sald C hn hs (show decode c_L_law 1117 = .ok (.iaload, 1) by decide +kernel),
  List.forall_mem_cons.mpr ⟨qz_vI C (show decode c_L_law 1118 = .ok (.invokevirtual 124, 3) by decide +kernel) ct_X10_fits mv_X10_fits cw_930 vcX10 (show 7 < 17 by omega),
  List.forall_mem_cons.mpr ⟨qz_aload_n C (show decode c_L_law 1121 = .ok (.aload_n 2, 1) by decide +kernel) rfl,
  List.forall_mem_cons.mpr ⟨qz_aload_n C (show decode c_L_law 1122 = .ok (.aload_n 0, 1) by decide +kernel) rfl,
  List.forall_mem_cons.mpr ⟨qz_iload_n C (show decode c_L_law 1123 = .ok (.iload_n 3, 1) by decide +kernel) rfl,
  List.forall_mem_cons.mpr ⟨qz_iconst C (show decode c_L_law 1124 = .ok (.iconst 1, 1) by decide +kernel) (by decide +kernel),
  List.forall_mem_cons.mpr ⟨qz_iadd C (show decode c_L_law 1125 = .ok (.iadd, 1) by decide +kernel),
  List.forall_mem_cons.mpr ⟨qz_sald C hn hs (show decode c_L_law 1126 = .ok (.iaload, 1) by decide +kernel),
  List.forall_mem_cons.mpr ⟨qz_aload_n C (show decode c_L_law 1127 = .ok (.aload_n 0, 1) by decide +kernel) rfl,
  List.forall_mem_cons.mpr ⟨qz_iload_n C (show decode c_L_law 1128 = .ok (.iload_n 3, 1) by decide +kernel) rfl,
  List.forall_mem_cons.mpr ⟨qz_iconst C (show decode c_L_law 1129 = .ok (.iconst 2, 1) by decide +kernel) (by decide +kernel),
  List.forall_mem_cons.mpr ⟨qz_iadd C (show decode c_L_law 1130 = .ok (.iadd, 1) by decide +kernel),
  List.forall_mem_cons.mpr ⟨qz_sald C hn hs (show decode c_L_law 1131 = .ok (.iaload, 1) by decide +kernel),
  List.forall_mem_cons.mpr ⟨qz_aload_n C (show decode c_L_law 1132 = .ok (.aload_n 0, 1) by decide +kernel) rfl,
  List.forall_mem_cons.mpr ⟨qz_iload_n C (show decode c_L_law 1133 = .ok (.iload_n 3, 1) by decide +kernel) rfl,
  (fun q h => by cases h)⟩⟩⟩⟩⟩⟩⟩⟩⟩⟩⟩⟩⟩⟩⟩⟩⟩⟩⟩⟩⟩⟩⟩⟩⟩⟩⟩⟩⟩⟩⟩⟩⟩⟩⟩⟩⟩⟩⟩⟩
set_option maxRecDepth 20000 in
theorem sd_L_law_20 {G : pj_E} {A : Nat → Prop} {P : pj_P} {S : pj_U} {Z : pj_Z} (C : pj_C (G, A, (c_L_law, RL, 4, (some .boolean), 17), P, S, Z)) {nS : Nat} {xS : Nat → Int32} (hn : pj_sL (G, A, (c_L_law, RL, 4, (some .boolean), 17), P, S, Z) = nS) (hs : pj_sxs (G, A, (c_L_law, RL, 4, (some .boolean), 17), P, S, Z) = xS) : ∀ q ∈ tb_L_law_20 nS xS, pj_S (G, A, (c_L_law, RL, 4, (some .boolean), 17), P, S, Z) pj_eI q.1 q.2 :=
  List.forall_mem_cons.mpr ⟨qz_iconst C (show decode c_L_law 1134 = .ok (.iconst 3, 1) by decide +kernel) (by decide +kernel),
  List.forall_mem_cons.mpr ⟨qz_iadd C (show decode c_L_law 1135 = .ok (.iadd, 1) by decide +kernel),
  List.forall_mem_cons.mpr ⟨qz_sald C hn hs (show decode c_L_law 1136 = .ok (.iaload, 1) by decide +kernel),
  List.forall_mem_cons.mpr ⟨qz_aload_n C (show decode c_L_law 1137 = .ok (.aload_n 0, 1) by decide +kernel) rfl,
  List.forall_mem_cons.mpr ⟨qz_iload_n C (show decode c_L_law 1138 = .ok (.iload_n 3, 1) by decide +kernel) rfl,
  List.forall_mem_cons.mpr ⟨qz_iconst C (show decode c_L_law 1139 = .ok (.iconst 4, 1) by decide +kernel) (by decide +kernel),
  List.forall_mem_cons.mpr ⟨qz_iadd C (show decode c_L_law 1140 = .ok (.iadd, 1) by decide +kernel),
  List.forall_mem_cons.mpr ⟨qz_sald C hn hs (show decode c_L_law 1141 = .ok (.iaload, 1) by decide +kernel),
  List.forall_mem_cons.mpr ⟨qz_vI C (show decode c_L_law 1142 = .ok (.invokevirtual 127, 3) by decide +kernel) ct_X11_fits mv_X11_fits cw_1424 vcX11 (show 6 < 17 by omega),
  List.forall_mem_cons.mpr ⟨qz_iceq C (show decode c_L_law 1145 = .ok (.if_icmp .eq 199, 3) by decide +kernel) (by decide),
  List.forall_mem_cons.mpr ⟨qz_iconst C (show decode c_L_law 1148 = .ok (.iconst 0, 1) by decide +kernel) (by decide +kernel),
  List.forall_mem_cons.mpr ⟨qz_zret C (show decode c_L_law 1149 = .ok (.ireturn, 1) by decide +kernel) rfl,
  List.forall_mem_cons.mpr ⟨qz_aload_n C (show decode c_L_law 1150 = .ok (.aload_n 1, 1) by decide +kernel) rfl,
  List.forall_mem_cons.mpr ⟨qz_aload_n C (show decode c_L_law 1151 = .ok (.aload_n 0, 1) by decide +kernel) rfl,
  List.forall_mem_cons.mpr ⟨qz_iload_n C (show decode c_L_law 1152 = .ok (.iload_n 3, 1) by decide +kernel) rfl,
  List.forall_mem_cons.mpr ⟨qz_iconst C (show decode c_L_law 1153 = .ok (.iconst 1, 1) by decide +kernel) (by decide +kernel),
  List.forall_mem_cons.mpr ⟨qz_iadd C (show decode c_L_law 1154 = .ok (.iadd, 1) by decide +kernel),
  List.forall_mem_cons.mpr ⟨qz_sald C hn hs (show decode c_L_law 1155 = .ok (.iaload, 1) by decide +kernel),
  List.forall_mem_cons.mpr ⟨qz_vI C (show decode c_L_law 1156 = .ok (.invokevirtual 128, 3) by decide +kernel) ct_X10_image mv_X10_image cw_939 vcX10 (show 2 < 17 by omega),
  List.forall_mem_cons.mpr ⟨qz_aload_n C (show decode c_L_law 1159 = .ok (.aload_n 2, 1) by decide +kernel) rfl,
  List.forall_mem_cons.mpr ⟨qz_aload_n C (show decode c_L_law 1160 = .ok (.aload_n 0, 1) by decide +kernel) rfl,
  List.forall_mem_cons.mpr ⟨qz_iload_n C (show decode c_L_law 1161 = .ok (.iload_n 3, 1) by decide +kernel) rfl,
  List.forall_mem_cons.mpr ⟨qz_iconst C (show decode c_L_law 1162 = .ok (.iconst 1, 1) by decide +kernel) (by decide +kernel),
  List.forall_mem_cons.mpr ⟨qz_iadd C (show decode c_L_law 1163 = .ok (.iadd, 1) by decide +kernel),
  List.forall_mem_cons.mpr ⟨qz_sald C hn hs (show decode c_L_law 1164 = .ok (.iaload, 1) by decide +kernel),
  List.forall_mem_cons.mpr ⟨qz_vI C (show decode c_L_law 1165 = .ok (.invokevirtual 131, 3) by decide +kernel) ct_X11_image mv_X11_image cw_1428 vcX11 (show 2 < 17 by omega),
  List.forall_mem_cons.mpr ⟨qz_iceq C (show decode c_L_law 1168 = .ok (.if_icmp .eq 176, 3) by decide +kernel) (by decide),
  List.forall_mem_cons.mpr ⟨qz_iconst C (show decode c_L_law 1171 = .ok (.iconst 0, 1) by decide +kernel) (by decide +kernel),
  List.forall_mem_cons.mpr ⟨qz_zret C (show decode c_L_law 1172 = .ok (.ireturn, 1) by decide +kernel) rfl,
  List.forall_mem_cons.mpr ⟨qz_aload_n C (show decode c_L_law 1173 = .ok (.aload_n 1, 1) by decide +kernel) rfl,
  List.forall_mem_cons.mpr ⟨qz_aload_n C (show decode c_L_law 1174 = .ok (.aload_n 0, 1) by decide +kernel) rfl,
  List.forall_mem_cons.mpr ⟨qz_iload_n C (show decode c_L_law 1175 = .ok (.iload_n 3, 1) by decide +kernel) rfl,
  List.forall_mem_cons.mpr ⟨qz_iconst C (show decode c_L_law 1176 = .ok (.iconst 1, 1) by decide +kernel) (by decide +kernel),
  List.forall_mem_cons.mpr ⟨qz_iadd C (show decode c_L_law 1177 = .ok (.iadd, 1) by decide +kernel),
  List.forall_mem_cons.mpr ⟨qz_sald C hn hs (show decode c_L_law 1178 = .ok (.iaload, 1) by decide +kernel),
  List.forall_mem_cons.mpr ⟨qz_vI C (show decode c_L_law 1179 = .ok (.invokevirtual 132, 3) by decide +kernel) ct_X10_restore mv_X10_restore cw_943 vcX10 (show 2 < 17 by omega),
  List.forall_mem_cons.mpr ⟨qz_aload_n C (show decode c_L_law 1182 = .ok (.aload_n 2, 1) by decide +kernel) rfl,
  List.forall_mem_cons.mpr ⟨qz_aload_n C (show decode c_L_law 1183 = .ok (.aload_n 0, 1) by decide +kernel) rfl,
  List.forall_mem_cons.mpr ⟨qz_iload_n C (show decode c_L_law 1184 = .ok (.iload_n 3, 1) by decide +kernel) rfl,
  List.forall_mem_cons.mpr ⟨qz_iconst C (show decode c_L_law 1185 = .ok (.iconst 1, 1) by decide +kernel) (by decide +kernel),
  (fun q h => by cases h)⟩⟩⟩⟩⟩⟩⟩⟩⟩⟩⟩⟩⟩⟩⟩⟩⟩⟩⟩⟩⟩⟩⟩⟩⟩⟩⟩⟩⟩⟩⟩⟩⟩⟩⟩⟩⟩⟩⟩⟩
set_option maxRecDepth 20000 in
theorem sd_L_law_21 {G : pj_E} {A : Nat → Prop} {P : pj_P} {S : pj_U} {Z : pj_Z} (C : pj_C (G, A, (c_L_law, RL, 4, (some .boolean), 17), P, S, Z)) {nS : Nat} {xS : Nat → Int32} (hn : pj_sL (G, A, (c_L_law, RL, 4, (some .boolean), 17), P, S, Z) = nS) (hs : pj_sxs (G, A, (c_L_law, RL, 4, (some .boolean), 17), P, S, Z) = xS) : ∀ q ∈ tb_L_law_21 nS xS, pj_S (G, A, (c_L_law, RL, 4, (some .boolean), 17), P, S, Z) pj_eI q.1 q.2 :=
  List.forall_mem_cons.mpr ⟨qz_iadd C (show decode c_L_law 1186 = .ok (.iadd, 1) by decide +kernel),
  List.forall_mem_cons.mpr ⟨qz_sald C hn hs (show decode c_L_law 1187 = .ok (.iaload, 1) by decide +kernel),
  List.forall_mem_cons.mpr ⟨qz_vI C (show decode c_L_law 1188 = .ok (.invokevirtual 135, 3) by decide +kernel) ct_X11_restore mv_X11_restore cw_1432 vcX11 (show 2 < 17 by omega),
  List.forall_mem_cons.mpr ⟨qz_iceq C (show decode c_L_law 1191 = .ok (.if_icmp .eq 153, 3) by decide +kernel) (by decide),
  List.forall_mem_cons.mpr ⟨qz_iconst C (show decode c_L_law 1194 = .ok (.iconst 0, 1) by decide +kernel) (by decide +kernel),
  List.forall_mem_cons.mpr ⟨qz_zret C (show decode c_L_law 1195 = .ok (.ireturn, 1) by decide +kernel) rfl,
  List.forall_mem_cons.mpr ⟨qz_aload_n C (show decode c_L_law 1196 = .ok (.aload_n 1, 1) by decide +kernel) rfl,
  List.forall_mem_cons.mpr ⟨qz_aload_n C (show decode c_L_law 1197 = .ok (.aload_n 0, 1) by decide +kernel) rfl,
  List.forall_mem_cons.mpr ⟨qz_iload_n C (show decode c_L_law 1198 = .ok (.iload_n 3, 1) by decide +kernel) rfl,
  List.forall_mem_cons.mpr ⟨qz_iconst C (show decode c_L_law 1199 = .ok (.iconst 1, 1) by decide +kernel) (by decide +kernel),
  List.forall_mem_cons.mpr ⟨qz_iadd C (show decode c_L_law 1200 = .ok (.iadd, 1) by decide +kernel),
  List.forall_mem_cons.mpr ⟨qz_sald C hn hs (show decode c_L_law 1201 = .ok (.iaload, 1) by decide +kernel),
  List.forall_mem_cons.mpr ⟨qz_vI C (show decode c_L_law 1202 = .ok (.invokevirtual 136, 3) by decide +kernel) ct_X10_kind mv_X10_kind cw_947 vcX10 (show 2 < 17 by omega),
  List.forall_mem_cons.mpr ⟨qz_aload_n C (show decode c_L_law 1205 = .ok (.aload_n 2, 1) by decide +kernel) rfl,
  List.forall_mem_cons.mpr ⟨qz_aload_n C (show decode c_L_law 1206 = .ok (.aload_n 0, 1) by decide +kernel) rfl,
  List.forall_mem_cons.mpr ⟨qz_iload_n C (show decode c_L_law 1207 = .ok (.iload_n 3, 1) by decide +kernel) rfl,
  List.forall_mem_cons.mpr ⟨qz_iconst C (show decode c_L_law 1208 = .ok (.iconst 1, 1) by decide +kernel) (by decide +kernel),
  List.forall_mem_cons.mpr ⟨qz_iadd C (show decode c_L_law 1209 = .ok (.iadd, 1) by decide +kernel),
  List.forall_mem_cons.mpr ⟨qz_sald C hn hs (show decode c_L_law 1210 = .ok (.iaload, 1) by decide +kernel),
  List.forall_mem_cons.mpr ⟨qz_vI C (show decode c_L_law 1211 = .ok (.invokevirtual 139, 3) by decide +kernel) ct_X11_kind mv_X11_kind cw_1436 vcX11 (show 3 < 17 by omega),
  List.forall_mem_cons.mpr ⟨qz_iceq C (show decode c_L_law 1214 = .ok (.if_icmp .eq 130, 3) by decide +kernel) (by decide),
  List.forall_mem_cons.mpr ⟨qz_iconst C (show decode c_L_law 1217 = .ok (.iconst 0, 1) by decide +kernel) (by decide +kernel),
  List.forall_mem_cons.mpr ⟨qz_zret C (show decode c_L_law 1218 = .ok (.ireturn, 1) by decide +kernel) rfl,
  List.forall_mem_cons.mpr ⟨qz_aload_n C (show decode c_L_law 1219 = .ok (.aload_n 1, 1) by decide +kernel) rfl,
  List.forall_mem_cons.mpr ⟨qz_aload_n C (show decode c_L_law 1220 = .ok (.aload_n 0, 1) by decide +kernel) rfl,
  List.forall_mem_cons.mpr ⟨qz_iload_n C (show decode c_L_law 1221 = .ok (.iload_n 3, 1) by decide +kernel) rfl,
  List.forall_mem_cons.mpr ⟨qz_iconst C (show decode c_L_law 1222 = .ok (.iconst 1, 1) by decide +kernel) (by decide +kernel),
  List.forall_mem_cons.mpr ⟨qz_iadd C (show decode c_L_law 1223 = .ok (.iadd, 1) by decide +kernel),
  List.forall_mem_cons.mpr ⟨qz_sald C hn hs (show decode c_L_law 1224 = .ok (.iaload, 1) by decide +kernel),
  List.forall_mem_cons.mpr ⟨qz_aload_n C (show decode c_L_law 1225 = .ok (.aload_n 0, 1) by decide +kernel) rfl,
  List.forall_mem_cons.mpr ⟨qz_iload_n C (show decode c_L_law 1226 = .ok (.iload_n 3, 1) by decide +kernel) rfl,
  List.forall_mem_cons.mpr ⟨qz_iconst C (show decode c_L_law 1227 = .ok (.iconst 2, 1) by decide +kernel) (by decide +kernel),
  List.forall_mem_cons.mpr ⟨qz_iadd C (show decode c_L_law 1228 = .ok (.iadd, 1) by decide +kernel),
  List.forall_mem_cons.mpr ⟨qz_sald C hn hs (show decode c_L_law 1229 = .ok (.iaload, 1) by decide +kernel),
  List.forall_mem_cons.mpr ⟨qz_vI C (show decode c_L_law 1230 = .ok (.invokevirtual 140, 3) by decide +kernel) ct_X10_as mv_X10_as cw_951 vcX10 (show 3 < 17 by omega),
  List.forall_mem_cons.mpr ⟨qz_aload_n C (show decode c_L_law 1233 = .ok (.aload_n 2, 1) by decide +kernel) rfl,
  List.forall_mem_cons.mpr ⟨qz_aload_n C (show decode c_L_law 1234 = .ok (.aload_n 0, 1) by decide +kernel) rfl,
  List.forall_mem_cons.mpr ⟨qz_iload_n C (show decode c_L_law 1235 = .ok (.iload_n 3, 1) by decide +kernel) rfl,
  List.forall_mem_cons.mpr ⟨qz_iconst C (show decode c_L_law 1236 = .ok (.iconst 1, 1) by decide +kernel) (by decide +kernel),
  List.forall_mem_cons.mpr ⟨qz_iadd C (show decode c_L_law 1237 = .ok (.iadd, 1) by decide +kernel),
  (fun q h => by cases h)⟩⟩⟩⟩⟩⟩⟩⟩⟩⟩⟩⟩⟩⟩⟩⟩⟩⟩⟩⟩⟩⟩⟩⟩⟩⟩⟩⟩⟩⟩⟩⟩⟩⟩⟩⟩⟩⟩⟩⟩
set_option maxRecDepth 20000 in
theorem sd_L_law_22 {G : pj_E} {A : Nat → Prop} {P : pj_P} {S : pj_U} {Z : pj_Z} (C : pj_C (G, A, (c_L_law, RL, 4, (some .boolean), 17), P, S, Z)) {nS : Nat} {xS : Nat → Int32} (hn : pj_sL (G, A, (c_L_law, RL, 4, (some .boolean), 17), P, S, Z) = nS) (hs : pj_sxs (G, A, (c_L_law, RL, 4, (some .boolean), 17), P, S, Z) = xS) : ∀ q ∈ tb_L_law_22 nS xS, pj_S (G, A, (c_L_law, RL, 4, (some .boolean), 17), P, S, Z) pj_eI q.1 q.2 :=
  List.forall_mem_cons.mpr ⟨qz_sald C hn hs (show decode c_L_law 1238 = .ok (.iaload, 1) by decide +kernel),
  List.forall_mem_cons.mpr ⟨qz_aload_n C (show decode c_L_law 1239 = .ok (.aload_n 0, 1) by decide +kernel) rfl,
  List.forall_mem_cons.mpr ⟨qz_iload_n C (show decode c_L_law 1240 = .ok (.iload_n 3, 1) by decide +kernel) rfl,
  List.forall_mem_cons.mpr ⟨qz_iconst C (show decode c_L_law 1241 = .ok (.iconst 2, 1) by decide +kernel) (by decide +kernel),
  List.forall_mem_cons.mpr ⟨qz_iadd C (show decode c_L_law 1242 = .ok (.iadd, 1) by decide +kernel),
  List.forall_mem_cons.mpr ⟨qz_sald C hn hs (show decode c_L_law 1243 = .ok (.iaload, 1) by decide +kernel),
  List.forall_mem_cons.mpr ⟨qz_vI C (show decode c_L_law 1244 = .ok (.invokevirtual 143, 3) by decide +kernel) ct_X11_as mv_X11_as cw_1444 vcX11 (show 3 < 17 by omega),
  List.forall_mem_cons.mpr ⟨qz_iceq C (show decode c_L_law 1247 = .ok (.if_icmp .eq 97, 3) by decide +kernel) (by decide),
  List.forall_mem_cons.mpr ⟨qz_iconst C (show decode c_L_law 1250 = .ok (.iconst 0, 1) by decide +kernel) (by decide +kernel),
  List.forall_mem_cons.mpr ⟨qz_zret C (show decode c_L_law 1251 = .ok (.ireturn, 1) by decide +kernel) rfl,
  List.forall_mem_cons.mpr ⟨qz_aload_n C (show decode c_L_law 1252 = .ok (.aload_n 1, 1) by decide +kernel) rfl,
  List.forall_mem_cons.mpr ⟨qz_aload_n C (show decode c_L_law 1253 = .ok (.aload_n 0, 1) by decide +kernel) rfl,
  List.forall_mem_cons.mpr ⟨qz_iload_n C (show decode c_L_law 1254 = .ok (.iload_n 3, 1) by decide +kernel) rfl,
  List.forall_mem_cons.mpr ⟨qz_iconst C (show decode c_L_law 1255 = .ok (.iconst 1, 1) by decide +kernel) (by decide +kernel),
  List.forall_mem_cons.mpr ⟨qz_iadd C (show decode c_L_law 1256 = .ok (.iadd, 1) by decide +kernel),
  List.forall_mem_cons.mpr ⟨qz_sald C hn hs (show decode c_L_law 1257 = .ok (.iaload, 1) by decide +kernel),
  List.forall_mem_cons.mpr ⟨qz_aload_n C (show decode c_L_law 1258 = .ok (.aload_n 0, 1) by decide +kernel) rfl,
  List.forall_mem_cons.mpr ⟨qz_iload_n C (show decode c_L_law 1259 = .ok (.iload_n 3, 1) by decide +kernel) rfl,
  List.forall_mem_cons.mpr ⟨qz_iconst C (show decode c_L_law 1260 = .ok (.iconst 2, 1) by decide +kernel) (by decide +kernel),
  List.forall_mem_cons.mpr ⟨qz_iadd C (show decode c_L_law 1261 = .ok (.iadd, 1) by decide +kernel),
  List.forall_mem_cons.mpr ⟨qz_sald C hn hs (show decode c_L_law 1262 = .ok (.iaload, 1) by decide +kernel),
  List.forall_mem_cons.mpr ⟨qz_vI C (show decode c_L_law 1263 = .ok (.invokevirtual 144, 3) by decide +kernel) ct_X10_ask mv_X10_ask cw_956 vcX10 (show 16 < 17 by omega),
  List.forall_mem_cons.mpr ⟨qz_aload_n C (show decode c_L_law 1266 = .ok (.aload_n 2, 1) by decide +kernel) rfl,
  List.forall_mem_cons.mpr ⟨qz_aload_n C (show decode c_L_law 1267 = .ok (.aload_n 0, 1) by decide +kernel) rfl,
  List.forall_mem_cons.mpr ⟨qz_iload_n C (show decode c_L_law 1268 = .ok (.iload_n 3, 1) by decide +kernel) rfl,
  List.forall_mem_cons.mpr ⟨qz_iconst C (show decode c_L_law 1269 = .ok (.iconst 1, 1) by decide +kernel) (by decide +kernel),
  List.forall_mem_cons.mpr ⟨qz_iadd C (show decode c_L_law 1270 = .ok (.iadd, 1) by decide +kernel),
  List.forall_mem_cons.mpr ⟨qz_sald C hn hs (show decode c_L_law 1271 = .ok (.iaload, 1) by decide +kernel),
  List.forall_mem_cons.mpr ⟨qz_aload_n C (show decode c_L_law 1272 = .ok (.aload_n 0, 1) by decide +kernel) rfl,
  List.forall_mem_cons.mpr ⟨qz_iload_n C (show decode c_L_law 1273 = .ok (.iload_n 3, 1) by decide +kernel) rfl,
  List.forall_mem_cons.mpr ⟨qz_iconst C (show decode c_L_law 1274 = .ok (.iconst 2, 1) by decide +kernel) (by decide +kernel),
  List.forall_mem_cons.mpr ⟨qz_iadd C (show decode c_L_law 1275 = .ok (.iadd, 1) by decide +kernel),
  List.forall_mem_cons.mpr ⟨qz_sald C hn hs (show decode c_L_law 1276 = .ok (.iaload, 1) by decide +kernel),
  List.forall_mem_cons.mpr ⟨qz_vI C (show decode c_L_law 1277 = .ok (.invokevirtual 147, 3) by decide +kernel) ct_X11_ask mv_X11_ask cw_1448 vcX11 (show 9 < 17 by omega),
  List.forall_mem_cons.mpr ⟨qz_iceq C (show decode c_L_law 1280 = .ok (.if_icmp .eq 64, 3) by decide +kernel) (by decide),
  List.forall_mem_cons.mpr ⟨qz_iconst C (show decode c_L_law 1283 = .ok (.iconst 0, 1) by decide +kernel) (by decide +kernel),
  List.forall_mem_cons.mpr ⟨qz_zret C (show decode c_L_law 1284 = .ok (.ireturn, 1) by decide +kernel) rfl,
  List.forall_mem_cons.mpr ⟨qz_aload_n C (show decode c_L_law 1285 = .ok (.aload_n 1, 1) by decide +kernel) rfl,
  List.forall_mem_cons.mpr ⟨qz_aload_n C (show decode c_L_law 1286 = .ok (.aload_n 0, 1) by decide +kernel) rfl,
  List.forall_mem_cons.mpr ⟨qz_iload_n C (show decode c_L_law 1287 = .ok (.iload_n 3, 1) by decide +kernel) rfl,
  (fun q h => by cases h)⟩⟩⟩⟩⟩⟩⟩⟩⟩⟩⟩⟩⟩⟩⟩⟩⟩⟩⟩⟩⟩⟩⟩⟩⟩⟩⟩⟩⟩⟩⟩⟩⟩⟩⟩⟩⟩⟩⟩⟩
set_option maxRecDepth 20000 in
theorem sd_L_law_23 {G : pj_E} {A : Nat → Prop} {P : pj_P} {S : pj_U} {Z : pj_Z} (C : pj_C (G, A, (c_L_law, RL, 4, (some .boolean), 17), P, S, Z)) {nS : Nat} {xS : Nat → Int32} (hn : pj_sL (G, A, (c_L_law, RL, 4, (some .boolean), 17), P, S, Z) = nS) (hs : pj_sxs (G, A, (c_L_law, RL, 4, (some .boolean), 17), P, S, Z) = xS) : ∀ q ∈ tb_L_law_23 nS xS, pj_S (G, A, (c_L_law, RL, 4, (some .boolean), 17), P, S, Z) pj_eI q.1 q.2 :=
  List.forall_mem_cons.mpr ⟨qz_iconst C (show decode c_L_law 1288 = .ok (.iconst 1, 1) by decide +kernel) (by decide +kernel),
  List.forall_mem_cons.mpr ⟨qz_iadd C (show decode c_L_law 1289 = .ok (.iadd, 1) by decide +kernel),
  List.forall_mem_cons.mpr ⟨qz_sald C hn hs (show decode c_L_law 1290 = .ok (.iaload, 1) by decide +kernel),
  List.forall_mem_cons.mpr ⟨qz_vI C (show decode c_L_law 1291 = .ok (.invokevirtual 148, 3) by decide +kernel) ct_X10_trace mv_X10_trace cw_985 vcX10 (show 2 < 17 by omega),
  List.forall_mem_cons.mpr ⟨qz_aload_n C (show decode c_L_law 1294 = .ok (.aload_n 2, 1) by decide +kernel) rfl,
  List.forall_mem_cons.mpr ⟨qz_aload_n C (show decode c_L_law 1295 = .ok (.aload_n 0, 1) by decide +kernel) rfl,
  List.forall_mem_cons.mpr ⟨qz_iload_n C (show decode c_L_law 1296 = .ok (.iload_n 3, 1) by decide +kernel) rfl,
  List.forall_mem_cons.mpr ⟨qz_iconst C (show decode c_L_law 1297 = .ok (.iconst 1, 1) by decide +kernel) (by decide +kernel),
  List.forall_mem_cons.mpr ⟨qz_iadd C (show decode c_L_law 1298 = .ok (.iadd, 1) by decide +kernel),
  List.forall_mem_cons.mpr ⟨qz_sald C hn hs (show decode c_L_law 1299 = .ok (.iaload, 1) by decide +kernel),
  List.forall_mem_cons.mpr ⟨qz_vI C (show decode c_L_law 1300 = .ok (.invokevirtual 151, 3) by decide +kernel) ct_X11_trace mv_X11_trace cw_1476 vcX11 (show 2 < 17 by omega),
  List.forall_mem_cons.mpr ⟨qz_iceq C (show decode c_L_law 1303 = .ok (.if_icmp .eq 41, 3) by decide +kernel) (by decide),
  List.forall_mem_cons.mpr ⟨qz_iconst C (show decode c_L_law 1306 = .ok (.iconst 0, 1) by decide +kernel) (by decide +kernel),
  List.forall_mem_cons.mpr ⟨qz_zret C (show decode c_L_law 1307 = .ok (.ireturn, 1) by decide +kernel) rfl,
  List.forall_mem_cons.mpr ⟨qz_aload_n C (show decode c_L_law 1308 = .ok (.aload_n 1, 1) by decide +kernel) rfl,
  List.forall_mem_cons.mpr ⟨qz_aload_n C (show decode c_L_law 1309 = .ok (.aload_n 0, 1) by decide +kernel) rfl,
  List.forall_mem_cons.mpr ⟨qz_iload_n C (show decode c_L_law 1310 = .ok (.iload_n 3, 1) by decide +kernel) rfl,
  List.forall_mem_cons.mpr ⟨qz_iconst C (show decode c_L_law 1311 = .ok (.iconst 1, 1) by decide +kernel) (by decide +kernel),
  List.forall_mem_cons.mpr ⟨qz_iadd C (show decode c_L_law 1312 = .ok (.iadd, 1) by decide +kernel),
  List.forall_mem_cons.mpr ⟨qz_sald C hn hs (show decode c_L_law 1313 = .ok (.iaload, 1) by decide +kernel),
  List.forall_mem_cons.mpr ⟨qz_vI C (show decode c_L_law 1314 = .ok (.invokevirtual 152, 3) by decide +kernel) ct_X10_count mv_X10_count cw_994 vcX10 (show 3 < 17 by omega),
  List.forall_mem_cons.mpr ⟨qz_aload_n C (show decode c_L_law 1317 = .ok (.aload_n 2, 1) by decide +kernel) rfl,
  List.forall_mem_cons.mpr ⟨qz_aload_n C (show decode c_L_law 1318 = .ok (.aload_n 0, 1) by decide +kernel) rfl,
  List.forall_mem_cons.mpr ⟨qz_iload_n C (show decode c_L_law 1319 = .ok (.iload_n 3, 1) by decide +kernel) rfl,
  List.forall_mem_cons.mpr ⟨qz_iconst C (show decode c_L_law 1320 = .ok (.iconst 1, 1) by decide +kernel) (by decide +kernel),
  List.forall_mem_cons.mpr ⟨qz_iadd C (show decode c_L_law 1321 = .ok (.iadd, 1) by decide +kernel),
  List.forall_mem_cons.mpr ⟨qz_sald C hn hs (show decode c_L_law 1322 = .ok (.iaload, 1) by decide +kernel),
  List.forall_mem_cons.mpr ⟨qz_vI C (show decode c_L_law 1323 = .ok (.invokevirtual 155, 3) by decide +kernel) ct_X11_count mv_X11_count cw_1480 vcX11 (show 2 < 17 by omega),
  List.forall_mem_cons.mpr ⟨qz_iceq C (show decode c_L_law 1326 = .ok (.if_icmp .eq 18, 3) by decide +kernel) (by decide),
  List.forall_mem_cons.mpr ⟨qz_iconst C (show decode c_L_law 1329 = .ok (.iconst 0, 1) by decide +kernel) (by decide +kernel),
  List.forall_mem_cons.mpr ⟨qz_zret C (show decode c_L_law 1330 = .ok (.ireturn, 1) by decide +kernel) rfl,
  List.forall_mem_cons.mpr ⟨qz_aload_n C (show decode c_L_law 1331 = .ok (.aload_n 1, 1) by decide +kernel) rfl,
  List.forall_mem_cons.mpr ⟨qz_vI C (show decode c_L_law 1332 = .ok (.invokevirtual 156, 3) by decide +kernel) ct_X10_status mv_X10_status cw_1007 vcX10 (show 1 < 17 by omega),
  List.forall_mem_cons.mpr ⟨qz_aload_n C (show decode c_L_law 1335 = .ok (.aload_n 2, 1) by decide +kernel) rfl,
  List.forall_mem_cons.mpr ⟨qz_vI C (show decode c_L_law 1336 = .ok (.invokevirtual 159, 3) by decide +kernel) ct_X11_status mv_X11_status cw_1484 vcX11 (show 1 < 17 by omega),
  List.forall_mem_cons.mpr ⟨qz_iceq C (show decode c_L_law 1339 = .ok (.if_icmp .eq 5, 3) by decide +kernel) (by decide),
  List.forall_mem_cons.mpr ⟨qz_iconst C (show decode c_L_law 1342 = .ok (.iconst 0, 1) by decide +kernel) (by decide +kernel),
  List.forall_mem_cons.mpr ⟨qz_zret C (show decode c_L_law 1343 = .ok (.ireturn, 1) by decide +kernel) rfl,
  List.forall_mem_cons.mpr ⟨qz_iinc C (show decode c_L_law 1344 = .ok (.iinc 3 6, 3) by decide +kernel) (by decide +kernel),
  List.forall_mem_cons.mpr ⟨qz_goto C (show decode c_L_law 1347 = .ok (.goto (-1329), 3) by decide +kernel) (by decide),
  (fun q h => by cases h)⟩⟩⟩⟩⟩⟩⟩⟩⟩⟩⟩⟩⟩⟩⟩⟩⟩⟩⟩⟩⟩⟩⟩⟩⟩⟩⟩⟩⟩⟩⟩⟩⟩⟩⟩⟩⟩⟩⟩⟩
set_option maxRecDepth 20000 in
theorem sd_L_law_24 {G : pj_E} {A : Nat → Prop} {P : pj_P} {S : pj_U} {Z : pj_Z} (C : pj_C (G, A, (c_L_law, RL, 4, (some .boolean), 17), P, S, Z)) {nS : Nat} {xS : Nat → Int32} (hn : pj_sL (G, A, (c_L_law, RL, 4, (some .boolean), 17), P, S, Z) = nS) (hs : pj_sxs (G, A, (c_L_law, RL, 4, (some .boolean), 17), P, S, Z) = xS) : ∀ q ∈ tb_L_law_24 nS xS, pj_S (G, A, (c_L_law, RL, 4, (some .boolean), 17), P, S, Z) pj_eI q.1 q.2 :=
  List.forall_mem_cons.mpr ⟨qz_iconst C (show decode c_L_law 1350 = .ok (.iconst 1, 1) by decide +kernel) (by decide +kernel),
  List.forall_mem_cons.mpr ⟨qz_zret C (show decode c_L_law 1351 = .ok (.ireturn, 1) by decide +kernel) rfl,
  (fun q h => by cases h)⟩⟩
theorem sd_L_law {G : pj_E} {A : Nat → Prop} {P : pj_P} {S : pj_U} {Z : pj_Z} (C : pj_C (G, A, (c_L_law, RL, 4, (some .boolean), 17), P, S, Z)) {nS : Nat} {xS : Nat → Int32} (hn : pj_sL (G, A, (c_L_law, RL, 4, (some .boolean), 17), P, S, Z) = nS) (hs : pj_sxs (G, A, (c_L_law, RL, 4, (some .boolean), 17), P, S, Z) = xS) : ∀ q ∈ tb_L_law nS xS, pj_S (G, A, (c_L_law, RL, 4, (some .boolean), 17), P, S, Z) pj_eI q.1 q.2 := List.forall_mem_append.mpr ⟨sd_L_law_0 C hn hs, List.forall_mem_append.mpr ⟨sd_L_law_1 C hn hs, List.forall_mem_append.mpr ⟨sd_L_law_2 C hn hs, List.forall_mem_append.mpr ⟨sd_L_law_3 C hn hs, List.forall_mem_append.mpr ⟨sd_L_law_4 C hn hs, List.forall_mem_append.mpr ⟨sd_L_law_5 C hn hs, List.forall_mem_append.mpr ⟨sd_L_law_6 C hn hs, List.forall_mem_append.mpr ⟨sd_L_law_7 C hn hs, List.forall_mem_append.mpr ⟨sd_L_law_8 C hn hs, List.forall_mem_append.mpr ⟨sd_L_law_9 C hn hs, List.forall_mem_append.mpr ⟨sd_L_law_10 C hn hs, List.forall_mem_append.mpr ⟨sd_L_law_11 C hn hs, List.forall_mem_append.mpr ⟨sd_L_law_12 C hn hs, List.forall_mem_append.mpr ⟨sd_L_law_13 C hn hs, List.forall_mem_append.mpr ⟨sd_L_law_14 C hn hs, List.forall_mem_append.mpr ⟨sd_L_law_15 C hn hs, List.forall_mem_append.mpr ⟨sd_L_law_16 C hn hs, List.forall_mem_append.mpr ⟨sd_L_law_17 C hn hs, List.forall_mem_append.mpr ⟨sd_L_law_18 C hn hs, List.forall_mem_append.mpr ⟨sd_L_law_19 C hn hs, List.forall_mem_append.mpr ⟨sd_L_law_20 C hn hs, List.forall_mem_append.mpr ⟨sd_L_law_21 C hn hs, List.forall_mem_append.mpr ⟨sd_L_law_22 C hn hs, List.forall_mem_append.mpr ⟨sd_L_law_23 C hn hs, sd_L_law_24 C hn hs⟩⟩⟩⟩⟩⟩⟩⟩⟩⟩⟩⟩⟩⟩⟩⟩⟩⟩⟩⟩⟩⟩⟩⟩
noncomputable def C_L_law_18 (f : Int32 → pj_M → Option (Int32 × pj_M)) : pj_N (Int32 × pj_M) := fun L st m => match L, st with
  | [some (.inr (.inr (t0, w0, a0))), some (.inr (.inr (t1, w1, a1))), some (.inr (.inr (t2, w2, a2))), some (.inl x3)], [] => (match Nat.beq t0 5 && (Nat.beq w0 0 && (Nat.beq a0 0 && (Nat.beq t1 0 && (Nat.beq w1 10 && (Nat.beq a1 0 && (Nat.beq t2 0 && (Nat.beq w2 11 && Nat.beq a2 72))))))) with
    | true => f x3 m
    | false => none)
  | _, _ => none
set_option maxRecDepth 100000 in
set_option maxHeartbeats 4000000 in
theorem eq_L_law_18 (nS : Nat) (xS : Nat → Int32) (n1 : Nat) (x3 : Int32) (m : pj_M) : pj_run (tb_L_law nS xS) [(18, C_L_law_18 (H_L_law_18 nS xS n1))] 964 18 [some (.inr (.inr (5, 0, 0))), some (.inr (.inr (0, 10, 0))), some (.inr (.inr (0, 11, 72))), some (.inl x3)] [] m = H_L_law_18 nS xS (n1 + 1) x3 m := by rfl
theorem sg_L_law_18 {G : pj_E} {A : Nat → Prop} {P : pj_P} {S : pj_U} {Z : pj_Z} (C : pj_C (G, A, (c_L_law, RL, 4, (some .boolean), 17), P, S, Z)) {nS : Nat} {xS : Nat → Int32} (hn : pj_sL (G, A, (c_L_law, RL, 4, (some .boolean), 17), P, S, Z) = nS) (hs : pj_sxs (G, A, (c_L_law, RL, 4, (some .boolean), 17), P, S, Z) = xS) : ∀ n1, pj_G (G, A, (c_L_law, RL, 4, (some .boolean), 17), P, S, Z) pj_eI 18 (C_L_law_18 (H_L_law_18 nS xS n1)) := by
  intro n1
  induction n1 with
  | zero =>
    intro L st m r h hR
    unfold C_L_law_18 at h
    split at h
    · split at h
      · cases h
      · cases h
    · cases h
  | succ n1 ih1 =>
    intro L st m r h hR
    unfold C_L_law_18 at h
    split at h
    · split at h
      · rename_i hbq
        simp only [Bool.and_eq_true, Nat.beq_eq] at hbq
        obtain ⟨rfl, rfl, rfl, rfl, rfl, rfl, rfl, rfl, rfl⟩ := hbq
        exact pj_run_ok (sd_L_law C hn hs) (List.forall_mem_cons.mpr ⟨ih1, fun q h => by cases h⟩) 964 18 _ _ _ _ ((eq_L_law_18 _ _ _ _ _).trans h) hR
      · cases h
    · cases h
