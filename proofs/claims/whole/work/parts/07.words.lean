/-! PART 07: words of the tables that the rows use -/
theorem cw_9 : (.selects "AlikeSteps$Net" ⟨"AlikeSteps$Net", "shiftArcs", "(III)V"⟩ ⟨"AlikeSteps$Net", "shiftArcs", "(III)V"⟩ : Cond) ∈ pj_tb := pj_mem 9 (by decide +kernel) rfl
theorem cw_84 : (.initialized "AlikeSteps$Net" : Cond) ∈ pj_tb := pj_mem 84 (by decide +kernel) rfl
theorem cw_93 : (.initialized "java/lang/System" : Cond) ∈ pj_tb := pj_mem 93 (by decide +kernel) rfl
theorem cw_143 : (.fieldLink RX4 9 "AlikeSteps$Net" "kinds" "[I" : Cond) ∈ pj_tb := pj_mem 143 (by decide +kernel) rfl
theorem cw_144 : (.fieldLink RX4 15 "AlikeSteps$Net" "arcParts" "[I" : Cond) ∈ pj_tb := pj_mem 144 (by decide +kernel) rfl
theorem cw_145 : (.fieldLink RX4 18 "AlikeSteps$Net" "states" "I" : Cond) ∈ pj_tb := pj_mem 145 (by decide +kernel) rfl
theorem cw_146 : (.fieldLink RX4 22 "AlikeSteps$Net" "arcs" "I" : Cond) ∈ pj_tb := pj_mem 146 (by decide +kernel) rfl
theorem cw_147 : (.fieldLink RX4 25 "AlikeSteps$Net" "version" "I" : Cond) ∈ pj_tb := pj_mem 147 (by decide +kernel) rfl
theorem cw_414 : (.static ⟨"java/lang/System", "arraycopy", "(Ljava/lang/Object;ILjava/lang/Object;II)V"⟩ : Cond) ∈ pj_tb := pj_mem 414 (by decide +kernel) rfl
theorem cw_415 : (.native ⟨"java/lang/System", "arraycopy", "(Ljava/lang/Object;ILjava/lang/Object;II)V"⟩ : Cond) ∈ pj_tb := pj_mem 415 (by decide +kernel) rfl
theorem cw_489 : (.instanceMethod ⟨"AlikeSteps$Net", "hasState", "(I)Z"⟩ : Cond) ∈ pj_tb := pj_mem 489 (by decide +kernel) rfl
theorem cw_490 : (.selects "AlikeSteps$Net" ⟨"AlikeSteps$Net", "hasState", "(I)Z"⟩ ⟨"AlikeSteps$Net", "hasState", "(I)Z"⟩ : Cond) ∈ pj_tb := pj_mem 490 (by decide +kernel) rfl
theorem cw_491 : (.code ⟨"AlikeSteps$Net", "hasState", "(I)Z"⟩ prog_6_method_5_code 2 (some .boolean) : Cond) ∈ pj_tb := pj_mem 491 (by decide +kernel) rfl
theorem cw_497 : (.instanceMethod ⟨"AlikeSteps$Net", "insertArc", "(IIII)V"⟩ : Cond) ∈ pj_tb := pj_mem 497 (by decide +kernel) rfl
theorem cw_498 : (.selects "AlikeSteps$Net" ⟨"AlikeSteps$Net", "insertArc", "(IIII)V"⟩ ⟨"AlikeSteps$Net", "insertArc", "(IIII)V"⟩ : Cond) ∈ pj_tb := pj_mem 498 (by decide +kernel) rfl
theorem cw_499 : (.code ⟨"AlikeSteps$Net", "insertArc", "(IIII)V"⟩ prog_6_method_16_code 5 none : Cond) ∈ pj_tb := pj_mem 499 (by decide +kernel) rfl
theorem cw_500 : (.methodLink RX4 38 ⟨"AlikeSteps$Net", "shiftArcs", "(III)V"⟩ : Cond) ∈ pj_tb := pj_mem 500 (by decide +kernel) rfl
theorem cw_502 : (.instanceMethod ⟨"AlikeSteps$Net", "shiftArcs", "(III)V"⟩ : Cond) ∈ pj_tb := pj_mem 502 (by decide +kernel) rfl
theorem cw_503 : (.code ⟨"AlikeSteps$Net", "shiftArcs", "(III)V"⟩ prog_6_method_20_code 6 none : Cond) ∈ pj_tb := pj_mem 503 (by decide +kernel) rfl
theorem cw_504 : (.methodLink RX4 28 ⟨"java/lang/System", "arraycopy", "(Ljava/lang/Object;ILjava/lang/Object;II)V"⟩ : Cond) ∈ pj_tb := pj_mem 504 (by decide +kernel) rfl
theorem cw_505 : (.methodLink RX4 42 ⟨"AlikeSteps$Net", "setArcPart", "(III)V"⟩ : Cond) ∈ pj_tb := pj_mem 505 (by decide +kernel) rfl
theorem cw_506 : (.instanceMethod ⟨"AlikeSteps$Net", "setArcPart", "(III)V"⟩ : Cond) ∈ pj_tb := pj_mem 506 (by decide +kernel) rfl
theorem cw_507 : (.selects "AlikeSteps$Net" ⟨"AlikeSteps$Net", "setArcPart", "(III)V"⟩ ⟨"AlikeSteps$Net", "setArcPart", "(III)V"⟩ : Cond) ∈ pj_tb := pj_mem 507 (by decide +kernel) rfl
theorem cw_508 : (.code ⟨"AlikeSteps$Net", "setArcPart", "(III)V"⟩ prog_6_method_19_code 4 none : Cond) ∈ pj_tb := pj_mem 508 (by decide +kernel) rfl
theorem cw_593 : (.instanceMethod ⟨"AlikeSteps$Net", "kindOf", "(I)I"⟩ : Cond) ∈ pj_tb := pj_mem 593 (by decide +kernel) rfl
theorem cw_594 : (.selects "AlikeSteps$Net" ⟨"AlikeSteps$Net", "kindOf", "(I)I"⟩ ⟨"AlikeSteps$Net", "kindOf", "(I)I"⟩ : Cond) ∈ pj_tb := pj_mem 594 (by decide +kernel) rfl
theorem cw_595 : (.code ⟨"AlikeSteps$Net", "kindOf", "(I)I"⟩ prog_6_method_7_code 2 (some .int) : Cond) ∈ pj_tb := pj_mem 595 (by decide +kernel) rfl
theorem cw_697 : (.instanceMethod ⟨"AlikeSteps$Net", "marked", "()I"⟩ : Cond) ∈ pj_tb := pj_mem 697 (by decide +kernel) rfl
theorem cw_698 : (.selects "AlikeSteps$Net" ⟨"AlikeSteps$Net", "marked", "()I"⟩ ⟨"AlikeSteps$Net", "marked", "()I"⟩ : Cond) ∈ pj_tb := pj_mem 698 (by decide +kernel) rfl
theorem cw_699 : (.code ⟨"AlikeSteps$Net", "marked", "()I"⟩ prog_6_method_10_code 3 (some .int) : Cond) ∈ pj_tb := pj_mem 699 (by decide +kernel) rfl
theorem vcX0 : vwCl[0]? = some (RX0, TX0, 2) := rfl
theorem vcX1 : vwCl[1]? = some (RX1, TX1, 2) := rfl
theorem vcX2 : vwCl[2]? = some (RX2, TX2, 6) := rfl
theorem vcX3 : vwCl[3]? = some (RX3, TX3, 8) := rfl
theorem vcX4 : vwCl[4]? = some (RX4, TX4, 5) := rfl
theorem vcX5 : vwCl[5]? = some (RX5, TX5, 7) := rfl
theorem vcX6 : vwCl[6]? = some (RX6, TX6, 3) := rfl
theorem vcX7 : vwCl[7]? = some (RX7, TX7, 3) := rfl
theorem vcX8 : vwCl[8]? = some (RX8, TX8, 3) := rfl
theorem vcX9 : vwCl[9]? = some (RX9, TX9, 5) := rfl
theorem vcX10 : vwCl[10]? = some (RX10, TX10, 14) := rfl
theorem vcX11 : vwCl[11]? = some (RX11, TX11, 33) := rfl
abbrev pj_P : Type := Program × Launch × Env × Room
abbrev pj_U : Type := State × MethodId × Array Value × List Frame × Method × Code
abbrev pj_Z : Type := Nat × Nat × (State → Prop)
theorem cwm_max : Cond.code Lib.Math.max.name Lib.Math.max.code 2 (some .int) ∈ pj_tb := pj_mem 714 (by decide +kernel) rfl
theorem cwm_min : Cond.code Lib.Math.min.name Lib.Math.min.code 2 (some .int) ∈ pj_tb := pj_mem 757 (by decide +kernel) rfl
theorem cwm_lmin : Cond.code Lib.MathLoose.min_long.x Lib.MathLoose.min_long.code 4 (some .long) ∈ pj_tb := pj_mem 819 (by decide +kernel) rfl
