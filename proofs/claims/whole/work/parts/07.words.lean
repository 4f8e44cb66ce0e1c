/-! PART 07: words of the tables that the rows use -/
theorem pj_t1 {c : Cond} (h : c ∈ tables_1_1) (hg : goodWord c = true) : c ∈ pj_tb := List.mem_filter.mpr ⟨List.mem_append_right _ (List.mem_append_left _ h), hg⟩
theorem pj_t2 {c : Cond} (h : c ∈ tables_1_2) (hg : goodWord c = true) : c ∈ pj_tb := List.mem_filter.mpr ⟨List.mem_append_right _ (List.mem_append_right _ (List.mem_append_left _ h)), hg⟩
theorem pj_t3 {c : Cond} (h : c ∈ tables_1_3) (hg : goodWord c = true) : c ∈ pj_tb := List.mem_filter.mpr ⟨List.mem_append_right _ (List.mem_append_right _ (List.mem_append_right _ (List.mem_append_left _ h))), hg⟩
theorem pj_t4 {c : Cond} (h : c ∈ tables_1_4) (hg : goodWord c = true) : c ∈ pj_tb := List.mem_filter.mpr ⟨List.mem_append_right _ (List.mem_append_right _ (List.mem_append_right _ (List.mem_append_right _ (List.mem_append_left _ h)))), hg⟩
theorem pj_t5 {c : Cond} (h : c ∈ tables_1_5) (hg : goodWord c = true) : c ∈ pj_tb := List.mem_filter.mpr ⟨List.mem_append_right _ (List.mem_append_right _ (List.mem_append_right _ (List.mem_append_right _ (List.mem_append_right _ (List.mem_append_left _ h))))), hg⟩
theorem pj_t6 {c : Cond} (h : c ∈ tables_1_6) (hg : goodWord c = true) : c ∈ pj_tb := List.mem_filter.mpr ⟨List.mem_append_right _ (List.mem_append_right _ (List.mem_append_right _ (List.mem_append_right _ (List.mem_append_right _ (List.mem_append_right _ (h)))))), hg⟩
set_option maxRecDepth 5000 in
theorem cw_0 : (.selects "AlikeSteps" ⟨"AlikeSteps", "found", "(I)I"⟩ ⟨"AlikeSteps", "found", "(I)I"⟩ : Cond) ∈ pj_tb := pj_mem 0 rfl rfl
set_option maxRecDepth 5000 in
theorem cw_1 : (.selects "AlikeSteps" ⟨"AlikeSteps", "fine", "(I)I"⟩ ⟨"AlikeSteps", "fine", "(I)I"⟩ : Cond) ∈ pj_tb := pj_mem 1 rfl rfl
set_option maxRecDepth 5000 in
theorem cw_2 : (.selects "AlikeSteps$Tape" ⟨"AlikeSteps$Tape", "readStates", "(LAlikeSteps$Net;)I"⟩ ⟨"AlikeSteps$Tape", "readStates", "(LAlikeSteps$Net;)I"⟩ : Cond) ∈ pj_tb := pj_mem 2 rfl rfl
set_option maxRecDepth 5000 in
theorem cw_3 : (.selects "AlikeSteps$Tape" ⟨"AlikeSteps$Tape", "next", "()I"⟩ ⟨"AlikeSteps$Tape", "next", "()I"⟩ : Cond) ∈ pj_tb := pj_mem 3 rfl rfl
set_option maxRecDepth 5000 in
theorem cw_4 : (.selects "AlikeSteps$Tape" ⟨"AlikeSteps$Tape", "passes", "(C)Z"⟩ ⟨"AlikeSteps$Tape", "passes", "(C)Z"⟩ : Cond) ∈ pj_tb := pj_mem 4 rfl rfl
set_option maxRecDepth 5000 in
theorem cw_5 : (.selects "AlikeSteps$Tape" ⟨"AlikeSteps$Tape", "readArcs", "(LAlikeSteps$Net;)I"⟩ ⟨"AlikeSteps$Tape", "readArcs", "(LAlikeSteps$Net;)I"⟩ : Cond) ∈ pj_tb := pj_mem 5 rfl rfl
set_option maxRecDepth 5000 in
theorem cw_6 : (.selects "AlikeSteps$Tape" ⟨"AlikeSteps$Tape", "readEnds", "(LAlikeSteps$Net;I)I"⟩ ⟨"AlikeSteps$Tape", "readEnds", "(LAlikeSteps$Net;I)I"⟩ : Cond) ∈ pj_tb := pj_mem 6 rfl rfl
set_option maxRecDepth 5000 in
theorem cw_7 : (.selects "AlikeSteps$Tape" ⟨"AlikeSteps$Tape", "readNumber", "(LAlikeSteps$Net;)I"⟩ ⟨"AlikeSteps$Tape", "readNumber", "(LAlikeSteps$Net;)I"⟩ : Cond) ∈ pj_tb := pj_mem 7 rfl rfl
set_option maxRecDepth 5000 in
theorem cw_8 : (.selects "AlikeSteps$Tape" ⟨"AlikeSteps$Tape", "isFigure", "(I)Z"⟩ ⟨"AlikeSteps$Tape", "isFigure", "(I)Z"⟩ : Cond) ∈ pj_tb := pj_mem 8 rfl rfl
set_option maxRecDepth 5000 in
theorem cw_9 : (.selects "AlikeSteps$Net" ⟨"AlikeSteps$Net", "shiftArcs", "(III)V"⟩ ⟨"AlikeSteps$Net", "shiftArcs", "(III)V"⟩ : Cond) ∈ pj_tb := pj_mem 9 rfl rfl
set_option maxRecDepth 5000 in
theorem cw_10 : (.selects "AlikeSteps$Acts" ⟨"AlikeSteps$Acts", "note", "(IIIII)V"⟩ ⟨"AlikeSteps$Acts", "note", "(IIIII)V"⟩ : Cond) ∈ pj_tb := pj_mem 10 rfl rfl
set_option maxRecDepth 5000 in
theorem cw_11 : (.selects "AlikeSteps$Steps" ⟨"AlikeSteps$Steps", "openArc", "(LAlikeSteps$Net;I)V"⟩ ⟨"AlikeSteps$Steps", "openArc", "(LAlikeSteps$Net;I)V"⟩ : Cond) ∈ pj_tb := pj_mem 11 rfl rfl
set_option maxRecDepth 5000 in
theorem cw_12 : (.selects "AlikeSteps$Steps" ⟨"AlikeSteps$Steps", "closeSilent", "()V"⟩ ⟨"AlikeSteps$Steps", "closeSilent", "()V"⟩ : Cond) ∈ pj_tb := pj_mem 12 rfl rfl
set_option maxRecDepth 5000 in
theorem cw_13 : (.selects "AlikeSteps$Steps" ⟨"AlikeSteps$Steps", "closeLetters", "()V"⟩ ⟨"AlikeSteps$Steps", "closeLetters", "()V"⟩ : Cond) ∈ pj_tb := pj_mem 13 rfl rfl
set_option maxRecDepth 5000 in
theorem cw_14 : (.selects "AlikeSteps$Parting" ⟨"AlikeSteps$Parting", "numberBlocks", "(I)I"⟩ ⟨"AlikeSteps$Parting", "numberBlocks", "(I)I"⟩ : Cond) ∈ pj_tb := pj_mem 14 rfl rfl
set_option maxRecDepth 5000 in
theorem cw_15 : (.selects "AlikeSteps$Parting" ⟨"AlikeSteps$Parting", "firstLike", "(II)I"⟩ ⟨"AlikeSteps$Parting", "firstLike", "(II)I"⟩ : Cond) ∈ pj_tb := pj_mem 15 rfl rfl
set_option maxRecDepth 5000 in
theorem cw_16 : (.selects "AlikeSteps$Parting" ⟨"AlikeSteps$Parting", "partOn", "(LAlikeSteps$Steps;)V"⟩ ⟨"AlikeSteps$Parting", "partOn", "(LAlikeSteps$Steps;)V"⟩ : Cond) ∈ pj_tb := pj_mem 16 rfl rfl
set_option maxRecDepth 5000 in
theorem cw_17 : (.selects "AlikeSteps$Parting" ⟨"AlikeSteps$Parting", "signsBy", "(LAlikeSteps$Steps;II)J"⟩ ⟨"AlikeSteps$Parting", "signsBy", "(LAlikeSteps$Steps;II)J"⟩ : Cond) ∈ pj_tb := pj_mem 17 rfl rfl
set_option maxRecDepth 5000 in
theorem cw_18 : (.selects "AlikeSteps$Parting" ⟨"AlikeSteps$Parting", "statesOf", "(II)I"⟩ ⟨"AlikeSteps$Parting", "statesOf", "(II)I"⟩ : Cond) ∈ pj_tb := pj_mem 18 rfl rfl
set_option maxRecDepth 5000 in
theorem cw_19 : (.selects "AlikeSteps$Teller" ⟨"AlikeSteps$Teller", "findLead", "(LAlikeSteps$Steps;LAlikeSteps$Parting;II)I"⟩ ⟨"AlikeSteps$Teller", "findLead", "(LAlikeSteps$Steps;LAlikeSteps$Parting;II)I"⟩ : Cond) ∈ pj_tb := pj_mem 19 rfl rfl
set_option maxRecDepth 5000 in
theorem cw_20 : (.selects "AlikeSteps$Teller" ⟨"AlikeSteps$Teller", "weighAll", "(ILAlikeSteps$Steps;IZ)V"⟩ ⟨"AlikeSteps$Teller", "weighAll", "(ILAlikeSteps$Steps;IZ)V"⟩ : Cond) ∈ pj_tb := pj_mem 20 rfl rfl
set_option maxRecDepth 5000 in
theorem cw_21 : (.selects "AlikeSteps$Teller" ⟨"AlikeSteps$Teller", "weigh", "(LAlikeSteps$Steps;II)J"⟩ ⟨"AlikeSteps$Teller", "weigh", "(LAlikeSteps$Steps;II)J"⟩ : Cond) ∈ pj_tb := pj_mem 21 rfl rfl
set_option maxRecDepth 5000 in
theorem cw_22 : (.selects "AlikeSteps$Teller" ⟨"AlikeSteps$Teller", "sizeUpTo", "(III)J"⟩ ⟨"AlikeSteps$Teller", "sizeUpTo", "(III)J"⟩ : Cond) ∈ pj_tb := pj_mem 22 rfl rfl
set_option maxRecDepth 5000 in
theorem cw_23 : (.selects "AlikeSteps$Teller" ⟨"AlikeSteps$Teller", "memberAt", "(IIJ)I"⟩ ⟨"AlikeSteps$Teller", "memberAt", "(IIJ)I"⟩ : Cond) ∈ pj_tb := pj_mem 23 rfl rfl
set_option maxRecDepth 5000 in
theorem cw_24 : (.selects "AlikeSteps$Formula" ⟨"AlikeSteps$Formula", "push", "(I)V"⟩ ⟨"AlikeSteps$Formula", "push", "(I)V"⟩ : Cond) ∈ pj_tb := pj_mem 24 rfl rfl
set_option maxRecDepth 5000 in
theorem cw_25 : (.selects "AlikeSteps$Formula" ⟨"AlikeSteps$Formula", "takeList", "(I)V"⟩ ⟨"AlikeSteps$Formula", "takeList", "(I)V"⟩ : Cond) ∈ pj_tb := pj_mem 25 rfl rfl
set_option maxRecDepth 5000 in
theorem cw_26 : (.selects "AlikeSteps$Steps" ⟨"AlikeSteps$Steps", "way", "(II)I"⟩ ⟨"AlikeSteps$Steps", "way", "(II)I"⟩ : Cond) ∈ pj_tb := pj_mem 26 rfl rfl
set_option maxRecDepth 5000 in
theorem cw_27 : (.selects "AlikeSteps" ⟨"AlikeSteps", "tellsBlocks", "(ILAlikeSteps$Parting;)Z"⟩ ⟨"AlikeSteps", "tellsBlocks", "(ILAlikeSteps$Parting;)Z"⟩ : Cond) ∈ pj_tb := pj_mem 27 rfl rfl
set_option maxRecDepth 5000 in
theorem cw_28 : (.selects "AlikeSteps$Asker" ⟨"AlikeSteps$Asker", "sizeBody", "()I"⟩ ⟨"AlikeSteps$Asker", "sizeBody", "()I"⟩ : Cond) ∈ pj_tb := pj_mem 28 rfl rfl
set_option maxRecDepth 5000 in
theorem cw_29 : (.selects "AlikeSteps$Asker" ⟨"AlikeSteps$Asker", "markBody", "()I"⟩ ⟨"AlikeSteps$Asker", "markBody", "()I"⟩ : Cond) ∈ pj_tb := pj_mem 29 rfl rfl
set_option maxRecDepth 5000 in
theorem cw_30 : (.selects "AlikeSteps$Asker" ⟨"AlikeSteps$Asker", "body", "(II)I"⟩ ⟨"AlikeSteps$Asker", "body", "(II)I"⟩ : Cond) ∈ pj_tb := pj_mem 30 rfl rfl
set_option maxRecDepth 5000 in
theorem cw_31 : (.selects "AlikeSteps$Asker" ⟨"AlikeSteps$Asker", "leave", "(I)V"⟩ ⟨"AlikeSteps$Asker", "leave", "(I)V"⟩ : Cond) ∈ pj_tb := pj_mem 31 rfl rfl
set_option maxRecDepth 5000 in
theorem cw_32 : (.selects "AlikeStepsModel" ⟨"AlikeStepsModel", "found", "(I)I"⟩ ⟨"AlikeStepsModel", "found", "(I)I"⟩ : Cond) ∈ pj_tb := pj_mem 32 rfl rfl
set_option maxRecDepth 5000 in
theorem cw_33 : (.selects "AlikeStepsModel" ⟨"AlikeStepsModel", "well", "(I)I"⟩ ⟨"AlikeStepsModel", "well", "(I)I"⟩ : Cond) ∈ pj_tb := pj_mem 33 rfl rfl
set_option maxRecDepth 5000 in
theorem cw_34 : (.selects "AlikeStepsModel" ⟨"AlikeStepsModel", "isMissing", "(I)Z"⟩ ⟨"AlikeStepsModel", "isMissing", "(I)Z"⟩ : Cond) ∈ pj_tb := pj_mem 34 rfl rfl
set_option maxRecDepth 5000 in
theorem cw_35 : (.selects "AlikeStepsModel" ⟨"AlikeStepsModel", "isPart", "(III)Z"⟩ ⟨"AlikeStepsModel", "isPart", "(III)Z"⟩ : Cond) ∈ pj_tb := pj_mem 35 rfl rfl
set_option maxRecDepth 5000 in
theorem cw_36 : (.selects "AlikeStepsModel" ⟨"AlikeStepsModel", "advances", "()V"⟩ ⟨"AlikeStepsModel", "advances", "()V"⟩ : Cond) ∈ pj_tb := pj_mem 36 rfl rfl
set_option maxRecDepth 5000 in
theorem cw_37 : (.selects "AlikeStepsModel" ⟨"AlikeStepsModel", "byteAt", "(I)I"⟩ ⟨"AlikeStepsModel", "byteAt", "(I)I"⟩ : Cond) ∈ pj_tb := pj_mem 37 rfl rfl
set_option maxRecDepth 5000 in
theorem cw_38 : (.selects "AlikeStepsModel" ⟨"AlikeStepsModel", "isWell", "()Z"⟩ ⟨"AlikeStepsModel", "isWell", "()Z"⟩ : Cond) ∈ pj_tb := pj_mem 38 rfl rfl
set_option maxRecDepth 5000 in
theorem cw_39 : (.selects "AlikeStepsModel" ⟨"AlikeStepsModel", "readsState", "()V"⟩ ⟨"AlikeStepsModel", "readsState", "()V"⟩ : Cond) ∈ pj_tb := pj_mem 39 rfl rfl
set_option maxRecDepth 5000 in
theorem cw_40 : (.selects "AlikeStepsModel" ⟨"AlikeStepsModel", "takes", "(ZI)I"⟩ ⟨"AlikeStepsModel", "takes", "(ZI)I"⟩ : Cond) ∈ pj_tb := pj_mem 40 rfl rfl
set_option maxRecDepth 5000 in
theorem cw_41 : (.selects "AlikeStepsModel" ⟨"AlikeStepsModel", "must", "(Z)V"⟩ ⟨"AlikeStepsModel", "must", "(Z)V"⟩ : Cond) ∈ pj_tb := pj_mem 41 rfl rfl
set_option maxRecDepth 5000 in
theorem cw_42 : (.selects "AlikeStepsModel" ⟨"AlikeStepsModel", "readsArc", "()V"⟩ ⟨"AlikeStepsModel", "readsArc", "()V"⟩ : Cond) ∈ pj_tb := pj_mem 42 rfl rfl
set_option maxRecDepth 5000 in
theorem cw_43 : (.selects "AlikeStepsModel" ⟨"AlikeStepsModel", "figure", "(II)I"⟩ ⟨"AlikeStepsModel", "figure", "(II)I"⟩ : Cond) ∈ pj_tb := pj_mem 43 rfl rfl
set_option maxRecDepth 5000 in
theorem cw_44 : (.selects "AlikeStepsModel" ⟨"AlikeStepsModel", "isState", "(I)Z"⟩ ⟨"AlikeStepsModel", "isState", "(I)Z"⟩ : Cond) ∈ pj_tb := pj_mem 44 rfl rfl
set_option maxRecDepth 5000 in
theorem cw_45 : (.selects "AlikeStepsModel" ⟨"AlikeStepsModel", "notes", "()V"⟩ ⟨"AlikeStepsModel", "notes", "()V"⟩ : Cond) ∈ pj_tb := pj_mem 45 rfl rfl
set_option maxRecDepth 5000 in
theorem cw_46 : (.selects "AlikeStepsModel" ⟨"AlikeStepsModel", "isArc", "(I)Z"⟩ ⟨"AlikeStepsModel", "isArc", "(I)Z"⟩ : Cond) ∈ pj_tb := pj_mem 46 rfl rfl
set_option maxRecDepth 5000 in
theorem cw_47 : (.selects "AlikeStepsModel" ⟨"AlikeStepsModel", "looks", "([II)V"⟩ ⟨"AlikeStepsModel", "looks", "([II)V"⟩ : Cond) ∈ pj_tb := pj_mem 47 rfl rfl
set_option maxRecDepth 5000 in
theorem cw_48 : (.selects "AlikeStepsModel" ⟨"AlikeStepsModel", "goesFrom", "(III)V"⟩ ⟨"AlikeStepsModel", "goesFrom", "(III)V"⟩ : Cond) ∈ pj_tb := pj_mem 48 rfl rfl
set_option maxRecDepth 5000 in
theorem cw_49 : (.selects "AlikeStepsModel" ⟨"AlikeStepsModel", "states", "()I"⟩ ⟨"AlikeStepsModel", "states", "()I"⟩ : Cond) ∈ pj_tb := pj_mem 49 rfl rfl
set_option maxRecDepth 5000 in
theorem cw_50 : (.selects "AlikeStepsModel" ⟨"AlikeStepsModel", "reaches", "(II)I"⟩ ⟨"AlikeStepsModel", "reaches", "(II)I"⟩ : Cond) ∈ pj_tb := pj_mem 50 rfl rfl
set_option maxRecDepth 5000 in
theorem cw_51 : (.selects "AlikeStepsModel" ⟨"AlikeStepsModel", "to", "(II)I"⟩ ⟨"AlikeStepsModel", "to", "(II)I"⟩ : Cond) ∈ pj_tb := pj_mem 51 rfl rfl
set_option maxRecDepth 5000 in
theorem cw_52 : (.selects "AlikeStepsModel" ⟨"AlikeStepsModel", "moving", "(III)I"⟩ ⟨"AlikeStepsModel", "moving", "(III)I"⟩ : Cond) ∈ pj_tb := pj_mem 52 rfl rfl
set_option maxRecDepth 5000 in
theorem cw_53 : (.selects "AlikeStepsModel" ⟨"AlikeStepsModel", "close", "(I)I"⟩ ⟨"AlikeStepsModel", "close", "(I)I"⟩ : Cond) ∈ pj_tb := pj_mem 53 rfl rfl
set_option maxRecDepth 5000 in
theorem cw_54 : (.selects "AlikeStepsModel" ⟨"AlikeStepsModel", "blockOf", "(II)I"⟩ ⟨"AlikeStepsModel", "blockOf", "(II)I"⟩ : Cond) ∈ pj_tb := pj_mem 54 rfl rfl
set_option maxRecDepth 5000 in
theorem cw_55 : (.selects "AlikeStepsModel" ⟨"AlikeStepsModel", "partsBy", "(I)I"⟩ ⟨"AlikeStepsModel", "partsBy", "(I)I"⟩ : Cond) ∈ pj_tb := pj_mem 55 rfl rfl
set_option maxRecDepth 5000 in
theorem cw_56 : (.selects "AlikeStepsModel" ⟨"AlikeStepsModel", "isMarked", "(I)Z"⟩ ⟨"AlikeStepsModel", "isMarked", "(I)Z"⟩ : Cond) ∈ pj_tb := pj_mem 56 rfl rfl
set_option maxRecDepth 5000 in
theorem cw_57 : (.selects "AlikeStepsModel" ⟨"AlikeStepsModel", "numbers", "(I)I"⟩ ⟨"AlikeStepsModel", "numbers", "(I)I"⟩ : Cond) ∈ pj_tb := pj_mem 57 rfl rfl
set_option maxRecDepth 5000 in
theorem cw_58 : (.selects "AlikeStepsModel" ⟨"AlikeStepsModel", "blockIn", "(II)I"⟩ ⟨"AlikeStepsModel", "blockIn", "(II)I"⟩ : Cond) ∈ pj_tb := pj_mem 58 rfl rfl
set_option maxRecDepth 5000 in
theorem cw_59 : (.selects "AlikeStepsModel" ⟨"AlikeStepsModel", "signsOf", "(III)J"⟩ ⟨"AlikeStepsModel", "signsOf", "(III)J"⟩ : Cond) ∈ pj_tb := pj_mem 59 rfl rfl
set_option maxRecDepth 5000 in
theorem cw_60 : (.selects "AlikeStepsModel" ⟨"AlikeStepsModel", "alikeIn", "(II)I"⟩ ⟨"AlikeStepsModel", "alikeIn", "(II)I"⟩ : Cond) ∈ pj_tb := pj_mem 60 rfl rfl
set_option maxRecDepth 5000 in
theorem cw_61 : (.selects "AlikeStepsModel" ⟨"AlikeStepsModel", "bitsOf", "(III)J"⟩ ⟨"AlikeStepsModel", "bitsOf", "(III)J"⟩ : Cond) ∈ pj_tb := pj_mem 61 rfl rfl
set_option maxRecDepth 5000 in
theorem cw_62 : (.selects "AlikeStepsModel" ⟨"AlikeStepsModel", "isSystem", "()Z"⟩ ⟨"AlikeStepsModel", "isSystem", "()Z"⟩ : Cond) ∈ pj_tb := pj_mem 62 rfl rfl
set_option maxRecDepth 5000 in
theorem cw_63 : (.selects "AlikeStepsModel" ⟨"AlikeStepsModel", "partedIn", "(II)I"⟩ ⟨"AlikeStepsModel", "partedIn", "(II)I"⟩ : Cond) ∈ pj_tb := pj_mem 63 rfl rfl
set_option maxRecDepth 5000 in
theorem cw_64 : (.selects "AlikeStepsModel" ⟨"AlikeStepsModel", "isAsked", "(III)Z"⟩ ⟨"AlikeStepsModel", "isAsked", "(III)Z"⟩ : Cond) ∈ pj_tb := pj_mem 64 rfl rfl
set_option maxRecDepth 5000 in
theorem cw_65 : (.selects "AlikeStepsModel" ⟨"AlikeStepsModel", "tellsAll", "(I)V"⟩ ⟨"AlikeStepsModel", "tellsAll", "(I)V"⟩ : Cond) ∈ pj_tb := pj_mem 65 rfl rfl
set_option maxRecDepth 5000 in
theorem cw_66 : (.selects "AlikeStepsModel" ⟨"AlikeStepsModel", "opens", "(IIII)V"⟩ ⟨"AlikeStepsModel", "opens", "(IIII)V"⟩ : Cond) ∈ pj_tb := pj_mem 66 rfl rfl
set_option maxRecDepth 5000 in
theorem cw_67 : (.selects "AlikeStepsModel" ⟨"AlikeStepsModel", "sums", "(III)V"⟩ ⟨"AlikeStepsModel", "sums", "(III)V"⟩ : Cond) ∈ pj_tb := pj_mem 67 rfl rfl
set_option maxRecDepth 5000 in
theorem cw_68 : (.selects "AlikeStepsModel" ⟨"AlikeStepsModel", "codeAt", "(IIII)I"⟩ ⟨"AlikeStepsModel", "codeAt", "(IIII)I"⟩ : Cond) ∈ pj_tb := pj_mem 68 rfl rfl
set_option maxRecDepth 5000 in
theorem cw_69 : (.selects "AlikeStepsModel" ⟨"AlikeStepsModel", "movingInto", "(III)I"⟩ ⟨"AlikeStepsModel", "movingInto", "(III)I"⟩ : Cond) ∈ pj_tb := pj_mem 69 rfl rfl
set_option maxRecDepth 5000 in
theorem cw_70 : (.selects "AlikeStepsModel" ⟨"AlikeStepsModel", "smallOf", "(III)I"⟩ ⟨"AlikeStepsModel", "smallOf", "(III)I"⟩ : Cond) ∈ pj_tb := pj_mem 70 rfl rfl
set_option maxRecDepth 5000 in
theorem cw_71 : (.selects "AlikeStepsModel" ⟨"AlikeStepsModel", "pairsOf", "(I)I"⟩ ⟨"AlikeStepsModel", "pairsOf", "(I)I"⟩ : Cond) ∈ pj_tb := pj_mem 71 rfl rfl
set_option maxRecDepth 5000 in
theorem cw_72 : (.selects "AlikeStepsModel" ⟨"AlikeStepsModel", "pairAt", "(II)I"⟩ ⟨"AlikeStepsModel", "pairAt", "(II)I"⟩ : Cond) ∈ pj_tb := pj_mem 72 rfl rfl
set_option maxRecDepth 5000 in
theorem cw_73 : (.selects "AlikeStepsModel" ⟨"AlikeStepsModel", "kindIn", "(I)I"⟩ ⟨"AlikeStepsModel", "kindIn", "(I)I"⟩ : Cond) ∈ pj_tb := pj_mem 73 rfl rfl
set_option maxRecDepth 5000 in
theorem cw_74 : (.selects "AlikeStepsModel" ⟨"AlikeStepsModel", "doorSize", "(I)I"⟩ ⟨"AlikeStepsModel", "doorSize", "(I)I"⟩ : Cond) ∈ pj_tb := pj_mem 74 rfl rfl
set_option maxRecDepth 5000 in
theorem cw_75 : (.selects "AlikeStepsModel" ⟨"AlikeStepsModel", "traces", "(I)V"⟩ ⟨"AlikeStepsModel", "traces", "(I)V"⟩ : Cond) ∈ pj_tb := pj_mem 75 rfl rfl
set_option maxRecDepth 5000 in
theorem cw_76 : (.selects "AlikeStepsModel" ⟨"AlikeStepsModel", "pairs", "(I)I"⟩ ⟨"AlikeStepsModel", "pairs", "(I)I"⟩ : Cond) ∈ pj_tb := pj_mem 76 rfl rfl
set_option maxRecDepth 5000 in
theorem cw_77 : (.selects "AlikeStepsModel" ⟨"AlikeStepsModel", "placeSize", "(I)I"⟩ ⟨"AlikeStepsModel", "placeSize", "(I)I"⟩ : Cond) ∈ pj_tb := pj_mem 77 rfl rfl
set_option maxRecDepth 5000 in
theorem cw_78 : (.selects "AlikeStepsModel" ⟨"AlikeStepsModel", "placeMark", "(I)I"⟩ ⟨"AlikeStepsModel", "placeMark", "(I)I"⟩ : Cond) ∈ pj_tb := pj_mem 78 rfl rfl
set_option maxRecDepth 5000 in
theorem cw_79 : (.selects "AlikeStepsModel" ⟨"AlikeStepsModel", "doorMark", "(I)I"⟩ ⟨"AlikeStepsModel", "doorMark", "(I)I"⟩ : Cond) ∈ pj_tb := pj_mem 79 rfl rfl
set_option maxRecDepth 5000 in
theorem cw_81 : (.initialized "AlikeSteps" : Cond) ∈ pj_tb := pj_t1 (List.mem_of_getElem? (i := 1) (by rfl)) (by rfl)
set_option maxRecDepth 5000 in
theorem cw_82 : (.initialized "AlikeSteps$Rows" : Cond) ∈ pj_tb := pj_t1 (List.mem_of_getElem? (i := 2) (by rfl)) (by rfl)
set_option maxRecDepth 5000 in
theorem cw_83 : (.initialized "AlikeSteps$Tape" : Cond) ∈ pj_tb := pj_t1 (List.mem_of_getElem? (i := 3) (by rfl)) (by rfl)
set_option maxRecDepth 5000 in
theorem cw_84 : (.initialized "AlikeSteps$Net" : Cond) ∈ pj_tb := pj_t1 (List.mem_of_getElem? (i := 4) (by rfl)) (by rfl)
set_option maxRecDepth 5000 in
theorem cw_85 : (.initialized "AlikeSteps$Acts" : Cond) ∈ pj_tb := pj_t1 (List.mem_of_getElem? (i := 5) (by rfl)) (by rfl)
set_option maxRecDepth 5000 in
theorem cw_86 : (.initialized "AlikeSteps$Alike" : Cond) ∈ pj_tb := pj_t1 (List.mem_of_getElem? (i := 6) (by rfl)) (by rfl)
set_option maxRecDepth 5000 in
theorem cw_87 : (.initialized "AlikeSteps$Steps" : Cond) ∈ pj_tb := pj_t1 (List.mem_of_getElem? (i := 7) (by rfl)) (by rfl)
set_option maxRecDepth 5000 in
theorem cw_88 : (.initialized "AlikeSteps$Parting" : Cond) ∈ pj_tb := pj_t1 (List.mem_of_getElem? (i := 8) (by rfl)) (by rfl)
set_option maxRecDepth 5000 in
theorem cw_89 : (.initialized "AlikeSteps$Formula" : Cond) ∈ pj_tb := pj_t1 (List.mem_of_getElem? (i := 9) (by rfl)) (by rfl)
set_option maxRecDepth 5000 in
theorem cw_90 : (.initialized "AlikeSteps$Asker" : Cond) ∈ pj_tb := pj_t1 (List.mem_of_getElem? (i := 10) (by rfl)) (by rfl)
set_option maxRecDepth 5000 in
theorem cw_91 : (.initialized "AlikeSteps$Teller" : Cond) ∈ pj_tb := pj_t1 (List.mem_of_getElem? (i := 11) (by rfl)) (by rfl)
set_option maxRecDepth 5000 in
theorem cw_92 : (.initialized "AlikeStepsModel" : Cond) ∈ pj_tb := pj_t1 (List.mem_of_getElem? (i := 12) (by rfl)) (by rfl)
set_option maxRecDepth 5000 in
theorem cw_93 : (.initialized "java/lang/System" : Cond) ∈ pj_tb := pj_t1 (List.mem_of_getElem? (i := 13) (by rfl)) (by rfl)
set_option maxRecDepth 5000 in
theorem cw_94 : (.initialized "java/lang/Math" : Cond) ∈ pj_tb := pj_t1 (List.mem_of_getElem? (i := 14) (by rfl)) (by rfl)
set_option maxRecDepth 5000 in
theorem cw_95 : (.initialized "java/lang/Integer" : Cond) ∈ pj_tb := pj_t1 (List.mem_of_getElem? (i := 15) (by rfl)) (by rfl)
set_option maxRecDepth 5000 in
theorem cw_110 : (.fieldLink RX6 9 "AlikeSteps$Rows" "lanes" "[I" : Cond) ∈ pj_tb := pj_t1 (List.mem_of_getElem? (i := 30) (by rfl)) (by rfl)
set_option maxRecDepth 5000 in
theorem cw_111 : (.fieldLink RX6 13 "AlikeSteps$Rows" "lengths" "[I" : Cond) ∈ pj_tb := pj_t1 (List.mem_of_getElem? (i := 31) (by rfl)) (by rfl)
set_option maxRecDepth 5000 in
theorem cw_112 : (.fieldLink RX6 16 "AlikeSteps$Rows" "items" "[I" : Cond) ∈ pj_tb := pj_t1 (List.mem_of_getElem? (i := 32) (by rfl)) (by rfl)
set_option maxRecDepth 5000 in
theorem cw_127 : (.fieldLink RX8 11 "AlikeSteps$Tape" "bytes" "[I" : Cond) ∈ pj_tb := pj_t1 (List.mem_of_getElem? (i := 47) (by rfl)) (by rfl)
set_option maxRecDepth 5000 in
theorem cw_128 : (.fieldLink RX8 15 "AlikeSteps$Tape" "length" "I" : Cond) ∈ pj_tb := pj_t1 (List.mem_of_getElem? (i := 48) (by rfl)) (by rfl)
set_option maxRecDepth 5000 in
theorem cw_129 : (.fieldLink RX8 19 "AlikeSteps$Tape" "at" "I" : Cond) ∈ pj_tb := pj_t1 (List.mem_of_getElem? (i := 49) (by rfl)) (by rfl)
set_option maxRecDepth 5000 in
theorem cw_143 : (.fieldLink RX4 9 "AlikeSteps$Net" "kinds" "[I" : Cond) ∈ pj_tb := pj_t1 (List.mem_of_getElem? (i := 63) (by rfl)) (by rfl)
set_option maxRecDepth 5000 in
theorem cw_144 : (.fieldLink RX4 15 "AlikeSteps$Net" "arcParts" "[I" : Cond) ∈ pj_tb := pj_t1 (List.mem_of_getElem? (i := 64) (by rfl)) (by rfl)
set_option maxRecDepth 5000 in
theorem cw_145 : (.fieldLink RX4 18 "AlikeSteps$Net" "states" "I" : Cond) ∈ pj_tb := pj_t1 (List.mem_of_getElem? (i := 65) (by rfl)) (by rfl)
set_option maxRecDepth 5000 in
theorem cw_146 : (.fieldLink RX4 22 "AlikeSteps$Net" "arcs" "I" : Cond) ∈ pj_tb := pj_t1 (List.mem_of_getElem? (i := 66) (by rfl)) (by rfl)
set_option maxRecDepth 5000 in
theorem cw_147 : (.fieldLink RX4 25 "AlikeSteps$Net" "version" "I" : Cond) ∈ pj_tb := pj_t1 (List.mem_of_getElem? (i := 67) (by rfl)) (by rfl)
set_option maxRecDepth 5000 in
theorem cw_166 : (.fieldLink RX0 9 "AlikeSteps$Acts" "log" "[I" : Cond) ∈ pj_tb := pj_t1 (List.mem_of_getElem? (i := 86) (by rfl)) (by rfl)
set_option maxRecDepth 5000 in
theorem cw_167 : (.fieldLink RX0 13 "AlikeSteps$Acts" "kept" "I" : Cond) ∈ pj_tb := pj_t1 (List.mem_of_getElem? (i := 87) (by rfl)) (by rfl)
set_option maxRecDepth 5000 in
theorem cw_185 : (.fieldLink RX7 9 "AlikeSteps$Steps" "goes" "[I" : Cond) ∈ pj_tb := pj_t1 (List.mem_of_getElem? (i := 105) (by rfl)) (by rfl)
set_option maxRecDepth 5000 in
theorem cw_186 : (.fieldLink RX7 15 "AlikeSteps$Steps" "closed" "[I" : Cond) ∈ pj_tb := pj_t1 (List.mem_of_getElem? (i := 106) (by rfl)) (by rfl)
set_option maxRecDepth 5000 in
theorem cw_187 : (.fieldLink RX7 18 "AlikeSteps$Steps" "seen" "I" : Cond) ∈ pj_tb := pj_t1 (List.mem_of_getElem? (i := 107) (by rfl)) (by rfl)
set_option maxRecDepth 5000 in
theorem cw_202 : (.fieldLink RX5 32 "AlikeSteps$Parting" "rule" "I" : Cond) ∈ pj_tb := pj_t1 (List.mem_of_getElem? (i := 122) (by rfl)) (by rfl)
set_option maxRecDepth 5000 in
theorem cw_203 : (.fieldLink RX5 9 "AlikeSteps$Parting" "blocks" "[I" : Cond) ∈ pj_tb := pj_t1 (List.mem_of_getElem? (i := 123) (by rfl)) (by rfl)
set_option maxRecDepth 5000 in
theorem cw_204 : (.fieldLink RX5 15 "AlikeSteps$Parting" "signs" "[J" : Cond) ∈ pj_tb := pj_t1 (List.mem_of_getElem? (i := 124) (by rfl)) (by rfl)
set_option maxRecDepth 5000 in
theorem cw_205 : (.fieldLink RX5 19 "AlikeSteps$Parting" "states" "I" : Cond) ∈ pj_tb := pj_t1 (List.mem_of_getElem? (i := 125) (by rfl)) (by rfl)
set_option maxRecDepth 5000 in
theorem cw_206 : (.fieldLink RX5 23 "AlikeSteps$Parting" "rounds" "I" : Cond) ∈ pj_tb := pj_t1 (List.mem_of_getElem? (i := 126) (by rfl)) (by rfl)
set_option maxRecDepth 5000 in
theorem cw_207 : (.fieldLink RX5 26 "AlikeSteps$Parting" "parts" "I" : Cond) ∈ pj_tb := pj_t1 (List.mem_of_getElem? (i := 127) (by rfl)) (by rfl)
set_option maxRecDepth 5000 in
theorem cw_208 : (.fieldLink RX5 29 "AlikeSteps$Parting" "seen" "I" : Cond) ∈ pj_tb := pj_t1 (List.mem_of_getElem? (i := 128) (by rfl)) (by rfl)
set_option maxRecDepth 5000 in
theorem cw_225 : (.fieldLink RX1 10 "AlikeSteps$Alike" "steps" "LAlikeSteps$Steps;" : Cond) ∈ pj_tb := pj_t1 (List.mem_of_getElem? (i := 145) (by rfl)) (by rfl)
set_option maxRecDepth 5000 in
theorem cw_226 : (.fieldLink RX1 18 "AlikeSteps$Alike" "partings" "[LAlikeSteps$Parting;" : Cond) ∈ pj_tb := pj_t1 (List.mem_of_getElem? (i := 146) (by rfl)) (by rfl)
set_option maxRecDepth 5000 in
theorem cw_240 : (.fieldLink RX3 11 "AlikeSteps$Formula" "sets" "[I" : Cond) ∈ pj_tb := pj_t1 (List.mem_of_getElem? (i := 160) (by rfl)) (by rfl)
set_option maxRecDepth 5000 in
theorem cw_241 : (.fieldLink RX3 15 "AlikeSteps$Formula" "rule" "I" : Cond) ∈ pj_tb := pj_t1 (List.mem_of_getElem? (i := 161) (by rfl)) (by rfl)
set_option maxRecDepth 5000 in
theorem cw_242 : (.fieldLink RX3 19 "AlikeSteps$Formula" "all" "I" : Cond) ∈ pj_tb := pj_t1 (List.mem_of_getElem? (i := 162) (by rfl)) (by rfl)
set_option maxRecDepth 5000 in
theorem cw_243 : (.fieldLink RX3 22 "AlikeSteps$Formula" "marked" "I" : Cond) ∈ pj_tb := pj_t1 (List.mem_of_getElem? (i := 163) (by rfl)) (by rfl)
set_option maxRecDepth 5000 in
theorem cw_244 : (.fieldLink RX3 25 "AlikeSteps$Formula" "height" "I" : Cond) ∈ pj_tb := pj_t1 (List.mem_of_getElem? (i := 164) (by rfl)) (by rfl)
set_option maxRecDepth 5000 in
theorem cw_245 : (.fieldLink RX3 28 "AlikeSteps$Formula" "list" "I" : Cond) ∈ pj_tb := pj_t1 (List.mem_of_getElem? (i := 165) (by rfl)) (by rfl)
set_option maxRecDepth 5000 in
theorem cw_246 : (.fieldLink RX3 31 "AlikeSteps$Formula" "listOpen" "Z" : Cond) ∈ pj_tb := pj_t1 (List.mem_of_getElem? (i := 166) (by rfl)) (by rfl)
set_option maxRecDepth 5000 in
theorem cw_247 : (.fieldLink RX3 35 "AlikeSteps$Formula" "wrong" "Z" : Cond) ∈ pj_tb := pj_t1 (List.mem_of_getElem? (i := 167) (by rfl)) (by rfl)
set_option maxRecDepth 5000 in
theorem cw_271 : (.fieldLink RX2 11 "AlikeSteps$Asker" "trail" "[I" : Cond) ∈ pj_tb := pj_t1 (List.mem_of_getElem? (i := 191) (by rfl)) (by rfl)
set_option maxRecDepth 5000 in
theorem cw_272 : (.fieldLink RX2 15 "AlikeSteps$Asker" "traced" "I" : Cond) ∈ pj_tb := pj_t1 (List.mem_of_getElem? (i := 192) (by rfl)) (by rfl)
set_option maxRecDepth 5000 in
theorem cw_273 : (.fieldLink RX2 19 "AlikeSteps$Asker" "state" "I" : Cond) ∈ pj_tb := pj_t1 (List.mem_of_getElem? (i := 193) (by rfl)) (by rfl)
set_option maxRecDepth 5000 in
theorem cw_274 : (.fieldLink RX2 22 "AlikeSteps$Asker" "kind" "I" : Cond) ∈ pj_tb := pj_t1 (List.mem_of_getElem? (i := 194) (by rfl)) (by rfl)
set_option maxRecDepth 5000 in
theorem cw_275 : (.fieldLink RX2 25 "AlikeSteps$Asker" "pairs" "I" : Cond) ∈ pj_tb := pj_t1 (List.mem_of_getElem? (i := 195) (by rfl)) (by rfl)
set_option maxRecDepth 5000 in
theorem cw_276 : (.fieldLink RX2 28 "AlikeSteps$Asker" "block" "I" : Cond) ∈ pj_tb := pj_t1 (List.mem_of_getElem? (i := 196) (by rfl)) (by rfl)
set_option maxRecDepth 5000 in
theorem cw_295 : (.fieldLink RX9 26 "AlikeSteps$Teller" "rule" "I" : Cond) ∈ pj_tb := pj_t1 (List.mem_of_getElem? (i := 215) (by rfl)) (by rfl)
set_option maxRecDepth 5000 in
theorem cw_296 : (.fieldLink RX9 9 "AlikeSteps$Teller" "partedIn" "[I" : Cond) ∈ pj_tb := pj_t1 (List.mem_of_getElem? (i := 216) (by rfl)) (by rfl)
set_option maxRecDepth 5000 in
theorem cw_297 : (.fieldLink RX9 15 "AlikeSteps$Teller" "leads" "[I" : Cond) ∈ pj_tb := pj_t1 (List.mem_of_getElem? (i := 217) (by rfl)) (by rfl)
set_option maxRecDepth 5000 in
theorem cw_298 : (.fieldLink RX9 18 "AlikeSteps$Teller" "sizes" "[J" : Cond) ∈ pj_tb := pj_t1 (List.mem_of_getElem? (i := 218) (by rfl)) (by rfl)
set_option maxRecDepth 5000 in
theorem cw_299 : (.fieldLink RX9 22 "AlikeSteps$Teller" "seen" "I" : Cond) ∈ pj_tb := pj_t1 (List.mem_of_getElem? (i := 219) (by rfl)) (by rfl)
set_option maxRecDepth 5000 in
theorem cw_311 : (.fieldLink RX10 10 "AlikeSteps" "rows" "LAlikeSteps$Rows;" : Cond) ∈ pj_tb := pj_t1 (List.mem_of_getElem? (i := 231) (by rfl)) (by rfl)
set_option maxRecDepth 5000 in
theorem cw_312 : (.fieldLink RX10 19 "AlikeSteps" "tape" "LAlikeSteps$Tape;" : Cond) ∈ pj_tb := pj_t1 (List.mem_of_getElem? (i := 232) (by rfl)) (by rfl)
set_option maxRecDepth 5000 in
theorem cw_313 : (.fieldLink RX10 26 "AlikeSteps" "net" "LAlikeSteps$Net;" : Cond) ∈ pj_tb := pj_t1 (List.mem_of_getElem? (i := 233) (by rfl)) (by rfl)
set_option maxRecDepth 5000 in
theorem cw_314 : (.fieldLink RX10 30 "AlikeSteps" "draft" "LAlikeSteps$Net;" : Cond) ∈ pj_tb := pj_t1 (List.mem_of_getElem? (i := 234) (by rfl)) (by rfl)
set_option maxRecDepth 5000 in
theorem cw_315 : (.fieldLink RX10 33 "AlikeSteps" "trial" "LAlikeSteps$Net;" : Cond) ∈ pj_tb := pj_t1 (List.mem_of_getElem? (i := 235) (by rfl)) (by rfl)
set_option maxRecDepth 5000 in
theorem cw_316 : (.fieldLink RX10 36 "AlikeSteps" "images" "[LAlikeSteps$Net;" : Cond) ∈ pj_tb := pj_t1 (List.mem_of_getElem? (i := 236) (by rfl)) (by rfl)
set_option maxRecDepth 5000 in
theorem cw_317 : (.fieldLink RX10 43 "AlikeSteps" "acts" "LAlikeSteps$Acts;" : Cond) ∈ pj_tb := pj_t1 (List.mem_of_getElem? (i := 237) (by rfl)) (by rfl)
set_option maxRecDepth 5000 in
theorem cw_318 : (.fieldLink RX10 50 "AlikeSteps" "alike" "LAlikeSteps$Alike;" : Cond) ∈ pj_tb := pj_t1 (List.mem_of_getElem? (i := 238) (by rfl)) (by rfl)
set_option maxRecDepth 5000 in
theorem cw_319 : (.fieldLink RX10 54 "AlikeSteps" "alikeInTrial" "LAlikeSteps$Alike;" : Cond) ∈ pj_tb := pj_t1 (List.mem_of_getElem? (i := 239) (by rfl)) (by rfl)
set_option maxRecDepth 5000 in
theorem cw_320 : (.fieldLink RX10 59 "AlikeSteps" "tellers" "[LAlikeSteps$Teller;" : Cond) ∈ pj_tb := pj_t2 (List.mem_of_getElem? (i := 0) (by rfl)) (by rfl)
set_option maxRecDepth 5000 in
theorem cw_321 : (.fieldLink RX10 66 "AlikeSteps" "formula" "LAlikeSteps$Formula;" : Cond) ∈ pj_tb := pj_t2 (List.mem_of_getElem? (i := 1) (by rfl)) (by rfl)
set_option maxRecDepth 5000 in
theorem cw_322 : (.fieldLink RX10 73 "AlikeSteps" "asker" "LAlikeSteps$Asker;" : Cond) ∈ pj_tb := pj_t2 (List.mem_of_getElem? (i := 2) (by rfl)) (by rfl)
set_option maxRecDepth 5000 in
theorem cw_323 : (.fieldLink RX10 77 "AlikeSteps" "latestFault" "I" : Cond) ∈ pj_tb := pj_t2 (List.mem_of_getElem? (i := 3) (by rfl)) (by rfl)
set_option maxRecDepth 5000 in
theorem cw_324 : (.fieldLink RX10 81 "AlikeSteps" "latestFinding" "I" : Cond) ∈ pj_tb := pj_t2 (List.mem_of_getElem? (i := 4) (by rfl)) (by rfl)
set_option maxRecDepth 5000 in
theorem cw_355 : (.instanceMethod ⟨"AlikeSteps", "row", "(III)I"⟩ : Cond) ∈ pj_tb := pj_t2 (List.mem_of_getElem? (i := 35) (by rfl)) (by rfl)
set_option maxRecDepth 5000 in
theorem cw_356 : (.selects "AlikeSteps" ⟨"AlikeSteps", "row", "(III)I"⟩ ⟨"AlikeSteps", "row", "(III)I"⟩ : Cond) ∈ pj_tb := pj_t2 (List.mem_of_getElem? (i := 36) (by rfl)) (by rfl)
set_option maxRecDepth 5000 in
theorem cw_357 : (.code ⟨"AlikeSteps", "row", "(III)I"⟩ prog_1_method_2_code 4 (some .int) : Cond) ∈ pj_tb := pj_t2 (List.mem_of_getElem? (i := 37) (by rfl)) (by rfl)
set_option maxRecDepth 5000 in
theorem cw_358 : (.methodLink RX10 87 ⟨"AlikeSteps$Rows", "exists", "(I)Z"⟩ : Cond) ∈ pj_tb := pj_t2 (List.mem_of_getElem? (i := 38) (by rfl)) (by rfl)
set_option maxRecDepth 5000 in
theorem cw_359 : (.static ⟨"AlikeSteps$Rows", "exists", "(I)Z"⟩ : Cond) ∈ pj_tb := pj_t2 (List.mem_of_getElem? (i := 39) (by rfl)) (by rfl)
set_option maxRecDepth 5000 in
theorem cw_360 : (.code ⟨"AlikeSteps$Rows", "exists", "(I)Z"⟩ prog_8_method_2_code 1 (some .boolean) : Cond) ∈ pj_tb := pj_t2 (List.mem_of_getElem? (i := 40) (by rfl)) (by rfl)
set_option maxRecDepth 5000 in
theorem cw_361 : (.methodLink RX10 91 ⟨"AlikeSteps", "within", "(III)Z"⟩ : Cond) ∈ pj_tb := pj_t2 (List.mem_of_getElem? (i := 41) (by rfl)) (by rfl)
set_option maxRecDepth 5000 in
theorem cw_362 : (.static ⟨"AlikeSteps", "within", "(III)Z"⟩ : Cond) ∈ pj_tb := pj_t2 (List.mem_of_getElem? (i := 42) (by rfl)) (by rfl)
set_option maxRecDepth 5000 in
theorem cw_363 : (.code ⟨"AlikeSteps", "within", "(III)Z"⟩ prog_1_method_40_code 3 (some .boolean) : Cond) ∈ pj_tb := pj_t2 (List.mem_of_getElem? (i := 43) (by rfl)) (by rfl)
set_option maxRecDepth 5000 in
theorem cw_364 : (.constant RX10 95 (-1000001) : Cond) ∈ pj_tb := pj_t2 (List.mem_of_getElem? (i := 44) (by rfl)) (by rfl)
set_option maxRecDepth 5000 in
theorem cw_365 : (.methodLink RX10 96 ⟨"AlikeSteps", "found", "(I)I"⟩ : Cond) ∈ pj_tb := pj_t2 (List.mem_of_getElem? (i := 45) (by rfl)) (by rfl)
set_option maxRecDepth 5000 in
theorem cw_367 : (.instanceMethod ⟨"AlikeSteps", "found", "(I)I"⟩ : Cond) ∈ pj_tb := pj_t2 (List.mem_of_getElem? (i := 47) (by rfl)) (by rfl)
set_option maxRecDepth 5000 in
theorem cw_368 : (.code ⟨"AlikeSteps", "found", "(I)I"⟩ prog_1_method_37_code 2 (some .int) : Cond) ∈ pj_tb := pj_t2 (List.mem_of_getElem? (i := 48) (by rfl)) (by rfl)
set_option maxRecDepth 5000 in
theorem cw_369 : (.constant RX10 327 (-1000010) : Cond) ∈ pj_tb := pj_t2 (List.mem_of_getElem? (i := 49) (by rfl)) (by rfl)
set_option maxRecDepth 5000 in
theorem cw_370 : (.methodLink RX10 100 ⟨"AlikeSteps$Rows", "make", "(III)V"⟩ : Cond) ∈ pj_tb := pj_t2 (List.mem_of_getElem? (i := 50) (by rfl)) (by rfl)
set_option maxRecDepth 5000 in
theorem cw_371 : (.instanceMethod ⟨"AlikeSteps$Rows", "make", "(III)V"⟩ : Cond) ∈ pj_tb := pj_t2 (List.mem_of_getElem? (i := 51) (by rfl)) (by rfl)
set_option maxRecDepth 5000 in
theorem cw_372 : (.selects "AlikeSteps$Rows" ⟨"AlikeSteps$Rows", "make", "(III)V"⟩ ⟨"AlikeSteps$Rows", "make", "(III)V"⟩ : Cond) ∈ pj_tb := pj_t2 (List.mem_of_getElem? (i := 52) (by rfl)) (by rfl)
set_option maxRecDepth 5000 in
theorem cw_373 : (.code ⟨"AlikeSteps$Rows", "make", "(III)V"⟩ prog_8_method_8_code 5 none : Cond) ∈ pj_tb := pj_t2 (List.mem_of_getElem? (i := 53) (by rfl)) (by rfl)
set_option maxRecDepth 5000 in
theorem cw_374 : (.methodLink RX10 104 ⟨"AlikeSteps", "fine", "(I)I"⟩ : Cond) ∈ pj_tb := pj_t2 (List.mem_of_getElem? (i := 54) (by rfl)) (by rfl)
set_option maxRecDepth 5000 in
theorem cw_376 : (.instanceMethod ⟨"AlikeSteps", "fine", "(I)I"⟩ : Cond) ∈ pj_tb := pj_t2 (List.mem_of_getElem? (i := 56) (by rfl)) (by rfl)
set_option maxRecDepth 5000 in
theorem cw_377 : (.code ⟨"AlikeSteps", "fine", "(I)I"⟩ prog_1_method_38_code 2 (some .int) : Cond) ∈ pj_tb := pj_t2 (List.mem_of_getElem? (i := 57) (by rfl)) (by rfl)
set_option maxRecDepth 5000 in
theorem cw_379 : (.instanceMethod ⟨"AlikeSteps", "set", "(III)I"⟩ : Cond) ∈ pj_tb := pj_t2 (List.mem_of_getElem? (i := 59) (by rfl)) (by rfl)
set_option maxRecDepth 5000 in
theorem cw_380 : (.selects "AlikeSteps" ⟨"AlikeSteps", "set", "(III)I"⟩ ⟨"AlikeSteps", "set", "(III)I"⟩ : Cond) ∈ pj_tb := pj_t2 (List.mem_of_getElem? (i := 60) (by rfl)) (by rfl)
set_option maxRecDepth 5000 in
theorem cw_381 : (.code ⟨"AlikeSteps", "set", "(III)I"⟩ prog_1_method_3_code 4 (some .int) : Cond) ∈ pj_tb := pj_t2 (List.mem_of_getElem? (i := 61) (by rfl)) (by rfl)
set_option maxRecDepth 5000 in
theorem cw_382 : (.methodLink RX10 107 ⟨"AlikeSteps$Rows", "isMissing", "(I)Z"⟩ : Cond) ∈ pj_tb := pj_t2 (List.mem_of_getElem? (i := 62) (by rfl)) (by rfl)
set_option maxRecDepth 5000 in
theorem cw_383 : (.instanceMethod ⟨"AlikeSteps$Rows", "isMissing", "(I)Z"⟩ : Cond) ∈ pj_tb := pj_t2 (List.mem_of_getElem? (i := 63) (by rfl)) (by rfl)
set_option maxRecDepth 5000 in
theorem cw_384 : (.selects "AlikeSteps$Rows" ⟨"AlikeSteps$Rows", "isMissing", "(I)Z"⟩ ⟨"AlikeSteps$Rows", "isMissing", "(I)Z"⟩ : Cond) ∈ pj_tb := pj_t2 (List.mem_of_getElem? (i := 64) (by rfl)) (by rfl)
set_option maxRecDepth 5000 in
theorem cw_385 : (.code ⟨"AlikeSteps$Rows", "isMissing", "(I)Z"⟩ prog_8_method_3_code 2 (some .boolean) : Cond) ∈ pj_tb := pj_t2 (List.mem_of_getElem? (i := 65) (by rfl)) (by rfl)
set_option maxRecDepth 5000 in
theorem cw_386 : (.methodLink RX10 110 ⟨"AlikeSteps$Rows", "length", "(I)I"⟩ : Cond) ∈ pj_tb := pj_t2 (List.mem_of_getElem? (i := 66) (by rfl)) (by rfl)
set_option maxRecDepth 5000 in
theorem cw_387 : (.instanceMethod ⟨"AlikeSteps$Rows", "length", "(I)I"⟩ : Cond) ∈ pj_tb := pj_t2 (List.mem_of_getElem? (i := 67) (by rfl)) (by rfl)
set_option maxRecDepth 5000 in
theorem cw_388 : (.selects "AlikeSteps$Rows" ⟨"AlikeSteps$Rows", "length", "(I)I"⟩ ⟨"AlikeSteps$Rows", "length", "(I)I"⟩ : Cond) ∈ pj_tb := pj_t2 (List.mem_of_getElem? (i := 68) (by rfl)) (by rfl)
set_option maxRecDepth 5000 in
theorem cw_389 : (.code ⟨"AlikeSteps$Rows", "length", "(I)I"⟩ prog_8_method_5_code 2 (some .int) : Cond) ∈ pj_tb := pj_t2 (List.mem_of_getElem? (i := 69) (by rfl)) (by rfl)
set_option maxRecDepth 5000 in
theorem cw_390 : (.methodLink RX10 113 ⟨"AlikeSteps$Rows", "put", "(III)I"⟩ : Cond) ∈ pj_tb := pj_t2 (List.mem_of_getElem? (i := 70) (by rfl)) (by rfl)
set_option maxRecDepth 5000 in
theorem cw_391 : (.instanceMethod ⟨"AlikeSteps$Rows", "put", "(III)I"⟩ : Cond) ∈ pj_tb := pj_t2 (List.mem_of_getElem? (i := 71) (by rfl)) (by rfl)
set_option maxRecDepth 5000 in
theorem cw_392 : (.selects "AlikeSteps$Rows" ⟨"AlikeSteps$Rows", "put", "(III)I"⟩ ⟨"AlikeSteps$Rows", "put", "(III)I"⟩ : Cond) ∈ pj_tb := pj_t2 (List.mem_of_getElem? (i := 72) (by rfl)) (by rfl)
set_option maxRecDepth 5000 in
theorem cw_393 : (.code ⟨"AlikeSteps$Rows", "put", "(III)I"⟩ prog_8_method_10_code 5 (some .int) : Cond) ∈ pj_tb := pj_t2 (List.mem_of_getElem? (i := 73) (by rfl)) (by rfl)
set_option maxRecDepth 5000 in
theorem cw_394 : (.methodLink RX6 23 ⟨"AlikeSteps$Rows", "cutToLane", "(II)I"⟩ : Cond) ∈ pj_tb := pj_t2 (List.mem_of_getElem? (i := 74) (by rfl)) (by rfl)
set_option maxRecDepth 5000 in
theorem cw_395 : (.static ⟨"AlikeSteps$Rows", "cutToLane", "(II)I"⟩ : Cond) ∈ pj_tb := pj_t2 (List.mem_of_getElem? (i := 75) (by rfl)) (by rfl)
set_option maxRecDepth 5000 in
theorem cw_396 : (.code ⟨"AlikeSteps$Rows", "cutToLane", "(II)I"⟩ prog_8_method_13_code 2 (some .int) : Cond) ∈ pj_tb := pj_t2 (List.mem_of_getElem? (i := 76) (by rfl)) (by rfl)
set_option maxRecDepth 5000 in
theorem cw_398 : (.instanceMethod ⟨"AlikeSteps", "copy", "(IIIII)I"⟩ : Cond) ∈ pj_tb := pj_t2 (List.mem_of_getElem? (i := 78) (by rfl)) (by rfl)
set_option maxRecDepth 5000 in
theorem cw_399 : (.selects "AlikeSteps" ⟨"AlikeSteps", "copy", "(IIIII)I"⟩ ⟨"AlikeSteps", "copy", "(IIIII)I"⟩ : Cond) ∈ pj_tb := pj_t2 (List.mem_of_getElem? (i := 79) (by rfl)) (by rfl)
set_option maxRecDepth 5000 in
theorem cw_400 : (.code ⟨"AlikeSteps", "copy", "(IIIII)I"⟩ prog_1_method_4_code 6 (some .int) : Cond) ∈ pj_tb := pj_t2 (List.mem_of_getElem? (i := 80) (by rfl)) (by rfl)
set_option maxRecDepth 5000 in
theorem cw_401 : (.methodLink RX10 117 ⟨"AlikeSteps$Rows", "lane", "(I)I"⟩ : Cond) ∈ pj_tb := pj_t2 (List.mem_of_getElem? (i := 81) (by rfl)) (by rfl)
set_option maxRecDepth 5000 in
theorem cw_402 : (.instanceMethod ⟨"AlikeSteps$Rows", "lane", "(I)I"⟩ : Cond) ∈ pj_tb := pj_t2 (List.mem_of_getElem? (i := 82) (by rfl)) (by rfl)
set_option maxRecDepth 5000 in
theorem cw_403 : (.selects "AlikeSteps$Rows" ⟨"AlikeSteps$Rows", "lane", "(I)I"⟩ ⟨"AlikeSteps$Rows", "lane", "(I)I"⟩ : Cond) ∈ pj_tb := pj_t2 (List.mem_of_getElem? (i := 83) (by rfl)) (by rfl)
set_option maxRecDepth 5000 in
theorem cw_404 : (.code ⟨"AlikeSteps$Rows", "lane", "(I)I"⟩ prog_8_method_4_code 2 (some .int) : Cond) ∈ pj_tb := pj_t2 (List.mem_of_getElem? (i := 84) (by rfl)) (by rfl)
set_option maxRecDepth 5000 in
theorem cw_405 : (.methodLink RX10 120 ⟨"AlikeSteps$Rows", "hasRange", "(III)Z"⟩ : Cond) ∈ pj_tb := pj_t2 (List.mem_of_getElem? (i := 85) (by rfl)) (by rfl)
set_option maxRecDepth 5000 in
theorem cw_406 : (.instanceMethod ⟨"AlikeSteps$Rows", "hasRange", "(III)Z"⟩ : Cond) ∈ pj_tb := pj_t2 (List.mem_of_getElem? (i := 86) (by rfl)) (by rfl)
set_option maxRecDepth 5000 in
theorem cw_407 : (.selects "AlikeSteps$Rows" ⟨"AlikeSteps$Rows", "hasRange", "(III)Z"⟩ ⟨"AlikeSteps$Rows", "hasRange", "(III)Z"⟩ : Cond) ∈ pj_tb := pj_t2 (List.mem_of_getElem? (i := 87) (by rfl)) (by rfl)
set_option maxRecDepth 5000 in
theorem cw_408 : (.code ⟨"AlikeSteps$Rows", "hasRange", "(III)Z"⟩ prog_8_method_11_code 4 (some .boolean) : Cond) ∈ pj_tb := pj_t2 (List.mem_of_getElem? (i := 88) (by rfl)) (by rfl)
set_option maxRecDepth 5000 in
theorem cw_409 : (.methodLink RX10 123 ⟨"AlikeSteps$Rows", "carry", "(IIIII)V"⟩ : Cond) ∈ pj_tb := pj_t2 (List.mem_of_getElem? (i := 89) (by rfl)) (by rfl)
set_option maxRecDepth 5000 in
theorem cw_410 : (.instanceMethod ⟨"AlikeSteps$Rows", "carry", "(IIIII)V"⟩ : Cond) ∈ pj_tb := pj_t2 (List.mem_of_getElem? (i := 90) (by rfl)) (by rfl)
set_option maxRecDepth 5000 in
theorem cw_411 : (.selects "AlikeSteps$Rows" ⟨"AlikeSteps$Rows", "carry", "(IIIII)V"⟩ ⟨"AlikeSteps$Rows", "carry", "(IIIII)V"⟩ : Cond) ∈ pj_tb := pj_t2 (List.mem_of_getElem? (i := 91) (by rfl)) (by rfl)
set_option maxRecDepth 5000 in
theorem cw_412 : (.code ⟨"AlikeSteps$Rows", "carry", "(IIIII)V"⟩ prog_8_method_12_code 6 none : Cond) ∈ pj_tb := pj_t2 (List.mem_of_getElem? (i := 92) (by rfl)) (by rfl)
set_option maxRecDepth 5000 in
theorem cw_413 : (.methodLink RX6 27 ⟨"java/lang/System", "arraycopy", "(Ljava/lang/Object;ILjava/lang/Object;II)V"⟩ : Cond) ∈ pj_tb := pj_t2 (List.mem_of_getElem? (i := 93) (by rfl)) (by rfl)
set_option maxRecDepth 5000 in
theorem cw_414 : (.static ⟨"java/lang/System", "arraycopy", "(Ljava/lang/Object;ILjava/lang/Object;II)V"⟩ : Cond) ∈ pj_tb := pj_t2 (List.mem_of_getElem? (i := 94) (by rfl)) (by rfl)
set_option maxRecDepth 5000 in
theorem cw_415 : (.native ⟨"java/lang/System", "arraycopy", "(Ljava/lang/Object;ILjava/lang/Object;II)V"⟩ : Cond) ∈ pj_tb := pj_t2 (List.mem_of_getElem? (i := 95) (by rfl)) (by rfl)
set_option maxRecDepth 5000 in
theorem cw_417 : (.instanceMethod ⟨"AlikeSteps", "drop", "(I)I"⟩ : Cond) ∈ pj_tb := pj_t2 (List.mem_of_getElem? (i := 97) (by rfl)) (by rfl)
set_option maxRecDepth 5000 in
theorem cw_418 : (.selects "AlikeSteps" ⟨"AlikeSteps", "drop", "(I)I"⟩ ⟨"AlikeSteps", "drop", "(I)I"⟩ : Cond) ∈ pj_tb := pj_t2 (List.mem_of_getElem? (i := 98) (by rfl)) (by rfl)
set_option maxRecDepth 5000 in
theorem cw_419 : (.code ⟨"AlikeSteps", "drop", "(I)I"⟩ prog_1_method_5_code 3 (some .int) : Cond) ∈ pj_tb := pj_t2 (List.mem_of_getElem? (i := 99) (by rfl)) (by rfl)
set_option maxRecDepth 5000 in
theorem cw_420 : (.methodLink RX10 127 ⟨"AlikeSteps$Rows", "remove", "(I)V"⟩ : Cond) ∈ pj_tb := pj_t2 (List.mem_of_getElem? (i := 100) (by rfl)) (by rfl)
set_option maxRecDepth 5000 in
theorem cw_421 : (.instanceMethod ⟨"AlikeSteps$Rows", "remove", "(I)V"⟩ : Cond) ∈ pj_tb := pj_t2 (List.mem_of_getElem? (i := 101) (by rfl)) (by rfl)
set_option maxRecDepth 5000 in
theorem cw_422 : (.selects "AlikeSteps$Rows" ⟨"AlikeSteps$Rows", "remove", "(I)V"⟩ ⟨"AlikeSteps$Rows", "remove", "(I)V"⟩ : Cond) ∈ pj_tb := pj_t2 (List.mem_of_getElem? (i := 102) (by rfl)) (by rfl)
set_option maxRecDepth 5000 in
theorem cw_423 : (.code ⟨"AlikeSteps$Rows", "remove", "(I)V"⟩ prog_8_method_9_code 2 none : Cond) ∈ pj_tb := pj_t2 (List.mem_of_getElem? (i := 103) (by rfl)) (by rfl)
set_option maxRecDepth 5000 in
theorem cw_425 : (.instanceMethod ⟨"AlikeSteps", "feed", "(I)I"⟩ : Cond) ∈ pj_tb := pj_t2 (List.mem_of_getElem? (i := 105) (by rfl)) (by rfl)
set_option maxRecDepth 5000 in
theorem cw_426 : (.selects "AlikeSteps" ⟨"AlikeSteps", "feed", "(I)I"⟩ ⟨"AlikeSteps", "feed", "(I)I"⟩ : Cond) ∈ pj_tb := pj_t2 (List.mem_of_getElem? (i := 106) (by rfl)) (by rfl)
set_option maxRecDepth 5000 in
theorem cw_427 : (.code ⟨"AlikeSteps", "feed", "(I)I"⟩ prog_1_method_6_code 2 (some .int) : Cond) ∈ pj_tb := pj_t2 (List.mem_of_getElem? (i := 107) (by rfl)) (by rfl)
set_option maxRecDepth 5000 in
theorem cw_428 : (.methodLink RX10 130 ⟨"AlikeSteps$Tape", "isFull", "()Z"⟩ : Cond) ∈ pj_tb := pj_t2 (List.mem_of_getElem? (i := 108) (by rfl)) (by rfl)
set_option maxRecDepth 5000 in
theorem cw_429 : (.instanceMethod ⟨"AlikeSteps$Tape", "isFull", "()Z"⟩ : Cond) ∈ pj_tb := pj_t2 (List.mem_of_getElem? (i := 109) (by rfl)) (by rfl)
set_option maxRecDepth 5000 in
theorem cw_430 : (.selects "AlikeSteps$Tape" ⟨"AlikeSteps$Tape", "isFull", "()Z"⟩ ⟨"AlikeSteps$Tape", "isFull", "()Z"⟩ : Cond) ∈ pj_tb := pj_t2 (List.mem_of_getElem? (i := 110) (by rfl)) (by rfl)
set_option maxRecDepth 5000 in
theorem cw_431 : (.code ⟨"AlikeSteps$Tape", "isFull", "()Z"⟩ prog_10_method_2_code 1 (some .boolean) : Cond) ∈ pj_tb := pj_t2 (List.mem_of_getElem? (i := 111) (by rfl)) (by rfl)
set_option maxRecDepth 5000 in
theorem cw_432 : (.constant RX10 134 (-1000003) : Cond) ∈ pj_tb := pj_t2 (List.mem_of_getElem? (i := 112) (by rfl)) (by rfl)
set_option maxRecDepth 5000 in
theorem cw_433 : (.methodLink RX10 135 ⟨"AlikeSteps$Tape", "append", "(I)I"⟩ : Cond) ∈ pj_tb := pj_t2 (List.mem_of_getElem? (i := 113) (by rfl)) (by rfl)
set_option maxRecDepth 5000 in
theorem cw_434 : (.instanceMethod ⟨"AlikeSteps$Tape", "append", "(I)I"⟩ : Cond) ∈ pj_tb := pj_t2 (List.mem_of_getElem? (i := 114) (by rfl)) (by rfl)
set_option maxRecDepth 5000 in
theorem cw_435 : (.selects "AlikeSteps$Tape" ⟨"AlikeSteps$Tape", "append", "(I)I"⟩ ⟨"AlikeSteps$Tape", "append", "(I)I"⟩ : Cond) ∈ pj_tb := pj_t2 (List.mem_of_getElem? (i := 115) (by rfl)) (by rfl)
set_option maxRecDepth 5000 in
theorem cw_436 : (.code ⟨"AlikeSteps$Tape", "append", "(I)I"⟩ prog_10_method_4_code 2 (some .int) : Cond) ∈ pj_tb := pj_t2 (List.mem_of_getElem? (i := 116) (by rfl)) (by rfl)
set_option maxRecDepth 5000 in
theorem cw_437 : (.methodLink RX8 22 ⟨"AlikeSteps$Tape", "isFull", "()Z"⟩ : Cond) ∈ pj_tb := pj_t2 (List.mem_of_getElem? (i := 117) (by rfl)) (by rfl)
set_option maxRecDepth 5000 in
theorem cw_439 : (.instanceMethod ⟨"AlikeSteps", "system", "()I"⟩ : Cond) ∈ pj_tb := pj_t2 (List.mem_of_getElem? (i := 119) (by rfl)) (by rfl)
set_option maxRecDepth 5000 in
theorem cw_440 : (.selects "AlikeSteps" ⟨"AlikeSteps", "system", "()I"⟩ ⟨"AlikeSteps", "system", "()I"⟩ : Cond) ∈ pj_tb := pj_t2 (List.mem_of_getElem? (i := 120) (by rfl)) (by rfl)
set_option maxRecDepth 5000 in
theorem cw_441 : (.code ⟨"AlikeSteps", "system", "()I"⟩ prog_1_method_7_code 2 (some .int) : Cond) ∈ pj_tb := pj_t2 (List.mem_of_getElem? (i := 121) (by rfl)) (by rfl)
set_option maxRecDepth 5000 in
theorem cw_442 : (.methodLink RX10 138 ⟨"AlikeSteps$Tape", "read", "(LAlikeSteps$Net;)I"⟩ : Cond) ∈ pj_tb := pj_t2 (List.mem_of_getElem? (i := 122) (by rfl)) (by rfl)
set_option maxRecDepth 5000 in
theorem cw_443 : (.instanceMethod ⟨"AlikeSteps$Tape", "read", "(LAlikeSteps$Net;)I"⟩ : Cond) ∈ pj_tb := pj_t2 (List.mem_of_getElem? (i := 123) (by rfl)) (by rfl)
set_option maxRecDepth 5000 in
theorem cw_444 : (.selects "AlikeSteps$Tape" ⟨"AlikeSteps$Tape", "read", "(LAlikeSteps$Net;)I"⟩ ⟨"AlikeSteps$Tape", "read", "(LAlikeSteps$Net;)I"⟩ : Cond) ∈ pj_tb := pj_t2 (List.mem_of_getElem? (i := 124) (by rfl)) (by rfl)
set_option maxRecDepth 5000 in
theorem cw_445 : (.code ⟨"AlikeSteps$Tape", "read", "(LAlikeSteps$Net;)I"⟩ prog_10_method_7_code 3 (some .int) : Cond) ∈ pj_tb := pj_t2 (List.mem_of_getElem? (i := 125) (by rfl)) (by rfl)
set_option maxRecDepth 5000 in
theorem cw_446 : (.methodLink RX8 26 ⟨"AlikeSteps$Net", "clear", "()V"⟩ : Cond) ∈ pj_tb := pj_t2 (List.mem_of_getElem? (i := 126) (by rfl)) (by rfl)
set_option maxRecDepth 5000 in
theorem cw_447 : (.instanceMethod ⟨"AlikeSteps$Net", "clear", "()V"⟩ : Cond) ∈ pj_tb := pj_t2 (List.mem_of_getElem? (i := 127) (by rfl)) (by rfl)
set_option maxRecDepth 5000 in
theorem cw_448 : (.selects "AlikeSteps$Net" ⟨"AlikeSteps$Net", "clear", "()V"⟩ ⟨"AlikeSteps$Net", "clear", "()V"⟩ : Cond) ∈ pj_tb := pj_t2 (List.mem_of_getElem? (i := 128) (by rfl)) (by rfl)
set_option maxRecDepth 5000 in
theorem cw_449 : (.code ⟨"AlikeSteps$Net", "clear", "()V"⟩ prog_6_method_11_code 1 none : Cond) ∈ pj_tb := pj_t2 (List.mem_of_getElem? (i := 129) (by rfl)) (by rfl)
set_option maxRecDepth 5000 in
theorem cw_450 : (.methodLink RX8 31 ⟨"AlikeSteps$Tape", "readStates", "(LAlikeSteps$Net;)I"⟩ : Cond) ∈ pj_tb := pj_t2 (List.mem_of_getElem? (i := 130) (by rfl)) (by rfl)
set_option maxRecDepth 5000 in
theorem cw_452 : (.instanceMethod ⟨"AlikeSteps$Tape", "readStates", "(LAlikeSteps$Net;)I"⟩ : Cond) ∈ pj_tb := pj_t2 (List.mem_of_getElem? (i := 132) (by rfl)) (by rfl)
set_option maxRecDepth 5000 in
theorem cw_453 : (.code ⟨"AlikeSteps$Tape", "readStates", "(LAlikeSteps$Net;)I"⟩ prog_10_method_8_code 4 (some .int) : Cond) ∈ pj_tb := pj_t2 (List.mem_of_getElem? (i := 133) (by rfl)) (by rfl)
set_option maxRecDepth 5000 in
theorem cw_454 : (.methodLink RX8 38 ⟨"AlikeSteps$Tape", "next", "()I"⟩ : Cond) ∈ pj_tb := pj_t2 (List.mem_of_getElem? (i := 134) (by rfl)) (by rfl)
set_option maxRecDepth 5000 in
theorem cw_456 : (.instanceMethod ⟨"AlikeSteps$Tape", "next", "()I"⟩ : Cond) ∈ pj_tb := pj_t2 (List.mem_of_getElem? (i := 136) (by rfl)) (by rfl)
set_option maxRecDepth 5000 in
theorem cw_457 : (.code ⟨"AlikeSteps$Tape", "next", "()I"⟩ prog_10_method_14_code 1 (some .int) : Cond) ∈ pj_tb := pj_t2 (List.mem_of_getElem? (i := 137) (by rfl)) (by rfl)
set_option maxRecDepth 5000 in
theorem cw_458 : (.methodLink RX8 42 ⟨"AlikeSteps$Tape", "kindOfSort", "(I)I"⟩ : Cond) ∈ pj_tb := pj_t2 (List.mem_of_getElem? (i := 138) (by rfl)) (by rfl)
set_option maxRecDepth 5000 in
theorem cw_459 : (.static ⟨"AlikeSteps$Tape", "kindOfSort", "(I)I"⟩ : Cond) ∈ pj_tb := pj_t2 (List.mem_of_getElem? (i := 139) (by rfl)) (by rfl)
set_option maxRecDepth 5000 in
theorem cw_460 : (.code ⟨"AlikeSteps$Tape", "kindOfSort", "(I)I"⟩ prog_10_method_15_code 1 (some .int) : Cond) ∈ pj_tb := pj_t2 (List.mem_of_getElem? (i := 140) (by rfl)) (by rfl)
set_option maxRecDepth 5000 in
theorem cw_461 : (.methodLink RX8 46 ⟨"AlikeSteps$Tape", "passes", "(C)Z"⟩ : Cond) ∈ pj_tb := pj_t2 (List.mem_of_getElem? (i := 141) (by rfl)) (by rfl)
set_option maxRecDepth 5000 in
theorem cw_463 : (.instanceMethod ⟨"AlikeSteps$Tape", "passes", "(C)Z"⟩ : Cond) ∈ pj_tb := pj_t2 (List.mem_of_getElem? (i := 143) (by rfl)) (by rfl)
set_option maxRecDepth 5000 in
theorem cw_464 : (.code ⟨"AlikeSteps$Tape", "passes", "(C)Z"⟩ prog_10_method_13_code 2 (some .boolean) : Cond) ∈ pj_tb := pj_t2 (List.mem_of_getElem? (i := 144) (by rfl)) (by rfl)
set_option maxRecDepth 5000 in
theorem cw_465 : (.methodLink RX8 50 ⟨"AlikeSteps$Net", "addState", "(I)V"⟩ : Cond) ∈ pj_tb := pj_t2 (List.mem_of_getElem? (i := 145) (by rfl)) (by rfl)
set_option maxRecDepth 5000 in
theorem cw_466 : (.instanceMethod ⟨"AlikeSteps$Net", "addState", "(I)V"⟩ : Cond) ∈ pj_tb := pj_t2 (List.mem_of_getElem? (i := 146) (by rfl)) (by rfl)
set_option maxRecDepth 5000 in
theorem cw_467 : (.selects "AlikeSteps$Net" ⟨"AlikeSteps$Net", "addState", "(I)V"⟩ ⟨"AlikeSteps$Net", "addState", "(I)V"⟩ : Cond) ∈ pj_tb := pj_t2 (List.mem_of_getElem? (i := 147) (by rfl)) (by rfl)
set_option maxRecDepth 5000 in
theorem cw_468 : (.code ⟨"AlikeSteps$Net", "addState", "(I)V"⟩ prog_6_method_13_code 2 none : Cond) ∈ pj_tb := pj_t2 (List.mem_of_getElem? (i := 148) (by rfl)) (by rfl)
set_option maxRecDepth 5000 in
theorem cw_469 : (.methodLink RX8 35 ⟨"AlikeSteps$Tape", "readArcs", "(LAlikeSteps$Net;)I"⟩ : Cond) ∈ pj_tb := pj_t2 (List.mem_of_getElem? (i := 149) (by rfl)) (by rfl)
set_option maxRecDepth 5000 in
theorem cw_471 : (.instanceMethod ⟨"AlikeSteps$Tape", "readArcs", "(LAlikeSteps$Net;)I"⟩ : Cond) ∈ pj_tb := pj_t2 (List.mem_of_getElem? (i := 151) (by rfl)) (by rfl)
set_option maxRecDepth 5000 in
theorem cw_472 : (.code ⟨"AlikeSteps$Tape", "readArcs", "(LAlikeSteps$Net;)I"⟩ prog_10_method_9_code 5 (some .int) : Cond) ∈ pj_tb := pj_t2 (List.mem_of_getElem? (i := 152) (by rfl)) (by rfl)
set_option maxRecDepth 5000 in
theorem cw_473 : (.methodLink RX8 54 ⟨"AlikeSteps$Tape", "letterOf", "(I)I"⟩ : Cond) ∈ pj_tb := pj_t2 (List.mem_of_getElem? (i := 153) (by rfl)) (by rfl)
set_option maxRecDepth 5000 in
theorem cw_474 : (.static ⟨"AlikeSteps$Tape", "letterOf", "(I)I"⟩ : Cond) ∈ pj_tb := pj_t2 (List.mem_of_getElem? (i := 154) (by rfl)) (by rfl)
set_option maxRecDepth 5000 in
theorem cw_475 : (.code ⟨"AlikeSteps$Tape", "letterOf", "(I)I"⟩ prog_10_method_16_code 1 (some .int) : Cond) ∈ pj_tb := pj_t2 (List.mem_of_getElem? (i := 155) (by rfl)) (by rfl)
set_option maxRecDepth 5000 in
theorem cw_476 : (.methodLink RX8 57 ⟨"AlikeSteps$Tape", "readEnds", "(LAlikeSteps$Net;I)I"⟩ : Cond) ∈ pj_tb := pj_t2 (List.mem_of_getElem? (i := 156) (by rfl)) (by rfl)
set_option maxRecDepth 5000 in
theorem cw_478 : (.instanceMethod ⟨"AlikeSteps$Tape", "readEnds", "(LAlikeSteps$Net;I)I"⟩ : Cond) ∈ pj_tb := pj_t2 (List.mem_of_getElem? (i := 158) (by rfl)) (by rfl)
set_option maxRecDepth 5000 in
theorem cw_479 : (.code ⟨"AlikeSteps$Tape", "readEnds", "(LAlikeSteps$Net;I)I"⟩ prog_10_method_10_code 5 (some .int) : Cond) ∈ pj_tb := pj_t2 (List.mem_of_getElem? (i := 159) (by rfl)) (by rfl)
set_option maxRecDepth 5000 in
theorem cw_480 : (.methodLink RX8 61 ⟨"AlikeSteps$Tape", "readNumber", "(LAlikeSteps$Net;)I"⟩ : Cond) ∈ pj_tb := pj_t2 (List.mem_of_getElem? (i := 160) (by rfl)) (by rfl)
set_option maxRecDepth 5000 in
theorem cw_482 : (.instanceMethod ⟨"AlikeSteps$Tape", "readNumber", "(LAlikeSteps$Net;)I"⟩ : Cond) ∈ pj_tb := pj_t2 (List.mem_of_getElem? (i := 162) (by rfl)) (by rfl)
set_option maxRecDepth 5000 in
theorem cw_483 : (.code ⟨"AlikeSteps$Tape", "readNumber", "(LAlikeSteps$Net;)I"⟩ prog_10_method_11_code 4 (some .int) : Cond) ∈ pj_tb := pj_t2 (List.mem_of_getElem? (i := 163) (by rfl)) (by rfl)
set_option maxRecDepth 5000 in
theorem cw_484 : (.methodLink RX8 68 ⟨"AlikeSteps$Tape", "isFigure", "(I)Z"⟩ : Cond) ∈ pj_tb := pj_t2 (List.mem_of_getElem? (i := 164) (by rfl)) (by rfl)
set_option maxRecDepth 5000 in
theorem cw_486 : (.instanceMethod ⟨"AlikeSteps$Tape", "isFigure", "(I)Z"⟩ : Cond) ∈ pj_tb := pj_t2 (List.mem_of_getElem? (i := 166) (by rfl)) (by rfl)
set_option maxRecDepth 5000 in
theorem cw_487 : (.code ⟨"AlikeSteps$Tape", "isFigure", "(I)Z"⟩ prog_10_method_12_code 2 (some .boolean) : Cond) ∈ pj_tb := pj_t2 (List.mem_of_getElem? (i := 167) (by rfl)) (by rfl)
set_option maxRecDepth 5000 in
theorem cw_488 : (.methodLink RX8 72 ⟨"AlikeSteps$Net", "hasState", "(I)Z"⟩ : Cond) ∈ pj_tb := pj_t2 (List.mem_of_getElem? (i := 168) (by rfl)) (by rfl)
set_option maxRecDepth 5000 in
theorem cw_489 : (.instanceMethod ⟨"AlikeSteps$Net", "hasState", "(I)Z"⟩ : Cond) ∈ pj_tb := pj_t2 (List.mem_of_getElem? (i := 169) (by rfl)) (by rfl)
set_option maxRecDepth 5000 in
theorem cw_490 : (.selects "AlikeSteps$Net" ⟨"AlikeSteps$Net", "hasState", "(I)Z"⟩ ⟨"AlikeSteps$Net", "hasState", "(I)Z"⟩ : Cond) ∈ pj_tb := pj_t2 (List.mem_of_getElem? (i := 170) (by rfl)) (by rfl)
set_option maxRecDepth 5000 in
theorem cw_491 : (.code ⟨"AlikeSteps$Net", "hasState", "(I)Z"⟩ prog_6_method_5_code 2 (some .boolean) : Cond) ∈ pj_tb := pj_t2 (List.mem_of_getElem? (i := 171) (by rfl)) (by rfl)
set_option maxRecDepth 5000 in
theorem cw_492 : (.methodLink RX8 64 ⟨"AlikeSteps$Net", "addArc", "(III)V"⟩ : Cond) ∈ pj_tb := pj_t2 (List.mem_of_getElem? (i := 172) (by rfl)) (by rfl)
set_option maxRecDepth 5000 in
theorem cw_493 : (.instanceMethod ⟨"AlikeSteps$Net", "addArc", "(III)V"⟩ : Cond) ∈ pj_tb := pj_t2 (List.mem_of_getElem? (i := 173) (by rfl)) (by rfl)
set_option maxRecDepth 5000 in
theorem cw_494 : (.selects "AlikeSteps$Net" ⟨"AlikeSteps$Net", "addArc", "(III)V"⟩ ⟨"AlikeSteps$Net", "addArc", "(III)V"⟩ : Cond) ∈ pj_tb := pj_t2 (List.mem_of_getElem? (i := 174) (by rfl)) (by rfl)
set_option maxRecDepth 5000 in
theorem cw_495 : (.code ⟨"AlikeSteps$Net", "addArc", "(III)V"⟩ prog_6_method_15_code 4 none : Cond) ∈ pj_tb := pj_t2 (List.mem_of_getElem? (i := 175) (by rfl)) (by rfl)
set_option maxRecDepth 5000 in
theorem cw_496 : (.methodLink RX4 34 ⟨"AlikeSteps$Net", "insertArc", "(IIII)V"⟩ : Cond) ∈ pj_tb := pj_t2 (List.mem_of_getElem? (i := 176) (by rfl)) (by rfl)
set_option maxRecDepth 5000 in
theorem cw_497 : (.instanceMethod ⟨"AlikeSteps$Net", "insertArc", "(IIII)V"⟩ : Cond) ∈ pj_tb := pj_t2 (List.mem_of_getElem? (i := 177) (by rfl)) (by rfl)
set_option maxRecDepth 5000 in
theorem cw_498 : (.selects "AlikeSteps$Net" ⟨"AlikeSteps$Net", "insertArc", "(IIII)V"⟩ ⟨"AlikeSteps$Net", "insertArc", "(IIII)V"⟩ : Cond) ∈ pj_tb := pj_t2 (List.mem_of_getElem? (i := 178) (by rfl)) (by rfl)
set_option maxRecDepth 5000 in
theorem cw_499 : (.code ⟨"AlikeSteps$Net", "insertArc", "(IIII)V"⟩ prog_6_method_16_code 5 none : Cond) ∈ pj_tb := pj_t2 (List.mem_of_getElem? (i := 179) (by rfl)) (by rfl)
set_option maxRecDepth 5000 in
theorem cw_500 : (.methodLink RX4 38 ⟨"AlikeSteps$Net", "shiftArcs", "(III)V"⟩ : Cond) ∈ pj_tb := pj_t2 (List.mem_of_getElem? (i := 180) (by rfl)) (by rfl)
set_option maxRecDepth 5000 in
theorem cw_502 : (.instanceMethod ⟨"AlikeSteps$Net", "shiftArcs", "(III)V"⟩ : Cond) ∈ pj_tb := pj_t2 (List.mem_of_getElem? (i := 182) (by rfl)) (by rfl)
set_option maxRecDepth 5000 in
theorem cw_503 : (.code ⟨"AlikeSteps$Net", "shiftArcs", "(III)V"⟩ prog_6_method_20_code 6 none : Cond) ∈ pj_tb := pj_t2 (List.mem_of_getElem? (i := 183) (by rfl)) (by rfl)
set_option maxRecDepth 5000 in
theorem cw_504 : (.methodLink RX4 28 ⟨"java/lang/System", "arraycopy", "(Ljava/lang/Object;ILjava/lang/Object;II)V"⟩ : Cond) ∈ pj_tb := pj_t2 (List.mem_of_getElem? (i := 184) (by rfl)) (by rfl)
set_option maxRecDepth 5000 in
theorem cw_505 : (.methodLink RX4 42 ⟨"AlikeSteps$Net", "setArcPart", "(III)V"⟩ : Cond) ∈ pj_tb := pj_t2 (List.mem_of_getElem? (i := 185) (by rfl)) (by rfl)
set_option maxRecDepth 5000 in
theorem cw_506 : (.instanceMethod ⟨"AlikeSteps$Net", "setArcPart", "(III)V"⟩ : Cond) ∈ pj_tb := pj_t2 (List.mem_of_getElem? (i := 186) (by rfl)) (by rfl)
set_option maxRecDepth 5000 in
theorem cw_507 : (.selects "AlikeSteps$Net" ⟨"AlikeSteps$Net", "setArcPart", "(III)V"⟩ ⟨"AlikeSteps$Net", "setArcPart", "(III)V"⟩ : Cond) ∈ pj_tb := pj_t2 (List.mem_of_getElem? (i := 187) (by rfl)) (by rfl)
set_option maxRecDepth 5000 in
theorem cw_508 : (.code ⟨"AlikeSteps$Net", "setArcPart", "(III)V"⟩ prog_6_method_19_code 4 none : Cond) ∈ pj_tb := pj_t2 (List.mem_of_getElem? (i := 188) (by rfl)) (by rfl)
set_option maxRecDepth 5000 in
theorem cw_509 : (.methodLink RX10 142 ⟨"AlikeSteps$Tape", "clear", "()V"⟩ : Cond) ∈ pj_tb := pj_t2 (List.mem_of_getElem? (i := 189) (by rfl)) (by rfl)
set_option maxRecDepth 5000 in
theorem cw_510 : (.instanceMethod ⟨"AlikeSteps$Tape", "clear", "()V"⟩ : Cond) ∈ pj_tb := pj_t2 (List.mem_of_getElem? (i := 190) (by rfl)) (by rfl)
set_option maxRecDepth 5000 in
theorem cw_511 : (.selects "AlikeSteps$Tape" ⟨"AlikeSteps$Tape", "clear", "()V"⟩ ⟨"AlikeSteps$Tape", "clear", "()V"⟩ : Cond) ∈ pj_tb := pj_t2 (List.mem_of_getElem? (i := 191) (by rfl)) (by rfl)
set_option maxRecDepth 5000 in
theorem cw_512 : (.code ⟨"AlikeSteps$Tape", "clear", "()V"⟩ prog_10_method_5_code 1 none : Cond) ∈ pj_tb := pj_t2 (List.mem_of_getElem? (i := 192) (by rfl)) (by rfl)
set_option maxRecDepth 5000 in
theorem cw_513 : (.constant RX10 145 (-1000100) : Cond) ∈ pj_tb := pj_t2 (List.mem_of_getElem? (i := 193) (by rfl)) (by rfl)
set_option maxRecDepth 5000 in
theorem cw_514 : (.methodLink RX10 146 ⟨"AlikeSteps$Tape", "place", "()I"⟩ : Cond) ∈ pj_tb := pj_t2 (List.mem_of_getElem? (i := 194) (by rfl)) (by rfl)
set_option maxRecDepth 5000 in
theorem cw_515 : (.instanceMethod ⟨"AlikeSteps$Tape", "place", "()I"⟩ : Cond) ∈ pj_tb := pj_t2 (List.mem_of_getElem? (i := 195) (by rfl)) (by rfl)
set_option maxRecDepth 5000 in
theorem cw_516 : (.selects "AlikeSteps$Tape" ⟨"AlikeSteps$Tape", "place", "()I"⟩ ⟨"AlikeSteps$Tape", "place", "()I"⟩ : Cond) ∈ pj_tb := pj_t2 (List.mem_of_getElem? (i := 196) (by rfl)) (by rfl)
set_option maxRecDepth 5000 in
theorem cw_517 : (.code ⟨"AlikeSteps$Tape", "place", "()I"⟩ prog_10_method_6_code 1 (some .int) : Cond) ∈ pj_tb := pj_t2 (List.mem_of_getElem? (i := 197) (by rfl)) (by rfl)
set_option maxRecDepth 5000 in
theorem cw_518 : (.methodLink RX10 150 ⟨"AlikeSteps$Net", "takeOver", "(LAlikeSteps$Net;)V"⟩ : Cond) ∈ pj_tb := pj_t2 (List.mem_of_getElem? (i := 198) (by rfl)) (by rfl)
set_option maxRecDepth 5000 in
theorem cw_519 : (.instanceMethod ⟨"AlikeSteps$Net", "takeOver", "(LAlikeSteps$Net;)V"⟩ : Cond) ∈ pj_tb := pj_t2 (List.mem_of_getElem? (i := 199) (by rfl)) (by rfl)
set_option maxRecDepth 5000 in
theorem cw_520 : (.selects "AlikeSteps$Net" ⟨"AlikeSteps$Net", "takeOver", "(LAlikeSteps$Net;)V"⟩ ⟨"AlikeSteps$Net", "takeOver", "(LAlikeSteps$Net;)V"⟩ : Cond) ∈ pj_tb := pj_t2 (List.mem_of_getElem? (i := 200) (by rfl)) (by rfl)
set_option maxRecDepth 5000 in
theorem cw_521 : (.code ⟨"AlikeSteps$Net", "takeOver", "(LAlikeSteps$Net;)V"⟩ prog_6_method_12_code 2 none : Cond) ∈ pj_tb := pj_t2 (List.mem_of_getElem? (i := 201) (by rfl)) (by rfl)
set_option maxRecDepth 5000 in
theorem cw_522 : (.methodLink RX10 154 ⟨"AlikeSteps$Acts", "forget", "()V"⟩ : Cond) ∈ pj_tb := pj_t2 (List.mem_of_getElem? (i := 202) (by rfl)) (by rfl)
set_option maxRecDepth 5000 in
theorem cw_523 : (.instanceMethod ⟨"AlikeSteps$Acts", "forget", "()V"⟩ : Cond) ∈ pj_tb := pj_t2 (List.mem_of_getElem? (i := 203) (by rfl)) (by rfl)
set_option maxRecDepth 5000 in
theorem cw_524 : (.selects "AlikeSteps$Acts" ⟨"AlikeSteps$Acts", "forget", "()V"⟩ ⟨"AlikeSteps$Acts", "forget", "()V"⟩ : Cond) ∈ pj_tb := pj_t2 (List.mem_of_getElem? (i := 204) (by rfl)) (by rfl)
set_option maxRecDepth 5000 in
theorem cw_525 : (.code ⟨"AlikeSteps$Acts", "forget", "()V"⟩ prog_2_method_3_code 1 none : Cond) ∈ pj_tb := pj_t2 (List.mem_of_getElem? (i := 205) (by rfl)) (by rfl)
set_option maxRecDepth 5000 in
theorem cw_526 : (.methodLink RX10 157 ⟨"AlikeSteps$Net", "states", "()I"⟩ : Cond) ∈ pj_tb := pj_t2 (List.mem_of_getElem? (i := 206) (by rfl)) (by rfl)
set_option maxRecDepth 5000 in
theorem cw_527 : (.instanceMethod ⟨"AlikeSteps$Net", "states", "()I"⟩ : Cond) ∈ pj_tb := pj_t2 (List.mem_of_getElem? (i := 207) (by rfl)) (by rfl)
set_option maxRecDepth 5000 in
theorem cw_528 : (.selects "AlikeSteps$Net" ⟨"AlikeSteps$Net", "states", "()I"⟩ ⟨"AlikeSteps$Net", "states", "()I"⟩ : Cond) ∈ pj_tb := pj_t2 (List.mem_of_getElem? (i := 208) (by rfl)) (by rfl)
set_option maxRecDepth 5000 in
theorem cw_529 : (.code ⟨"AlikeSteps$Net", "states", "()I"⟩ prog_6_method_2_code 1 (some .int) : Cond) ∈ pj_tb := pj_t2 (List.mem_of_getElem? (i := 209) (by rfl)) (by rfl)
set_option maxRecDepth 5000 in
theorem cw_531 : (.instanceMethod ⟨"AlikeSteps", "fault", "()I"⟩ : Cond) ∈ pj_tb := pj_t2 (List.mem_of_getElem? (i := 211) (by rfl)) (by rfl)
set_option maxRecDepth 5000 in
theorem cw_532 : (.selects "AlikeSteps" ⟨"AlikeSteps", "fault", "()I"⟩ ⟨"AlikeSteps", "fault", "()I"⟩ : Cond) ∈ pj_tb := pj_t2 (List.mem_of_getElem? (i := 212) (by rfl)) (by rfl)
set_option maxRecDepth 5000 in
theorem cw_533 : (.code ⟨"AlikeSteps", "fault", "()I"⟩ prog_1_method_8_code 1 (some .int) : Cond) ∈ pj_tb := pj_t2 (List.mem_of_getElem? (i := 213) (by rfl)) (by rfl)
set_option maxRecDepth 5000 in
theorem cw_535 : (.instanceMethod ⟨"AlikeSteps", "lay", "(III)I"⟩ : Cond) ∈ pj_tb := pj_t2 (List.mem_of_getElem? (i := 215) (by rfl)) (by rfl)
set_option maxRecDepth 5000 in
theorem cw_536 : (.selects "AlikeSteps" ⟨"AlikeSteps", "lay", "(III)I"⟩ ⟨"AlikeSteps", "lay", "(III)I"⟩ : Cond) ∈ pj_tb := pj_t2 (List.mem_of_getElem? (i := 216) (by rfl)) (by rfl)
set_option maxRecDepth 5000 in
theorem cw_537 : (.code ⟨"AlikeSteps", "lay", "(III)I"⟩ prog_1_method_9_code 4 (some .int) : Cond) ∈ pj_tb := pj_t2 (List.mem_of_getElem? (i := 217) (by rfl)) (by rfl)
set_option maxRecDepth 5000 in
theorem cw_538 : (.methodLink RX10 160 ⟨"AlikeSteps$Net", "hasState", "(I)Z"⟩ : Cond) ∈ pj_tb := pj_t2 (List.mem_of_getElem? (i := 218) (by rfl)) (by rfl)
set_option maxRecDepth 5000 in
theorem cw_539 : (.methodLink RX10 163 ⟨"AlikeSteps$Net", "arcTotal", "()I"⟩ : Cond) ∈ pj_tb := pj_t2 (List.mem_of_getElem? (i := 219) (by rfl)) (by rfl)
set_option maxRecDepth 5000 in
theorem cw_540 : (.instanceMethod ⟨"AlikeSteps$Net", "arcTotal", "()I"⟩ : Cond) ∈ pj_tb := pj_t2 (List.mem_of_getElem? (i := 220) (by rfl)) (by rfl)
set_option maxRecDepth 5000 in
theorem cw_541 : (.selects "AlikeSteps$Net" ⟨"AlikeSteps$Net", "arcTotal", "()I"⟩ ⟨"AlikeSteps$Net", "arcTotal", "()I"⟩ : Cond) ∈ pj_tb := pj_t2 (List.mem_of_getElem? (i := 221) (by rfl)) (by rfl)
set_option maxRecDepth 5000 in
theorem cw_542 : (.code ⟨"AlikeSteps$Net", "arcTotal", "()I"⟩ prog_6_method_3_code 1 (some .int) : Cond) ∈ pj_tb := pj_t2 (List.mem_of_getElem? (i := 222) (by rfl)) (by rfl)
set_option maxRecDepth 5000 in
theorem cw_543 : (.methodLink RX10 166 ⟨"AlikeSteps$Net", "addArc", "(III)V"⟩ : Cond) ∈ pj_tb := pj_t2 (List.mem_of_getElem? (i := 223) (by rfl)) (by rfl)
set_option maxRecDepth 5000 in
theorem cw_544 : (.methodLink RX10 169 ⟨"AlikeSteps$Acts", "noteLaid", "()V"⟩ : Cond) ∈ pj_tb := pj_t2 (List.mem_of_getElem? (i := 224) (by rfl)) (by rfl)
set_option maxRecDepth 5000 in
theorem cw_545 : (.instanceMethod ⟨"AlikeSteps$Acts", "noteLaid", "()V"⟩ : Cond) ∈ pj_tb := pj_t2 (List.mem_of_getElem? (i := 225) (by rfl)) (by rfl)
set_option maxRecDepth 5000 in
theorem cw_546 : (.selects "AlikeSteps$Acts" ⟨"AlikeSteps$Acts", "noteLaid", "()V"⟩ ⟨"AlikeSteps$Acts", "noteLaid", "()V"⟩ : Cond) ∈ pj_tb := pj_t2 (List.mem_of_getElem? (i := 226) (by rfl)) (by rfl)
set_option maxRecDepth 5000 in
theorem cw_547 : (.code ⟨"AlikeSteps$Acts", "noteLaid", "()V"⟩ prog_2_method_4_code 1 none : Cond) ∈ pj_tb := pj_t2 (List.mem_of_getElem? (i := 227) (by rfl)) (by rfl)
set_option maxRecDepth 5000 in
theorem cw_548 : (.methodLink RX0 17 ⟨"AlikeSteps$Acts", "note", "(IIIII)V"⟩ : Cond) ∈ pj_tb := pj_t2 (List.mem_of_getElem? (i := 228) (by rfl)) (by rfl)
set_option maxRecDepth 5000 in
theorem cw_550 : (.instanceMethod ⟨"AlikeSteps$Acts", "note", "(IIIII)V"⟩ : Cond) ∈ pj_tb := pj_t2 (List.mem_of_getElem? (i := 230) (by rfl)) (by rfl)
set_option maxRecDepth 5000 in
theorem cw_551 : (.code ⟨"AlikeSteps$Acts", "note", "(IIIII)V"⟩ prog_2_method_9_code 7 none : Cond) ∈ pj_tb := pj_t2 (List.mem_of_getElem? (i := 231) (by rfl)) (by rfl)
set_option maxRecDepth 5000 in
theorem cw_552 : (.methodLink RX0 46 ⟨"java/lang/System", "arraycopy", "(Ljava/lang/Object;ILjava/lang/Object;II)V"⟩ : Cond) ∈ pj_tb := pj_t2 (List.mem_of_getElem? (i := 232) (by rfl)) (by rfl)
set_option maxRecDepth 5000 in
theorem cw_554 : (.instanceMethod ⟨"AlikeSteps", "cut", "(I)I"⟩ : Cond) ∈ pj_tb := pj_t2 (List.mem_of_getElem? (i := 234) (by rfl)) (by rfl)
set_option maxRecDepth 5000 in
theorem cw_555 : (.selects "AlikeSteps" ⟨"AlikeSteps", "cut", "(I)I"⟩ ⟨"AlikeSteps", "cut", "(I)I"⟩ : Cond) ∈ pj_tb := pj_t2 (List.mem_of_getElem? (i := 235) (by rfl)) (by rfl)
set_option maxRecDepth 5000 in
theorem cw_556 : (.code ⟨"AlikeSteps", "cut", "(I)I"⟩ prog_1_method_10_code 2 (some .int) : Cond) ∈ pj_tb := pj_t2 (List.mem_of_getElem? (i := 236) (by rfl)) (by rfl)
set_option maxRecDepth 5000 in
theorem cw_557 : (.methodLink RX10 172 ⟨"AlikeSteps$Net", "hasArc", "(I)Z"⟩ : Cond) ∈ pj_tb := pj_t2 (List.mem_of_getElem? (i := 237) (by rfl)) (by rfl)
set_option maxRecDepth 5000 in
theorem cw_558 : (.instanceMethod ⟨"AlikeSteps$Net", "hasArc", "(I)Z"⟩ : Cond) ∈ pj_tb := pj_t2 (List.mem_of_getElem? (i := 238) (by rfl)) (by rfl)
set_option maxRecDepth 5000 in
theorem cw_559 : (.selects "AlikeSteps$Net" ⟨"AlikeSteps$Net", "hasArc", "(I)Z"⟩ ⟨"AlikeSteps$Net", "hasArc", "(I)Z"⟩ : Cond) ∈ pj_tb := pj_t2 (List.mem_of_getElem? (i := 239) (by rfl)) (by rfl)
set_option maxRecDepth 5000 in
theorem cw_560 : (.code ⟨"AlikeSteps$Net", "hasArc", "(I)Z"⟩ prog_6_method_6_code 2 (some .boolean) : Cond) ∈ pj_tb := pj_t3 (List.mem_of_getElem? (i := 0) (by rfl)) (by rfl)
set_option maxRecDepth 5000 in
theorem cw_561 : (.methodLink RX10 175 ⟨"AlikeSteps$Acts", "noteCut", "(LAlikeSteps$Net;I)V"⟩ : Cond) ∈ pj_tb := pj_t3 (List.mem_of_getElem? (i := 1) (by rfl)) (by rfl)
set_option maxRecDepth 5000 in
theorem cw_562 : (.instanceMethod ⟨"AlikeSteps$Acts", "noteCut", "(LAlikeSteps$Net;I)V"⟩ : Cond) ∈ pj_tb := pj_t3 (List.mem_of_getElem? (i := 2) (by rfl)) (by rfl)
set_option maxRecDepth 5000 in
theorem cw_563 : (.selects "AlikeSteps$Acts" ⟨"AlikeSteps$Acts", "noteCut", "(LAlikeSteps$Net;I)V"⟩ ⟨"AlikeSteps$Acts", "noteCut", "(LAlikeSteps$Net;I)V"⟩ : Cond) ∈ pj_tb := pj_t3 (List.mem_of_getElem? (i := 3) (by rfl)) (by rfl)
set_option maxRecDepth 5000 in
theorem cw_564 : (.code ⟨"AlikeSteps$Acts", "noteCut", "(LAlikeSteps$Net;I)V"⟩ prog_2_method_5_code 3 none : Cond) ∈ pj_tb := pj_t3 (List.mem_of_getElem? (i := 4) (by rfl)) (by rfl)
set_option maxRecDepth 5000 in
theorem cw_565 : (.methodLink RX0 23 ⟨"AlikeSteps$Net", "arcPart", "(II)I"⟩ : Cond) ∈ pj_tb := pj_t3 (List.mem_of_getElem? (i := 5) (by rfl)) (by rfl)
set_option maxRecDepth 5000 in
theorem cw_566 : (.instanceMethod ⟨"AlikeSteps$Net", "arcPart", "(II)I"⟩ : Cond) ∈ pj_tb := pj_t3 (List.mem_of_getElem? (i := 6) (by rfl)) (by rfl)
set_option maxRecDepth 5000 in
theorem cw_567 : (.selects "AlikeSteps$Net" ⟨"AlikeSteps$Net", "arcPart", "(II)I"⟩ ⟨"AlikeSteps$Net", "arcPart", "(II)I"⟩ : Cond) ∈ pj_tb := pj_t3 (List.mem_of_getElem? (i := 7) (by rfl)) (by rfl)
set_option maxRecDepth 5000 in
theorem cw_568 : (.code ⟨"AlikeSteps$Net", "arcPart", "(II)I"⟩ prog_6_method_8_code 3 (some .int) : Cond) ∈ pj_tb := pj_t3 (List.mem_of_getElem? (i := 8) (by rfl)) (by rfl)
set_option maxRecDepth 5000 in
theorem cw_569 : (.methodLink RX10 179 ⟨"AlikeSteps$Net", "removeArc", "(I)V"⟩ : Cond) ∈ pj_tb := pj_t3 (List.mem_of_getElem? (i := 9) (by rfl)) (by rfl)
set_option maxRecDepth 5000 in
theorem cw_570 : (.instanceMethod ⟨"AlikeSteps$Net", "removeArc", "(I)V"⟩ : Cond) ∈ pj_tb := pj_t3 (List.mem_of_getElem? (i := 10) (by rfl)) (by rfl)
set_option maxRecDepth 5000 in
theorem cw_571 : (.selects "AlikeSteps$Net" ⟨"AlikeSteps$Net", "removeArc", "(I)V"⟩ ⟨"AlikeSteps$Net", "removeArc", "(I)V"⟩ : Cond) ∈ pj_tb := pj_t3 (List.mem_of_getElem? (i := 11) (by rfl)) (by rfl)
set_option maxRecDepth 5000 in
theorem cw_572 : (.code ⟨"AlikeSteps$Net", "removeArc", "(I)V"⟩ prog_6_method_17_code 2 none : Cond) ∈ pj_tb := pj_t3 (List.mem_of_getElem? (i := 12) (by rfl)) (by rfl)
set_option maxRecDepth 5000 in
theorem cw_573 : (.methodLink RX4 45 ⟨"AlikeSteps$Net", "hasArc", "(I)Z"⟩ : Cond) ∈ pj_tb := pj_t3 (List.mem_of_getElem? (i := 13) (by rfl)) (by rfl)
set_option maxRecDepth 5000 in
theorem cw_575 : (.instanceMethod ⟨"AlikeSteps", "turn", "(I)I"⟩ : Cond) ∈ pj_tb := pj_t3 (List.mem_of_getElem? (i := 15) (by rfl)) (by rfl)
set_option maxRecDepth 5000 in
theorem cw_576 : (.selects "AlikeSteps" ⟨"AlikeSteps", "turn", "(I)I"⟩ ⟨"AlikeSteps", "turn", "(I)I"⟩ : Cond) ∈ pj_tb := pj_t3 (List.mem_of_getElem? (i := 16) (by rfl)) (by rfl)
set_option maxRecDepth 5000 in
theorem cw_577 : (.code ⟨"AlikeSteps", "turn", "(I)I"⟩ prog_1_method_11_code 2 (some .int) : Cond) ∈ pj_tb := pj_t3 (List.mem_of_getElem? (i := 17) (by rfl)) (by rfl)
set_option maxRecDepth 5000 in
theorem cw_578 : (.methodLink RX10 182 ⟨"AlikeSteps$Net", "turnArc", "(I)V"⟩ : Cond) ∈ pj_tb := pj_t3 (List.mem_of_getElem? (i := 18) (by rfl)) (by rfl)
set_option maxRecDepth 5000 in
theorem cw_579 : (.instanceMethod ⟨"AlikeSteps$Net", "turnArc", "(I)V"⟩ : Cond) ∈ pj_tb := pj_t3 (List.mem_of_getElem? (i := 19) (by rfl)) (by rfl)
set_option maxRecDepth 5000 in
theorem cw_580 : (.selects "AlikeSteps$Net" ⟨"AlikeSteps$Net", "turnArc", "(I)V"⟩ ⟨"AlikeSteps$Net", "turnArc", "(I)V"⟩ : Cond) ∈ pj_tb := pj_t3 (List.mem_of_getElem? (i := 20) (by rfl)) (by rfl)
set_option maxRecDepth 5000 in
theorem cw_581 : (.code ⟨"AlikeSteps$Net", "turnArc", "(I)V"⟩ prog_6_method_18_code 3 none : Cond) ∈ pj_tb := pj_t3 (List.mem_of_getElem? (i := 21) (by rfl)) (by rfl)
set_option maxRecDepth 5000 in
theorem cw_582 : (.methodLink RX4 49 ⟨"AlikeSteps$Net", "arcPart", "(II)I"⟩ : Cond) ∈ pj_tb := pj_t3 (List.mem_of_getElem? (i := 22) (by rfl)) (by rfl)
set_option maxRecDepth 5000 in
theorem cw_583 : (.methodLink RX10 185 ⟨"AlikeSteps$Acts", "noteTurned", "(I)V"⟩ : Cond) ∈ pj_tb := pj_t3 (List.mem_of_getElem? (i := 23) (by rfl)) (by rfl)
set_option maxRecDepth 5000 in
theorem cw_584 : (.instanceMethod ⟨"AlikeSteps$Acts", "noteTurned", "(I)V"⟩ : Cond) ∈ pj_tb := pj_t3 (List.mem_of_getElem? (i := 24) (by rfl)) (by rfl)
set_option maxRecDepth 5000 in
theorem cw_585 : (.selects "AlikeSteps$Acts" ⟨"AlikeSteps$Acts", "noteTurned", "(I)V"⟩ ⟨"AlikeSteps$Acts", "noteTurned", "(I)V"⟩ : Cond) ∈ pj_tb := pj_t3 (List.mem_of_getElem? (i := 25) (by rfl)) (by rfl)
set_option maxRecDepth 5000 in
theorem cw_586 : (.code ⟨"AlikeSteps$Acts", "noteTurned", "(I)V"⟩ prog_2_method_6_code 2 none : Cond) ∈ pj_tb := pj_t3 (List.mem_of_getElem? (i := 26) (by rfl)) (by rfl)
set_option maxRecDepth 5000 in
theorem cw_587 : (.methodLink RX10 188 ⟨"AlikeSteps$Net", "arcPart", "(II)I"⟩ : Cond) ∈ pj_tb := pj_t3 (List.mem_of_getElem? (i := 27) (by rfl)) (by rfl)
set_option maxRecDepth 5000 in
theorem cw_589 : (.instanceMethod ⟨"AlikeSteps", "become", "(II)I"⟩ : Cond) ∈ pj_tb := pj_t3 (List.mem_of_getElem? (i := 29) (by rfl)) (by rfl)
set_option maxRecDepth 5000 in
theorem cw_590 : (.selects "AlikeSteps" ⟨"AlikeSteps", "become", "(II)I"⟩ ⟨"AlikeSteps", "become", "(II)I"⟩ : Cond) ∈ pj_tb := pj_t3 (List.mem_of_getElem? (i := 30) (by rfl)) (by rfl)
set_option maxRecDepth 5000 in
theorem cw_591 : (.code ⟨"AlikeSteps", "become", "(II)I"⟩ prog_1_method_12_code 4 (some .int) : Cond) ∈ pj_tb := pj_t3 (List.mem_of_getElem? (i := 31) (by rfl)) (by rfl)
set_option maxRecDepth 5000 in
theorem cw_592 : (.methodLink RX10 192 ⟨"AlikeSteps$Net", "kindOf", "(I)I"⟩ : Cond) ∈ pj_tb := pj_t3 (List.mem_of_getElem? (i := 32) (by rfl)) (by rfl)
set_option maxRecDepth 5000 in
theorem cw_593 : (.instanceMethod ⟨"AlikeSteps$Net", "kindOf", "(I)I"⟩ : Cond) ∈ pj_tb := pj_t3 (List.mem_of_getElem? (i := 33) (by rfl)) (by rfl)
set_option maxRecDepth 5000 in
theorem cw_594 : (.selects "AlikeSteps$Net" ⟨"AlikeSteps$Net", "kindOf", "(I)I"⟩ ⟨"AlikeSteps$Net", "kindOf", "(I)I"⟩ : Cond) ∈ pj_tb := pj_t3 (List.mem_of_getElem? (i := 34) (by rfl)) (by rfl)
set_option maxRecDepth 5000 in
theorem cw_595 : (.code ⟨"AlikeSteps$Net", "kindOf", "(I)I"⟩ prog_6_method_7_code 2 (some .int) : Cond) ∈ pj_tb := pj_t3 (List.mem_of_getElem? (i := 35) (by rfl)) (by rfl)
set_option maxRecDepth 5000 in
theorem cw_596 : (.constant RX10 195 (-1000002) : Cond) ∈ pj_tb := pj_t3 (List.mem_of_getElem? (i := 36) (by rfl)) (by rfl)
set_option maxRecDepth 5000 in
theorem cw_597 : (.methodLink RX10 196 ⟨"AlikeSteps$Net", "setKind", "(II)V"⟩ : Cond) ∈ pj_tb := pj_t3 (List.mem_of_getElem? (i := 37) (by rfl)) (by rfl)
set_option maxRecDepth 5000 in
theorem cw_598 : (.instanceMethod ⟨"AlikeSteps$Net", "setKind", "(II)V"⟩ : Cond) ∈ pj_tb := pj_t3 (List.mem_of_getElem? (i := 38) (by rfl)) (by rfl)
set_option maxRecDepth 5000 in
theorem cw_599 : (.selects "AlikeSteps$Net" ⟨"AlikeSteps$Net", "setKind", "(II)V"⟩ ⟨"AlikeSteps$Net", "setKind", "(II)V"⟩ : Cond) ∈ pj_tb := pj_t3 (List.mem_of_getElem? (i := 39) (by rfl)) (by rfl)
set_option maxRecDepth 5000 in
theorem cw_600 : (.code ⟨"AlikeSteps$Net", "setKind", "(II)V"⟩ prog_6_method_14_code 3 none : Cond) ∈ pj_tb := pj_t3 (List.mem_of_getElem? (i := 40) (by rfl)) (by rfl)
set_option maxRecDepth 5000 in
theorem cw_601 : (.methodLink RX10 200 ⟨"AlikeSteps$Acts", "noteKind", "(II)V"⟩ : Cond) ∈ pj_tb := pj_t3 (List.mem_of_getElem? (i := 41) (by rfl)) (by rfl)
set_option maxRecDepth 5000 in
theorem cw_602 : (.instanceMethod ⟨"AlikeSteps$Acts", "noteKind", "(II)V"⟩ : Cond) ∈ pj_tb := pj_t3 (List.mem_of_getElem? (i := 42) (by rfl)) (by rfl)
set_option maxRecDepth 5000 in
theorem cw_603 : (.selects "AlikeSteps$Acts" ⟨"AlikeSteps$Acts", "noteKind", "(II)V"⟩ ⟨"AlikeSteps$Acts", "noteKind", "(II)V"⟩ : Cond) ∈ pj_tb := pj_t3 (List.mem_of_getElem? (i := 43) (by rfl)) (by rfl)
set_option maxRecDepth 5000 in
theorem cw_604 : (.code ⟨"AlikeSteps$Acts", "noteKind", "(II)V"⟩ prog_2_method_7_code 3 none : Cond) ∈ pj_tb := pj_t3 (List.mem_of_getElem? (i := 44) (by rfl)) (by rfl)
set_option maxRecDepth 5000 in
theorem cw_606 : (.instanceMethod ⟨"AlikeSteps", "undo", "()I"⟩ : Cond) ∈ pj_tb := pj_t3 (List.mem_of_getElem? (i := 46) (by rfl)) (by rfl)
set_option maxRecDepth 5000 in
theorem cw_607 : (.selects "AlikeSteps" ⟨"AlikeSteps", "undo", "()I"⟩ ⟨"AlikeSteps", "undo", "()I"⟩ : Cond) ∈ pj_tb := pj_t3 (List.mem_of_getElem? (i := 47) (by rfl)) (by rfl)
set_option maxRecDepth 5000 in
theorem cw_608 : (.code ⟨"AlikeSteps", "undo", "()I"⟩ prog_1_method_13_code 1 (some .int) : Cond) ∈ pj_tb := pj_t3 (List.mem_of_getElem? (i := 48) (by rfl)) (by rfl)
set_option maxRecDepth 5000 in
theorem cw_609 : (.methodLink RX10 203 ⟨"AlikeSteps$Acts", "size", "()I"⟩ : Cond) ∈ pj_tb := pj_t3 (List.mem_of_getElem? (i := 49) (by rfl)) (by rfl)
set_option maxRecDepth 5000 in
theorem cw_610 : (.instanceMethod ⟨"AlikeSteps$Acts", "size", "()I"⟩ : Cond) ∈ pj_tb := pj_t3 (List.mem_of_getElem? (i := 50) (by rfl)) (by rfl)
set_option maxRecDepth 5000 in
theorem cw_611 : (.selects "AlikeSteps$Acts" ⟨"AlikeSteps$Acts", "size", "()I"⟩ ⟨"AlikeSteps$Acts", "size", "()I"⟩ : Cond) ∈ pj_tb := pj_t3 (List.mem_of_getElem? (i := 51) (by rfl)) (by rfl)
set_option maxRecDepth 5000 in
theorem cw_612 : (.code ⟨"AlikeSteps$Acts", "size", "()I"⟩ prog_2_method_2_code 1 (some .int) : Cond) ∈ pj_tb := pj_t3 (List.mem_of_getElem? (i := 52) (by rfl)) (by rfl)
set_option maxRecDepth 5000 in
theorem cw_613 : (.methodLink RX10 206 ⟨"AlikeSteps$Acts", "undoLatest", "(LAlikeSteps$Net;)V"⟩ : Cond) ∈ pj_tb := pj_t3 (List.mem_of_getElem? (i := 53) (by rfl)) (by rfl)
set_option maxRecDepth 5000 in
theorem cw_614 : (.instanceMethod ⟨"AlikeSteps$Acts", "undoLatest", "(LAlikeSteps$Net;)V"⟩ : Cond) ∈ pj_tb := pj_t3 (List.mem_of_getElem? (i := 54) (by rfl)) (by rfl)
set_option maxRecDepth 5000 in
theorem cw_615 : (.selects "AlikeSteps$Acts" ⟨"AlikeSteps$Acts", "undoLatest", "(LAlikeSteps$Net;)V"⟩ ⟨"AlikeSteps$Acts", "undoLatest", "(LAlikeSteps$Net;)V"⟩ : Cond) ∈ pj_tb := pj_t3 (List.mem_of_getElem? (i := 55) (by rfl)) (by rfl)
set_option maxRecDepth 5000 in
theorem cw_616 : (.code ⟨"AlikeSteps$Acts", "undoLatest", "(LAlikeSteps$Net;)V"⟩ prog_2_method_8_code 3 none : Cond) ∈ pj_tb := pj_t3 (List.mem_of_getElem? (i := 56) (by rfl)) (by rfl)
set_option maxRecDepth 5000 in
theorem cw_617 : (.methodLink RX0 27 ⟨"AlikeSteps$Net", "arcTotal", "()I"⟩ : Cond) ∈ pj_tb := pj_t3 (List.mem_of_getElem? (i := 57) (by rfl)) (by rfl)
set_option maxRecDepth 5000 in
theorem cw_618 : (.methodLink RX0 31 ⟨"AlikeSteps$Net", "removeArc", "(I)V"⟩ : Cond) ∈ pj_tb := pj_t3 (List.mem_of_getElem? (i := 58) (by rfl)) (by rfl)
set_option maxRecDepth 5000 in
theorem cw_619 : (.methodLink RX0 35 ⟨"AlikeSteps$Net", "insertArc", "(IIII)V"⟩ : Cond) ∈ pj_tb := pj_t3 (List.mem_of_getElem? (i := 59) (by rfl)) (by rfl)
set_option maxRecDepth 5000 in
theorem cw_620 : (.methodLink RX0 39 ⟨"AlikeSteps$Net", "turnArc", "(I)V"⟩ : Cond) ∈ pj_tb := pj_t3 (List.mem_of_getElem? (i := 60) (by rfl)) (by rfl)
set_option maxRecDepth 5000 in
theorem cw_621 : (.methodLink RX0 42 ⟨"AlikeSteps$Net", "setKind", "(II)V"⟩ : Cond) ∈ pj_tb := pj_t3 (List.mem_of_getElem? (i := 61) (by rfl)) (by rfl)
set_option maxRecDepth 5000 in
theorem cw_623 : (.instanceMethod ⟨"AlikeSteps", "arc", "(II)I"⟩ : Cond) ∈ pj_tb := pj_t3 (List.mem_of_getElem? (i := 63) (by rfl)) (by rfl)
set_option maxRecDepth 5000 in
theorem cw_624 : (.selects "AlikeSteps" ⟨"AlikeSteps", "arc", "(II)I"⟩ ⟨"AlikeSteps", "arc", "(II)I"⟩ : Cond) ∈ pj_tb := pj_t3 (List.mem_of_getElem? (i := 64) (by rfl)) (by rfl)
set_option maxRecDepth 5000 in
theorem cw_625 : (.code ⟨"AlikeSteps", "arc", "(II)I"⟩ prog_1_method_14_code 3 (some .int) : Cond) ∈ pj_tb := pj_t3 (List.mem_of_getElem? (i := 65) (by rfl)) (by rfl)
set_option maxRecDepth 5000 in
theorem cw_627 : (.instanceMethod ⟨"AlikeSteps", "moves", "(III)I"⟩ : Cond) ∈ pj_tb := pj_t3 (List.mem_of_getElem? (i := 67) (by rfl)) (by rfl)
set_option maxRecDepth 5000 in
theorem cw_628 : (.selects "AlikeSteps" ⟨"AlikeSteps", "moves", "(III)I"⟩ ⟨"AlikeSteps", "moves", "(III)I"⟩ : Cond) ∈ pj_tb := pj_t3 (List.mem_of_getElem? (i := 68) (by rfl)) (by rfl)
set_option maxRecDepth 5000 in
theorem cw_629 : (.code ⟨"AlikeSteps", "moves", "(III)I"⟩ prog_1_method_15_code 4 (some .int) : Cond) ∈ pj_tb := pj_t3 (List.mem_of_getElem? (i := 69) (by rfl)) (by rfl)
set_option maxRecDepth 5000 in
theorem cw_630 : (.methodLink RX10 209 ⟨"AlikeSteps$Alike", "steps", "(LAlikeSteps$Net;)LAlikeSteps$Steps;"⟩ : Cond) ∈ pj_tb := pj_t3 (List.mem_of_getElem? (i := 70) (by rfl)) (by rfl)
set_option maxRecDepth 5000 in
theorem cw_631 : (.instanceMethod ⟨"AlikeSteps$Alike", "steps", "(LAlikeSteps$Net;)LAlikeSteps$Steps;"⟩ : Cond) ∈ pj_tb := pj_t3 (List.mem_of_getElem? (i := 71) (by rfl)) (by rfl)
set_option maxRecDepth 5000 in
theorem cw_632 : (.selects "AlikeSteps$Alike" ⟨"AlikeSteps$Alike", "steps", "(LAlikeSteps$Net;)LAlikeSteps$Steps;"⟩ ⟨"AlikeSteps$Alike", "steps", "(LAlikeSteps$Net;)LAlikeSteps$Steps;"⟩ : Cond) ∈ pj_tb := pj_t3 (List.mem_of_getElem? (i := 72) (by rfl)) (by rfl)
set_option maxRecDepth 5000 in
theorem cw_633 : (.code ⟨"AlikeSteps$Alike", "steps", "(LAlikeSteps$Net;)LAlikeSteps$Steps;"⟩ prog_3_method_2_code 2 (some (.object "AlikeSteps$Steps")) : Cond) ∈ pj_tb := pj_t3 (List.mem_of_getElem? (i := 73) (by rfl)) (by rfl)
set_option maxRecDepth 5000 in
theorem cw_634 : (.methodLink RX1 25 ⟨"AlikeSteps$Steps", "follow", "(LAlikeSteps$Net;)V"⟩ : Cond) ∈ pj_tb := pj_t3 (List.mem_of_getElem? (i := 74) (by rfl)) (by rfl)
set_option maxRecDepth 5000 in
theorem cw_635 : (.instanceMethod ⟨"AlikeSteps$Steps", "follow", "(LAlikeSteps$Net;)V"⟩ : Cond) ∈ pj_tb := pj_t3 (List.mem_of_getElem? (i := 75) (by rfl)) (by rfl)
set_option maxRecDepth 5000 in
theorem cw_636 : (.selects "AlikeSteps$Steps" ⟨"AlikeSteps$Steps", "follow", "(LAlikeSteps$Net;)V"⟩ ⟨"AlikeSteps$Steps", "follow", "(LAlikeSteps$Net;)V"⟩ : Cond) ∈ pj_tb := pj_t3 (List.mem_of_getElem? (i := 76) (by rfl)) (by rfl)
set_option maxRecDepth 5000 in
theorem cw_637 : (.code ⟨"AlikeSteps$Steps", "follow", "(LAlikeSteps$Net;)V"⟩ prog_9_method_2_code 3 none : Cond) ∈ pj_tb := pj_t3 (List.mem_of_getElem? (i := 77) (by rfl)) (by rfl)
set_option maxRecDepth 5000 in
theorem cw_638 : (.methodLink RX7 22 ⟨"AlikeSteps$Net", "version", "()I"⟩ : Cond) ∈ pj_tb := pj_t3 (List.mem_of_getElem? (i := 78) (by rfl)) (by rfl)
set_option maxRecDepth 5000 in
theorem cw_639 : (.instanceMethod ⟨"AlikeSteps$Net", "version", "()I"⟩ : Cond) ∈ pj_tb := pj_t3 (List.mem_of_getElem? (i := 79) (by rfl)) (by rfl)
set_option maxRecDepth 5000 in
theorem cw_640 : (.selects "AlikeSteps$Net" ⟨"AlikeSteps$Net", "version", "()I"⟩ ⟨"AlikeSteps$Net", "version", "()I"⟩ : Cond) ∈ pj_tb := pj_t3 (List.mem_of_getElem? (i := 80) (by rfl)) (by rfl)
set_option maxRecDepth 5000 in
theorem cw_641 : (.code ⟨"AlikeSteps$Net", "version", "()I"⟩ prog_6_method_4_code 1 (some .int) : Cond) ∈ pj_tb := pj_t3 (List.mem_of_getElem? (i := 81) (by rfl)) (by rfl)
set_option maxRecDepth 5000 in
theorem cw_642 : (.methodLink RX7 28 ⟨"AlikeSteps$Net", "arcTotal", "()I"⟩ : Cond) ∈ pj_tb := pj_t3 (List.mem_of_getElem? (i := 82) (by rfl)) (by rfl)
set_option maxRecDepth 5000 in
theorem cw_643 : (.methodLink RX7 31 ⟨"AlikeSteps$Steps", "openArc", "(LAlikeSteps$Net;I)V"⟩ : Cond) ∈ pj_tb := pj_t3 (List.mem_of_getElem? (i := 83) (by rfl)) (by rfl)
set_option maxRecDepth 5000 in
theorem cw_645 : (.instanceMethod ⟨"AlikeSteps$Steps", "openArc", "(LAlikeSteps$Net;I)V"⟩ : Cond) ∈ pj_tb := pj_t3 (List.mem_of_getElem? (i := 85) (by rfl)) (by rfl)
set_option maxRecDepth 5000 in
theorem cw_646 : (.code ⟨"AlikeSteps$Steps", "openArc", "(LAlikeSteps$Net;I)V"⟩ prog_9_method_12_code 6 none : Cond) ∈ pj_tb := pj_t3 (List.mem_of_getElem? (i := 86) (by rfl)) (by rfl)
set_option maxRecDepth 5000 in
theorem cw_647 : (.methodLink RX7 72 ⟨"AlikeSteps$Net", "arcPart", "(II)I"⟩ : Cond) ∈ pj_tb := pj_t3 (List.mem_of_getElem? (i := 87) (by rfl)) (by rfl)
set_option maxRecDepth 5000 in
theorem cw_648 : (.methodLink RX7 75 ⟨"AlikeSteps$Net", "kindOf", "(I)I"⟩ : Cond) ∈ pj_tb := pj_t3 (List.mem_of_getElem? (i := 88) (by rfl)) (by rfl)
set_option maxRecDepth 5000 in
theorem cw_650 : (.static ⟨"AlikeSteps", "isA", "(II)Z"⟩ : Cond) ∈ pj_tb := pj_t3 (List.mem_of_getElem? (i := 90) (by rfl)) (by rfl)
set_option maxRecDepth 5000 in
theorem cw_651 : (.code ⟨"AlikeSteps", "isA", "(II)Z"⟩ prog_1_method_41_code 2 (some .boolean) : Cond) ∈ pj_tb := pj_t3 (List.mem_of_getElem? (i := 91) (by rfl)) (by rfl)
set_option maxRecDepth 5000 in
theorem cw_652 : (.methodLink RX10 328 ⟨"AlikeSteps", "nextKind", "(I)I"⟩ : Cond) ∈ pj_tb := pj_t3 (List.mem_of_getElem? (i := 92) (by rfl)) (by rfl)
set_option maxRecDepth 5000 in
theorem cw_653 : (.static ⟨"AlikeSteps", "nextKind", "(I)I"⟩ : Cond) ∈ pj_tb := pj_t3 (List.mem_of_getElem? (i := 93) (by rfl)) (by rfl)
set_option maxRecDepth 5000 in
theorem cw_654 : (.code ⟨"AlikeSteps", "nextKind", "(I)I"⟩ prog_1_method_42_code 1 (some .int) : Cond) ∈ pj_tb := pj_t3 (List.mem_of_getElem? (i := 94) (by rfl)) (by rfl)
set_option maxRecDepth 5000 in
theorem cw_655 : (.methodLink RX7 35 ⟨"AlikeSteps$Steps", "closeSilent", "()V"⟩ : Cond) ∈ pj_tb := pj_t3 (List.mem_of_getElem? (i := 95) (by rfl)) (by rfl)
set_option maxRecDepth 5000 in
theorem cw_657 : (.instanceMethod ⟨"AlikeSteps$Steps", "closeSilent", "()V"⟩ : Cond) ∈ pj_tb := pj_t3 (List.mem_of_getElem? (i := 97) (by rfl)) (by rfl)
set_option maxRecDepth 5000 in
theorem cw_658 : (.code ⟨"AlikeSteps$Steps", "closeSilent", "()V"⟩ prog_9_method_13_code 2 none : Cond) ∈ pj_tb := pj_t3 (List.mem_of_getElem? (i := 98) (by rfl)) (by rfl)
set_option maxRecDepth 5000 in
theorem cw_659 : (.methodLink RX7 82 ⟨"AlikeSteps$Steps", "silentlyWithin", "(II)I"⟩ : Cond) ∈ pj_tb := pj_t3 (List.mem_of_getElem? (i := 99) (by rfl)) (by rfl)
set_option maxRecDepth 5000 in
theorem cw_660 : (.instanceMethod ⟨"AlikeSteps$Steps", "silentlyWithin", "(II)I"⟩ : Cond) ∈ pj_tb := pj_t3 (List.mem_of_getElem? (i := 100) (by rfl)) (by rfl)
set_option maxRecDepth 5000 in
theorem cw_661 : (.selects "AlikeSteps$Steps" ⟨"AlikeSteps$Steps", "silentlyWithin", "(II)I"⟩ ⟨"AlikeSteps$Steps", "silentlyWithin", "(II)I"⟩ : Cond) ∈ pj_tb := pj_t3 (List.mem_of_getElem? (i := 101) (by rfl)) (by rfl)
set_option maxRecDepth 5000 in
theorem cw_662 : (.code ⟨"AlikeSteps$Steps", "silentlyWithin", "(II)I"⟩ prog_9_method_6_code 6 (some .int) : Cond) ∈ pj_tb := pj_t3 (List.mem_of_getElem? (i := 102) (by rfl)) (by rfl)
set_option maxRecDepth 5000 in
theorem cw_663 : (.methodLink RX7 45 ⟨"AlikeSteps$Steps", "union", "([III)I"⟩ : Cond) ∈ pj_tb := pj_t3 (List.mem_of_getElem? (i := 103) (by rfl)) (by rfl)
set_option maxRecDepth 5000 in
theorem cw_664 : (.static ⟨"AlikeSteps$Steps", "union", "([III)I"⟩ : Cond) ∈ pj_tb := pj_t3 (List.mem_of_getElem? (i := 104) (by rfl)) (by rfl)
set_option maxRecDepth 5000 in
theorem cw_665 : (.code ⟨"AlikeSteps$Steps", "union", "([III)I"⟩ prog_9_method_16_code 5 (some .int) : Cond) ∈ pj_tb := pj_t3 (List.mem_of_getElem? (i := 105) (by rfl)) (by rfl)
set_option maxRecDepth 5000 in
theorem cw_666 : (.methodLink RX7 38 ⟨"AlikeSteps$Steps", "closeLetters", "()V"⟩ : Cond) ∈ pj_tb := pj_t3 (List.mem_of_getElem? (i := 106) (by rfl)) (by rfl)
set_option maxRecDepth 5000 in
theorem cw_668 : (.instanceMethod ⟨"AlikeSteps$Steps", "closeLetters", "()V"⟩ : Cond) ∈ pj_tb := pj_t3 (List.mem_of_getElem? (i := 108) (by rfl)) (by rfl)
set_option maxRecDepth 5000 in
theorem cw_669 : (.code ⟨"AlikeSteps$Steps", "closeLetters", "()V"⟩ prog_9_method_14_code 4 none : Cond) ∈ pj_tb := pj_t3 (List.mem_of_getElem? (i := 109) (by rfl)) (by rfl)
set_option maxRecDepth 5000 in
theorem cw_670 : (.methodLink RX7 85 ⟨"AlikeSteps$Steps", "goneFrom", "(II)I"⟩ : Cond) ∈ pj_tb := pj_t3 (List.mem_of_getElem? (i := 110) (by rfl)) (by rfl)
set_option maxRecDepth 5000 in
theorem cw_671 : (.instanceMethod ⟨"AlikeSteps$Steps", "goneFrom", "(II)I"⟩ : Cond) ∈ pj_tb := pj_t3 (List.mem_of_getElem? (i := 111) (by rfl)) (by rfl)
set_option maxRecDepth 5000 in
theorem cw_672 : (.selects "AlikeSteps$Steps" ⟨"AlikeSteps$Steps", "goneFrom", "(II)I"⟩ ⟨"AlikeSteps$Steps", "goneFrom", "(II)I"⟩ : Cond) ∈ pj_tb := pj_t3 (List.mem_of_getElem? (i := 112) (by rfl)) (by rfl)
set_option maxRecDepth 5000 in
theorem cw_673 : (.code ⟨"AlikeSteps$Steps", "goneFrom", "(II)I"⟩ prog_9_method_5_code 3 (some .int) : Cond) ∈ pj_tb := pj_t3 (List.mem_of_getElem? (i := 113) (by rfl)) (by rfl)
set_option maxRecDepth 5000 in
theorem cw_674 : (.methodLink RX10 213 ⟨"AlikeSteps$Steps", "moved", "(III)I"⟩ : Cond) ∈ pj_tb := pj_t3 (List.mem_of_getElem? (i := 114) (by rfl)) (by rfl)
set_option maxRecDepth 5000 in
theorem cw_675 : (.instanceMethod ⟨"AlikeSteps$Steps", "moved", "(III)I"⟩ : Cond) ∈ pj_tb := pj_t3 (List.mem_of_getElem? (i := 115) (by rfl)) (by rfl)
set_option maxRecDepth 5000 in
theorem cw_676 : (.selects "AlikeSteps$Steps" ⟨"AlikeSteps$Steps", "moved", "(III)I"⟩ ⟨"AlikeSteps$Steps", "moved", "(III)I"⟩ : Cond) ∈ pj_tb := pj_t3 (List.mem_of_getElem? (i := 116) (by rfl)) (by rfl)
set_option maxRecDepth 5000 in
theorem cw_677 : (.code ⟨"AlikeSteps$Steps", "moved", "(III)I"⟩ prog_9_method_3_code 4 (some .int) : Cond) ∈ pj_tb := pj_t3 (List.mem_of_getElem? (i := 117) (by rfl)) (by rfl)
set_option maxRecDepth 5000 in
theorem cw_678 : (.methodLink RX7 41 ⟨"AlikeSteps$Steps", "gone", "(II)I"⟩ : Cond) ∈ pj_tb := pj_t3 (List.mem_of_getElem? (i := 118) (by rfl)) (by rfl)
set_option maxRecDepth 5000 in
theorem cw_679 : (.instanceMethod ⟨"AlikeSteps$Steps", "gone", "(II)I"⟩ : Cond) ∈ pj_tb := pj_t3 (List.mem_of_getElem? (i := 119) (by rfl)) (by rfl)
set_option maxRecDepth 5000 in
theorem cw_680 : (.selects "AlikeSteps$Steps" ⟨"AlikeSteps$Steps", "gone", "(II)I"⟩ ⟨"AlikeSteps$Steps", "gone", "(II)I"⟩ : Cond) ∈ pj_tb := pj_t3 (List.mem_of_getElem? (i := 120) (by rfl)) (by rfl)
set_option maxRecDepth 5000 in
theorem cw_681 : (.code ⟨"AlikeSteps$Steps", "gone", "(II)I"⟩ prog_9_method_4_code 3 (some .int) : Cond) ∈ pj_tb := pj_t3 (List.mem_of_getElem? (i := 121) (by rfl)) (by rfl)
set_option maxRecDepth 5000 in
theorem cw_683 : (.instanceMethod ⟨"AlikeSteps", "block", "(II)I"⟩ : Cond) ∈ pj_tb := pj_t3 (List.mem_of_getElem? (i := 123) (by rfl)) (by rfl)
set_option maxRecDepth 5000 in
theorem cw_684 : (.selects "AlikeSteps" ⟨"AlikeSteps", "block", "(II)I"⟩ ⟨"AlikeSteps", "block", "(II)I"⟩ : Cond) ∈ pj_tb := pj_t3 (List.mem_of_getElem? (i := 124) (by rfl)) (by rfl)
set_option maxRecDepth 5000 in
theorem cw_685 : (.code ⟨"AlikeSteps", "block", "(II)I"⟩ prog_1_method_16_code 3 (some .int) : Cond) ∈ pj_tb := pj_t3 (List.mem_of_getElem? (i := 125) (by rfl)) (by rfl)
set_option maxRecDepth 5000 in
theorem cw_686 : (.methodLink RX10 218 ⟨"AlikeSteps$Alike", "parting", "(LAlikeSteps$Net;I)LAlikeSteps$Parting;"⟩ : Cond) ∈ pj_tb := pj_t3 (List.mem_of_getElem? (i := 126) (by rfl)) (by rfl)
set_option maxRecDepth 5000 in
theorem cw_687 : (.instanceMethod ⟨"AlikeSteps$Alike", "parting", "(LAlikeSteps$Net;I)LAlikeSteps$Parting;"⟩ : Cond) ∈ pj_tb := pj_t3 (List.mem_of_getElem? (i := 127) (by rfl)) (by rfl)
set_option maxRecDepth 5000 in
theorem cw_688 : (.selects "AlikeSteps$Alike" ⟨"AlikeSteps$Alike", "parting", "(LAlikeSteps$Net;I)LAlikeSteps$Parting;"⟩ ⟨"AlikeSteps$Alike", "parting", "(LAlikeSteps$Net;I)LAlikeSteps$Parting;"⟩ : Cond) ∈ pj_tb := pj_t3 (List.mem_of_getElem? (i := 128) (by rfl)) (by rfl)
set_option maxRecDepth 5000 in
theorem cw_689 : (.code ⟨"AlikeSteps$Alike", "parting", "(LAlikeSteps$Net;I)LAlikeSteps$Parting;"⟩ prog_3_method_3_code 3 (some (.object "AlikeSteps$Parting")) : Cond) ∈ pj_tb := pj_t3 (List.mem_of_getElem? (i := 129) (by rfl)) (by rfl)
set_option maxRecDepth 5000 in
theorem cw_690 : (.methodLink RX1 29 ⟨"AlikeSteps$Parting", "follow", "(LAlikeSteps$Net;LAlikeSteps$Steps;)V"⟩ : Cond) ∈ pj_tb := pj_t3 (List.mem_of_getElem? (i := 130) (by rfl)) (by rfl)
set_option maxRecDepth 5000 in
theorem cw_691 : (.instanceMethod ⟨"AlikeSteps$Parting", "follow", "(LAlikeSteps$Net;LAlikeSteps$Steps;)V"⟩ : Cond) ∈ pj_tb := pj_t3 (List.mem_of_getElem? (i := 131) (by rfl)) (by rfl)
set_option maxRecDepth 5000 in
theorem cw_692 : (.selects "AlikeSteps$Parting" ⟨"AlikeSteps$Parting", "follow", "(LAlikeSteps$Net;LAlikeSteps$Steps;)V"⟩ ⟨"AlikeSteps$Parting", "follow", "(LAlikeSteps$Net;LAlikeSteps$Steps;)V"⟩ : Cond) ∈ pj_tb := pj_t3 (List.mem_of_getElem? (i := 132) (by rfl)) (by rfl)
set_option maxRecDepth 5000 in
theorem cw_693 : (.code ⟨"AlikeSteps$Parting", "follow", "(LAlikeSteps$Net;LAlikeSteps$Steps;)V"⟩ prog_7_method_2_code 5 none : Cond) ∈ pj_tb := pj_t3 (List.mem_of_getElem? (i := 133) (by rfl)) (by rfl)
set_option maxRecDepth 5000 in
theorem cw_694 : (.methodLink RX5 35 ⟨"AlikeSteps$Net", "version", "()I"⟩ : Cond) ∈ pj_tb := pj_t3 (List.mem_of_getElem? (i := 134) (by rfl)) (by rfl)
set_option maxRecDepth 5000 in
theorem cw_695 : (.methodLink RX5 41 ⟨"AlikeSteps$Net", "states", "()I"⟩ : Cond) ∈ pj_tb := pj_t3 (List.mem_of_getElem? (i := 135) (by rfl)) (by rfl)
set_option maxRecDepth 5000 in
theorem cw_696 : (.methodLink RX5 43 ⟨"AlikeSteps$Net", "marked", "()I"⟩ : Cond) ∈ pj_tb := pj_t3 (List.mem_of_getElem? (i := 136) (by rfl)) (by rfl)
set_option maxRecDepth 5000 in
theorem cw_697 : (.instanceMethod ⟨"AlikeSteps$Net", "marked", "()I"⟩ : Cond) ∈ pj_tb := pj_t3 (List.mem_of_getElem? (i := 137) (by rfl)) (by rfl)
set_option maxRecDepth 5000 in
theorem cw_698 : (.selects "AlikeSteps$Net" ⟨"AlikeSteps$Net", "marked", "()I"⟩ ⟨"AlikeSteps$Net", "marked", "()I"⟩ : Cond) ∈ pj_tb := pj_t3 (List.mem_of_getElem? (i := 138) (by rfl)) (by rfl)
set_option maxRecDepth 5000 in
theorem cw_699 : (.code ⟨"AlikeSteps$Net", "marked", "()I"⟩ prog_6_method_10_code 3 (some .int) : Cond) ∈ pj_tb := pj_t3 (List.mem_of_getElem? (i := 139) (by rfl)) (by rfl)
set_option maxRecDepth 5000 in
theorem cw_700 : (.methodLink RX5 46 ⟨"AlikeSteps$Parting", "numberBlocks", "(I)I"⟩ : Cond) ∈ pj_tb := pj_t3 (List.mem_of_getElem? (i := 140) (by rfl)) (by rfl)
set_option maxRecDepth 5000 in
theorem cw_702 : (.instanceMethod ⟨"AlikeSteps$Parting", "numberBlocks", "(I)I"⟩ : Cond) ∈ pj_tb := pj_t3 (List.mem_of_getElem? (i := 142) (by rfl)) (by rfl)
set_option maxRecDepth 5000 in
theorem cw_703 : (.code ⟨"AlikeSteps$Parting", "numberBlocks", "(I)I"⟩ prog_7_method_15_code 6 (some .int) : Cond) ∈ pj_tb := pj_t3 (List.mem_of_getElem? (i := 143) (by rfl)) (by rfl)
set_option maxRecDepth 5000 in
theorem cw_704 : (.methodLink RX5 92 ⟨"AlikeSteps$Parting", "firstLike", "(II)I"⟩ : Cond) ∈ pj_tb := pj_t3 (List.mem_of_getElem? (i := 144) (by rfl)) (by rfl)
set_option maxRecDepth 5000 in
theorem cw_706 : (.instanceMethod ⟨"AlikeSteps$Parting", "firstLike", "(II)I"⟩ : Cond) ∈ pj_tb := pj_t3 (List.mem_of_getElem? (i := 146) (by rfl)) (by rfl)
set_option maxRecDepth 5000 in
theorem cw_707 : (.code ⟨"AlikeSteps$Parting", "firstLike", "(II)I"⟩ prog_7_method_16_code 5 (some .int) : Cond) ∈ pj_tb := pj_t3 (List.mem_of_getElem? (i := 147) (by rfl)) (by rfl)
set_option maxRecDepth 5000 in
theorem cw_708 : (.methodLink RX5 54 ⟨"AlikeSteps$Parting", "blockBehind", "(II)I"⟩ : Cond) ∈ pj_tb := pj_t3 (List.mem_of_getElem? (i := 148) (by rfl)) (by rfl)
set_option maxRecDepth 5000 in
theorem cw_709 : (.instanceMethod ⟨"AlikeSteps$Parting", "blockBehind", "(II)I"⟩ : Cond) ∈ pj_tb := pj_t3 (List.mem_of_getElem? (i := 149) (by rfl)) (by rfl)
set_option maxRecDepth 5000 in
theorem cw_710 : (.selects "AlikeSteps$Parting" ⟨"AlikeSteps$Parting", "blockBehind", "(II)I"⟩ ⟨"AlikeSteps$Parting", "blockBehind", "(II)I"⟩ : Cond) ∈ pj_tb := pj_t3 (List.mem_of_getElem? (i := 150) (by rfl)) (by rfl)
set_option maxRecDepth 5000 in
theorem cw_711 : (.code ⟨"AlikeSteps$Parting", "blockBehind", "(II)I"⟩ prog_7_method_5_code 3 (some .int) : Cond) ∈ pj_tb := pj_t3 (List.mem_of_getElem? (i := 151) (by rfl)) (by rfl)
set_option maxRecDepth 5000 in
theorem cw_712 : (.methodLink RX5 95 ⟨"java/lang/Math", "max", "(II)I"⟩ : Cond) ∈ pj_tb := pj_t3 (List.mem_of_getElem? (i := 152) (by rfl)) (by rfl)
set_option maxRecDepth 5000 in
theorem cw_713 : (.static ⟨"java/lang/Math", "max", "(II)I"⟩ : Cond) ∈ pj_tb := pj_t3 (List.mem_of_getElem? (i := 153) (by rfl)) (by rfl)
set_option maxRecDepth 5000 in
theorem cw_715 : (.methodLink RX5 50 ⟨"AlikeSteps$Parting", "partOn", "(LAlikeSteps$Steps;)V"⟩ : Cond) ∈ pj_tb := pj_t3 (List.mem_of_getElem? (i := 155) (by rfl)) (by rfl)
set_option maxRecDepth 5000 in
theorem cw_717 : (.instanceMethod ⟨"AlikeSteps$Parting", "partOn", "(LAlikeSteps$Steps;)V"⟩ : Cond) ∈ pj_tb := pj_t3 (List.mem_of_getElem? (i := 157) (by rfl)) (by rfl)
set_option maxRecDepth 5000 in
theorem cw_718 : (.code ⟨"AlikeSteps$Parting", "partOn", "(LAlikeSteps$Steps;)V"⟩ prog_7_method_12_code 4 none : Cond) ∈ pj_tb := pj_t3 (List.mem_of_getElem? (i := 158) (by rfl)) (by rfl)
set_option maxRecDepth 5000 in
theorem cw_719 : (.methodLink RX5 79 ⟨"AlikeSteps$Parting", "signsBy", "(LAlikeSteps$Steps;II)J"⟩ : Cond) ∈ pj_tb := pj_t3 (List.mem_of_getElem? (i := 159) (by rfl)) (by rfl)
set_option maxRecDepth 5000 in
theorem cw_721 : (.instanceMethod ⟨"AlikeSteps$Parting", "signsBy", "(LAlikeSteps$Steps;II)J"⟩ : Cond) ∈ pj_tb := pj_t3 (List.mem_of_getElem? (i := 161) (by rfl)) (by rfl)
set_option maxRecDepth 5000 in
theorem cw_722 : (.code ⟨"AlikeSteps$Parting", "signsBy", "(LAlikeSteps$Steps;II)J"⟩ prog_7_method_13_code 10 (some .long) : Cond) ∈ pj_tb := pj_t3 (List.mem_of_getElem? (i := 162) (by rfl)) (by rfl)
set_option maxRecDepth 5000 in
theorem cw_723 : (.methodLink RX5 59 ⟨"AlikeSteps$Parting", "statesOf", "(II)I"⟩ : Cond) ∈ pj_tb := pj_t3 (List.mem_of_getElem? (i := 163) (by rfl)) (by rfl)
set_option maxRecDepth 5000 in
theorem cw_725 : (.instanceMethod ⟨"AlikeSteps$Parting", "statesOf", "(II)I"⟩ : Cond) ∈ pj_tb := pj_t3 (List.mem_of_getElem? (i := 165) (by rfl)) (by rfl)
set_option maxRecDepth 5000 in
theorem cw_726 : (.code ⟨"AlikeSteps$Parting", "statesOf", "(II)I"⟩ prog_7_method_14_code 5 (some .int) : Cond) ∈ pj_tb := pj_t3 (List.mem_of_getElem? (i := 166) (by rfl)) (by rfl)
set_option maxRecDepth 5000 in
theorem cw_727 : (.methodLink RX5 83 ⟨"AlikeSteps$Steps", "silentlyWithin", "(II)I"⟩ : Cond) ∈ pj_tb := pj_t3 (List.mem_of_getElem? (i := 167) (by rfl)) (by rfl)
set_option maxRecDepth 5000 in
theorem cw_728 : (.methodLink RX5 62 ⟨"AlikeSteps$Steps", "goneFrom", "(II)I"⟩ : Cond) ∈ pj_tb := pj_t3 (List.mem_of_getElem? (i := 168) (by rfl)) (by rfl)
set_option maxRecDepth 5000 in
theorem cw_729 : (.methodLink RX5 86 ⟨"AlikeSteps$Steps", "moved", "(III)I"⟩ : Cond) ∈ pj_tb := pj_t3 (List.mem_of_getElem? (i := 169) (by rfl)) (by rfl)
set_option maxRecDepth 5000 in
theorem cw_730 : (.methodLink RX5 67 ⟨"AlikeSteps$Parting", "blocksOf", "(II)I"⟩ : Cond) ∈ pj_tb := pj_t3 (List.mem_of_getElem? (i := 170) (by rfl)) (by rfl)
set_option maxRecDepth 5000 in
theorem cw_731 : (.instanceMethod ⟨"AlikeSteps$Parting", "blocksOf", "(II)I"⟩ : Cond) ∈ pj_tb := pj_t3 (List.mem_of_getElem? (i := 171) (by rfl)) (by rfl)
set_option maxRecDepth 5000 in
theorem cw_732 : (.selects "AlikeSteps$Parting" ⟨"AlikeSteps$Parting", "blocksOf", "(II)I"⟩ ⟨"AlikeSteps$Parting", "blocksOf", "(II)I"⟩ : Cond) ∈ pj_tb := pj_t3 (List.mem_of_getElem? (i := 172) (by rfl)) (by rfl)
set_option maxRecDepth 5000 in
theorem cw_733 : (.code ⟨"AlikeSteps$Parting", "blocksOf", "(II)I"⟩ prog_7_method_9_code 5 (some .int) : Cond) ∈ pj_tb := pj_t3 (List.mem_of_getElem? (i := 173) (by rfl)) (by rfl)
set_option maxRecDepth 5000 in
theorem cw_734 : (.constantLong RX5 90 (-1) : Cond) ∈ pj_tb := pj_t3 (List.mem_of_getElem? (i := 174) (by rfl)) (by rfl)
set_option maxRecDepth 5000 in
theorem cw_735 : (.methodLink RX10 222 ⟨"AlikeSteps$Parting", "lastBlock", "(I)I"⟩ : Cond) ∈ pj_tb := pj_t3 (List.mem_of_getElem? (i := 175) (by rfl)) (by rfl)
set_option maxRecDepth 5000 in
theorem cw_736 : (.instanceMethod ⟨"AlikeSteps$Parting", "lastBlock", "(I)I"⟩ : Cond) ∈ pj_tb := pj_t3 (List.mem_of_getElem? (i := 176) (by rfl)) (by rfl)
set_option maxRecDepth 5000 in
theorem cw_737 : (.selects "AlikeSteps$Parting" ⟨"AlikeSteps$Parting", "lastBlock", "(I)I"⟩ ⟨"AlikeSteps$Parting", "lastBlock", "(I)I"⟩ : Cond) ∈ pj_tb := pj_t3 (List.mem_of_getElem? (i := 177) (by rfl)) (by rfl)
set_option maxRecDepth 5000 in
theorem cw_738 : (.code ⟨"AlikeSteps$Parting", "lastBlock", "(I)I"⟩ prog_7_method_6_code 2 (some .int) : Cond) ∈ pj_tb := pj_t3 (List.mem_of_getElem? (i := 178) (by rfl)) (by rfl)
set_option maxRecDepth 5000 in
theorem cw_740 : (.instanceMethod ⟨"AlikeSteps", "parts", "(II)I"⟩ : Cond) ∈ pj_tb := pj_t3 (List.mem_of_getElem? (i := 180) (by rfl)) (by rfl)
set_option maxRecDepth 5000 in
theorem cw_741 : (.selects "AlikeSteps" ⟨"AlikeSteps", "parts", "(II)I"⟩ ⟨"AlikeSteps", "parts", "(II)I"⟩ : Cond) ∈ pj_tb := pj_t3 (List.mem_of_getElem? (i := 181) (by rfl)) (by rfl)
set_option maxRecDepth 5000 in
theorem cw_742 : (.code ⟨"AlikeSteps", "parts", "(II)I"⟩ prog_1_method_17_code 4 (some .int) : Cond) ∈ pj_tb := pj_t3 (List.mem_of_getElem? (i := 182) (by rfl)) (by rfl)
set_option maxRecDepth 5000 in
theorem cw_743 : (.methodLink RX10 227 ⟨"AlikeSteps$Parting", "size", "()I"⟩ : Cond) ∈ pj_tb := pj_t3 (List.mem_of_getElem? (i := 183) (by rfl)) (by rfl)
set_option maxRecDepth 5000 in
theorem cw_744 : (.instanceMethod ⟨"AlikeSteps$Parting", "size", "()I"⟩ : Cond) ∈ pj_tb := pj_t3 (List.mem_of_getElem? (i := 184) (by rfl)) (by rfl)
set_option maxRecDepth 5000 in
theorem cw_745 : (.selects "AlikeSteps$Parting" ⟨"AlikeSteps$Parting", "size", "()I"⟩ ⟨"AlikeSteps$Parting", "size", "()I"⟩ : Cond) ∈ pj_tb := pj_t3 (List.mem_of_getElem? (i := 185) (by rfl)) (by rfl)
set_option maxRecDepth 5000 in
theorem cw_746 : (.code ⟨"AlikeSteps$Parting", "size", "()I"⟩ prog_7_method_3_code 1 (some .int) : Cond) ∈ pj_tb := pj_t3 (List.mem_of_getElem? (i := 186) (by rfl)) (by rfl)
set_option maxRecDepth 5000 in
theorem cw_747 : (.methodLink RX10 228 ⟨"AlikeSteps$Parting", "rounds", "()I"⟩ : Cond) ∈ pj_tb := pj_t3 (List.mem_of_getElem? (i := 187) (by rfl)) (by rfl)
set_option maxRecDepth 5000 in
theorem cw_748 : (.instanceMethod ⟨"AlikeSteps$Parting", "rounds", "()I"⟩ : Cond) ∈ pj_tb := pj_t3 (List.mem_of_getElem? (i := 188) (by rfl)) (by rfl)
set_option maxRecDepth 5000 in
theorem cw_749 : (.selects "AlikeSteps$Parting" ⟨"AlikeSteps$Parting", "rounds", "()I"⟩ ⟨"AlikeSteps$Parting", "rounds", "()I"⟩ : Cond) ∈ pj_tb := pj_t3 (List.mem_of_getElem? (i := 189) (by rfl)) (by rfl)
set_option maxRecDepth 5000 in
theorem cw_750 : (.code ⟨"AlikeSteps$Parting", "rounds", "()I"⟩ prog_7_method_4_code 1 (some .int) : Cond) ∈ pj_tb := pj_t3 (List.mem_of_getElem? (i := 190) (by rfl)) (by rfl)
set_option maxRecDepth 5000 in
theorem cw_752 : (.instanceMethod ⟨"AlikeSteps", "behind", "(III)I"⟩ : Cond) ∈ pj_tb := pj_t3 (List.mem_of_getElem? (i := 192) (by rfl)) (by rfl)
set_option maxRecDepth 5000 in
theorem cw_753 : (.selects "AlikeSteps" ⟨"AlikeSteps", "behind", "(III)I"⟩ ⟨"AlikeSteps", "behind", "(III)I"⟩ : Cond) ∈ pj_tb := pj_t3 (List.mem_of_getElem? (i := 193) (by rfl)) (by rfl)
set_option maxRecDepth 5000 in
theorem cw_754 : (.code ⟨"AlikeSteps", "behind", "(III)I"⟩ prog_1_method_18_code 5 (some .int) : Cond) ∈ pj_tb := pj_t3 (List.mem_of_getElem? (i := 194) (by rfl)) (by rfl)
set_option maxRecDepth 5000 in
theorem cw_755 : (.methodLink RX10 231 ⟨"java/lang/Math", "min", "(II)I"⟩ : Cond) ∈ pj_tb := pj_t3 (List.mem_of_getElem? (i := 195) (by rfl)) (by rfl)
set_option maxRecDepth 5000 in
theorem cw_756 : (.static ⟨"java/lang/Math", "min", "(II)I"⟩ : Cond) ∈ pj_tb := pj_t3 (List.mem_of_getElem? (i := 196) (by rfl)) (by rfl)
set_option maxRecDepth 5000 in
theorem cw_758 : (.methodLink RX10 236 ⟨"AlikeSteps$Parting", "blockBehind", "(II)I"⟩ : Cond) ∈ pj_tb := pj_t3 (List.mem_of_getElem? (i := 198) (by rfl)) (by rfl)
set_option maxRecDepth 5000 in
theorem cw_760 : (.instanceMethod ⟨"AlikeSteps", "signs", "(II)J"⟩ : Cond) ∈ pj_tb := pj_t3 (List.mem_of_getElem? (i := 200) (by rfl)) (by rfl)
set_option maxRecDepth 5000 in
theorem cw_761 : (.selects "AlikeSteps" ⟨"AlikeSteps", "signs", "(II)J"⟩ ⟨"AlikeSteps", "signs", "(II)J"⟩ : Cond) ∈ pj_tb := pj_t3 (List.mem_of_getElem? (i := 201) (by rfl)) (by rfl)
set_option maxRecDepth 5000 in
theorem cw_762 : (.code ⟨"AlikeSteps", "signs", "(II)J"⟩ prog_1_method_19_code 3 (some .long) : Cond) ∈ pj_tb := pj_t3 (List.mem_of_getElem? (i := 202) (by rfl)) (by rfl)
set_option maxRecDepth 5000 in
theorem cw_763 : (.constantLong RX10 239 (-1000001) : Cond) ∈ pj_tb := pj_t3 (List.mem_of_getElem? (i := 203) (by rfl)) (by rfl)
set_option maxRecDepth 5000 in
theorem cw_764 : (.methodLink RX10 241 ⟨"AlikeSteps$Parting", "lastSigns", "(I)J"⟩ : Cond) ∈ pj_tb := pj_t3 (List.mem_of_getElem? (i := 204) (by rfl)) (by rfl)
set_option maxRecDepth 5000 in
theorem cw_765 : (.instanceMethod ⟨"AlikeSteps$Parting", "lastSigns", "(I)J"⟩ : Cond) ∈ pj_tb := pj_t3 (List.mem_of_getElem? (i := 205) (by rfl)) (by rfl)
set_option maxRecDepth 5000 in
theorem cw_766 : (.selects "AlikeSteps$Parting" ⟨"AlikeSteps$Parting", "lastSigns", "(I)J"⟩ ⟨"AlikeSteps$Parting", "lastSigns", "(I)J"⟩ : Cond) ∈ pj_tb := pj_t3 (List.mem_of_getElem? (i := 206) (by rfl)) (by rfl)
set_option maxRecDepth 5000 in
theorem cw_767 : (.code ⟨"AlikeSteps$Parting", "lastSigns", "(I)J"⟩ prog_7_method_7_code 2 (some .long) : Cond) ∈ pj_tb := pj_t3 (List.mem_of_getElem? (i := 207) (by rfl)) (by rfl)
set_option maxRecDepth 5000 in
theorem cw_769 : (.instanceMethod ⟨"AlikeSteps", "parted", "(III)I"⟩ : Cond) ∈ pj_tb := pj_t3 (List.mem_of_getElem? (i := 209) (by rfl)) (by rfl)
set_option maxRecDepth 5000 in
theorem cw_770 : (.selects "AlikeSteps" ⟨"AlikeSteps", "parted", "(III)I"⟩ ⟨"AlikeSteps", "parted", "(III)I"⟩ : Cond) ∈ pj_tb := pj_t3 (List.mem_of_getElem? (i := 210) (by rfl)) (by rfl)
set_option maxRecDepth 5000 in
theorem cw_771 : (.code ⟨"AlikeSteps", "parted", "(III)I"⟩ prog_1_method_20_code 4 (some .int) : Cond) ∈ pj_tb := pj_t3 (List.mem_of_getElem? (i := 211) (by rfl)) (by rfl)
set_option maxRecDepth 5000 in
theorem cw_772 : (.methodLink RX10 245 ⟨"AlikeSteps$Parting", "roundOf", "(II)I"⟩ : Cond) ∈ pj_tb := pj_t3 (List.mem_of_getElem? (i := 212) (by rfl)) (by rfl)
set_option maxRecDepth 5000 in
theorem cw_773 : (.instanceMethod ⟨"AlikeSteps$Parting", "roundOf", "(II)I"⟩ : Cond) ∈ pj_tb := pj_t3 (List.mem_of_getElem? (i := 213) (by rfl)) (by rfl)
set_option maxRecDepth 5000 in
theorem cw_774 : (.selects "AlikeSteps$Parting" ⟨"AlikeSteps$Parting", "roundOf", "(II)I"⟩ ⟨"AlikeSteps$Parting", "roundOf", "(II)I"⟩ : Cond) ∈ pj_tb := pj_t3 (List.mem_of_getElem? (i := 214) (by rfl)) (by rfl)
set_option maxRecDepth 5000 in
theorem cw_775 : (.code ⟨"AlikeSteps$Parting", "roundOf", "(II)I"⟩ prog_7_method_8_code 4 (some .int) : Cond) ∈ pj_tb := pj_t3 (List.mem_of_getElem? (i := 215) (by rfl)) (by rfl)
set_option maxRecDepth 5000 in
theorem cw_776 : (.constant RX5 58 (-1000000) : Cond) ∈ pj_tb := pj_t3 (List.mem_of_getElem? (i := 216) (by rfl)) (by rfl)
set_option maxRecDepth 5000 in
theorem cw_778 : (.instanceMethod ⟨"AlikeSteps", "tells", "(IIII)I"⟩ : Cond) ∈ pj_tb := pj_t3 (List.mem_of_getElem? (i := 218) (by rfl)) (by rfl)
set_option maxRecDepth 5000 in
theorem cw_779 : (.selects "AlikeSteps" ⟨"AlikeSteps", "tells", "(IIII)I"⟩ ⟨"AlikeSteps", "tells", "(IIII)I"⟩ : Cond) ∈ pj_tb := pj_t3 (List.mem_of_getElem? (i := 219) (by rfl)) (by rfl)
set_option maxRecDepth 5000 in
theorem cw_780 : (.code ⟨"AlikeSteps", "tells", "(IIII)I"⟩ prog_1_method_21_code 8 (some .int) : Cond) ∈ pj_tb := pj_t3 (List.mem_of_getElem? (i := 220) (by rfl)) (by rfl)
set_option maxRecDepth 5000 in
theorem cw_781 : (.constant RX10 248 (-1000000) : Cond) ∈ pj_tb := pj_t3 (List.mem_of_getElem? (i := 221) (by rfl)) (by rfl)
set_option maxRecDepth 5000 in
theorem cw_782 : (.methodLink RX10 249 ⟨"AlikeSteps$Teller", "follow", "(LAlikeSteps$Net;LAlikeSteps$Steps;LAlikeSteps$Parting;)V"⟩ : Cond) ∈ pj_tb := pj_t3 (List.mem_of_getElem? (i := 222) (by rfl)) (by rfl)
set_option maxRecDepth 5000 in
theorem cw_783 : (.instanceMethod ⟨"AlikeSteps$Teller", "follow", "(LAlikeSteps$Net;LAlikeSteps$Steps;LAlikeSteps$Parting;)V"⟩ : Cond) ∈ pj_tb := pj_t3 (List.mem_of_getElem? (i := 223) (by rfl)) (by rfl)
set_option maxRecDepth 5000 in
theorem cw_784 : (.selects "AlikeSteps$Teller" ⟨"AlikeSteps$Teller", "follow", "(LAlikeSteps$Net;LAlikeSteps$Steps;LAlikeSteps$Parting;)V"⟩ ⟨"AlikeSteps$Teller", "follow", "(LAlikeSteps$Net;LAlikeSteps$Steps;LAlikeSteps$Parting;)V"⟩ : Cond) ∈ pj_tb := pj_t3 (List.mem_of_getElem? (i := 224) (by rfl)) (by rfl)
set_option maxRecDepth 5000 in
theorem cw_785 : (.code ⟨"AlikeSteps$Teller", "follow", "(LAlikeSteps$Net;LAlikeSteps$Steps;LAlikeSteps$Parting;)V"⟩ prog_11_method_2_code 8 none : Cond) ∈ pj_tb := pj_t3 (List.mem_of_getElem? (i := 225) (by rfl)) (by rfl)
set_option maxRecDepth 5000 in
theorem cw_786 : (.methodLink RX9 29 ⟨"AlikeSteps$Net", "version", "()I"⟩ : Cond) ∈ pj_tb := pj_t3 (List.mem_of_getElem? (i := 226) (by rfl)) (by rfl)
set_option maxRecDepth 5000 in
theorem cw_787 : (.methodLink RX9 35 ⟨"AlikeSteps$Net", "states", "()I"⟩ : Cond) ∈ pj_tb := pj_t3 (List.mem_of_getElem? (i := 227) (by rfl)) (by rfl)
set_option maxRecDepth 5000 in
theorem cw_788 : (.methodLink RX9 38 ⟨"AlikeSteps$Net", "marked", "()I"⟩ : Cond) ∈ pj_tb := pj_t3 (List.mem_of_getElem? (i := 228) (by rfl)) (by rfl)
set_option maxRecDepth 5000 in
theorem cw_789 : (.methodLink RX9 41 ⟨"AlikeSteps$Parting", "roundOf", "(II)I"⟩ : Cond) ∈ pj_tb := pj_t3 (List.mem_of_getElem? (i := 229) (by rfl)) (by rfl)
set_option maxRecDepth 5000 in
theorem cw_790 : (.methodLink RX9 47 ⟨"AlikeSteps$Teller", "findLead", "(LAlikeSteps$Steps;LAlikeSteps$Parting;II)I"⟩ : Cond) ∈ pj_tb := pj_t3 (List.mem_of_getElem? (i := 230) (by rfl)) (by rfl)
set_option maxRecDepth 5000 in
theorem cw_792 : (.instanceMethod ⟨"AlikeSteps$Teller", "findLead", "(LAlikeSteps$Steps;LAlikeSteps$Parting;II)I"⟩ : Cond) ∈ pj_tb := pj_t3 (List.mem_of_getElem? (i := 232) (by rfl)) (by rfl)
set_option maxRecDepth 5000 in
theorem cw_793 : (.code ⟨"AlikeSteps$Teller", "findLead", "(LAlikeSteps$Steps;LAlikeSteps$Parting;II)I"⟩ prog_11_method_5_code 10 (some .int) : Cond) ∈ pj_tb := pj_t3 (List.mem_of_getElem? (i := 233) (by rfl)) (by rfl)
set_option maxRecDepth 5000 in
theorem cw_794 : (.methodLink RX9 58 ⟨"AlikeSteps$Steps", "moved", "(III)I"⟩ : Cond) ∈ pj_tb := pj_t3 (List.mem_of_getElem? (i := 234) (by rfl)) (by rfl)
set_option maxRecDepth 5000 in
theorem cw_795 : (.methodLink RX9 81 ⟨"AlikeSteps$Parting", "blocksOf", "(II)I"⟩ : Cond) ∈ pj_tb := pj_t3 (List.mem_of_getElem? (i := 235) (by rfl)) (by rfl)
set_option maxRecDepth 5000 in
theorem cw_796 : (.methodLink RX9 84 ⟨"AlikeSteps$Parting", "blockBehind", "(II)I"⟩ : Cond) ∈ pj_tb := pj_t3 (List.mem_of_getElem? (i := 236) (by rfl)) (by rfl)
set_option maxRecDepth 5000 in
theorem cw_797 : (.methodLink RX9 51 ⟨"AlikeSteps$Parting", "rounds", "()I"⟩ : Cond) ∈ pj_tb := pj_t3 (List.mem_of_getElem? (i := 237) (by rfl)) (by rfl)
set_option maxRecDepth 5000 in
theorem cw_798 : (.methodLink RX9 54 ⟨"AlikeSteps$Teller", "weighAll", "(ILAlikeSteps$Steps;IZ)V"⟩ : Cond) ∈ pj_tb := pj_t3 (List.mem_of_getElem? (i := 238) (by rfl)) (by rfl)
set_option maxRecDepth 5000 in
theorem cw_800 : (.instanceMethod ⟨"AlikeSteps$Teller", "weighAll", "(ILAlikeSteps$Steps;IZ)V"⟩ : Cond) ∈ pj_tb := pj_t4 (List.mem_of_getElem? (i := 0) (by rfl)) (by rfl)
set_option maxRecDepth 5000 in
theorem cw_801 : (.code ⟨"AlikeSteps$Teller", "weighAll", "(ILAlikeSteps$Steps;IZ)V"⟩ prog_11_method_6_code 8 none : Cond) ∈ pj_tb := pj_t4 (List.mem_of_getElem? (i := 1) (by rfl)) (by rfl)
set_option maxRecDepth 5000 in
theorem cw_802 : (.methodLink RX9 87 ⟨"AlikeSteps$Teller", "weigh", "(LAlikeSteps$Steps;II)J"⟩ : Cond) ∈ pj_tb := pj_t4 (List.mem_of_getElem? (i := 2) (by rfl)) (by rfl)
set_option maxRecDepth 5000 in
theorem cw_804 : (.instanceMethod ⟨"AlikeSteps$Teller", "weigh", "(LAlikeSteps$Steps;II)J"⟩ : Cond) ∈ pj_tb := pj_t4 (List.mem_of_getElem? (i := 4) (by rfl)) (by rfl)
set_option maxRecDepth 5000 in
theorem cw_805 : (.code ⟨"AlikeSteps$Teller", "weigh", "(LAlikeSteps$Steps;II)J"⟩ prog_11_method_7_code 6 (some .long) : Cond) ∈ pj_tb := pj_t4 (List.mem_of_getElem? (i := 5) (by rfl)) (by rfl)
set_option maxRecDepth 5000 in
theorem cw_806 : (.constantLong RX9 64 (2) : Cond) ∈ pj_tb := pj_t4 (List.mem_of_getElem? (i := 6) (by rfl)) (by rfl)
set_option maxRecDepth 5000 in
theorem cw_807 : (.methodLink RX9 91 ⟨"AlikeSteps$Teller", "sizeOf", "(II)J"⟩ : Cond) ∈ pj_tb := pj_t4 (List.mem_of_getElem? (i := 7) (by rfl)) (by rfl)
set_option maxRecDepth 5000 in
theorem cw_808 : (.instanceMethod ⟨"AlikeSteps$Teller", "sizeOf", "(II)J"⟩ : Cond) ∈ pj_tb := pj_t4 (List.mem_of_getElem? (i := 8) (by rfl)) (by rfl)
set_option maxRecDepth 5000 in
theorem cw_809 : (.selects "AlikeSteps$Teller" ⟨"AlikeSteps$Teller", "sizeOf", "(II)J"⟩ ⟨"AlikeSteps$Teller", "sizeOf", "(II)J"⟩ : Cond) ∈ pj_tb := pj_t4 (List.mem_of_getElem? (i := 9) (by rfl)) (by rfl)
set_option maxRecDepth 5000 in
theorem cw_810 : (.code ⟨"AlikeSteps$Teller", "sizeOf", "(II)J"⟩ prog_11_method_3_code 3 (some .long) : Cond) ∈ pj_tb := pj_t4 (List.mem_of_getElem? (i := 10) (by rfl)) (by rfl)
set_option maxRecDepth 5000 in
theorem cw_811 : (.methodLink RX9 76 ⟨"AlikeSteps$Teller", "sizeUpTo", "(III)J"⟩ : Cond) ∈ pj_tb := pj_t4 (List.mem_of_getElem? (i := 11) (by rfl)) (by rfl)
set_option maxRecDepth 5000 in
theorem cw_813 : (.instanceMethod ⟨"AlikeSteps$Teller", "sizeUpTo", "(III)J"⟩ : Cond) ∈ pj_tb := pj_t4 (List.mem_of_getElem? (i := 13) (by rfl)) (by rfl)
set_option maxRecDepth 5000 in
theorem cw_814 : (.code ⟨"AlikeSteps$Teller", "sizeUpTo", "(III)J"⟩ prog_11_method_8_code 7 (some .long) : Cond) ∈ pj_tb := pj_t4 (List.mem_of_getElem? (i := 14) (by rfl)) (by rfl)
set_option maxRecDepth 5000 in
theorem cw_815 : (.methodLink RX10 253 ⟨"AlikeSteps$Teller", "sizeOf", "(II)J"⟩ : Cond) ∈ pj_tb := pj_t4 (List.mem_of_getElem? (i := 15) (by rfl)) (by rfl)
set_option maxRecDepth 5000 in
theorem cw_816 : (.constantLong RX10 257 (9999) : Cond) ∈ pj_tb := pj_t4 (List.mem_of_getElem? (i := 16) (by rfl)) (by rfl)
set_option maxRecDepth 5000 in
theorem cw_817 : (.methodLink RX10 259 ⟨"java/lang/Math", "min", "(JJ)J"⟩ : Cond) ∈ pj_tb := pj_t4 (List.mem_of_getElem? (i := 17) (by rfl)) (by rfl)
set_option maxRecDepth 5000 in
theorem cw_818 : (.static ⟨"java/lang/Math", "min", "(JJ)J"⟩ : Cond) ∈ pj_tb := pj_t4 (List.mem_of_getElem? (i := 18) (by rfl)) (by rfl)
set_option maxRecDepth 5000 in
theorem cw_820 : (.methodLink RX10 262 ⟨"AlikeSteps$Teller", "codeAt", "(LAlikeSteps$Steps;III)I"⟩ : Cond) ∈ pj_tb := pj_t4 (List.mem_of_getElem? (i := 20) (by rfl)) (by rfl)
set_option maxRecDepth 5000 in
theorem cw_821 : (.instanceMethod ⟨"AlikeSteps$Teller", "codeAt", "(LAlikeSteps$Steps;III)I"⟩ : Cond) ∈ pj_tb := pj_t4 (List.mem_of_getElem? (i := 21) (by rfl)) (by rfl)
set_option maxRecDepth 5000 in
theorem cw_822 : (.selects "AlikeSteps$Teller" ⟨"AlikeSteps$Teller", "codeAt", "(LAlikeSteps$Steps;III)I"⟩ ⟨"AlikeSteps$Teller", "codeAt", "(LAlikeSteps$Steps;III)I"⟩ : Cond) ∈ pj_tb := pj_t4 (List.mem_of_getElem? (i := 22) (by rfl)) (by rfl)
set_option maxRecDepth 5000 in
theorem cw_823 : (.code ⟨"AlikeSteps$Teller", "codeAt", "(LAlikeSteps$Steps;III)I"⟩ prog_11_method_4_code 13 (some .int) : Cond) ∈ pj_tb := pj_t4 (List.mem_of_getElem? (i := 23) (by rfl)) (by rfl)
set_option maxRecDepth 5000 in
theorem cw_824 : (.methodLink RX9 66 ⟨"java/lang/Integer", "bitCount", "(I)I"⟩ : Cond) ∈ pj_tb := pj_t4 (List.mem_of_getElem? (i := 24) (by rfl)) (by rfl)
set_option maxRecDepth 5000 in
theorem cw_825 : (.static ⟨"java/lang/Integer", "bitCount", "(I)I"⟩ : Cond) ∈ pj_tb := pj_t4 (List.mem_of_getElem? (i := 25) (by rfl)) (by rfl)
set_option maxRecDepth 5000 in
theorem cw_826 : (.code ⟨"java/lang/Integer", "bitCount", "(I)I"⟩ prog_14_method_49_code 1 (some .int) : Cond) ∈ pj_tb := pj_t4 (List.mem_of_getElem? (i := 26) (by rfl)) (by rfl)
set_option maxRecDepth 5000 in
theorem cw_827 : (.constant RJ6 265 (1431655765) : Cond) ∈ pj_tb := pj_t4 (List.mem_of_getElem? (i := 27) (by rfl)) (by rfl)
set_option maxRecDepth 5000 in
theorem cw_828 : (.constant RJ6 266 (858993459) : Cond) ∈ pj_tb := pj_t4 (List.mem_of_getElem? (i := 28) (by rfl)) (by rfl)
set_option maxRecDepth 5000 in
theorem cw_829 : (.constant RJ6 267 (252645135) : Cond) ∈ pj_tb := pj_t4 (List.mem_of_getElem? (i := 29) (by rfl)) (by rfl)
set_option maxRecDepth 5000 in
theorem cw_830 : (.methodLink RX9 72 ⟨"AlikeSteps$Teller", "memberAt", "(IIJ)I"⟩ : Cond) ∈ pj_tb := pj_t4 (List.mem_of_getElem? (i := 30) (by rfl)) (by rfl)
set_option maxRecDepth 5000 in
theorem cw_832 : (.instanceMethod ⟨"AlikeSteps$Teller", "memberAt", "(IIJ)I"⟩ : Cond) ∈ pj_tb := pj_t4 (List.mem_of_getElem? (i := 32) (by rfl)) (by rfl)
set_option maxRecDepth 5000 in
theorem cw_833 : (.code ⟨"AlikeSteps$Teller", "memberAt", "(IIJ)I"⟩ prog_11_method_9_code 7 (some .int) : Cond) ∈ pj_tb := pj_t4 (List.mem_of_getElem? (i := 33) (by rfl)) (by rfl)
set_option maxRecDepth 5000 in
theorem cw_834 : (.constant RX9 80 (-1000000) : Cond) ∈ pj_tb := pj_t4 (List.mem_of_getElem? (i := 34) (by rfl)) (by rfl)
set_option maxRecDepth 5000 in
theorem cw_836 : (.instanceMethod ⟨"AlikeSteps", "depth", "(III)I"⟩ : Cond) ∈ pj_tb := pj_t4 (List.mem_of_getElem? (i := 36) (by rfl)) (by rfl)
set_option maxRecDepth 5000 in
theorem cw_837 : (.selects "AlikeSteps" ⟨"AlikeSteps", "depth", "(III)I"⟩ ⟨"AlikeSteps", "depth", "(III)I"⟩ : Cond) ∈ pj_tb := pj_t4 (List.mem_of_getElem? (i := 37) (by rfl)) (by rfl)
set_option maxRecDepth 5000 in
theorem cw_838 : (.code ⟨"AlikeSteps", "depth", "(III)I"⟩ prog_1_method_22_code 4 (some .int) : Cond) ∈ pj_tb := pj_t4 (List.mem_of_getElem? (i := 38) (by rfl)) (by rfl)
set_option maxRecDepth 5000 in
theorem cw_840 : (.instanceMethod ⟨"AlikeSteps", "holds", "(IIII)I"⟩ : Cond) ∈ pj_tb := pj_t4 (List.mem_of_getElem? (i := 40) (by rfl)) (by rfl)
set_option maxRecDepth 5000 in
theorem cw_841 : (.selects "AlikeSteps" ⟨"AlikeSteps", "holds", "(IIII)I"⟩ ⟨"AlikeSteps", "holds", "(IIII)I"⟩ : Cond) ∈ pj_tb := pj_t4 (List.mem_of_getElem? (i := 41) (by rfl)) (by rfl)
set_option maxRecDepth 5000 in
theorem cw_842 : (.code ⟨"AlikeSteps", "holds", "(IIII)I"⟩ prog_1_method_23_code 7 (some .int) : Cond) ∈ pj_tb := pj_t4 (List.mem_of_getElem? (i := 42) (by rfl)) (by rfl)
set_option maxRecDepth 5000 in
theorem cw_843 : (.methodLink RX10 266 ⟨"AlikeSteps$Net", "all", "()I"⟩ : Cond) ∈ pj_tb := pj_t4 (List.mem_of_getElem? (i := 43) (by rfl)) (by rfl)
set_option maxRecDepth 5000 in
theorem cw_844 : (.instanceMethod ⟨"AlikeSteps$Net", "all", "()I"⟩ : Cond) ∈ pj_tb := pj_t4 (List.mem_of_getElem? (i := 44) (by rfl)) (by rfl)
set_option maxRecDepth 5000 in
theorem cw_845 : (.selects "AlikeSteps$Net" ⟨"AlikeSteps$Net", "all", "()I"⟩ ⟨"AlikeSteps$Net", "all", "()I"⟩ : Cond) ∈ pj_tb := pj_t4 (List.mem_of_getElem? (i := 45) (by rfl)) (by rfl)
set_option maxRecDepth 5000 in
theorem cw_846 : (.code ⟨"AlikeSteps$Net", "all", "()I"⟩ prog_6_method_9_code 1 (some .int) : Cond) ∈ pj_tb := pj_t4 (List.mem_of_getElem? (i := 46) (by rfl)) (by rfl)
set_option maxRecDepth 5000 in
theorem cw_847 : (.methodLink RX10 269 ⟨"AlikeSteps$Net", "marked", "()I"⟩ : Cond) ∈ pj_tb := pj_t4 (List.mem_of_getElem? (i := 47) (by rfl)) (by rfl)
set_option maxRecDepth 5000 in
theorem cw_848 : (.methodLink RX10 272 ⟨"AlikeSteps$Formula", "begin", "(III)V"⟩ : Cond) ∈ pj_tb := pj_t4 (List.mem_of_getElem? (i := 48) (by rfl)) (by rfl)
set_option maxRecDepth 5000 in
theorem cw_849 : (.instanceMethod ⟨"AlikeSteps$Formula", "begin", "(III)V"⟩ : Cond) ∈ pj_tb := pj_t4 (List.mem_of_getElem? (i := 49) (by rfl)) (by rfl)
set_option maxRecDepth 5000 in
theorem cw_850 : (.selects "AlikeSteps$Formula" ⟨"AlikeSteps$Formula", "begin", "(III)V"⟩ ⟨"AlikeSteps$Formula", "begin", "(III)V"⟩ : Cond) ∈ pj_tb := pj_t4 (List.mem_of_getElem? (i := 50) (by rfl)) (by rfl)
set_option maxRecDepth 5000 in
theorem cw_851 : (.code ⟨"AlikeSteps$Formula", "begin", "(III)V"⟩ prog_5_method_2_code 4 none : Cond) ∈ pj_tb := pj_t4 (List.mem_of_getElem? (i := 51) (by rfl)) (by rfl)
set_option maxRecDepth 5000 in
theorem cw_852 : (.methodLink RX10 275 ⟨"AlikeSteps$Rows", "item", "(II)I"⟩ : Cond) ∈ pj_tb := pj_t4 (List.mem_of_getElem? (i := 52) (by rfl)) (by rfl)
set_option maxRecDepth 5000 in
theorem cw_853 : (.instanceMethod ⟨"AlikeSteps$Rows", "item", "(II)I"⟩ : Cond) ∈ pj_tb := pj_t4 (List.mem_of_getElem? (i := 53) (by rfl)) (by rfl)
set_option maxRecDepth 5000 in
theorem cw_854 : (.selects "AlikeSteps$Rows" ⟨"AlikeSteps$Rows", "item", "(II)I"⟩ ⟨"AlikeSteps$Rows", "item", "(II)I"⟩ : Cond) ∈ pj_tb := pj_t4 (List.mem_of_getElem? (i := 54) (by rfl)) (by rfl)
set_option maxRecDepth 5000 in
theorem cw_855 : (.code ⟨"AlikeSteps$Rows", "item", "(II)I"⟩ prog_8_method_6_code 3 (some .int) : Cond) ∈ pj_tb := pj_t4 (List.mem_of_getElem? (i := 55) (by rfl)) (by rfl)
set_option maxRecDepth 5000 in
theorem cw_856 : (.methodLink RX10 278 ⟨"AlikeSteps$Formula", "takeBackwards", "(ILAlikeSteps$Steps;)V"⟩ : Cond) ∈ pj_tb := pj_t4 (List.mem_of_getElem? (i := 56) (by rfl)) (by rfl)
set_option maxRecDepth 5000 in
theorem cw_857 : (.instanceMethod ⟨"AlikeSteps$Formula", "takeBackwards", "(ILAlikeSteps$Steps;)V"⟩ : Cond) ∈ pj_tb := pj_t4 (List.mem_of_getElem? (i := 57) (by rfl)) (by rfl)
set_option maxRecDepth 5000 in
theorem cw_858 : (.selects "AlikeSteps$Formula" ⟨"AlikeSteps$Formula", "takeBackwards", "(ILAlikeSteps$Steps;)V"⟩ ⟨"AlikeSteps$Formula", "takeBackwards", "(ILAlikeSteps$Steps;)V"⟩ : Cond) ∈ pj_tb := pj_t4 (List.mem_of_getElem? (i := 58) (by rfl)) (by rfl)
set_option maxRecDepth 5000 in
theorem cw_859 : (.code ⟨"AlikeSteps$Formula", "takeBackwards", "(ILAlikeSteps$Steps;)V"⟩ prog_5_method_3_code 4 none : Cond) ∈ pj_tb := pj_t4 (List.mem_of_getElem? (i := 59) (by rfl)) (by rfl)
set_option maxRecDepth 5000 in
theorem cw_860 : (.methodLink RX3 38 ⟨"AlikeSteps$Steps", "movingTo", "(III)I"⟩ : Cond) ∈ pj_tb := pj_t4 (List.mem_of_getElem? (i := 60) (by rfl)) (by rfl)
set_option maxRecDepth 5000 in
theorem cw_861 : (.instanceMethod ⟨"AlikeSteps$Steps", "movingTo", "(III)I"⟩ : Cond) ∈ pj_tb := pj_t4 (List.mem_of_getElem? (i := 61) (by rfl)) (by rfl)
set_option maxRecDepth 5000 in
theorem cw_862 : (.selects "AlikeSteps$Steps" ⟨"AlikeSteps$Steps", "movingTo", "(III)I"⟩ ⟨"AlikeSteps$Steps", "movingTo", "(III)I"⟩ : Cond) ∈ pj_tb := pj_t4 (List.mem_of_getElem? (i := 62) (by rfl)) (by rfl)
set_option maxRecDepth 5000 in
theorem cw_863 : (.code ⟨"AlikeSteps$Steps", "movingTo", "(III)I"⟩ prog_9_method_7_code 6 (some .int) : Cond) ∈ pj_tb := pj_t4 (List.mem_of_getElem? (i := 63) (by rfl)) (by rfl)
set_option maxRecDepth 5000 in
theorem cw_864 : (.methodLink RX7 49 ⟨"AlikeSteps$Steps", "moved", "(III)I"⟩ : Cond) ∈ pj_tb := pj_t4 (List.mem_of_getElem? (i := 64) (by rfl)) (by rfl)
set_option maxRecDepth 5000 in
theorem cw_865 : (.methodLink RX3 44 ⟨"AlikeSteps$Formula", "push", "(I)V"⟩ : Cond) ∈ pj_tb := pj_t4 (List.mem_of_getElem? (i := 65) (by rfl)) (by rfl)
set_option maxRecDepth 5000 in
theorem cw_867 : (.instanceMethod ⟨"AlikeSteps$Formula", "push", "(I)V"⟩ : Cond) ∈ pj_tb := pj_t4 (List.mem_of_getElem? (i := 67) (by rfl)) (by rfl)
set_option maxRecDepth 5000 in
theorem cw_868 : (.code ⟨"AlikeSteps$Formula", "push", "(I)V"⟩ prog_5_method_6_code 2 none : Cond) ∈ pj_tb := pj_t4 (List.mem_of_getElem? (i := 68) (by rfl)) (by rfl)
set_option maxRecDepth 5000 in
theorem cw_869 : (.methodLink RX3 48 ⟨"AlikeSteps$Formula", "takeList", "(I)V"⟩ : Cond) ∈ pj_tb := pj_t4 (List.mem_of_getElem? (i := 69) (by rfl)) (by rfl)
set_option maxRecDepth 5000 in
theorem cw_871 : (.instanceMethod ⟨"AlikeSteps$Formula", "takeList", "(I)V"⟩ : Cond) ∈ pj_tb := pj_t4 (List.mem_of_getElem? (i := 71) (by rfl)) (by rfl)
set_option maxRecDepth 5000 in
theorem cw_872 : (.code ⟨"AlikeSteps$Formula", "takeList", "(I)V"⟩ prog_5_method_7_code 3 none : Cond) ∈ pj_tb := pj_t4 (List.mem_of_getElem? (i := 72) (by rfl)) (by rfl)
set_option maxRecDepth 5000 in
theorem cw_873 : (.methodLink RX10 282 ⟨"AlikeSteps$Formula", "isOne", "()Z"⟩ : Cond) ∈ pj_tb := pj_t4 (List.mem_of_getElem? (i := 73) (by rfl)) (by rfl)
set_option maxRecDepth 5000 in
theorem cw_874 : (.instanceMethod ⟨"AlikeSteps$Formula", "isOne", "()Z"⟩ : Cond) ∈ pj_tb := pj_t4 (List.mem_of_getElem? (i := 74) (by rfl)) (by rfl)
set_option maxRecDepth 5000 in
theorem cw_875 : (.selects "AlikeSteps$Formula" ⟨"AlikeSteps$Formula", "isOne", "()Z"⟩ ⟨"AlikeSteps$Formula", "isOne", "()Z"⟩ : Cond) ∈ pj_tb := pj_t4 (List.mem_of_getElem? (i := 75) (by rfl)) (by rfl)
set_option maxRecDepth 5000 in
theorem cw_876 : (.code ⟨"AlikeSteps$Formula", "isOne", "()Z"⟩ prog_5_method_4_code 1 (some .boolean) : Cond) ∈ pj_tb := pj_t4 (List.mem_of_getElem? (i := 76) (by rfl)) (by rfl)
set_option maxRecDepth 5000 in
theorem cw_877 : (.methodLink RX10 285 ⟨"AlikeSteps$Formula", "answer", "()I"⟩ : Cond) ∈ pj_tb := pj_t4 (List.mem_of_getElem? (i := 77) (by rfl)) (by rfl)
set_option maxRecDepth 5000 in
theorem cw_878 : (.instanceMethod ⟨"AlikeSteps$Formula", "answer", "()I"⟩ : Cond) ∈ pj_tb := pj_t4 (List.mem_of_getElem? (i := 78) (by rfl)) (by rfl)
set_option maxRecDepth 5000 in
theorem cw_879 : (.selects "AlikeSteps$Formula" ⟨"AlikeSteps$Formula", "answer", "()I"⟩ ⟨"AlikeSteps$Formula", "answer", "()I"⟩ : Cond) ∈ pj_tb := pj_t4 (List.mem_of_getElem? (i := 79) (by rfl)) (by rfl)
set_option maxRecDepth 5000 in
theorem cw_880 : (.code ⟨"AlikeSteps$Formula", "answer", "()I"⟩ prog_5_method_5_code 1 (some .int) : Cond) ∈ pj_tb := pj_t4 (List.mem_of_getElem? (i := 80) (by rfl)) (by rfl)
set_option maxRecDepth 5000 in
theorem cw_882 : (.instanceMethod ⟨"AlikeSteps", "small", "(III)I"⟩ : Cond) ∈ pj_tb := pj_t4 (List.mem_of_getElem? (i := 82) (by rfl)) (by rfl)
set_option maxRecDepth 5000 in
theorem cw_883 : (.selects "AlikeSteps" ⟨"AlikeSteps", "small", "(III)I"⟩ ⟨"AlikeSteps", "small", "(III)I"⟩ : Cond) ∈ pj_tb := pj_t4 (List.mem_of_getElem? (i := 83) (by rfl)) (by rfl)
set_option maxRecDepth 5000 in
theorem cw_884 : (.code ⟨"AlikeSteps", "small", "(III)I"⟩ prog_1_method_24_code 4 (some .int) : Cond) ∈ pj_tb := pj_t4 (List.mem_of_getElem? (i := 84) (by rfl)) (by rfl)
set_option maxRecDepth 5000 in
theorem cw_885 : (.methodLink RX10 288 ⟨"AlikeSteps$Parting", "smallOf", "(LAlikeSteps$Steps;II)I"⟩ : Cond) ∈ pj_tb := pj_t4 (List.mem_of_getElem? (i := 85) (by rfl)) (by rfl)
set_option maxRecDepth 5000 in
theorem cw_886 : (.instanceMethod ⟨"AlikeSteps$Parting", "smallOf", "(LAlikeSteps$Steps;II)I"⟩ : Cond) ∈ pj_tb := pj_t4 (List.mem_of_getElem? (i := 86) (by rfl)) (by rfl)
set_option maxRecDepth 5000 in
theorem cw_887 : (.selects "AlikeSteps$Parting" ⟨"AlikeSteps$Parting", "smallOf", "(LAlikeSteps$Steps;II)I"⟩ ⟨"AlikeSteps$Parting", "smallOf", "(LAlikeSteps$Steps;II)I"⟩ : Cond) ∈ pj_tb := pj_t4 (List.mem_of_getElem? (i := 87) (by rfl)) (by rfl)
set_option maxRecDepth 5000 in
theorem cw_888 : (.code ⟨"AlikeSteps$Parting", "smallOf", "(LAlikeSteps$Steps;II)I"⟩ prog_7_method_10_code 6 (some .int) : Cond) ∈ pj_tb := pj_t4 (List.mem_of_getElem? (i := 88) (by rfl)) (by rfl)
set_option maxRecDepth 5000 in
theorem cw_890 : (.instanceMethod ⟨"AlikeSteps", "arcs", "(I)I"⟩ : Cond) ∈ pj_tb := pj_t4 (List.mem_of_getElem? (i := 90) (by rfl)) (by rfl)
set_option maxRecDepth 5000 in
theorem cw_891 : (.selects "AlikeSteps" ⟨"AlikeSteps", "arcs", "(I)I"⟩ ⟨"AlikeSteps", "arcs", "(I)I"⟩ : Cond) ∈ pj_tb := pj_t4 (List.mem_of_getElem? (i := 91) (by rfl)) (by rfl)
set_option maxRecDepth 5000 in
theorem cw_892 : (.code ⟨"AlikeSteps", "arcs", "(I)I"⟩ prog_1_method_25_code 2 (some .int) : Cond) ∈ pj_tb := pj_t4 (List.mem_of_getElem? (i := 92) (by rfl)) (by rfl)
set_option maxRecDepth 5000 in
theorem cw_893 : (.methodLink RX10 292 ⟨"AlikeSteps$Parting", "smallArcs", "(LAlikeSteps$Steps;)I"⟩ : Cond) ∈ pj_tb := pj_t4 (List.mem_of_getElem? (i := 93) (by rfl)) (by rfl)
set_option maxRecDepth 5000 in
theorem cw_894 : (.instanceMethod ⟨"AlikeSteps$Parting", "smallArcs", "(LAlikeSteps$Steps;)I"⟩ : Cond) ∈ pj_tb := pj_t4 (List.mem_of_getElem? (i := 94) (by rfl)) (by rfl)
set_option maxRecDepth 5000 in
theorem cw_895 : (.selects "AlikeSteps$Parting" ⟨"AlikeSteps$Parting", "smallArcs", "(LAlikeSteps$Steps;)I"⟩ ⟨"AlikeSteps$Parting", "smallArcs", "(LAlikeSteps$Steps;)I"⟩ : Cond) ∈ pj_tb := pj_t4 (List.mem_of_getElem? (i := 95) (by rfl)) (by rfl)
set_option maxRecDepth 5000 in
theorem cw_896 : (.code ⟨"AlikeSteps$Parting", "smallArcs", "(LAlikeSteps$Steps;)I"⟩ prog_7_method_11_code 5 (some .int) : Cond) ∈ pj_tb := pj_t4 (List.mem_of_getElem? (i := 96) (by rfl)) (by rfl)
set_option maxRecDepth 5000 in
theorem cw_897 : (.methodLink RX5 70 ⟨"AlikeSteps$Parting", "smallOf", "(LAlikeSteps$Steps;II)I"⟩ : Cond) ∈ pj_tb := pj_t4 (List.mem_of_getElem? (i := 97) (by rfl)) (by rfl)
set_option maxRecDepth 5000 in
theorem cw_898 : (.methodLink RX5 74 ⟨"java/lang/Integer", "bitCount", "(I)I"⟩ : Cond) ∈ pj_tb := pj_t4 (List.mem_of_getElem? (i := 98) (by rfl)) (by rfl)
set_option maxRecDepth 5000 in
theorem cw_900 : (.instanceMethod ⟨"AlikeSteps", "words", "(II)I"⟩ : Cond) ∈ pj_tb := pj_t4 (List.mem_of_getElem? (i := 100) (by rfl)) (by rfl)
set_option maxRecDepth 5000 in
theorem cw_901 : (.selects "AlikeSteps" ⟨"AlikeSteps", "words", "(II)I"⟩ ⟨"AlikeSteps", "words", "(II)I"⟩ : Cond) ∈ pj_tb := pj_t4 (List.mem_of_getElem? (i := 101) (by rfl)) (by rfl)
set_option maxRecDepth 5000 in
theorem cw_902 : (.code ⟨"AlikeSteps", "words", "(II)I"⟩ prog_1_method_26_code 3 (some .int) : Cond) ∈ pj_tb := pj_t4 (List.mem_of_getElem? (i := 102) (by rfl)) (by rfl)
set_option maxRecDepth 5000 in
theorem cw_903 : (.methodLink RX10 296 ⟨"AlikeSteps$Steps", "wordsFrom", "(II)I"⟩ : Cond) ∈ pj_tb := pj_t4 (List.mem_of_getElem? (i := 103) (by rfl)) (by rfl)
set_option maxRecDepth 5000 in
theorem cw_904 : (.instanceMethod ⟨"AlikeSteps$Steps", "wordsFrom", "(II)I"⟩ : Cond) ∈ pj_tb := pj_t4 (List.mem_of_getElem? (i := 104) (by rfl)) (by rfl)
set_option maxRecDepth 5000 in
theorem cw_905 : (.selects "AlikeSteps$Steps" ⟨"AlikeSteps$Steps", "wordsFrom", "(II)I"⟩ ⟨"AlikeSteps$Steps", "wordsFrom", "(II)I"⟩ : Cond) ∈ pj_tb := pj_t4 (List.mem_of_getElem? (i := 105) (by rfl)) (by rfl)
set_option maxRecDepth 5000 in
theorem cw_906 : (.code ⟨"AlikeSteps$Steps", "wordsFrom", "(II)I"⟩ prog_9_method_8_code 3 (some .int) : Cond) ∈ pj_tb := pj_t4 (List.mem_of_getElem? (i := 106) (by rfl)) (by rfl)
set_option maxRecDepth 5000 in
theorem cw_907 : (.methodLink RX7 53 ⟨"AlikeSteps$Steps", "spelt", "([III)I"⟩ : Cond) ∈ pj_tb := pj_t4 (List.mem_of_getElem? (i := 107) (by rfl)) (by rfl)
set_option maxRecDepth 5000 in
theorem cw_908 : (.static ⟨"AlikeSteps$Steps", "spelt", "([III)I"⟩ : Cond) ∈ pj_tb := pj_t4 (List.mem_of_getElem? (i := 108) (by rfl)) (by rfl)
set_option maxRecDepth 5000 in
theorem cw_909 : (.code ⟨"AlikeSteps$Steps", "spelt", "([III)I"⟩ prog_9_method_15_code 5 (some .int) : Cond) ∈ pj_tb := pj_t4 (List.mem_of_getElem? (i := 109) (by rfl)) (by rfl)
set_option maxRecDepth 5000 in
theorem cw_911 : (.instanceMethod ⟨"AlikeSteps", "walk", "(III)I"⟩ : Cond) ∈ pj_tb := pj_t4 (List.mem_of_getElem? (i := 111) (by rfl)) (by rfl)
set_option maxRecDepth 5000 in
theorem cw_912 : (.selects "AlikeSteps" ⟨"AlikeSteps", "walk", "(III)I"⟩ ⟨"AlikeSteps", "walk", "(III)I"⟩ : Cond) ∈ pj_tb := pj_t4 (List.mem_of_getElem? (i := 112) (by rfl)) (by rfl)
set_option maxRecDepth 5000 in
theorem cw_913 : (.code ⟨"AlikeSteps", "walk", "(III)I"⟩ prog_1_method_27_code 4 (some .int) : Cond) ∈ pj_tb := pj_t4 (List.mem_of_getElem? (i := 113) (by rfl)) (by rfl)
set_option maxRecDepth 5000 in
theorem cw_914 : (.constant RX10 299 (999999) : Cond) ∈ pj_tb := pj_t4 (List.mem_of_getElem? (i := 114) (by rfl)) (by rfl)
set_option maxRecDepth 5000 in
theorem cw_915 : (.methodLink RX10 300 ⟨"AlikeSteps$Steps", "endOfWalk", "(III)I"⟩ : Cond) ∈ pj_tb := pj_t4 (List.mem_of_getElem? (i := 115) (by rfl)) (by rfl)
set_option maxRecDepth 5000 in
theorem cw_916 : (.instanceMethod ⟨"AlikeSteps$Steps", "endOfWalk", "(III)I"⟩ : Cond) ∈ pj_tb := pj_t4 (List.mem_of_getElem? (i := 116) (by rfl)) (by rfl)
set_option maxRecDepth 5000 in
theorem cw_917 : (.selects "AlikeSteps$Steps" ⟨"AlikeSteps$Steps", "endOfWalk", "(III)I"⟩ ⟨"AlikeSteps$Steps", "endOfWalk", "(III)I"⟩ : Cond) ∈ pj_tb := pj_t4 (List.mem_of_getElem? (i := 117) (by rfl)) (by rfl)
set_option maxRecDepth 5000 in
theorem cw_918 : (.code ⟨"AlikeSteps$Steps", "endOfWalk", "(III)I"⟩ prog_9_method_9_code 9 (some .int) : Cond) ∈ pj_tb := pj_t4 (List.mem_of_getElem? (i := 118) (by rfl)) (by rfl)
set_option maxRecDepth 5000 in
theorem cw_919 : (.constantLong RX7 56 (16807) : Cond) ∈ pj_tb := pj_t4 (List.mem_of_getElem? (i := 119) (by rfl)) (by rfl)
set_option maxRecDepth 5000 in
theorem cw_920 : (.constantLong RX7 58 (2147483647) : Cond) ∈ pj_tb := pj_t4 (List.mem_of_getElem? (i := 120) (by rfl)) (by rfl)
set_option maxRecDepth 5000 in
theorem cw_921 : (.methodLink RX7 60 ⟨"AlikeSteps$Steps", "ways", "(I)I"⟩ : Cond) ∈ pj_tb := pj_t4 (List.mem_of_getElem? (i := 121) (by rfl)) (by rfl)
set_option maxRecDepth 5000 in
theorem cw_922 : (.instanceMethod ⟨"AlikeSteps$Steps", "ways", "(I)I"⟩ : Cond) ∈ pj_tb := pj_t4 (List.mem_of_getElem? (i := 122) (by rfl)) (by rfl)
set_option maxRecDepth 5000 in
theorem cw_923 : (.selects "AlikeSteps$Steps" ⟨"AlikeSteps$Steps", "ways", "(I)I"⟩ ⟨"AlikeSteps$Steps", "ways", "(I)I"⟩ : Cond) ∈ pj_tb := pj_t4 (List.mem_of_getElem? (i := 123) (by rfl)) (by rfl)
set_option maxRecDepth 5000 in
theorem cw_924 : (.code ⟨"AlikeSteps$Steps", "ways", "(I)I"⟩ prog_9_method_10_code 4 (some .int) : Cond) ∈ pj_tb := pj_t4 (List.mem_of_getElem? (i := 124) (by rfl)) (by rfl)
set_option maxRecDepth 5000 in
theorem cw_925 : (.methodLink RX7 67 ⟨"java/lang/Integer", "bitCount", "(I)I"⟩ : Cond) ∈ pj_tb := pj_t4 (List.mem_of_getElem? (i := 125) (by rfl)) (by rfl)
set_option maxRecDepth 5000 in
theorem cw_926 : (.methodLink RX7 64 ⟨"AlikeSteps$Steps", "way", "(II)I"⟩ : Cond) ∈ pj_tb := pj_t4 (List.mem_of_getElem? (i := 126) (by rfl)) (by rfl)
set_option maxRecDepth 5000 in
theorem cw_928 : (.instanceMethod ⟨"AlikeSteps$Steps", "way", "(II)I"⟩ : Cond) ∈ pj_tb := pj_t4 (List.mem_of_getElem? (i := 128) (by rfl)) (by rfl)
set_option maxRecDepth 5000 in
theorem cw_929 : (.code ⟨"AlikeSteps$Steps", "way", "(II)I"⟩ prog_9_method_11_code 6 (some .int) : Cond) ∈ pj_tb := pj_t4 (List.mem_of_getElem? (i := 129) (by rfl)) (by rfl)
set_option maxRecDepth 5000 in
theorem cw_931 : (.instanceMethod ⟨"AlikeSteps", "fits", "(IIII)I"⟩ : Cond) ∈ pj_tb := pj_t4 (List.mem_of_getElem? (i := 131) (by rfl)) (by rfl)
set_option maxRecDepth 5000 in
theorem cw_932 : (.selects "AlikeSteps" ⟨"AlikeSteps", "fits", "(IIII)I"⟩ ⟨"AlikeSteps", "fits", "(IIII)I"⟩ : Cond) ∈ pj_tb := pj_t4 (List.mem_of_getElem? (i := 132) (by rfl)) (by rfl)
set_option maxRecDepth 5000 in
theorem cw_933 : (.code ⟨"AlikeSteps", "fits", "(IIII)I"⟩ prog_1_method_28_code 8 (some .int) : Cond) ∈ pj_tb := pj_t4 (List.mem_of_getElem? (i := 133) (by rfl)) (by rfl)
set_option maxRecDepth 5000 in
theorem cw_934 : (.methodLink RX10 303 ⟨"AlikeSteps$Net", "setArcPart", "(III)V"⟩ : Cond) ∈ pj_tb := pj_t4 (List.mem_of_getElem? (i := 134) (by rfl)) (by rfl)
set_option maxRecDepth 5000 in
theorem cw_935 : (.methodLink RX10 306 ⟨"AlikeSteps", "tellsBlocks", "(ILAlikeSteps$Parting;)Z"⟩ : Cond) ∈ pj_tb := pj_t4 (List.mem_of_getElem? (i := 135) (by rfl)) (by rfl)
set_option maxRecDepth 5000 in
theorem cw_937 : (.instanceMethod ⟨"AlikeSteps", "tellsBlocks", "(ILAlikeSteps$Parting;)Z"⟩ : Cond) ∈ pj_tb := pj_t4 (List.mem_of_getElem? (i := 137) (by rfl)) (by rfl)
set_option maxRecDepth 5000 in
theorem cw_938 : (.code ⟨"AlikeSteps", "tellsBlocks", "(ILAlikeSteps$Parting;)Z"⟩ prog_1_method_39_code 4 (some .boolean) : Cond) ∈ pj_tb := pj_t4 (List.mem_of_getElem? (i := 138) (by rfl)) (by rfl)
set_option maxRecDepth 5000 in
theorem cw_940 : (.instanceMethod ⟨"AlikeSteps", "image", "(I)I"⟩ : Cond) ∈ pj_tb := pj_t4 (List.mem_of_getElem? (i := 140) (by rfl)) (by rfl)
set_option maxRecDepth 5000 in
theorem cw_941 : (.selects "AlikeSteps" ⟨"AlikeSteps", "image", "(I)I"⟩ ⟨"AlikeSteps", "image", "(I)I"⟩ : Cond) ∈ pj_tb := pj_t4 (List.mem_of_getElem? (i := 141) (by rfl)) (by rfl)
set_option maxRecDepth 5000 in
theorem cw_942 : (.code ⟨"AlikeSteps", "image", "(I)I"⟩ prog_1_method_29_code 2 (some .int) : Cond) ∈ pj_tb := pj_t4 (List.mem_of_getElem? (i := 142) (by rfl)) (by rfl)
set_option maxRecDepth 5000 in
theorem cw_944 : (.instanceMethod ⟨"AlikeSteps", "restore", "(I)I"⟩ : Cond) ∈ pj_tb := pj_t4 (List.mem_of_getElem? (i := 144) (by rfl)) (by rfl)
set_option maxRecDepth 5000 in
theorem cw_945 : (.selects "AlikeSteps" ⟨"AlikeSteps", "restore", "(I)I"⟩ ⟨"AlikeSteps", "restore", "(I)I"⟩ : Cond) ∈ pj_tb := pj_t4 (List.mem_of_getElem? (i := 145) (by rfl)) (by rfl)
set_option maxRecDepth 5000 in
theorem cw_946 : (.code ⟨"AlikeSteps", "restore", "(I)I"⟩ prog_1_method_30_code 2 (some .int) : Cond) ∈ pj_tb := pj_t4 (List.mem_of_getElem? (i := 146) (by rfl)) (by rfl)
set_option maxRecDepth 5000 in
theorem cw_948 : (.instanceMethod ⟨"AlikeSteps", "kind", "(I)I"⟩ : Cond) ∈ pj_tb := pj_t4 (List.mem_of_getElem? (i := 148) (by rfl)) (by rfl)
set_option maxRecDepth 5000 in
theorem cw_949 : (.selects "AlikeSteps" ⟨"AlikeSteps", "kind", "(I)I"⟩ ⟨"AlikeSteps", "kind", "(I)I"⟩ : Cond) ∈ pj_tb := pj_t4 (List.mem_of_getElem? (i := 149) (by rfl)) (by rfl)
set_option maxRecDepth 5000 in
theorem cw_950 : (.code ⟨"AlikeSteps", "kind", "(I)I"⟩ prog_1_method_31_code 2 (some .int) : Cond) ∈ pj_tb := pj_t4 (List.mem_of_getElem? (i := 150) (by rfl)) (by rfl)
set_option maxRecDepth 5000 in
theorem cw_952 : (.instanceMethod ⟨"AlikeSteps", "as", "(II)I"⟩ : Cond) ∈ pj_tb := pj_t4 (List.mem_of_getElem? (i := 152) (by rfl)) (by rfl)
set_option maxRecDepth 5000 in
theorem cw_953 : (.selects "AlikeSteps" ⟨"AlikeSteps", "as", "(II)I"⟩ ⟨"AlikeSteps", "as", "(II)I"⟩ : Cond) ∈ pj_tb := pj_t4 (List.mem_of_getElem? (i := 153) (by rfl)) (by rfl)
set_option maxRecDepth 5000 in
theorem cw_954 : (.code ⟨"AlikeSteps", "as", "(II)I"⟩ prog_1_method_32_code 3 (some .int) : Cond) ∈ pj_tb := pj_t4 (List.mem_of_getElem? (i := 154) (by rfl)) (by rfl)
set_option maxRecDepth 5000 in
theorem cw_955 : (.methodLink RX10 310 ⟨"AlikeSteps", "isA", "(II)Z"⟩ : Cond) ∈ pj_tb := pj_t4 (List.mem_of_getElem? (i := 155) (by rfl)) (by rfl)
set_option maxRecDepth 5000 in
theorem cw_957 : (.instanceMethod ⟨"AlikeSteps", "ask", "(II)I"⟩ : Cond) ∈ pj_tb := pj_t4 (List.mem_of_getElem? (i := 157) (by rfl)) (by rfl)
set_option maxRecDepth 5000 in
theorem cw_958 : (.selects "AlikeSteps" ⟨"AlikeSteps", "ask", "(II)I"⟩ ⟨"AlikeSteps", "ask", "(II)I"⟩ : Cond) ∈ pj_tb := pj_t4 (List.mem_of_getElem? (i := 158) (by rfl)) (by rfl)
set_option maxRecDepth 5000 in
theorem cw_959 : (.code ⟨"AlikeSteps", "ask", "(II)I"⟩ prog_1_method_33_code 3 (some .int) : Cond) ∈ pj_tb := pj_t4 (List.mem_of_getElem? (i := 159) (by rfl)) (by rfl)
set_option maxRecDepth 5000 in
theorem cw_960 : (.methodLink RX10 314 ⟨"AlikeSteps$Steps", "ways", "(I)I"⟩ : Cond) ∈ pj_tb := pj_t4 (List.mem_of_getElem? (i := 160) (by rfl)) (by rfl)
set_option maxRecDepth 5000 in
theorem cw_961 : (.methodLink RX10 317 ⟨"AlikeSteps$Asker", "begin", "(IIII)V"⟩ : Cond) ∈ pj_tb := pj_t4 (List.mem_of_getElem? (i := 161) (by rfl)) (by rfl)
set_option maxRecDepth 5000 in
theorem cw_962 : (.instanceMethod ⟨"AlikeSteps$Asker", "begin", "(IIII)V"⟩ : Cond) ∈ pj_tb := pj_t4 (List.mem_of_getElem? (i := 162) (by rfl)) (by rfl)
set_option maxRecDepth 5000 in
theorem cw_963 : (.selects "AlikeSteps$Asker" ⟨"AlikeSteps$Asker", "begin", "(IIII)V"⟩ ⟨"AlikeSteps$Asker", "begin", "(IIII)V"⟩ : Cond) ∈ pj_tb := pj_t4 (List.mem_of_getElem? (i := 163) (by rfl)) (by rfl)
set_option maxRecDepth 5000 in
theorem cw_964 : (.code ⟨"AlikeSteps$Asker", "begin", "(IIII)V"⟩ prog_4_method_2_code 5 none : Cond) ∈ pj_tb := pj_t4 (List.mem_of_getElem? (i := 164) (by rfl)) (by rfl)
set_option maxRecDepth 5000 in
theorem cw_965 : (.methodLink RX10 320 ⟨"AlikeSteps$Asker", "answer", "(I)I"⟩ : Cond) ∈ pj_tb := pj_t4 (List.mem_of_getElem? (i := 165) (by rfl)) (by rfl)
set_option maxRecDepth 5000 in
theorem cw_966 : (.instanceMethod ⟨"AlikeSteps$Asker", "answer", "(I)I"⟩ : Cond) ∈ pj_tb := pj_t4 (List.mem_of_getElem? (i := 166) (by rfl)) (by rfl)
set_option maxRecDepth 5000 in
theorem cw_967 : (.selects "AlikeSteps$Asker" ⟨"AlikeSteps$Asker", "answer", "(I)I"⟩ ⟨"AlikeSteps$Asker", "answer", "(I)I"⟩ : Cond) ∈ pj_tb := pj_t4 (List.mem_of_getElem? (i := 167) (by rfl)) (by rfl)
set_option maxRecDepth 5000 in
theorem cw_968 : (.code ⟨"AlikeSteps$Asker", "answer", "(I)I"⟩ prog_4_method_3_code 2 (some .int) : Cond) ∈ pj_tb := pj_t4 (List.mem_of_getElem? (i := 168) (by rfl)) (by rfl)
set_option maxRecDepth 5000 in
theorem cw_969 : (.methodLink RX2 31 ⟨"AlikeSteps$Asker", "sizeBody", "()I"⟩ : Cond) ∈ pj_tb := pj_t4 (List.mem_of_getElem? (i := 169) (by rfl)) (by rfl)
set_option maxRecDepth 5000 in
theorem cw_971 : (.instanceMethod ⟨"AlikeSteps$Asker", "sizeBody", "()I"⟩ : Cond) ∈ pj_tb := pj_t4 (List.mem_of_getElem? (i := 171) (by rfl)) (by rfl)
set_option maxRecDepth 5000 in
theorem cw_972 : (.code ⟨"AlikeSteps$Asker", "sizeBody", "()I"⟩ prog_4_method_5_code 1 (some .int) : Cond) ∈ pj_tb := pj_t4 (List.mem_of_getElem? (i := 172) (by rfl)) (by rfl)
set_option maxRecDepth 5000 in
theorem cw_973 : (.methodLink RX2 35 ⟨"AlikeSteps$Asker", "markBody", "()I"⟩ : Cond) ∈ pj_tb := pj_t4 (List.mem_of_getElem? (i := 173) (by rfl)) (by rfl)
set_option maxRecDepth 5000 in
theorem cw_975 : (.instanceMethod ⟨"AlikeSteps$Asker", "markBody", "()I"⟩ : Cond) ∈ pj_tb := pj_t4 (List.mem_of_getElem? (i := 175) (by rfl)) (by rfl)
set_option maxRecDepth 5000 in
theorem cw_976 : (.code ⟨"AlikeSteps$Asker", "markBody", "()I"⟩ prog_4_method_6_code 1 (some .int) : Cond) ∈ pj_tb := pj_t4 (List.mem_of_getElem? (i := 176) (by rfl)) (by rfl)
set_option maxRecDepth 5000 in
theorem cw_977 : (.methodLink RX2 38 ⟨"AlikeSteps$Asker", "body", "(II)I"⟩ : Cond) ∈ pj_tb := pj_t4 (List.mem_of_getElem? (i := 177) (by rfl)) (by rfl)
set_option maxRecDepth 5000 in
theorem cw_979 : (.instanceMethod ⟨"AlikeSteps$Asker", "body", "(II)I"⟩ : Cond) ∈ pj_tb := pj_t4 (List.mem_of_getElem? (i := 179) (by rfl)) (by rfl)
set_option maxRecDepth 5000 in
theorem cw_980 : (.code ⟨"AlikeSteps$Asker", "body", "(II)I"⟩ prog_4_method_7_code 4 (some .int) : Cond) ∈ pj_tb := pj_t4 (List.mem_of_getElem? (i := 180) (by rfl)) (by rfl)
set_option maxRecDepth 5000 in
theorem cw_981 : (.methodLink RX2 43 ⟨"AlikeSteps$Asker", "leave", "(I)V"⟩ : Cond) ∈ pj_tb := pj_t4 (List.mem_of_getElem? (i := 181) (by rfl)) (by rfl)
set_option maxRecDepth 5000 in
theorem cw_983 : (.instanceMethod ⟨"AlikeSteps$Asker", "leave", "(I)V"⟩ : Cond) ∈ pj_tb := pj_t4 (List.mem_of_getElem? (i := 183) (by rfl)) (by rfl)
set_option maxRecDepth 5000 in
theorem cw_984 : (.code ⟨"AlikeSteps$Asker", "leave", "(I)V"⟩ prog_4_method_8_code 2 none : Cond) ∈ pj_tb := pj_t4 (List.mem_of_getElem? (i := 184) (by rfl)) (by rfl)
set_option maxRecDepth 5000 in
theorem cw_986 : (.instanceMethod ⟨"AlikeSteps", "trace", "(I)I"⟩ : Cond) ∈ pj_tb := pj_t4 (List.mem_of_getElem? (i := 186) (by rfl)) (by rfl)
set_option maxRecDepth 5000 in
theorem cw_987 : (.selects "AlikeSteps" ⟨"AlikeSteps", "trace", "(I)I"⟩ ⟨"AlikeSteps", "trace", "(I)I"⟩ : Cond) ∈ pj_tb := pj_t4 (List.mem_of_getElem? (i := 187) (by rfl)) (by rfl)
set_option maxRecDepth 5000 in
theorem cw_988 : (.code ⟨"AlikeSteps", "trace", "(I)I"⟩ prog_1_method_34_code 2 (some .int) : Cond) ∈ pj_tb := pj_t4 (List.mem_of_getElem? (i := 188) (by rfl)) (by rfl)
set_option maxRecDepth 5000 in
theorem cw_989 : (.methodLink RX10 322 ⟨"AlikeSteps$Asker", "traceAt", "(I)I"⟩ : Cond) ∈ pj_tb := pj_t4 (List.mem_of_getElem? (i := 189) (by rfl)) (by rfl)
set_option maxRecDepth 5000 in
theorem cw_990 : (.instanceMethod ⟨"AlikeSteps$Asker", "traceAt", "(I)I"⟩ : Cond) ∈ pj_tb := pj_t4 (List.mem_of_getElem? (i := 190) (by rfl)) (by rfl)
set_option maxRecDepth 5000 in
theorem cw_991 : (.selects "AlikeSteps$Asker" ⟨"AlikeSteps$Asker", "traceAt", "(I)I"⟩ ⟨"AlikeSteps$Asker", "traceAt", "(I)I"⟩ : Cond) ∈ pj_tb := pj_t4 (List.mem_of_getElem? (i := 191) (by rfl)) (by rfl)
set_option maxRecDepth 5000 in
theorem cw_992 : (.code ⟨"AlikeSteps$Asker", "traceAt", "(I)I"⟩ prog_4_method_4_code 2 (some .int) : Cond) ∈ pj_tb := pj_t4 (List.mem_of_getElem? (i := 192) (by rfl)) (by rfl)
set_option maxRecDepth 5000 in
theorem cw_993 : (.constant RX2 42 (-1000000) : Cond) ∈ pj_tb := pj_t4 (List.mem_of_getElem? (i := 193) (by rfl)) (by rfl)
set_option maxRecDepth 5000 in
theorem cw_995 : (.instanceMethod ⟨"AlikeSteps", "count", "(I)I"⟩ : Cond) ∈ pj_tb := pj_t4 (List.mem_of_getElem? (i := 195) (by rfl)) (by rfl)
set_option maxRecDepth 5000 in
theorem cw_996 : (.selects "AlikeSteps" ⟨"AlikeSteps", "count", "(I)I"⟩ ⟨"AlikeSteps", "count", "(I)I"⟩ : Cond) ∈ pj_tb := pj_t4 (List.mem_of_getElem? (i := 196) (by rfl)) (by rfl)
set_option maxRecDepth 5000 in
theorem cw_997 : (.code ⟨"AlikeSteps", "count", "(I)I"⟩ prog_1_method_35_code 2 (some .int) : Cond) ∈ pj_tb := pj_t4 (List.mem_of_getElem? (i := 197) (by rfl)) (by rfl)
set_option maxRecDepth 5000 in
theorem cw_998 : (.methodLink RX10 325 ⟨"AlikeSteps$Rows", "size", "()I"⟩ : Cond) ∈ pj_tb := pj_t4 (List.mem_of_getElem? (i := 198) (by rfl)) (by rfl)
set_option maxRecDepth 5000 in
theorem cw_999 : (.instanceMethod ⟨"AlikeSteps$Rows", "size", "()I"⟩ : Cond) ∈ pj_tb := pj_t4 (List.mem_of_getElem? (i := 199) (by rfl)) (by rfl)
set_option maxRecDepth 5000 in
theorem cw_1000 : (.selects "AlikeSteps$Rows" ⟨"AlikeSteps$Rows", "size", "()I"⟩ ⟨"AlikeSteps$Rows", "size", "()I"⟩ : Cond) ∈ pj_tb := pj_t4 (List.mem_of_getElem? (i := 200) (by rfl)) (by rfl)
set_option maxRecDepth 5000 in
theorem cw_1001 : (.code ⟨"AlikeSteps$Rows", "size", "()I"⟩ prog_8_method_7_code 3 (some .int) : Cond) ∈ pj_tb := pj_t4 (List.mem_of_getElem? (i := 201) (by rfl)) (by rfl)
set_option maxRecDepth 5000 in
theorem cw_1002 : (.methodLink RX6 19 ⟨"AlikeSteps$Rows", "isMissing", "(I)Z"⟩ : Cond) ∈ pj_tb := pj_t4 (List.mem_of_getElem? (i := 202) (by rfl)) (by rfl)
set_option maxRecDepth 5000 in
theorem cw_1003 : (.methodLink RX10 326 ⟨"AlikeSteps$Tape", "size", "()I"⟩ : Cond) ∈ pj_tb := pj_t4 (List.mem_of_getElem? (i := 203) (by rfl)) (by rfl)
set_option maxRecDepth 5000 in
theorem cw_1004 : (.instanceMethod ⟨"AlikeSteps$Tape", "size", "()I"⟩ : Cond) ∈ pj_tb := pj_t4 (List.mem_of_getElem? (i := 204) (by rfl)) (by rfl)
set_option maxRecDepth 5000 in
theorem cw_1005 : (.selects "AlikeSteps$Tape" ⟨"AlikeSteps$Tape", "size", "()I"⟩ ⟨"AlikeSteps$Tape", "size", "()I"⟩ : Cond) ∈ pj_tb := pj_t4 (List.mem_of_getElem? (i := 205) (by rfl)) (by rfl)
set_option maxRecDepth 5000 in
theorem cw_1006 : (.code ⟨"AlikeSteps$Tape", "size", "()I"⟩ prog_10_method_3_code 1 (some .int) : Cond) ∈ pj_tb := pj_t4 (List.mem_of_getElem? (i := 206) (by rfl)) (by rfl)
set_option maxRecDepth 5000 in
theorem cw_1008 : (.instanceMethod ⟨"AlikeSteps", "status", "()I"⟩ : Cond) ∈ pj_tb := pj_t4 (List.mem_of_getElem? (i := 208) (by rfl)) (by rfl)
set_option maxRecDepth 5000 in
theorem cw_1009 : (.selects "AlikeSteps" ⟨"AlikeSteps", "status", "()I"⟩ ⟨"AlikeSteps", "status", "()I"⟩ : Cond) ∈ pj_tb := pj_t4 (List.mem_of_getElem? (i := 209) (by rfl)) (by rfl)
set_option maxRecDepth 5000 in
theorem cw_1010 : (.code ⟨"AlikeSteps", "status", "()I"⟩ prog_1_method_36_code 1 (some .int) : Cond) ∈ pj_tb := pj_t4 (List.mem_of_getElem? (i := 210) (by rfl)) (by rfl)
set_option maxRecDepth 5000 in
theorem cw_1017 : (.constant RX11 78 (-1000000) : Cond) ∈ pj_tb := pj_t4 (List.mem_of_getElem? (i := 217) (by rfl)) (by rfl)
set_option maxRecDepth 5000 in
theorem cw_1018 : (.fieldLink RX11 7 "AlikeStepsModel" "lane" "[I" : Cond) ∈ pj_tb := pj_t4 (List.mem_of_getElem? (i := 218) (by rfl)) (by rfl)
set_option maxRecDepth 5000 in
theorem cw_1019 : (.fieldLink RX11 13 "AlikeStepsModel" "many" "[I" : Cond) ∈ pj_tb := pj_t4 (List.mem_of_getElem? (i := 219) (by rfl)) (by rfl)
set_option maxRecDepth 5000 in
theorem cw_1020 : (.fieldLink RX11 16 "AlikeStepsModel" "items" "[I" : Cond) ∈ pj_tb := pj_t4 (List.mem_of_getElem? (i := 220) (by rfl)) (by rfl)
set_option maxRecDepth 5000 in
theorem cw_1021 : (.fieldLink RX11 19 "AlikeStepsModel" "spare" "[I" : Cond) ∈ pj_tb := pj_t4 (List.mem_of_getElem? (i := 221) (by rfl)) (by rfl)
set_option maxRecDepth 5000 in
theorem cw_1022 : (.fieldLink RX11 79 "AlikeStepsModel" "status" "I" : Cond) ∈ pj_tb := pj_t4 (List.mem_of_getElem? (i := 222) (by rfl)) (by rfl)
set_option maxRecDepth 5000 in
theorem cw_1023 : (.fieldLink RX11 22 "AlikeStepsModel" "tape" "[I" : Cond) ∈ pj_tb := pj_t4 (List.mem_of_getElem? (i := 223) (by rfl)) (by rfl)
set_option maxRecDepth 5000 in
theorem cw_1024 : (.fieldLink RX11 110 "AlikeStepsModel" "taped" "I" : Cond) ∈ pj_tb := pj_t4 (List.mem_of_getElem? (i := 224) (by rfl)) (by rfl)
set_option maxRecDepth 5000 in
theorem cw_1025 : (.fieldLink RX11 136 "AlikeStepsModel" "faultKind" "I" : Cond) ∈ pj_tb := pj_t4 (List.mem_of_getElem? (i := 225) (by rfl)) (by rfl)
set_option maxRecDepth 5000 in
theorem cw_1026 : (.fieldLink RX11 129 "AlikeStepsModel" "faultPlace" "I" : Cond) ∈ pj_tb := pj_t4 (List.mem_of_getElem? (i := 226) (by rfl)) (by rfl)
set_option maxRecDepth 5000 in
theorem cw_1027 : (.fieldLink RX11 114 "AlikeStepsModel" "at" "I" : Cond) ∈ pj_tb := pj_t4 (List.mem_of_getElem? (i := 227) (by rfl)) (by rfl)
set_option maxRecDepth 5000 in
theorem cw_1028 : (.fieldLink RX11 117 "AlikeStepsModel" "start" "I" : Cond) ∈ pj_tb := pj_t4 (List.mem_of_getElem? (i := 228) (by rfl)) (by rfl)
set_option maxRecDepth 5000 in
theorem cw_1029 : (.fieldLink RX11 126 "AlikeStepsModel" "token" "I" : Cond) ∈ pj_tb := pj_t4 (List.mem_of_getElem? (i := 229) (by rfl)) (by rfl)
set_option maxRecDepth 5000 in
theorem cw_1030 : (.fieldLink RX11 123 "AlikeStepsModel" "value" "I" : Cond) ∈ pj_tb := pj_t4 (List.mem_of_getElem? (i := 230) (by rfl)) (by rfl)
set_option maxRecDepth 5000 in
theorem cw_1031 : (.fieldLink RX11 25 "AlikeStepsModel" "now" "[I" : Cond) ∈ pj_tb := pj_t4 (List.mem_of_getElem? (i := 231) (by rfl)) (by rfl)
set_option maxRecDepth 5000 in
theorem cw_1032 : (.fieldLink RX11 28 "AlikeStepsModel" "draft" "[I" : Cond) ∈ pj_tb := pj_t4 (List.mem_of_getElem? (i := 232) (by rfl)) (by rfl)
set_option maxRecDepth 5000 in
theorem cw_1033 : (.fieldLink RX11 31 "AlikeStepsModel" "past" "[I" : Cond) ∈ pj_tb := pj_t4 (List.mem_of_getElem? (i := 233) (by rfl)) (by rfl)
set_option maxRecDepth 5000 in
theorem cw_1034 : (.fieldLink RX11 170 "AlikeStepsModel" "acts" "I" : Cond) ∈ pj_tb := pj_t4 (List.mem_of_getElem? (i := 234) (by rfl)) (by rfl)
set_option maxRecDepth 5000 in
theorem cw_1035 : (.fieldLink RX11 34 "AlikeStepsModel" "images" "[I" : Cond) ∈ pj_tb := pj_t4 (List.mem_of_getElem? (i := 235) (by rfl)) (by rfl)
set_option maxRecDepth 5000 in
theorem cw_1036 : (.fieldLink RX11 37 "AlikeStepsModel" "kept" "[Z" : Cond) ∈ pj_tb := pj_t4 (List.mem_of_getElem? (i := 236) (by rfl)) (by rfl)
set_option maxRecDepth 5000 in
theorem cw_1037 : (.fieldLink RX11 41 "AlikeStepsModel" "system" "[I" : Cond) ∈ pj_tb := pj_t4 (List.mem_of_getElem? (i := 237) (by rfl)) (by rfl)
set_option maxRecDepth 5000 in
theorem cw_1038 : (.fieldLink RX11 44 "AlikeStepsModel" "goes" "[I" : Cond) ∈ pj_tb := pj_t4 (List.mem_of_getElem? (i := 238) (by rfl)) (by rfl)
set_option maxRecDepth 5000 in
theorem cw_1039 : (.fieldLink RX11 47 "AlikeStepsModel" "silent" "[I" : Cond) ∈ pj_tb := pj_t4 (List.mem_of_getElem? (i := 239) (by rfl)) (by rfl)
set_option maxRecDepth 5000 in
theorem cw_1040 : (.fieldLink RX11 50 "AlikeStepsModel" "blocks" "[I" : Cond) ∈ pj_tb := pj_t5 (List.mem_of_getElem? (i := 0) (by rfl)) (by rfl)
set_option maxRecDepth 5000 in
theorem cw_1041 : (.fieldLink RX11 216 "AlikeStepsModel" "rounds" "I" : Cond) ∈ pj_tb := pj_t5 (List.mem_of_getElem? (i := 1) (by rfl)) (by rfl)
set_option maxRecDepth 5000 in
theorem cw_1042 : (.fieldLink RX11 53 "AlikeStepsModel" "signs" "[J" : Cond) ∈ pj_tb := pj_t5 (List.mem_of_getElem? (i := 2) (by rfl)) (by rfl)
set_option maxRecDepth 5000 in
theorem cw_1043 : (.fieldLink RX11 57 "AlikeStepsModel" "codes" "[I" : Cond) ∈ pj_tb := pj_t5 (List.mem_of_getElem? (i := 3) (by rfl)) (by rfl)
set_option maxRecDepth 5000 in
theorem cw_1044 : (.fieldLink RX11 60 "AlikeStepsModel" "depths" "[I" : Cond) ∈ pj_tb := pj_t5 (List.mem_of_getElem? (i := 4) (by rfl)) (by rfl)
set_option maxRecDepth 5000 in
theorem cw_1045 : (.fieldLink RX11 63 "AlikeStepsModel" "letters" "[I" : Cond) ∈ pj_tb := pj_t5 (List.mem_of_getElem? (i := 5) (by rfl)) (by rfl)
set_option maxRecDepth 5000 in
theorem cw_1046 : (.fieldLink RX11 66 "AlikeStepsModel" "ones" "[I" : Cond) ∈ pj_tb := pj_t5 (List.mem_of_getElem? (i := 6) (by rfl)) (by rfl)
set_option maxRecDepth 5000 in
theorem cw_1047 : (.fieldLink RX11 69 "AlikeStepsModel" "sets" "[I" : Cond) ∈ pj_tb := pj_t5 (List.mem_of_getElem? (i := 7) (by rfl)) (by rfl)
set_option maxRecDepth 5000 in
theorem cw_1048 : (.fieldLink RX11 72 "AlikeStepsModel" "isList" "[Z" : Cond) ∈ pj_tb := pj_t5 (List.mem_of_getElem? (i := 8) (by rfl)) (by rfl)
set_option maxRecDepth 5000 in
theorem cw_1049 : (.fieldLink RX11 75 "AlikeStepsModel" "trace" "[I" : Cond) ∈ pj_tb := pj_t5 (List.mem_of_getElem? (i := 9) (by rfl)) (by rfl)
set_option maxRecDepth 5000 in
theorem cw_1050 : (.fieldLink RX11 294 "AlikeStepsModel" "traced" "I" : Cond) ∈ pj_tb := pj_t5 (List.mem_of_getElem? (i := 10) (by rfl)) (by rfl)
set_option maxRecDepth 5000 in
theorem cw_1120 : (.instanceMethod ⟨"AlikeStepsModel", "row", "(III)I"⟩ : Cond) ∈ pj_tb := pj_t5 (List.mem_of_getElem? (i := 80) (by rfl)) (by rfl)
set_option maxRecDepth 5000 in
theorem cw_1121 : (.selects "AlikeStepsModel" ⟨"AlikeStepsModel", "row", "(III)I"⟩ ⟨"AlikeStepsModel", "row", "(III)I"⟩ : Cond) ∈ pj_tb := pj_t5 (List.mem_of_getElem? (i := 81) (by rfl)) (by rfl)
set_option maxRecDepth 5000 in
theorem cw_1122 : (.code ⟨"AlikeStepsModel", "row", "(III)I"⟩ prog_13_method_12_code 5 (some .int) : Cond) ∈ pj_tb := pj_t5 (List.mem_of_getElem? (i := 82) (by rfl)) (by rfl)
set_option maxRecDepth 5000 in
theorem cw_1123 : (.methodLink RX11 88 ⟨"AlikeStepsModel", "isRow", "(I)Z"⟩ : Cond) ∈ pj_tb := pj_t5 (List.mem_of_getElem? (i := 83) (by rfl)) (by rfl)
set_option maxRecDepth 5000 in
theorem cw_1124 : (.static ⟨"AlikeStepsModel", "isRow", "(I)Z"⟩ : Cond) ∈ pj_tb := pj_t5 (List.mem_of_getElem? (i := 84) (by rfl)) (by rfl)
set_option maxRecDepth 5000 in
theorem cw_1125 : (.code ⟨"AlikeStepsModel", "isRow", "(I)Z"⟩ prog_13_method_9_code 1 (some .boolean) : Cond) ∈ pj_tb := pj_t5 (List.mem_of_getElem? (i := 85) (by rfl)) (by rfl)
set_option maxRecDepth 5000 in
theorem cw_1126 : (.methodLink RX11 84 ⟨"AlikeStepsModel", "in", "(III)Z"⟩ : Cond) ∈ pj_tb := pj_t5 (List.mem_of_getElem? (i := 86) (by rfl)) (by rfl)
set_option maxRecDepth 5000 in
theorem cw_1127 : (.static ⟨"AlikeStepsModel", "in", "(III)Z"⟩ : Cond) ∈ pj_tb := pj_t5 (List.mem_of_getElem? (i := 87) (by rfl)) (by rfl)
set_option maxRecDepth 5000 in
theorem cw_1128 : (.code ⟨"AlikeStepsModel", "in", "(III)Z"⟩ prog_13_method_3_code 3 (some .boolean) : Cond) ∈ pj_tb := pj_t5 (List.mem_of_getElem? (i := 88) (by rfl)) (by rfl)
set_option maxRecDepth 5000 in
theorem cw_1129 : (.constant RX11 92 (-1000001) : Cond) ∈ pj_tb := pj_t5 (List.mem_of_getElem? (i := 89) (by rfl)) (by rfl)
set_option maxRecDepth 5000 in
theorem cw_1130 : (.methodLink RX11 93 ⟨"AlikeStepsModel", "found", "(I)I"⟩ : Cond) ∈ pj_tb := pj_t5 (List.mem_of_getElem? (i := 90) (by rfl)) (by rfl)
set_option maxRecDepth 5000 in
theorem cw_1132 : (.instanceMethod ⟨"AlikeStepsModel", "found", "(I)I"⟩ : Cond) ∈ pj_tb := pj_t5 (List.mem_of_getElem? (i := 92) (by rfl)) (by rfl)
set_option maxRecDepth 5000 in
theorem cw_1133 : (.code ⟨"AlikeStepsModel", "found", "(I)I"⟩ prog_13_method_6_code 2 (some .int) : Cond) ∈ pj_tb := pj_t5 (List.mem_of_getElem? (i := 93) (by rfl)) (by rfl)
set_option maxRecDepth 5000 in
theorem cw_1134 : (.constant RX11 83 (-1000010) : Cond) ∈ pj_tb := pj_t5 (List.mem_of_getElem? (i := 94) (by rfl)) (by rfl)
set_option maxRecDepth 5000 in
theorem cw_1135 : (.methodLink RX11 97 ⟨"AlikeStepsModel", "well", "(I)I"⟩ : Cond) ∈ pj_tb := pj_t5 (List.mem_of_getElem? (i := 95) (by rfl)) (by rfl)
set_option maxRecDepth 5000 in
theorem cw_1137 : (.instanceMethod ⟨"AlikeStepsModel", "well", "(I)I"⟩ : Cond) ∈ pj_tb := pj_t5 (List.mem_of_getElem? (i := 97) (by rfl)) (by rfl)
set_option maxRecDepth 5000 in
theorem cw_1138 : (.code ⟨"AlikeStepsModel", "well", "(I)I"⟩ prog_13_method_7_code 2 (some .int) : Cond) ∈ pj_tb := pj_t5 (List.mem_of_getElem? (i := 98) (by rfl)) (by rfl)
set_option maxRecDepth 5000 in
theorem cw_1140 : (.instanceMethod ⟨"AlikeStepsModel", "set", "(III)I"⟩ : Cond) ∈ pj_tb := pj_t5 (List.mem_of_getElem? (i := 100) (by rfl)) (by rfl)
set_option maxRecDepth 5000 in
theorem cw_1141 : (.selects "AlikeStepsModel" ⟨"AlikeStepsModel", "set", "(III)I"⟩ ⟨"AlikeStepsModel", "set", "(III)I"⟩ : Cond) ∈ pj_tb := pj_t5 (List.mem_of_getElem? (i := 101) (by rfl)) (by rfl)
set_option maxRecDepth 5000 in
theorem cw_1142 : (.code ⟨"AlikeStepsModel", "set", "(III)I"⟩ prog_13_method_13_code 4 (some .int) : Cond) ∈ pj_tb := pj_t5 (List.mem_of_getElem? (i := 102) (by rfl)) (by rfl)
set_option maxRecDepth 5000 in
theorem cw_1143 : (.methodLink RX11 100 ⟨"AlikeStepsModel", "isMissing", "(I)Z"⟩ : Cond) ∈ pj_tb := pj_t5 (List.mem_of_getElem? (i := 103) (by rfl)) (by rfl)
set_option maxRecDepth 5000 in
theorem cw_1145 : (.instanceMethod ⟨"AlikeStepsModel", "isMissing", "(I)Z"⟩ : Cond) ∈ pj_tb := pj_t5 (List.mem_of_getElem? (i := 105) (by rfl)) (by rfl)
set_option maxRecDepth 5000 in
theorem cw_1146 : (.code ⟨"AlikeStepsModel", "isMissing", "(I)Z"⟩ prog_13_method_10_code 2 (some .boolean) : Cond) ∈ pj_tb := pj_t5 (List.mem_of_getElem? (i := 106) (by rfl)) (by rfl)
set_option maxRecDepth 5000 in
theorem cw_1147 : (.methodLink RX11 103 ⟨"AlikeStepsModel", "lowest", "(II)I"⟩ : Cond) ∈ pj_tb := pj_t5 (List.mem_of_getElem? (i := 107) (by rfl)) (by rfl)
set_option maxRecDepth 5000 in
theorem cw_1148 : (.static ⟨"AlikeStepsModel", "lowest", "(II)I"⟩ : Cond) ∈ pj_tb := pj_t5 (List.mem_of_getElem? (i := 108) (by rfl)) (by rfl)
set_option maxRecDepth 5000 in
theorem cw_1149 : (.code ⟨"AlikeStepsModel", "lowest", "(II)I"⟩ prog_13_method_11_code 2 (some .int) : Cond) ∈ pj_tb := pj_t5 (List.mem_of_getElem? (i := 109) (by rfl)) (by rfl)
set_option maxRecDepth 5000 in
theorem cw_1151 : (.instanceMethod ⟨"AlikeStepsModel", "copy", "(IIIII)I"⟩ : Cond) ∈ pj_tb := pj_t5 (List.mem_of_getElem? (i := 111) (by rfl)) (by rfl)
set_option maxRecDepth 5000 in
theorem cw_1152 : (.selects "AlikeStepsModel" ⟨"AlikeStepsModel", "copy", "(IIIII)I"⟩ ⟨"AlikeStepsModel", "copy", "(IIIII)I"⟩ : Cond) ∈ pj_tb := pj_t5 (List.mem_of_getElem? (i := 112) (by rfl)) (by rfl)
set_option maxRecDepth 5000 in
theorem cw_1153 : (.code ⟨"AlikeStepsModel", "copy", "(IIIII)I"⟩ prog_13_method_15_code 7 (some .int) : Cond) ∈ pj_tb := pj_t5 (List.mem_of_getElem? (i := 113) (by rfl)) (by rfl)
set_option maxRecDepth 5000 in
theorem cw_1154 : (.methodLink RX11 107 ⟨"AlikeStepsModel", "isPart", "(III)Z"⟩ : Cond) ∈ pj_tb := pj_t5 (List.mem_of_getElem? (i := 114) (by rfl)) (by rfl)
set_option maxRecDepth 5000 in
theorem cw_1156 : (.instanceMethod ⟨"AlikeStepsModel", "isPart", "(III)Z"⟩ : Cond) ∈ pj_tb := pj_t5 (List.mem_of_getElem? (i := 116) (by rfl)) (by rfl)
set_option maxRecDepth 5000 in
theorem cw_1157 : (.code ⟨"AlikeStepsModel", "isPart", "(III)Z"⟩ prog_13_method_14_code 4 (some .boolean) : Cond) ∈ pj_tb := pj_t5 (List.mem_of_getElem? (i := 117) (by rfl)) (by rfl)
set_option maxRecDepth 5000 in
theorem cw_1159 : (.instanceMethod ⟨"AlikeStepsModel", "drop", "(I)I"⟩ : Cond) ∈ pj_tb := pj_t5 (List.mem_of_getElem? (i := 119) (by rfl)) (by rfl)
set_option maxRecDepth 5000 in
theorem cw_1160 : (.selects "AlikeStepsModel" ⟨"AlikeStepsModel", "drop", "(I)I"⟩ ⟨"AlikeStepsModel", "drop", "(I)I"⟩ : Cond) ∈ pj_tb := pj_t5 (List.mem_of_getElem? (i := 120) (by rfl)) (by rfl)
set_option maxRecDepth 5000 in
theorem cw_1161 : (.code ⟨"AlikeStepsModel", "drop", "(I)I"⟩ prog_13_method_16_code 2 (some .int) : Cond) ∈ pj_tb := pj_t5 (List.mem_of_getElem? (i := 121) (by rfl)) (by rfl)
set_option maxRecDepth 5000 in
theorem cw_1163 : (.instanceMethod ⟨"AlikeStepsModel", "feed", "(I)I"⟩ : Cond) ∈ pj_tb := pj_t5 (List.mem_of_getElem? (i := 123) (by rfl)) (by rfl)
set_option maxRecDepth 5000 in
theorem cw_1164 : (.selects "AlikeStepsModel" ⟨"AlikeStepsModel", "feed", "(I)I"⟩ ⟨"AlikeStepsModel", "feed", "(I)I"⟩ : Cond) ∈ pj_tb := pj_t5 (List.mem_of_getElem? (i := 124) (by rfl)) (by rfl)
set_option maxRecDepth 5000 in
theorem cw_1165 : (.code ⟨"AlikeStepsModel", "feed", "(I)I"⟩ prog_13_method_17_code 2 (some .int) : Cond) ∈ pj_tb := pj_t5 (List.mem_of_getElem? (i := 125) (by rfl)) (by rfl)
set_option maxRecDepth 5000 in
theorem cw_1166 : (.constant RX11 113 (-1000003) : Cond) ∈ pj_tb := pj_t5 (List.mem_of_getElem? (i := 126) (by rfl)) (by rfl)
set_option maxRecDepth 5000 in
theorem cw_1168 : (.instanceMethod ⟨"AlikeStepsModel", "system", "()I"⟩ : Cond) ∈ pj_tb := pj_t5 (List.mem_of_getElem? (i := 128) (by rfl)) (by rfl)
set_option maxRecDepth 5000 in
theorem cw_1169 : (.selects "AlikeStepsModel" ⟨"AlikeStepsModel", "system", "()I"⟩ ⟨"AlikeStepsModel", "system", "()I"⟩ : Cond) ∈ pj_tb := pj_t5 (List.mem_of_getElem? (i := 129) (by rfl)) (by rfl)
set_option maxRecDepth 5000 in
theorem cw_1170 : (.code ⟨"AlikeStepsModel", "system", "()I"⟩ prog_13_method_28_code 2 (some .int) : Cond) ∈ pj_tb := pj_t5 (List.mem_of_getElem? (i := 130) (by rfl)) (by rfl)
set_option maxRecDepth 5000 in
theorem cw_1171 : (.methodLink RX11 139 ⟨"AlikeStepsModel", "advances", "()V"⟩ : Cond) ∈ pj_tb := pj_t5 (List.mem_of_getElem? (i := 131) (by rfl)) (by rfl)
set_option maxRecDepth 5000 in
theorem cw_1173 : (.instanceMethod ⟨"AlikeStepsModel", "advances", "()V"⟩ : Cond) ∈ pj_tb := pj_t5 (List.mem_of_getElem? (i := 133) (by rfl)) (by rfl)
set_option maxRecDepth 5000 in
theorem cw_1174 : (.code ⟨"AlikeStepsModel", "advances", "()V"⟩ prog_13_method_19_code 2 none : Cond) ∈ pj_tb := pj_t5 (List.mem_of_getElem? (i := 134) (by rfl)) (by rfl)
set_option maxRecDepth 5000 in
theorem cw_1175 : (.methodLink RX11 120 ⟨"AlikeStepsModel", "byteAt", "(I)I"⟩ : Cond) ∈ pj_tb := pj_t5 (List.mem_of_getElem? (i := 135) (by rfl)) (by rfl)
set_option maxRecDepth 5000 in
theorem cw_1177 : (.instanceMethod ⟨"AlikeStepsModel", "byteAt", "(I)I"⟩ : Cond) ∈ pj_tb := pj_t5 (List.mem_of_getElem? (i := 137) (by rfl)) (by rfl)
set_option maxRecDepth 5000 in
theorem cw_1178 : (.code ⟨"AlikeStepsModel", "byteAt", "(I)I"⟩ prog_13_method_18_code 2 (some .int) : Cond) ∈ pj_tb := pj_t5 (List.mem_of_getElem? (i := 138) (by rfl)) (by rfl)
set_option maxRecDepth 5000 in
theorem cw_1179 : (.methodLink RX11 132 ⟨"AlikeStepsModel", "isWell", "()Z"⟩ : Cond) ∈ pj_tb := pj_t5 (List.mem_of_getElem? (i := 139) (by rfl)) (by rfl)
set_option maxRecDepth 5000 in
theorem cw_1181 : (.instanceMethod ⟨"AlikeStepsModel", "isWell", "()Z"⟩ : Cond) ∈ pj_tb := pj_t5 (List.mem_of_getElem? (i := 141) (by rfl)) (by rfl)
set_option maxRecDepth 5000 in
theorem cw_1182 : (.code ⟨"AlikeStepsModel", "isWell", "()Z"⟩ prog_13_method_20_code 1 (some .boolean) : Cond) ∈ pj_tb := pj_t5 (List.mem_of_getElem? (i := 142) (by rfl)) (by rfl)
set_option maxRecDepth 5000 in
theorem cw_1183 : (.methodLink RX11 146 ⟨"AlikeStepsModel", "kindOf", "(I)I"⟩ : Cond) ∈ pj_tb := pj_t5 (List.mem_of_getElem? (i := 143) (by rfl)) (by rfl)
set_option maxRecDepth 5000 in
theorem cw_1184 : (.static ⟨"AlikeStepsModel", "kindOf", "(I)I"⟩ : Cond) ∈ pj_tb := pj_t5 (List.mem_of_getElem? (i := 144) (by rfl)) (by rfl)
set_option maxRecDepth 5000 in
theorem cw_1185 : (.code ⟨"AlikeStepsModel", "kindOf", "(I)I"⟩ prog_13_method_23_code 1 (some .int) : Cond) ∈ pj_tb := pj_t5 (List.mem_of_getElem? (i := 145) (by rfl)) (by rfl)
set_option maxRecDepth 5000 in
theorem cw_1186 : (.methodLink RX11 155 ⟨"AlikeStepsModel", "readsState", "()V"⟩ : Cond) ∈ pj_tb := pj_t5 (List.mem_of_getElem? (i := 146) (by rfl)) (by rfl)
set_option maxRecDepth 5000 in
theorem cw_1188 : (.instanceMethod ⟨"AlikeStepsModel", "readsState", "()V"⟩ : Cond) ∈ pj_tb := pj_t5 (List.mem_of_getElem? (i := 148) (by rfl)) (by rfl)
set_option maxRecDepth 5000 in
theorem cw_1189 : (.code ⟨"AlikeStepsModel", "readsState", "()V"⟩ prog_13_method_26_code 2 none : Cond) ∈ pj_tb := pj_t5 (List.mem_of_getElem? (i := 149) (by rfl)) (by rfl)
set_option maxRecDepth 5000 in
theorem cw_1190 : (.methodLink RX11 142 ⟨"AlikeStepsModel", "takes", "(ZI)I"⟩ : Cond) ∈ pj_tb := pj_t5 (List.mem_of_getElem? (i := 150) (by rfl)) (by rfl)
set_option maxRecDepth 5000 in
theorem cw_1192 : (.instanceMethod ⟨"AlikeStepsModel", "takes", "(ZI)I"⟩ : Cond) ∈ pj_tb := pj_t5 (List.mem_of_getElem? (i := 152) (by rfl)) (by rfl)
set_option maxRecDepth 5000 in
theorem cw_1193 : (.code ⟨"AlikeStepsModel", "takes", "(ZI)I"⟩ prog_13_method_21_code 4 (some .int) : Cond) ∈ pj_tb := pj_t5 (List.mem_of_getElem? (i := 153) (by rfl)) (by rfl)
set_option maxRecDepth 5000 in
theorem cw_1194 : (.methodLink RX11 158 ⟨"AlikeStepsModel", "must", "(Z)V"⟩ : Cond) ∈ pj_tb := pj_t5 (List.mem_of_getElem? (i := 154) (by rfl)) (by rfl)
set_option maxRecDepth 5000 in
theorem cw_1196 : (.instanceMethod ⟨"AlikeStepsModel", "must", "(Z)V"⟩ : Cond) ∈ pj_tb := pj_t5 (List.mem_of_getElem? (i := 156) (by rfl)) (by rfl)
set_option maxRecDepth 5000 in
theorem cw_1197 : (.code ⟨"AlikeStepsModel", "must", "(Z)V"⟩ prog_13_method_25_code 2 none : Cond) ∈ pj_tb := pj_t5 (List.mem_of_getElem? (i := 157) (by rfl)) (by rfl)
set_option maxRecDepth 5000 in
theorem cw_1198 : (.methodLink RX11 149 ⟨"AlikeStepsModel", "letterOf", "(I)I"⟩ : Cond) ∈ pj_tb := pj_t5 (List.mem_of_getElem? (i := 158) (by rfl)) (by rfl)
set_option maxRecDepth 5000 in
theorem cw_1199 : (.static ⟨"AlikeStepsModel", "letterOf", "(I)I"⟩ : Cond) ∈ pj_tb := pj_t5 (List.mem_of_getElem? (i := 159) (by rfl)) (by rfl)
set_option maxRecDepth 5000 in
theorem cw_1200 : (.code ⟨"AlikeStepsModel", "letterOf", "(I)I"⟩ prog_13_method_24_code 1 (some .int) : Cond) ∈ pj_tb := pj_t5 (List.mem_of_getElem? (i := 160) (by rfl)) (by rfl)
set_option maxRecDepth 5000 in
theorem cw_1201 : (.methodLink RX11 162 ⟨"AlikeStepsModel", "readsArc", "()V"⟩ : Cond) ∈ pj_tb := pj_t5 (List.mem_of_getElem? (i := 161) (by rfl)) (by rfl)
set_option maxRecDepth 5000 in
theorem cw_1203 : (.instanceMethod ⟨"AlikeStepsModel", "readsArc", "()V"⟩ : Cond) ∈ pj_tb := pj_t5 (List.mem_of_getElem? (i := 163) (by rfl)) (by rfl)
set_option maxRecDepth 5000 in
theorem cw_1204 : (.code ⟨"AlikeStepsModel", "readsArc", "()V"⟩ prog_13_method_27_code 5 none : Cond) ∈ pj_tb := pj_t5 (List.mem_of_getElem? (i := 164) (by rfl)) (by rfl)
set_option maxRecDepth 5000 in
theorem cw_1205 : (.methodLink RX11 152 ⟨"AlikeStepsModel", "figure", "(II)I"⟩ : Cond) ∈ pj_tb := pj_t5 (List.mem_of_getElem? (i := 165) (by rfl)) (by rfl)
set_option maxRecDepth 5000 in
theorem cw_1207 : (.instanceMethod ⟨"AlikeStepsModel", "figure", "(II)I"⟩ : Cond) ∈ pj_tb := pj_t5 (List.mem_of_getElem? (i := 167) (by rfl)) (by rfl)
set_option maxRecDepth 5000 in
theorem cw_1208 : (.code ⟨"AlikeStepsModel", "figure", "(II)I"⟩ prog_13_method_22_code 3 (some .int) : Cond) ∈ pj_tb := pj_t5 (List.mem_of_getElem? (i := 168) (by rfl)) (by rfl)
set_option maxRecDepth 5000 in
theorem cw_1209 : (.constant RX11 165 (-1000100) : Cond) ∈ pj_tb := pj_t5 (List.mem_of_getElem? (i := 169) (by rfl)) (by rfl)
set_option maxRecDepth 5000 in
theorem cw_1210 : (.methodLink RX11 166 ⟨"AlikeStepsModel", "copies", "([II[II)V"⟩ : Cond) ∈ pj_tb := pj_t5 (List.mem_of_getElem? (i := 170) (by rfl)) (by rfl)
set_option maxRecDepth 5000 in
theorem cw_1211 : (.static ⟨"AlikeStepsModel", "copies", "([II[II)V"⟩ : Cond) ∈ pj_tb := pj_t5 (List.mem_of_getElem? (i := 171) (by rfl)) (by rfl)
set_option maxRecDepth 5000 in
theorem cw_1212 : (.code ⟨"AlikeStepsModel", "copies", "([II[II)V"⟩ prog_13_method_8_code 5 none : Cond) ∈ pj_tb := pj_t5 (List.mem_of_getElem? (i := 172) (by rfl)) (by rfl)
set_option maxRecDepth 5000 in
theorem cw_1214 : (.instanceMethod ⟨"AlikeStepsModel", "fault", "()I"⟩ : Cond) ∈ pj_tb := pj_t5 (List.mem_of_getElem? (i := 174) (by rfl)) (by rfl)
set_option maxRecDepth 5000 in
theorem cw_1215 : (.selects "AlikeStepsModel" ⟨"AlikeStepsModel", "fault", "()I"⟩ ⟨"AlikeStepsModel", "fault", "()I"⟩ : Cond) ∈ pj_tb := pj_t5 (List.mem_of_getElem? (i := 175) (by rfl)) (by rfl)
set_option maxRecDepth 5000 in
theorem cw_1216 : (.code ⟨"AlikeStepsModel", "fault", "()I"⟩ prog_13_method_29_code 1 (some .int) : Cond) ∈ pj_tb := pj_t5 (List.mem_of_getElem? (i := 176) (by rfl)) (by rfl)
set_option maxRecDepth 5000 in
theorem cw_1218 : (.instanceMethod ⟨"AlikeStepsModel", "lay", "(III)I"⟩ : Cond) ∈ pj_tb := pj_t5 (List.mem_of_getElem? (i := 178) (by rfl)) (by rfl)
set_option maxRecDepth 5000 in
theorem cw_1219 : (.selects "AlikeStepsModel" ⟨"AlikeStepsModel", "lay", "(III)I"⟩ ⟨"AlikeStepsModel", "lay", "(III)I"⟩ : Cond) ∈ pj_tb := pj_t5 (List.mem_of_getElem? (i := 179) (by rfl)) (by rfl)
set_option maxRecDepth 5000 in
theorem cw_1220 : (.code ⟨"AlikeStepsModel", "lay", "(III)I"⟩ prog_13_method_50_code 5 (some .int) : Cond) ∈ pj_tb := pj_t5 (List.mem_of_getElem? (i := 180) (by rfl)) (by rfl)
set_option maxRecDepth 5000 in
theorem cw_1221 : (.methodLink RX11 222 ⟨"AlikeStepsModel", "isLetter", "(I)Z"⟩ : Cond) ∈ pj_tb := pj_t5 (List.mem_of_getElem? (i := 181) (by rfl)) (by rfl)
set_option maxRecDepth 5000 in
theorem cw_1222 : (.static ⟨"AlikeStepsModel", "isLetter", "(I)Z"⟩ : Cond) ∈ pj_tb := pj_t5 (List.mem_of_getElem? (i := 182) (by rfl)) (by rfl)
set_option maxRecDepth 5000 in
theorem cw_1223 : (.code ⟨"AlikeStepsModel", "isLetter", "(I)Z"⟩ prog_13_method_33_code 1 (some .boolean) : Cond) ∈ pj_tb := pj_t5 (List.mem_of_getElem? (i := 183) (by rfl)) (by rfl)
set_option maxRecDepth 5000 in
theorem cw_1224 : (.methodLink RX11 225 ⟨"AlikeStepsModel", "isState", "(I)Z"⟩ : Cond) ∈ pj_tb := pj_t5 (List.mem_of_getElem? (i := 184) (by rfl)) (by rfl)
set_option maxRecDepth 5000 in
theorem cw_1226 : (.instanceMethod ⟨"AlikeStepsModel", "isState", "(I)Z"⟩ : Cond) ∈ pj_tb := pj_t5 (List.mem_of_getElem? (i := 186) (by rfl)) (by rfl)
set_option maxRecDepth 5000 in
theorem cw_1227 : (.code ⟨"AlikeStepsModel", "isState", "(I)Z"⟩ prog_13_method_31_code 2 (some .boolean) : Cond) ∈ pj_tb := pj_t5 (List.mem_of_getElem? (i := 187) (by rfl)) (by rfl)
set_option maxRecDepth 5000 in
theorem cw_1228 : (.methodLink RX11 228 ⟨"AlikeStepsModel", "notes", "()V"⟩ : Cond) ∈ pj_tb := pj_t5 (List.mem_of_getElem? (i := 188) (by rfl)) (by rfl)
set_option maxRecDepth 5000 in
theorem cw_1230 : (.instanceMethod ⟨"AlikeStepsModel", "notes", "()V"⟩ : Cond) ∈ pj_tb := pj_t5 (List.mem_of_getElem? (i := 190) (by rfl)) (by rfl)
set_option maxRecDepth 5000 in
theorem cw_1231 : (.code ⟨"AlikeStepsModel", "notes", "()V"⟩ prog_13_method_49_code 2 none : Cond) ∈ pj_tb := pj_t5 (List.mem_of_getElem? (i := 191) (by rfl)) (by rfl)
set_option maxRecDepth 5000 in
theorem cw_1233 : (.instanceMethod ⟨"AlikeStepsModel", "cut", "(I)I"⟩ : Cond) ∈ pj_tb := pj_t5 (List.mem_of_getElem? (i := 193) (by rfl)) (by rfl)
set_option maxRecDepth 5000 in
theorem cw_1234 : (.selects "AlikeStepsModel" ⟨"AlikeStepsModel", "cut", "(I)I"⟩ ⟨"AlikeStepsModel", "cut", "(I)I"⟩ : Cond) ∈ pj_tb := pj_t5 (List.mem_of_getElem? (i := 194) (by rfl)) (by rfl)
set_option maxRecDepth 5000 in
theorem cw_1235 : (.code ⟨"AlikeStepsModel", "cut", "(I)I"⟩ prog_13_method_51_code 3 (some .int) : Cond) ∈ pj_tb := pj_t5 (List.mem_of_getElem? (i := 195) (by rfl)) (by rfl)
set_option maxRecDepth 5000 in
theorem cw_1236 : (.methodLink RX11 231 ⟨"AlikeStepsModel", "isArc", "(I)Z"⟩ : Cond) ∈ pj_tb := pj_t5 (List.mem_of_getElem? (i := 196) (by rfl)) (by rfl)
set_option maxRecDepth 5000 in
theorem cw_1238 : (.instanceMethod ⟨"AlikeStepsModel", "isArc", "(I)Z"⟩ : Cond) ∈ pj_tb := pj_t5 (List.mem_of_getElem? (i := 198) (by rfl)) (by rfl)
set_option maxRecDepth 5000 in
theorem cw_1239 : (.code ⟨"AlikeStepsModel", "isArc", "(I)Z"⟩ prog_13_method_32_code 2 (some .boolean) : Cond) ∈ pj_tb := pj_t5 (List.mem_of_getElem? (i := 199) (by rfl)) (by rfl)
set_option maxRecDepth 5000 in
theorem cw_1241 : (.instanceMethod ⟨"AlikeStepsModel", "turn", "(I)I"⟩ : Cond) ∈ pj_tb := pj_t5 (List.mem_of_getElem? (i := 201) (by rfl)) (by rfl)
set_option maxRecDepth 5000 in
theorem cw_1242 : (.selects "AlikeStepsModel" ⟨"AlikeStepsModel", "turn", "(I)I"⟩ ⟨"AlikeStepsModel", "turn", "(I)I"⟩ : Cond) ∈ pj_tb := pj_t5 (List.mem_of_getElem? (i := 202) (by rfl)) (by rfl)
set_option maxRecDepth 5000 in
theorem cw_1243 : (.code ⟨"AlikeStepsModel", "turn", "(I)I"⟩ prog_13_method_52_code 4 (some .int) : Cond) ∈ pj_tb := pj_t5 (List.mem_of_getElem? (i := 203) (by rfl)) (by rfl)
set_option maxRecDepth 5000 in
theorem cw_1245 : (.instanceMethod ⟨"AlikeStepsModel", "become", "(II)I"⟩ : Cond) ∈ pj_tb := pj_t5 (List.mem_of_getElem? (i := 205) (by rfl)) (by rfl)
set_option maxRecDepth 5000 in
theorem cw_1246 : (.selects "AlikeStepsModel" ⟨"AlikeStepsModel", "become", "(II)I"⟩ ⟨"AlikeStepsModel", "become", "(II)I"⟩ : Cond) ∈ pj_tb := pj_t5 (List.mem_of_getElem? (i := 206) (by rfl)) (by rfl)
set_option maxRecDepth 5000 in
theorem cw_1247 : (.code ⟨"AlikeStepsModel", "become", "(II)I"⟩ prog_13_method_53_code 4 (some .int) : Cond) ∈ pj_tb := pj_t5 (List.mem_of_getElem? (i := 207) (by rfl)) (by rfl)
set_option maxRecDepth 5000 in
theorem cw_1248 : (.constant RX11 234 (-1000002) : Cond) ∈ pj_tb := pj_t5 (List.mem_of_getElem? (i := 208) (by rfl)) (by rfl)
set_option maxRecDepth 5000 in
theorem cw_1250 : (.instanceMethod ⟨"AlikeStepsModel", "undo", "()I"⟩ : Cond) ∈ pj_tb := pj_t5 (List.mem_of_getElem? (i := 210) (by rfl)) (by rfl)
set_option maxRecDepth 5000 in
theorem cw_1251 : (.selects "AlikeStepsModel" ⟨"AlikeStepsModel", "undo", "()I"⟩ ⟨"AlikeStepsModel", "undo", "()I"⟩ : Cond) ∈ pj_tb := pj_t5 (List.mem_of_getElem? (i := 211) (by rfl)) (by rfl)
set_option maxRecDepth 5000 in
theorem cw_1252 : (.code ⟨"AlikeStepsModel", "undo", "()I"⟩ prog_13_method_54_code 1 (some .int) : Cond) ∈ pj_tb := pj_t5 (List.mem_of_getElem? (i := 212) (by rfl)) (by rfl)
set_option maxRecDepth 5000 in
theorem cw_1254 : (.instanceMethod ⟨"AlikeStepsModel", "arc", "(II)I"⟩ : Cond) ∈ pj_tb := pj_t5 (List.mem_of_getElem? (i := 214) (by rfl)) (by rfl)
set_option maxRecDepth 5000 in
theorem cw_1255 : (.selects "AlikeStepsModel" ⟨"AlikeStepsModel", "arc", "(II)I"⟩ ⟨"AlikeStepsModel", "arc", "(II)I"⟩ : Cond) ∈ pj_tb := pj_t5 (List.mem_of_getElem? (i := 215) (by rfl)) (by rfl)
set_option maxRecDepth 5000 in
theorem cw_1256 : (.code ⟨"AlikeStepsModel", "arc", "(II)I"⟩ prog_13_method_55_code 3 (some .int) : Cond) ∈ pj_tb := pj_t5 (List.mem_of_getElem? (i := 216) (by rfl)) (by rfl)
set_option maxRecDepth 5000 in
theorem cw_1258 : (.instanceMethod ⟨"AlikeStepsModel", "moves", "(III)I"⟩ : Cond) ∈ pj_tb := pj_t5 (List.mem_of_getElem? (i := 218) (by rfl)) (by rfl)
set_option maxRecDepth 5000 in
theorem cw_1259 : (.selects "AlikeStepsModel" ⟨"AlikeStepsModel", "moves", "(III)I"⟩ ⟨"AlikeStepsModel", "moves", "(III)I"⟩ : Cond) ∈ pj_tb := pj_t5 (List.mem_of_getElem? (i := 219) (by rfl)) (by rfl)
set_option maxRecDepth 5000 in
theorem cw_1260 : (.code ⟨"AlikeStepsModel", "moves", "(III)I"⟩ prog_13_method_56_code 4 (some .int) : Cond) ∈ pj_tb := pj_t5 (List.mem_of_getElem? (i := 220) (by rfl)) (by rfl)
set_option maxRecDepth 5000 in
theorem cw_1261 : (.methodLink RX11 235 ⟨"AlikeStepsModel", "looks", "([II)V"⟩ : Cond) ∈ pj_tb := pj_t5 (List.mem_of_getElem? (i := 221) (by rfl)) (by rfl)
set_option maxRecDepth 5000 in
theorem cw_1263 : (.instanceMethod ⟨"AlikeStepsModel", "looks", "([II)V"⟩ : Cond) ∈ pj_tb := pj_t5 (List.mem_of_getElem? (i := 223) (by rfl)) (by rfl)
set_option maxRecDepth 5000 in
theorem cw_1264 : (.code ⟨"AlikeStepsModel", "looks", "([II)V"⟩ prog_13_method_37_code 7 none : Cond) ∈ pj_tb := pj_t5 (List.mem_of_getElem? (i := 224) (by rfl)) (by rfl)
set_option maxRecDepth 5000 in
theorem cw_1265 : (.methodLink RX11 173 ⟨"AlikeStepsModel", "goesFrom", "(III)V"⟩ : Cond) ∈ pj_tb := pj_t5 (List.mem_of_getElem? (i := 225) (by rfl)) (by rfl)
set_option maxRecDepth 5000 in
theorem cw_1267 : (.instanceMethod ⟨"AlikeStepsModel", "goesFrom", "(III)V"⟩ : Cond) ∈ pj_tb := pj_t5 (List.mem_of_getElem? (i := 227) (by rfl)) (by rfl)
set_option maxRecDepth 5000 in
theorem cw_1268 : (.code ⟨"AlikeStepsModel", "goesFrom", "(III)V"⟩ prog_13_method_36_code 4 none : Cond) ∈ pj_tb := pj_t5 (List.mem_of_getElem? (i := 228) (by rfl)) (by rfl)
set_option maxRecDepth 5000 in
theorem cw_1269 : (.methodLink RX11 177 ⟨"AlikeStepsModel", "states", "()I"⟩ : Cond) ∈ pj_tb := pj_t5 (List.mem_of_getElem? (i := 229) (by rfl)) (by rfl)
set_option maxRecDepth 5000 in
theorem cw_1271 : (.instanceMethod ⟨"AlikeStepsModel", "states", "()I"⟩ : Cond) ∈ pj_tb := pj_t5 (List.mem_of_getElem? (i := 231) (by rfl)) (by rfl)
set_option maxRecDepth 5000 in
theorem cw_1272 : (.code ⟨"AlikeStepsModel", "states", "()I"⟩ prog_13_method_34_code 1 (some .int) : Cond) ∈ pj_tb := pj_t5 (List.mem_of_getElem? (i := 232) (by rfl)) (by rfl)
set_option maxRecDepth 5000 in
theorem cw_1273 : (.methodLink RX11 181 ⟨"AlikeStepsModel", "reaches", "(II)I"⟩ : Cond) ∈ pj_tb := pj_t5 (List.mem_of_getElem? (i := 233) (by rfl)) (by rfl)
set_option maxRecDepth 5000 in
theorem cw_1275 : (.instanceMethod ⟨"AlikeStepsModel", "reaches", "(II)I"⟩ : Cond) ∈ pj_tb := pj_t5 (List.mem_of_getElem? (i := 235) (by rfl)) (by rfl)
set_option maxRecDepth 5000 in
theorem cw_1276 : (.code ⟨"AlikeStepsModel", "reaches", "(II)I"⟩ prog_13_method_38_code 6 (some .int) : Cond) ∈ pj_tb := pj_t5 (List.mem_of_getElem? (i := 236) (by rfl)) (by rfl)
set_option maxRecDepth 5000 in
theorem cw_1277 : (.methodLink RX11 184 ⟨"AlikeStepsModel", "to", "(II)I"⟩ : Cond) ∈ pj_tb := pj_t5 (List.mem_of_getElem? (i := 237) (by rfl)) (by rfl)
set_option maxRecDepth 5000 in
theorem cw_1279 : (.instanceMethod ⟨"AlikeStepsModel", "to", "(II)I"⟩ : Cond) ∈ pj_tb := pj_t5 (List.mem_of_getElem? (i := 239) (by rfl)) (by rfl)
set_option maxRecDepth 5000 in
theorem cw_1280 : (.code ⟨"AlikeStepsModel", "to", "(II)I"⟩ prog_13_method_39_code 5 (some .int) : Cond) ∈ pj_tb := pj_t6 (List.mem_of_getElem? (i := 0) (by rfl)) (by rfl)
set_option maxRecDepth 5000 in
theorem cw_1281 : (.methodLink RX11 187 ⟨"AlikeStepsModel", "has", "(II)Z"⟩ : Cond) ∈ pj_tb := pj_t6 (List.mem_of_getElem? (i := 1) (by rfl)) (by rfl)
set_option maxRecDepth 5000 in
theorem cw_1282 : (.static ⟨"AlikeStepsModel", "has", "(II)Z"⟩ : Cond) ∈ pj_tb := pj_t6 (List.mem_of_getElem? (i := 2) (by rfl)) (by rfl)
set_option maxRecDepth 5000 in
theorem cw_1283 : (.code ⟨"AlikeStepsModel", "has", "(II)Z"⟩ prog_13_method_4_code 2 (some .boolean) : Cond) ∈ pj_tb := pj_t6 (List.mem_of_getElem? (i := 3) (by rfl)) (by rfl)
set_option maxRecDepth 5000 in
theorem cw_1284 : (.methodLink RX11 200 ⟨"AlikeStepsModel", "moving", "(III)I"⟩ : Cond) ∈ pj_tb := pj_t6 (List.mem_of_getElem? (i := 4) (by rfl)) (by rfl)
set_option maxRecDepth 5000 in
theorem cw_1286 : (.instanceMethod ⟨"AlikeStepsModel", "moving", "(III)I"⟩ : Cond) ∈ pj_tb := pj_t6 (List.mem_of_getElem? (i := 6) (by rfl)) (by rfl)
set_option maxRecDepth 5000 in
theorem cw_1287 : (.code ⟨"AlikeStepsModel", "moving", "(III)I"⟩ prog_13_method_41_code 4 (some .int) : Cond) ∈ pj_tb := pj_t6 (List.mem_of_getElem? (i := 7) (by rfl)) (by rfl)
set_option maxRecDepth 5000 in
theorem cw_1288 : (.methodLink RX11 191 ⟨"AlikeStepsModel", "close", "(I)I"⟩ : Cond) ∈ pj_tb := pj_t6 (List.mem_of_getElem? (i := 8) (by rfl)) (by rfl)
set_option maxRecDepth 5000 in
theorem cw_1290 : (.instanceMethod ⟨"AlikeStepsModel", "close", "(I)I"⟩ : Cond) ∈ pj_tb := pj_t6 (List.mem_of_getElem? (i := 10) (by rfl)) (by rfl)
set_option maxRecDepth 5000 in
theorem cw_1291 : (.code ⟨"AlikeStepsModel", "close", "(I)I"⟩ prog_13_method_40_code 4 (some .int) : Cond) ∈ pj_tb := pj_t6 (List.mem_of_getElem? (i := 11) (by rfl)) (by rfl)
set_option maxRecDepth 5000 in
theorem cw_1293 : (.instanceMethod ⟨"AlikeStepsModel", "block", "(II)I"⟩ : Cond) ∈ pj_tb := pj_t6 (List.mem_of_getElem? (i := 13) (by rfl)) (by rfl)
set_option maxRecDepth 5000 in
theorem cw_1294 : (.selects "AlikeStepsModel" ⟨"AlikeStepsModel", "block", "(II)I"⟩ ⟨"AlikeStepsModel", "block", "(II)I"⟩ : Cond) ∈ pj_tb := pj_t6 (List.mem_of_getElem? (i := 14) (by rfl)) (by rfl)
set_option maxRecDepth 5000 in
theorem cw_1295 : (.code ⟨"AlikeStepsModel", "block", "(II)I"⟩ prog_13_method_58_code 3 (some .int) : Cond) ∈ pj_tb := pj_t6 (List.mem_of_getElem? (i := 15) (by rfl)) (by rfl)
set_option maxRecDepth 5000 in
theorem cw_1296 : (.methodLink RX11 242 ⟨"AlikeStepsModel", "blockOf", "(II)I"⟩ : Cond) ∈ pj_tb := pj_t6 (List.mem_of_getElem? (i := 16) (by rfl)) (by rfl)
set_option maxRecDepth 5000 in
theorem cw_1298 : (.instanceMethod ⟨"AlikeStepsModel", "blockOf", "(II)I"⟩ : Cond) ∈ pj_tb := pj_t6 (List.mem_of_getElem? (i := 18) (by rfl)) (by rfl)
set_option maxRecDepth 5000 in
theorem cw_1299 : (.code ⟨"AlikeStepsModel", "blockOf", "(II)I"⟩ prog_13_method_57_code 3 (some .int) : Cond) ∈ pj_tb := pj_t6 (List.mem_of_getElem? (i := 19) (by rfl)) (by rfl)
set_option maxRecDepth 5000 in
theorem cw_1300 : (.methodLink RX11 239 ⟨"AlikeStepsModel", "partsBy", "(I)I"⟩ : Cond) ∈ pj_tb := pj_t6 (List.mem_of_getElem? (i := 20) (by rfl)) (by rfl)
set_option maxRecDepth 5000 in
theorem cw_1302 : (.instanceMethod ⟨"AlikeStepsModel", "partsBy", "(I)I"⟩ : Cond) ∈ pj_tb := pj_t6 (List.mem_of_getElem? (i := 22) (by rfl)) (by rfl)
set_option maxRecDepth 5000 in
theorem cw_1303 : (.code ⟨"AlikeStepsModel", "partsBy", "(I)I"⟩ prog_13_method_47_code 5 (some .int) : Cond) ∈ pj_tb := pj_t6 (List.mem_of_getElem? (i := 23) (by rfl)) (by rfl)
set_option maxRecDepth 5000 in
theorem cw_1304 : (.methodLink RX11 210 ⟨"AlikeStepsModel", "isMarked", "(I)Z"⟩ : Cond) ∈ pj_tb := pj_t6 (List.mem_of_getElem? (i := 24) (by rfl)) (by rfl)
set_option maxRecDepth 5000 in
theorem cw_1306 : (.instanceMethod ⟨"AlikeStepsModel", "isMarked", "(I)Z"⟩ : Cond) ∈ pj_tb := pj_t6 (List.mem_of_getElem? (i := 26) (by rfl)) (by rfl)
set_option maxRecDepth 5000 in
theorem cw_1307 : (.code ⟨"AlikeStepsModel", "isMarked", "(I)Z"⟩ prog_13_method_35_code 2 (some .boolean) : Cond) ∈ pj_tb := pj_t6 (List.mem_of_getElem? (i := 27) (by rfl)) (by rfl)
set_option maxRecDepth 5000 in
theorem cw_1308 : (.methodLink RX11 213 ⟨"AlikeStepsModel", "numbers", "(I)I"⟩ : Cond) ∈ pj_tb := pj_t6 (List.mem_of_getElem? (i := 28) (by rfl)) (by rfl)
set_option maxRecDepth 5000 in
theorem cw_1310 : (.instanceMethod ⟨"AlikeStepsModel", "numbers", "(I)I"⟩ : Cond) ∈ pj_tb := pj_t6 (List.mem_of_getElem? (i := 30) (by rfl)) (by rfl)
set_option maxRecDepth 5000 in
theorem cw_1311 : (.code ⟨"AlikeStepsModel", "numbers", "(I)I"⟩ prog_13_method_46_code 7 (some .int) : Cond) ∈ pj_tb := pj_t6 (List.mem_of_getElem? (i := 31) (by rfl)) (by rfl)
set_option maxRecDepth 5000 in
theorem cw_1312 : (.methodLink RX11 194 ⟨"AlikeStepsModel", "blockIn", "(II)I"⟩ : Cond) ∈ pj_tb := pj_t6 (List.mem_of_getElem? (i := 32) (by rfl)) (by rfl)
set_option maxRecDepth 5000 in
theorem cw_1314 : (.instanceMethod ⟨"AlikeStepsModel", "blockIn", "(II)I"⟩ : Cond) ∈ pj_tb := pj_t6 (List.mem_of_getElem? (i := 34) (by rfl)) (by rfl)
set_option maxRecDepth 5000 in
theorem cw_1315 : (.code ⟨"AlikeStepsModel", "blockIn", "(II)I"⟩ prog_13_method_42_code 3 (some .int) : Cond) ∈ pj_tb := pj_t6 (List.mem_of_getElem? (i := 35) (by rfl)) (by rfl)
set_option maxRecDepth 5000 in
theorem cw_1316 : (.methodLink RX11 219 ⟨"AlikeStepsModel", "signsOf", "(III)J"⟩ : Cond) ∈ pj_tb := pj_t6 (List.mem_of_getElem? (i := 36) (by rfl)) (by rfl)
set_option maxRecDepth 5000 in
theorem cw_1318 : (.instanceMethod ⟨"AlikeStepsModel", "signsOf", "(III)J"⟩ : Cond) ∈ pj_tb := pj_t6 (List.mem_of_getElem? (i := 38) (by rfl)) (by rfl)
set_option maxRecDepth 5000 in
theorem cw_1319 : (.code ⟨"AlikeStepsModel", "signsOf", "(III)J"⟩ prog_13_method_45_code 8 (some .long) : Cond) ∈ pj_tb := pj_t6 (List.mem_of_getElem? (i := 39) (by rfl)) (by rfl)
set_option maxRecDepth 5000 in
theorem cw_1320 : (.methodLink RX11 197 ⟨"AlikeStepsModel", "alikeIn", "(II)I"⟩ : Cond) ∈ pj_tb := pj_t6 (List.mem_of_getElem? (i := 40) (by rfl)) (by rfl)
set_option maxRecDepth 5000 in
theorem cw_1322 : (.instanceMethod ⟨"AlikeStepsModel", "alikeIn", "(II)I"⟩ : Cond) ∈ pj_tb := pj_t6 (List.mem_of_getElem? (i := 42) (by rfl)) (by rfl)
set_option maxRecDepth 5000 in
theorem cw_1323 : (.code ⟨"AlikeStepsModel", "alikeIn", "(II)I"⟩ prog_13_method_44_code 5 (some .int) : Cond) ∈ pj_tb := pj_t6 (List.mem_of_getElem? (i := 43) (by rfl)) (by rfl)
set_option maxRecDepth 5000 in
theorem cw_1324 : (.methodLink RX11 204 ⟨"AlikeStepsModel", "bitsOf", "(III)J"⟩ : Cond) ∈ pj_tb := pj_t6 (List.mem_of_getElem? (i := 44) (by rfl)) (by rfl)
set_option maxRecDepth 5000 in
theorem cw_1326 : (.instanceMethod ⟨"AlikeStepsModel", "bitsOf", "(III)J"⟩ : Cond) ∈ pj_tb := pj_t6 (List.mem_of_getElem? (i := 46) (by rfl)) (by rfl)
set_option maxRecDepth 5000 in
theorem cw_1327 : (.code ⟨"AlikeStepsModel", "bitsOf", "(III)J"⟩ prog_13_method_43_code 7 (some .long) : Cond) ∈ pj_tb := pj_t6 (List.mem_of_getElem? (i := 47) (by rfl)) (by rfl)
set_option maxRecDepth 5000 in
theorem cw_1328 : (.constantLong RX11 208 (-1) : Cond) ∈ pj_tb := pj_t6 (List.mem_of_getElem? (i := 48) (by rfl)) (by rfl)
set_option maxRecDepth 5000 in
theorem cw_1330 : (.instanceMethod ⟨"AlikeStepsModel", "parts", "(II)I"⟩ : Cond) ∈ pj_tb := pj_t6 (List.mem_of_getElem? (i := 50) (by rfl)) (by rfl)
set_option maxRecDepth 5000 in
theorem cw_1331 : (.selects "AlikeStepsModel" ⟨"AlikeStepsModel", "parts", "(II)I"⟩ ⟨"AlikeStepsModel", "parts", "(II)I"⟩ : Cond) ∈ pj_tb := pj_t6 (List.mem_of_getElem? (i := 51) (by rfl)) (by rfl)
set_option maxRecDepth 5000 in
theorem cw_1332 : (.code ⟨"AlikeStepsModel", "parts", "(II)I"⟩ prog_13_method_59_code 4 (some .int) : Cond) ∈ pj_tb := pj_t6 (List.mem_of_getElem? (i := 52) (by rfl)) (by rfl)
set_option maxRecDepth 5000 in
theorem cw_1333 : (.methodLink RX11 245 ⟨"AlikeStepsModel", "isSystem", "()Z"⟩ : Cond) ∈ pj_tb := pj_t6 (List.mem_of_getElem? (i := 53) (by rfl)) (by rfl)
set_option maxRecDepth 5000 in
theorem cw_1335 : (.instanceMethod ⟨"AlikeStepsModel", "isSystem", "()Z"⟩ : Cond) ∈ pj_tb := pj_t6 (List.mem_of_getElem? (i := 55) (by rfl)) (by rfl)
set_option maxRecDepth 5000 in
theorem cw_1336 : (.code ⟨"AlikeStepsModel", "isSystem", "()Z"⟩ prog_13_method_30_code 1 (some .boolean) : Cond) ∈ pj_tb := pj_t6 (List.mem_of_getElem? (i := 56) (by rfl)) (by rfl)
set_option maxRecDepth 5000 in
theorem cw_1338 : (.instanceMethod ⟨"AlikeStepsModel", "behind", "(III)I"⟩ : Cond) ∈ pj_tb := pj_t6 (List.mem_of_getElem? (i := 58) (by rfl)) (by rfl)
set_option maxRecDepth 5000 in
theorem cw_1339 : (.selects "AlikeStepsModel" ⟨"AlikeStepsModel", "behind", "(III)I"⟩ ⟨"AlikeStepsModel", "behind", "(III)I"⟩ : Cond) ∈ pj_tb := pj_t6 (List.mem_of_getElem? (i := 59) (by rfl)) (by rfl)
set_option maxRecDepth 5000 in
theorem cw_1340 : (.code ⟨"AlikeStepsModel", "behind", "(III)I"⟩ prog_13_method_60_code 4 (some .int) : Cond) ∈ pj_tb := pj_t6 (List.mem_of_getElem? (i := 60) (by rfl)) (by rfl)
set_option maxRecDepth 5000 in
theorem cw_1342 : (.instanceMethod ⟨"AlikeStepsModel", "signs", "(II)J"⟩ : Cond) ∈ pj_tb := pj_t6 (List.mem_of_getElem? (i := 62) (by rfl)) (by rfl)
set_option maxRecDepth 5000 in
theorem cw_1343 : (.selects "AlikeStepsModel" ⟨"AlikeStepsModel", "signs", "(II)J"⟩ ⟨"AlikeStepsModel", "signs", "(II)J"⟩ : Cond) ∈ pj_tb := pj_t6 (List.mem_of_getElem? (i := 63) (by rfl)) (by rfl)
set_option maxRecDepth 5000 in
theorem cw_1344 : (.code ⟨"AlikeStepsModel", "signs", "(II)J"⟩ prog_13_method_61_code 3 (some .long) : Cond) ∈ pj_tb := pj_t6 (List.mem_of_getElem? (i := 64) (by rfl)) (by rfl)
set_option maxRecDepth 5000 in
theorem cw_1345 : (.constantLong RX11 248 (-1000001) : Cond) ∈ pj_tb := pj_t6 (List.mem_of_getElem? (i := 65) (by rfl)) (by rfl)
set_option maxRecDepth 5000 in
theorem cw_1347 : (.instanceMethod ⟨"AlikeStepsModel", "parted", "(III)I"⟩ : Cond) ∈ pj_tb := pj_t6 (List.mem_of_getElem? (i := 67) (by rfl)) (by rfl)
set_option maxRecDepth 5000 in
theorem cw_1348 : (.selects "AlikeStepsModel" ⟨"AlikeStepsModel", "parted", "(III)I"⟩ ⟨"AlikeStepsModel", "parted", "(III)I"⟩ : Cond) ∈ pj_tb := pj_t6 (List.mem_of_getElem? (i := 68) (by rfl)) (by rfl)
set_option maxRecDepth 5000 in
theorem cw_1349 : (.code ⟨"AlikeStepsModel", "parted", "(III)I"⟩ prog_13_method_62_code 4 (some .int) : Cond) ∈ pj_tb := pj_t6 (List.mem_of_getElem? (i := 69) (by rfl)) (by rfl)
set_option maxRecDepth 5000 in
theorem cw_1350 : (.methodLink RX11 250 ⟨"AlikeStepsModel", "partedIn", "(II)I"⟩ : Cond) ∈ pj_tb := pj_t6 (List.mem_of_getElem? (i := 70) (by rfl)) (by rfl)
set_option maxRecDepth 5000 in
theorem cw_1352 : (.instanceMethod ⟨"AlikeStepsModel", "partedIn", "(II)I"⟩ : Cond) ∈ pj_tb := pj_t6 (List.mem_of_getElem? (i := 72) (by rfl)) (by rfl)
set_option maxRecDepth 5000 in
theorem cw_1353 : (.code ⟨"AlikeStepsModel", "partedIn", "(II)I"⟩ prog_13_method_48_code 4 (some .int) : Cond) ∈ pj_tb := pj_t6 (List.mem_of_getElem? (i := 73) (by rfl)) (by rfl)
set_option maxRecDepth 5000 in
theorem cw_1355 : (.instanceMethod ⟨"AlikeStepsModel", "tells", "(IIII)I"⟩ : Cond) ∈ pj_tb := pj_t6 (List.mem_of_getElem? (i := 75) (by rfl)) (by rfl)
set_option maxRecDepth 5000 in
theorem cw_1356 : (.selects "AlikeStepsModel" ⟨"AlikeStepsModel", "tells", "(IIII)I"⟩ ⟨"AlikeStepsModel", "tells", "(IIII)I"⟩ : Cond) ∈ pj_tb := pj_t6 (List.mem_of_getElem? (i := 76) (by rfl)) (by rfl)
set_option maxRecDepth 5000 in
theorem cw_1357 : (.code ⟨"AlikeStepsModel", "tells", "(IIII)I"⟩ prog_13_method_68_code 6 (some .int) : Cond) ∈ pj_tb := pj_t6 (List.mem_of_getElem? (i := 77) (by rfl)) (by rfl)
set_option maxRecDepth 5000 in
theorem cw_1358 : (.methodLink RX11 263 ⟨"AlikeStepsModel", "isAsked", "(III)Z"⟩ : Cond) ∈ pj_tb := pj_t6 (List.mem_of_getElem? (i := 78) (by rfl)) (by rfl)
set_option maxRecDepth 5000 in
theorem cw_1360 : (.instanceMethod ⟨"AlikeStepsModel", "isAsked", "(III)Z"⟩ : Cond) ∈ pj_tb := pj_t6 (List.mem_of_getElem? (i := 80) (by rfl)) (by rfl)
set_option maxRecDepth 5000 in
theorem cw_1361 : (.code ⟨"AlikeStepsModel", "isAsked", "(III)Z"⟩ prog_13_method_67_code 4 (some .boolean) : Cond) ∈ pj_tb := pj_t6 (List.mem_of_getElem? (i := 81) (by rfl)) (by rfl)
set_option maxRecDepth 5000 in
theorem cw_1362 : (.methodLink RX11 266 ⟨"AlikeStepsModel", "tellsAll", "(I)V"⟩ : Cond) ∈ pj_tb := pj_t6 (List.mem_of_getElem? (i := 82) (by rfl)) (by rfl)
set_option maxRecDepth 5000 in
theorem cw_1364 : (.instanceMethod ⟨"AlikeStepsModel", "tellsAll", "(I)V"⟩ : Cond) ∈ pj_tb := pj_t6 (List.mem_of_getElem? (i := 84) (by rfl)) (by rfl)
set_option maxRecDepth 5000 in
theorem cw_1365 : (.code ⟨"AlikeStepsModel", "tellsAll", "(I)V"⟩ prog_13_method_65_code 7 none : Cond) ∈ pj_tb := pj_t6 (List.mem_of_getElem? (i := 85) (by rfl)) (by rfl)
set_option maxRecDepth 5000 in
theorem cw_1366 : (.methodLink RX11 253 ⟨"AlikeStepsModel", "opens", "(IIII)V"⟩ : Cond) ∈ pj_tb := pj_t6 (List.mem_of_getElem? (i := 86) (by rfl)) (by rfl)
set_option maxRecDepth 5000 in
theorem cw_1368 : (.instanceMethod ⟨"AlikeStepsModel", "opens", "(IIII)V"⟩ : Cond) ∈ pj_tb := pj_t6 (List.mem_of_getElem? (i := 88) (by rfl)) (by rfl)
set_option maxRecDepth 5000 in
theorem cw_1369 : (.code ⟨"AlikeStepsModel", "opens", "(IIII)V"⟩ prog_13_method_63_code 13 none : Cond) ∈ pj_tb := pj_t6 (List.mem_of_getElem? (i := 89) (by rfl)) (by rfl)
set_option maxRecDepth 5000 in
theorem cw_1370 : (.methodLink RX11 257 ⟨"AlikeStepsModel", "sums", "(III)V"⟩ : Cond) ∈ pj_tb := pj_t6 (List.mem_of_getElem? (i := 90) (by rfl)) (by rfl)
set_option maxRecDepth 5000 in
theorem cw_1372 : (.instanceMethod ⟨"AlikeStepsModel", "sums", "(III)V"⟩ : Cond) ∈ pj_tb := pj_t6 (List.mem_of_getElem? (i := 92) (by rfl)) (by rfl)
set_option maxRecDepth 5000 in
theorem cw_1373 : (.code ⟨"AlikeStepsModel", "sums", "(III)V"⟩ prog_13_method_64_code 10 none : Cond) ∈ pj_tb := pj_t6 (List.mem_of_getElem? (i := 93) (by rfl)) (by rfl)
set_option maxRecDepth 5000 in
theorem cw_1374 : (.methodLink RX11 270 ⟨"AlikeStepsModel", "codeAt", "(IIII)I"⟩ : Cond) ∈ pj_tb := pj_t6 (List.mem_of_getElem? (i := 94) (by rfl)) (by rfl)
set_option maxRecDepth 5000 in
theorem cw_1376 : (.instanceMethod ⟨"AlikeStepsModel", "codeAt", "(IIII)I"⟩ : Cond) ∈ pj_tb := pj_t6 (List.mem_of_getElem? (i := 96) (by rfl)) (by rfl)
set_option maxRecDepth 5000 in
theorem cw_1377 : (.code ⟨"AlikeStepsModel", "codeAt", "(IIII)I"⟩ prog_13_method_66_code 11 (some .int) : Cond) ∈ pj_tb := pj_t6 (List.mem_of_getElem? (i := 97) (by rfl)) (by rfl)
set_option maxRecDepth 5000 in
theorem cw_1378 : (.methodLink RX11 260 ⟨"AlikeStepsModel", "sizeOf", "(I)I"⟩ : Cond) ∈ pj_tb := pj_t6 (List.mem_of_getElem? (i := 98) (by rfl)) (by rfl)
set_option maxRecDepth 5000 in
theorem cw_1379 : (.static ⟨"AlikeStepsModel", "sizeOf", "(I)I"⟩ : Cond) ∈ pj_tb := pj_t6 (List.mem_of_getElem? (i := 99) (by rfl)) (by rfl)
set_option maxRecDepth 5000 in
theorem cw_1380 : (.code ⟨"AlikeStepsModel", "sizeOf", "(I)I"⟩ prog_13_method_5_code 3 (some .int) : Cond) ∈ pj_tb := pj_t6 (List.mem_of_getElem? (i := 100) (by rfl)) (by rfl)
set_option maxRecDepth 5000 in
theorem cw_1382 : (.instanceMethod ⟨"AlikeStepsModel", "depth", "(III)I"⟩ : Cond) ∈ pj_tb := pj_t6 (List.mem_of_getElem? (i := 102) (by rfl)) (by rfl)
set_option maxRecDepth 5000 in
theorem cw_1383 : (.selects "AlikeStepsModel" ⟨"AlikeStepsModel", "depth", "(III)I"⟩ ⟨"AlikeStepsModel", "depth", "(III)I"⟩ : Cond) ∈ pj_tb := pj_t6 (List.mem_of_getElem? (i := 103) (by rfl)) (by rfl)
set_option maxRecDepth 5000 in
theorem cw_1384 : (.code ⟨"AlikeStepsModel", "depth", "(III)I"⟩ prog_13_method_69_code 4 (some .int) : Cond) ∈ pj_tb := pj_t6 (List.mem_of_getElem? (i := 104) (by rfl)) (by rfl)
set_option maxRecDepth 5000 in
theorem cw_1386 : (.instanceMethod ⟨"AlikeStepsModel", "holds", "(IIII)I"⟩ : Cond) ∈ pj_tb := pj_t6 (List.mem_of_getElem? (i := 106) (by rfl)) (by rfl)
set_option maxRecDepth 5000 in
theorem cw_1387 : (.selects "AlikeStepsModel" ⟨"AlikeStepsModel", "holds", "(IIII)I"⟩ ⟨"AlikeStepsModel", "holds", "(IIII)I"⟩ : Cond) ∈ pj_tb := pj_t6 (List.mem_of_getElem? (i := 107) (by rfl)) (by rfl)
set_option maxRecDepth 5000 in
theorem cw_1388 : (.code ⟨"AlikeStepsModel", "holds", "(IIII)I"⟩ prog_13_method_71_code 12 (some .int) : Cond) ∈ pj_tb := pj_t6 (List.mem_of_getElem? (i := 108) (by rfl)) (by rfl)
set_option maxRecDepth 5000 in
theorem cw_1389 : (.methodLink RX11 274 ⟨"AlikeStepsModel", "movingInto", "(III)I"⟩ : Cond) ∈ pj_tb := pj_t6 (List.mem_of_getElem? (i := 109) (by rfl)) (by rfl)
set_option maxRecDepth 5000 in
theorem cw_1391 : (.instanceMethod ⟨"AlikeStepsModel", "movingInto", "(III)I"⟩ : Cond) ∈ pj_tb := pj_t6 (List.mem_of_getElem? (i := 111) (by rfl)) (by rfl)
set_option maxRecDepth 5000 in
theorem cw_1392 : (.code ⟨"AlikeStepsModel", "movingInto", "(III)I"⟩ prog_13_method_70_code 6 (some .int) : Cond) ∈ pj_tb := pj_t6 (List.mem_of_getElem? (i := 112) (by rfl)) (by rfl)
set_option maxRecDepth 5000 in
theorem cw_1394 : (.instanceMethod ⟨"AlikeStepsModel", "small", "(III)I"⟩ : Cond) ∈ pj_tb := pj_t6 (List.mem_of_getElem? (i := 114) (by rfl)) (by rfl)
set_option maxRecDepth 5000 in
theorem cw_1395 : (.selects "AlikeStepsModel" ⟨"AlikeStepsModel", "small", "(III)I"⟩ ⟨"AlikeStepsModel", "small", "(III)I"⟩ : Cond) ∈ pj_tb := pj_t6 (List.mem_of_getElem? (i := 115) (by rfl)) (by rfl)
set_option maxRecDepth 5000 in
theorem cw_1396 : (.code ⟨"AlikeStepsModel", "small", "(III)I"⟩ prog_13_method_73_code 5 (some .int) : Cond) ∈ pj_tb := pj_t6 (List.mem_of_getElem? (i := 116) (by rfl)) (by rfl)
set_option maxRecDepth 5000 in
theorem cw_1397 : (.methodLink RX11 277 ⟨"AlikeStepsModel", "smallOf", "(III)I"⟩ : Cond) ∈ pj_tb := pj_t6 (List.mem_of_getElem? (i := 117) (by rfl)) (by rfl)
set_option maxRecDepth 5000 in
theorem cw_1399 : (.instanceMethod ⟨"AlikeStepsModel", "smallOf", "(III)I"⟩ : Cond) ∈ pj_tb := pj_t6 (List.mem_of_getElem? (i := 119) (by rfl)) (by rfl)
set_option maxRecDepth 5000 in
theorem cw_1400 : (.code ⟨"AlikeStepsModel", "smallOf", "(III)I"⟩ prog_13_method_72_code 9 (some .int) : Cond) ∈ pj_tb := pj_t6 (List.mem_of_getElem? (i := 120) (by rfl)) (by rfl)
set_option maxRecDepth 5000 in
theorem cw_1402 : (.instanceMethod ⟨"AlikeStepsModel", "arcs", "(I)I"⟩ : Cond) ∈ pj_tb := pj_t6 (List.mem_of_getElem? (i := 122) (by rfl)) (by rfl)
set_option maxRecDepth 5000 in
theorem cw_1403 : (.selects "AlikeStepsModel" ⟨"AlikeStepsModel", "arcs", "(I)I"⟩ ⟨"AlikeStepsModel", "arcs", "(I)I"⟩ : Cond) ∈ pj_tb := pj_t6 (List.mem_of_getElem? (i := 123) (by rfl)) (by rfl)
set_option maxRecDepth 5000 in
theorem cw_1404 : (.code ⟨"AlikeStepsModel", "arcs", "(I)I"⟩ prog_13_method_74_code 6 (some .int) : Cond) ∈ pj_tb := pj_t6 (List.mem_of_getElem? (i := 124) (by rfl)) (by rfl)
set_option maxRecDepth 5000 in
theorem cw_1406 : (.instanceMethod ⟨"AlikeStepsModel", "words", "(II)I"⟩ : Cond) ∈ pj_tb := pj_t6 (List.mem_of_getElem? (i := 126) (by rfl)) (by rfl)
set_option maxRecDepth 5000 in
theorem cw_1407 : (.selects "AlikeStepsModel" ⟨"AlikeStepsModel", "words", "(II)I"⟩ ⟨"AlikeStepsModel", "words", "(II)I"⟩ : Cond) ∈ pj_tb := pj_t6 (List.mem_of_getElem? (i := 127) (by rfl)) (by rfl)
set_option maxRecDepth 5000 in
theorem cw_1408 : (.code ⟨"AlikeStepsModel", "words", "(II)I"⟩ prog_13_method_75_code 9 (some .int) : Cond) ∈ pj_tb := pj_t6 (List.mem_of_getElem? (i := 128) (by rfl)) (by rfl)
set_option maxRecDepth 5000 in
theorem cw_1410 : (.instanceMethod ⟨"AlikeStepsModel", "walk", "(III)I"⟩ : Cond) ∈ pj_tb := pj_t6 (List.mem_of_getElem? (i := 130) (by rfl)) (by rfl)
set_option maxRecDepth 5000 in
theorem cw_1411 : (.selects "AlikeStepsModel" ⟨"AlikeStepsModel", "walk", "(III)I"⟩ ⟨"AlikeStepsModel", "walk", "(III)I"⟩ : Cond) ∈ pj_tb := pj_t6 (List.mem_of_getElem? (i := 131) (by rfl)) (by rfl)
set_option maxRecDepth 5000 in
theorem cw_1412 : (.code ⟨"AlikeStepsModel", "walk", "(III)I"⟩ prog_13_method_79_code 9 (some .int) : Cond) ∈ pj_tb := pj_t6 (List.mem_of_getElem? (i := 132) (by rfl)) (by rfl)
set_option maxRecDepth 5000 in
theorem cw_1413 : (.constant RX11 283 (999999) : Cond) ∈ pj_tb := pj_t6 (List.mem_of_getElem? (i := 133) (by rfl)) (by rfl)
set_option maxRecDepth 5000 in
theorem cw_1414 : (.constantLong RX11 284 (16807) : Cond) ∈ pj_tb := pj_t6 (List.mem_of_getElem? (i := 134) (by rfl)) (by rfl)
set_option maxRecDepth 5000 in
theorem cw_1415 : (.constantLong RX11 286 (2147483647) : Cond) ∈ pj_tb := pj_t6 (List.mem_of_getElem? (i := 135) (by rfl)) (by rfl)
set_option maxRecDepth 5000 in
theorem cw_1416 : (.methodLink RX11 280 ⟨"AlikeStepsModel", "pairsOf", "(I)I"⟩ : Cond) ∈ pj_tb := pj_t6 (List.mem_of_getElem? (i := 136) (by rfl)) (by rfl)
set_option maxRecDepth 5000 in
theorem cw_1418 : (.instanceMethod ⟨"AlikeStepsModel", "pairsOf", "(I)I"⟩ : Cond) ∈ pj_tb := pj_t6 (List.mem_of_getElem? (i := 138) (by rfl)) (by rfl)
set_option maxRecDepth 5000 in
theorem cw_1419 : (.code ⟨"AlikeStepsModel", "pairsOf", "(I)I"⟩ prog_13_method_77_code 4 (some .int) : Cond) ∈ pj_tb := pj_t6 (List.mem_of_getElem? (i := 139) (by rfl)) (by rfl)
set_option maxRecDepth 5000 in
theorem cw_1420 : (.methodLink RX11 288 ⟨"AlikeStepsModel", "pairAt", "(II)I"⟩ : Cond) ∈ pj_tb := pj_t6 (List.mem_of_getElem? (i := 140) (by rfl)) (by rfl)
set_option maxRecDepth 5000 in
theorem cw_1422 : (.instanceMethod ⟨"AlikeStepsModel", "pairAt", "(II)I"⟩ : Cond) ∈ pj_tb := pj_t6 (List.mem_of_getElem? (i := 142) (by rfl)) (by rfl)
set_option maxRecDepth 5000 in
theorem cw_1423 : (.code ⟨"AlikeStepsModel", "pairAt", "(II)I"⟩ prog_13_method_78_code 6 (some .int) : Cond) ∈ pj_tb := pj_t6 (List.mem_of_getElem? (i := 143) (by rfl)) (by rfl)
set_option maxRecDepth 5000 in
theorem cw_1425 : (.instanceMethod ⟨"AlikeStepsModel", "fits", "(IIII)I"⟩ : Cond) ∈ pj_tb := pj_t6 (List.mem_of_getElem? (i := 145) (by rfl)) (by rfl)
set_option maxRecDepth 5000 in
theorem cw_1426 : (.selects "AlikeStepsModel" ⟨"AlikeStepsModel", "fits", "(IIII)I"⟩ ⟨"AlikeStepsModel", "fits", "(IIII)I"⟩ : Cond) ∈ pj_tb := pj_t6 (List.mem_of_getElem? (i := 146) (by rfl)) (by rfl)
set_option maxRecDepth 5000 in
theorem cw_1427 : (.code ⟨"AlikeStepsModel", "fits", "(IIII)I"⟩ prog_13_method_80_code 9 (some .int) : Cond) ∈ pj_tb := pj_t6 (List.mem_of_getElem? (i := 147) (by rfl)) (by rfl)
set_option maxRecDepth 5000 in
theorem cw_1429 : (.instanceMethod ⟨"AlikeStepsModel", "image", "(I)I"⟩ : Cond) ∈ pj_tb := pj_t6 (List.mem_of_getElem? (i := 149) (by rfl)) (by rfl)
set_option maxRecDepth 5000 in
theorem cw_1430 : (.selects "AlikeStepsModel" ⟨"AlikeStepsModel", "image", "(I)I"⟩ ⟨"AlikeStepsModel", "image", "(I)I"⟩ : Cond) ∈ pj_tb := pj_t6 (List.mem_of_getElem? (i := 150) (by rfl)) (by rfl)
set_option maxRecDepth 5000 in
theorem cw_1431 : (.code ⟨"AlikeStepsModel", "image", "(I)I"⟩ prog_13_method_81_code 2 (some .int) : Cond) ∈ pj_tb := pj_t6 (List.mem_of_getElem? (i := 151) (by rfl)) (by rfl)
set_option maxRecDepth 5000 in
theorem cw_1433 : (.instanceMethod ⟨"AlikeStepsModel", "restore", "(I)I"⟩ : Cond) ∈ pj_tb := pj_t6 (List.mem_of_getElem? (i := 153) (by rfl)) (by rfl)
set_option maxRecDepth 5000 in
theorem cw_1434 : (.selects "AlikeStepsModel" ⟨"AlikeStepsModel", "restore", "(I)I"⟩ ⟨"AlikeStepsModel", "restore", "(I)I"⟩ : Cond) ∈ pj_tb := pj_t6 (List.mem_of_getElem? (i := 154) (by rfl)) (by rfl)
set_option maxRecDepth 5000 in
theorem cw_1435 : (.code ⟨"AlikeStepsModel", "restore", "(I)I"⟩ prog_13_method_82_code 2 (some .int) : Cond) ∈ pj_tb := pj_t6 (List.mem_of_getElem? (i := 155) (by rfl)) (by rfl)
set_option maxRecDepth 5000 in
theorem cw_1437 : (.instanceMethod ⟨"AlikeStepsModel", "kind", "(I)I"⟩ : Cond) ∈ pj_tb := pj_t6 (List.mem_of_getElem? (i := 157) (by rfl)) (by rfl)
set_option maxRecDepth 5000 in
theorem cw_1438 : (.selects "AlikeStepsModel" ⟨"AlikeStepsModel", "kind", "(I)I"⟩ ⟨"AlikeStepsModel", "kind", "(I)I"⟩ : Cond) ∈ pj_tb := pj_t6 (List.mem_of_getElem? (i := 158) (by rfl)) (by rfl)
set_option maxRecDepth 5000 in
theorem cw_1439 : (.code ⟨"AlikeStepsModel", "kind", "(I)I"⟩ prog_13_method_84_code 2 (some .int) : Cond) ∈ pj_tb := pj_t6 (List.mem_of_getElem? (i := 159) (by rfl)) (by rfl)
set_option maxRecDepth 5000 in
theorem cw_1440 : (.methodLink RX11 291 ⟨"AlikeStepsModel", "kindIn", "(I)I"⟩ : Cond) ∈ pj_tb := pj_t6 (List.mem_of_getElem? (i := 160) (by rfl)) (by rfl)
set_option maxRecDepth 5000 in
theorem cw_1442 : (.instanceMethod ⟨"AlikeStepsModel", "kindIn", "(I)I"⟩ : Cond) ∈ pj_tb := pj_t6 (List.mem_of_getElem? (i := 162) (by rfl)) (by rfl)
set_option maxRecDepth 5000 in
theorem cw_1443 : (.code ⟨"AlikeStepsModel", "kindIn", "(I)I"⟩ prog_13_method_83_code 2 (some .int) : Cond) ∈ pj_tb := pj_t6 (List.mem_of_getElem? (i := 163) (by rfl)) (by rfl)
set_option maxRecDepth 5000 in
theorem cw_1445 : (.instanceMethod ⟨"AlikeStepsModel", "as", "(II)I"⟩ : Cond) ∈ pj_tb := pj_t6 (List.mem_of_getElem? (i := 165) (by rfl)) (by rfl)
set_option maxRecDepth 5000 in
theorem cw_1446 : (.selects "AlikeStepsModel" ⟨"AlikeStepsModel", "as", "(II)I"⟩ ⟨"AlikeStepsModel", "as", "(II)I"⟩ : Cond) ∈ pj_tb := pj_t6 (List.mem_of_getElem? (i := 166) (by rfl)) (by rfl)
set_option maxRecDepth 5000 in
theorem cw_1447 : (.code ⟨"AlikeStepsModel", "as", "(II)I"⟩ prog_13_method_85_code 5 (some .int) : Cond) ∈ pj_tb := pj_t6 (List.mem_of_getElem? (i := 167) (by rfl)) (by rfl)
set_option maxRecDepth 5000 in
theorem cw_1449 : (.instanceMethod ⟨"AlikeStepsModel", "ask", "(II)I"⟩ : Cond) ∈ pj_tb := pj_t6 (List.mem_of_getElem? (i := 169) (by rfl)) (by rfl)
set_option maxRecDepth 5000 in
theorem cw_1450 : (.selects "AlikeStepsModel" ⟨"AlikeStepsModel", "ask", "(II)I"⟩ ⟨"AlikeStepsModel", "ask", "(II)I"⟩ : Cond) ∈ pj_tb := pj_t6 (List.mem_of_getElem? (i := 170) (by rfl)) (by rfl)
set_option maxRecDepth 5000 in
theorem cw_1451 : (.code ⟨"AlikeStepsModel", "ask", "(II)I"⟩ prog_13_method_91_code 4 (some .int) : Cond) ∈ pj_tb := pj_t6 (List.mem_of_getElem? (i := 171) (by rfl)) (by rfl)
set_option maxRecDepth 5000 in
theorem cw_1452 : (.methodLink RX11 306 ⟨"AlikeStepsModel", "doorSize", "(I)I"⟩ : Cond) ∈ pj_tb := pj_t6 (List.mem_of_getElem? (i := 172) (by rfl)) (by rfl)
set_option maxRecDepth 5000 in
theorem cw_1454 : (.instanceMethod ⟨"AlikeStepsModel", "doorSize", "(I)I"⟩ : Cond) ∈ pj_tb := pj_t6 (List.mem_of_getElem? (i := 174) (by rfl)) (by rfl)
set_option maxRecDepth 5000 in
theorem cw_1455 : (.code ⟨"AlikeStepsModel", "doorSize", "(I)I"⟩ prog_13_method_88_code 4 (some .int) : Cond) ∈ pj_tb := pj_t6 (List.mem_of_getElem? (i := 175) (by rfl)) (by rfl)
set_option maxRecDepth 5000 in
theorem cw_1456 : (.methodLink RX11 297 ⟨"AlikeStepsModel", "traces", "(I)V"⟩ : Cond) ∈ pj_tb := pj_t6 (List.mem_of_getElem? (i := 176) (by rfl)) (by rfl)
set_option maxRecDepth 5000 in
theorem cw_1458 : (.instanceMethod ⟨"AlikeStepsModel", "traces", "(I)V"⟩ : Cond) ∈ pj_tb := pj_t6 (List.mem_of_getElem? (i := 178) (by rfl)) (by rfl)
set_option maxRecDepth 5000 in
theorem cw_1459 : (.code ⟨"AlikeStepsModel", "traces", "(I)V"⟩ prog_13_method_86_code 2 none : Cond) ∈ pj_tb := pj_t6 (List.mem_of_getElem? (i := 179) (by rfl)) (by rfl)
set_option maxRecDepth 5000 in
theorem cw_1460 : (.methodLink RX11 300 ⟨"AlikeStepsModel", "pairs", "(I)I"⟩ : Cond) ∈ pj_tb := pj_t6 (List.mem_of_getElem? (i := 180) (by rfl)) (by rfl)
set_option maxRecDepth 5000 in
theorem cw_1462 : (.instanceMethod ⟨"AlikeStepsModel", "pairs", "(I)I"⟩ : Cond) ∈ pj_tb := pj_t6 (List.mem_of_getElem? (i := 182) (by rfl)) (by rfl)
set_option maxRecDepth 5000 in
theorem cw_1463 : (.code ⟨"AlikeStepsModel", "pairs", "(I)I"⟩ prog_13_method_76_code 2 (some .int) : Cond) ∈ pj_tb := pj_t6 (List.mem_of_getElem? (i := 183) (by rfl)) (by rfl)
set_option maxRecDepth 5000 in
theorem cw_1464 : (.methodLink RX11 309 ⟨"AlikeStepsModel", "placeSize", "(I)I"⟩ : Cond) ∈ pj_tb := pj_t6 (List.mem_of_getElem? (i := 184) (by rfl)) (by rfl)
set_option maxRecDepth 5000 in
theorem cw_1466 : (.instanceMethod ⟨"AlikeStepsModel", "placeSize", "(I)I"⟩ : Cond) ∈ pj_tb := pj_t6 (List.mem_of_getElem? (i := 186) (by rfl)) (by rfl)
set_option maxRecDepth 5000 in
theorem cw_1467 : (.code ⟨"AlikeStepsModel", "placeSize", "(I)I"⟩ prog_13_method_89_code 4 (some .int) : Cond) ∈ pj_tb := pj_t6 (List.mem_of_getElem? (i := 187) (by rfl)) (by rfl)
set_option maxRecDepth 5000 in
theorem cw_1468 : (.methodLink RX11 303 ⟨"AlikeStepsModel", "placeMark", "(I)I"⟩ : Cond) ∈ pj_tb := pj_t6 (List.mem_of_getElem? (i := 188) (by rfl)) (by rfl)
set_option maxRecDepth 5000 in
theorem cw_1470 : (.instanceMethod ⟨"AlikeStepsModel", "placeMark", "(I)I"⟩ : Cond) ∈ pj_tb := pj_t6 (List.mem_of_getElem? (i := 190) (by rfl)) (by rfl)
set_option maxRecDepth 5000 in
theorem cw_1471 : (.code ⟨"AlikeStepsModel", "placeMark", "(I)I"⟩ prog_13_method_87_code 4 (some .int) : Cond) ∈ pj_tb := pj_t6 (List.mem_of_getElem? (i := 191) (by rfl)) (by rfl)
set_option maxRecDepth 5000 in
theorem cw_1472 : (.methodLink RX11 312 ⟨"AlikeStepsModel", "doorMark", "(I)I"⟩ : Cond) ∈ pj_tb := pj_t6 (List.mem_of_getElem? (i := 192) (by rfl)) (by rfl)
set_option maxRecDepth 5000 in
theorem cw_1474 : (.instanceMethod ⟨"AlikeStepsModel", "doorMark", "(I)I"⟩ : Cond) ∈ pj_tb := pj_t6 (List.mem_of_getElem? (i := 194) (by rfl)) (by rfl)
set_option maxRecDepth 5000 in
theorem cw_1475 : (.code ⟨"AlikeStepsModel", "doorMark", "(I)I"⟩ prog_13_method_90_code 2 (some .int) : Cond) ∈ pj_tb := pj_t6 (List.mem_of_getElem? (i := 195) (by rfl)) (by rfl)
set_option maxRecDepth 5000 in
theorem cw_1477 : (.instanceMethod ⟨"AlikeStepsModel", "trace", "(I)I"⟩ : Cond) ∈ pj_tb := pj_t6 (List.mem_of_getElem? (i := 197) (by rfl)) (by rfl)
set_option maxRecDepth 5000 in
theorem cw_1478 : (.selects "AlikeStepsModel" ⟨"AlikeStepsModel", "trace", "(I)I"⟩ ⟨"AlikeStepsModel", "trace", "(I)I"⟩ : Cond) ∈ pj_tb := pj_t6 (List.mem_of_getElem? (i := 198) (by rfl)) (by rfl)
set_option maxRecDepth 5000 in
theorem cw_1479 : (.code ⟨"AlikeStepsModel", "trace", "(I)I"⟩ prog_13_method_92_code 2 (some .int) : Cond) ∈ pj_tb := pj_t6 (List.mem_of_getElem? (i := 199) (by rfl)) (by rfl)
set_option maxRecDepth 5000 in
theorem cw_1481 : (.instanceMethod ⟨"AlikeStepsModel", "count", "(I)I"⟩ : Cond) ∈ pj_tb := pj_t6 (List.mem_of_getElem? (i := 201) (by rfl)) (by rfl)
set_option maxRecDepth 5000 in
theorem cw_1482 : (.selects "AlikeStepsModel" ⟨"AlikeStepsModel", "count", "(I)I"⟩ ⟨"AlikeStepsModel", "count", "(I)I"⟩ : Cond) ∈ pj_tb := pj_t6 (List.mem_of_getElem? (i := 202) (by rfl)) (by rfl)
set_option maxRecDepth 5000 in
theorem cw_1483 : (.code ⟨"AlikeStepsModel", "count", "(I)I"⟩ prog_13_method_93_code 4 (some .int) : Cond) ∈ pj_tb := pj_t6 (List.mem_of_getElem? (i := 203) (by rfl)) (by rfl)
set_option maxRecDepth 5000 in
theorem cw_1485 : (.instanceMethod ⟨"AlikeStepsModel", "status", "()I"⟩ : Cond) ∈ pj_tb := pj_t6 (List.mem_of_getElem? (i := 205) (by rfl)) (by rfl)
set_option maxRecDepth 5000 in
theorem cw_1486 : (.selects "AlikeStepsModel" ⟨"AlikeStepsModel", "status", "()I"⟩ ⟨"AlikeStepsModel", "status", "()I"⟩ : Cond) ∈ pj_tb := pj_t6 (List.mem_of_getElem? (i := 206) (by rfl)) (by rfl)
set_option maxRecDepth 5000 in
theorem cw_1487 : (.code ⟨"AlikeStepsModel", "status", "()I"⟩ prog_13_method_94_code 1 (some .int) : Cond) ∈ pj_tb := pj_t6 (List.mem_of_getElem? (i := 207) (by rfl)) (by rfl)
theorem vcX0 : vwCl[0]? = some (RX0, TX0, 2) := rfl
theorem vcX1 : vwCl[1]? = some (RX1, TX1, 2) := rfl
theorem vcX2 : vwCl[2]? = some (RX2, TX2, 6) := rfl
theorem vcX3 : vwCl[3]? = some (RX3, TX3, 8) := rfl
theorem vcX4 : vwCl[4]? = some (RX4, TX4, 5) := rfl
theorem vcX5 : vwCl[5]? = some (RX5, TX5, 7) := rfl
theorem vcX6 : vwCl[6]? = some (RX6, TX6, 3) := rfl
theorem vcX7 : vwCl[7]? = some (RX7, TX7, 3) := rfl
theorem vcX8 : vwCl[8]? = some (RX8, TX8, 3) := rfl
theorem vcX9 : vwCl[9]? = some (RX9, TX9, 5) := rfl
theorem vcX10 : vwCl[10]? = some (RX10, TX10, 14) := rfl
theorem vcX11 : vwCl[11]? = some (RX11, TX11, 33) := rfl
def qs_dec {ρ : Type} (i : Nat) (d : Int32) (nx : Nat) : pj_T ρ := fun K L st m => match L[i]? with
  | some (some (.inl x)) => K nx (pj_st1 L i (.inl (x - d))) st m
  | _ => none
theorem qz_idec {ρ : Type} {X : pj_X} {enc : ρ → Option pj_V × pj_M} {pc : Nat} (C : pj_C X) {i : Nat} {n : Int} {d : Int32} (hd : decode (pj_cc X) pc = .ok (.iinc i n, 3)) (hn : Int32.ofInt n = -d) : pj_S X enc pc (qs_dec i d (pc + 3)) := by
  intro K hK L st m r h hR
  obtain ⟨G, A, ⟨cc, own, nL, ret, rk⟩, ⟨p, l, e, R⟩, ⟨s, mi, args, below, meth, c⟩, ⟨cells, slots, Q⟩⟩ := X
  obtain ⟨hx, hb, hml, hown, hts, hk, hnw, hfr, hlo, hce, hsl, hX, hbl, hbA⟩ := C
  unfold qs_dec at h
  split at h
  · rename_i x hx1
    intro ls H locs hF hH
    have hlt := (List.getElem?_eq_some_iff.mp hx1).1
    rw [hF.2.2.1] at hlt
    obtain ⟨k, hk1⟩ := List.getElem?_of_mem (pj_lv_mem (G := G) (q := (i, .int x)) |>.mpr ⟨.inl x, hx1, rfl⟩)
    refine lv_iinc hx hb hd hF.has hk1 (v := x - d) (by rw [hn, Int32.sub_eq_add_neg]) hlt rfl (fun ls2 h2 => hK _ _ _ _ _ h hR ls2 H locs ?_ hH)
    exact pj_F.st1 (v := .inl (x - d)) (hF.stk (pj_okc trivial hF.2.2.2.2)) h2
  · cases h
theorem pj_z_ex : ∃ n : Nat, 5000 ≤ n := ⟨5000, Nat.le_refl _⟩
/-- how often a loop may go round: some number that is large enough (a name, so that nothing unrolls it) -/
noncomputable def pj_z : Nat := Classical.choose pj_z_ex
theorem pj_z_ge : 5000 ≤ pj_z := Classical.choose_spec pj_z_ex
abbrev pj_P : Type := Program × Launch × Env × Room
abbrev pj_U : Type := State × MethodId × Array Value × List Frame × Method × Code
abbrev pj_Z : Type := Nat × Nat × (State → Prop)
theorem cwm_max : Cond.code Lib.Math.max.name Lib.Math.max.code 2 (some .int) ∈ pj_tb := pj_mem 714 (by decide +kernel) rfl
theorem cwm_min : Cond.code Lib.Math.min.name Lib.Math.min.code 2 (some .int) ∈ pj_tb := pj_mem 757 (by decide +kernel) rfl
theorem cwm_lmin : Cond.code Lib.MathLoose.min_long.x Lib.MathLoose.min_long.code 4 (some .long) ∈ pj_tb := pj_mem 819 (by decide +kernel) rfl
