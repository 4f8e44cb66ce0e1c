section
-- ===== PART A: goes FIRST, ahead of the names: the tables' words, and 'selects' of the private methods out of them =====
/-- a private method of a class that the tables say can be made, by its rows of tables_1 -/
def lw_okq (q : MethodName × Nat) : Prop := (q.1.cls ≠ "java/lang/invoke/MethodHandle" ∧ q.1.cls ≠ "java/lang/invoke/VarHandle") ∧ Cond.instantiable q.1.cls q.2 ∈ tables_1 ∧ Cond.privateMethod q.1 ∈ tables_1 ∧ Cond.instanceMethod q.1 ∈ tables_1
theorem lw_p0 : lw_okq (⟨"AlikeSteps", "found", "(I)I"⟩, 14) := ⟨⟨by decide +kernel, by decide +kernel⟩, List.mem_of_getElem? (i := 17) (by decide +kernel), List.mem_of_getElem? (i := 286) (by decide +kernel), List.mem_of_getElem? (i := 287) (by decide +kernel)⟩
theorem lw_p1 : lw_okq (⟨"AlikeSteps", "fine", "(I)I"⟩, 14) := ⟨⟨by decide +kernel, by decide +kernel⟩, List.mem_of_getElem? (i := 17) (by decide +kernel), List.mem_of_getElem? (i := 295) (by decide +kernel), List.mem_of_getElem? (i := 296) (by decide +kernel)⟩
theorem lw_p2 : lw_okq (⟨"AlikeSteps$Tape", "readStates", "(LAlikeSteps$Net;)I"⟩, 3) := ⟨⟨by decide +kernel, by decide +kernel⟩, List.mem_of_getElem? (i := 42) (by decide +kernel), List.mem_of_getElem? (i := 371) (by decide +kernel), List.mem_of_getElem? (i := 372) (by decide +kernel)⟩
theorem lw_p3 : lw_okq (⟨"AlikeSteps$Tape", "next", "()I"⟩, 3) := ⟨⟨by decide +kernel, by decide +kernel⟩, List.mem_of_getElem? (i := 42) (by decide +kernel), List.mem_of_getElem? (i := 375) (by decide +kernel), List.mem_of_getElem? (i := 376) (by decide +kernel)⟩
theorem lw_p4 : lw_okq (⟨"AlikeSteps$Tape", "passes", "(C)Z"⟩, 3) := ⟨⟨by decide +kernel, by decide +kernel⟩, List.mem_of_getElem? (i := 42) (by decide +kernel), List.mem_of_getElem? (i := 382) (by decide +kernel), List.mem_of_getElem? (i := 383) (by decide +kernel)⟩
theorem lw_p5 : lw_okq (⟨"AlikeSteps$Tape", "readArcs", "(LAlikeSteps$Net;)I"⟩, 3) := ⟨⟨by decide +kernel, by decide +kernel⟩, List.mem_of_getElem? (i := 42) (by decide +kernel), List.mem_of_getElem? (i := 390) (by decide +kernel), List.mem_of_getElem? (i := 391) (by decide +kernel)⟩
theorem lw_p6 : lw_okq (⟨"AlikeSteps$Tape", "readEnds", "(LAlikeSteps$Net;I)I"⟩, 3) := ⟨⟨by decide +kernel, by decide +kernel⟩, List.mem_of_getElem? (i := 42) (by decide +kernel), List.mem_of_getElem? (i := 397) (by decide +kernel), List.mem_of_getElem? (i := 398) (by decide +kernel)⟩
theorem lw_p7 : lw_okq (⟨"AlikeSteps$Tape", "readNumber", "(LAlikeSteps$Net;)I"⟩, 3) := ⟨⟨by decide +kernel, by decide +kernel⟩, List.mem_of_getElem? (i := 42) (by decide +kernel), List.mem_of_getElem? (i := 401) (by decide +kernel), List.mem_of_getElem? (i := 402) (by decide +kernel)⟩
theorem lw_p8 : lw_okq (⟨"AlikeSteps$Tape", "isFigure", "(I)Z"⟩, 3) := ⟨⟨by decide +kernel, by decide +kernel⟩, List.mem_of_getElem? (i := 42) (by decide +kernel), List.mem_of_getElem? (i := 405) (by decide +kernel), List.mem_of_getElem? (i := 406) (by decide +kernel)⟩
theorem lw_p9 : lw_okq (⟨"AlikeSteps$Net", "shiftArcs", "(III)V"⟩, 5) := ⟨⟨by decide +kernel, by decide +kernel⟩, List.mem_of_getElem? (i := 58) (by decide +kernel), List.mem_of_getElem? (i := 421) (by decide +kernel), List.mem_of_getElem? (i := 422) (by decide +kernel)⟩
theorem lw_p10 : lw_okq (⟨"AlikeSteps$Acts", "note", "(IIIII)V"⟩, 2) := ⟨⟨by decide +kernel, by decide +kernel⟩, List.mem_of_getElem? (i := 81) (by decide +kernel), List.mem_of_getElem? (i := 469) (by decide +kernel), List.mem_of_getElem? (i := 470) (by decide +kernel)⟩
theorem lw_p11 : lw_okq (⟨"AlikeSteps$Steps", "openArc", "(LAlikeSteps$Net;I)V"⟩, 3) := ⟨⟨by decide +kernel, by decide +kernel⟩, List.mem_of_getElem? (i := 100) (by decide +kernel), List.mem_of_getElem? (i := 564) (by decide +kernel), List.mem_of_getElem? (i := 565) (by decide +kernel)⟩
theorem lw_p12 : lw_okq (⟨"AlikeSteps$Steps", "closeSilent", "()V"⟩, 3) := ⟨⟨by decide +kernel, by decide +kernel⟩, List.mem_of_getElem? (i := 100) (by decide +kernel), List.mem_of_getElem? (i := 576) (by decide +kernel), List.mem_of_getElem? (i := 577) (by decide +kernel)⟩
theorem lw_p13 : lw_okq (⟨"AlikeSteps$Steps", "closeLetters", "()V"⟩, 3) := ⟨⟨by decide +kernel, by decide +kernel⟩, List.mem_of_getElem? (i := 100) (by decide +kernel), List.mem_of_getElem? (i := 591) (by decide +kernel), List.mem_of_getElem? (i := 592) (by decide +kernel)⟩
theorem lw_p14 : lw_okq (⟨"AlikeSteps$Parting", "numberBlocks", "(I)I"⟩, 7) := ⟨⟨by decide +kernel, by decide +kernel⟩, List.mem_of_getElem? (i := 117) (by decide +kernel), List.mem_of_getElem? (i := 621) (by decide +kernel), List.mem_of_getElem? (i := 622) (by decide +kernel)⟩
theorem lw_p15 : lw_okq (⟨"AlikeSteps$Parting", "firstLike", "(II)I"⟩, 7) := ⟨⟨by decide +kernel, by decide +kernel⟩, List.mem_of_getElem? (i := 117) (by decide +kernel), List.mem_of_getElem? (i := 625) (by decide +kernel), List.mem_of_getElem? (i := 626) (by decide +kernel)⟩
def lw_privs_1 : List (MethodName × Nat) := [(⟨"AlikeSteps", "found", "(I)I"⟩, 14), (⟨"AlikeSteps", "fine", "(I)I"⟩, 14), (⟨"AlikeSteps$Tape", "readStates", "(LAlikeSteps$Net;)I"⟩, 3), (⟨"AlikeSteps$Tape", "next", "()I"⟩, 3), (⟨"AlikeSteps$Tape", "passes", "(C)Z"⟩, 3), (⟨"AlikeSteps$Tape", "readArcs", "(LAlikeSteps$Net;)I"⟩, 3), (⟨"AlikeSteps$Tape", "readEnds", "(LAlikeSteps$Net;I)I"⟩, 3), (⟨"AlikeSteps$Tape", "readNumber", "(LAlikeSteps$Net;)I"⟩, 3), (⟨"AlikeSteps$Tape", "isFigure", "(I)Z"⟩, 3), (⟨"AlikeSteps$Net", "shiftArcs", "(III)V"⟩, 5), (⟨"AlikeSteps$Acts", "note", "(IIIII)V"⟩, 2), (⟨"AlikeSteps$Steps", "openArc", "(LAlikeSteps$Net;I)V"⟩, 3), (⟨"AlikeSteps$Steps", "closeSilent", "()V"⟩, 3), (⟨"AlikeSteps$Steps", "closeLetters", "()V"⟩, 3), (⟨"AlikeSteps$Parting", "numberBlocks", "(I)I"⟩, 7), (⟨"AlikeSteps$Parting", "firstLike", "(II)I"⟩, 7)]
theorem lw_r1 : ∀ q ∈ lw_privs_1, lw_okq q := List.forall_mem_cons.mpr ⟨lw_p0, List.forall_mem_cons.mpr ⟨lw_p1, List.forall_mem_cons.mpr ⟨lw_p2, List.forall_mem_cons.mpr ⟨lw_p3, List.forall_mem_cons.mpr ⟨lw_p4, List.forall_mem_cons.mpr ⟨lw_p5, List.forall_mem_cons.mpr ⟨lw_p6, List.forall_mem_cons.mpr ⟨lw_p7, List.forall_mem_cons.mpr ⟨lw_p8, List.forall_mem_cons.mpr ⟨lw_p9, List.forall_mem_cons.mpr ⟨lw_p10, List.forall_mem_cons.mpr ⟨lw_p11, List.forall_mem_cons.mpr ⟨lw_p12, List.forall_mem_cons.mpr ⟨lw_p13, List.forall_mem_cons.mpr ⟨lw_p14, List.forall_mem_cons.mpr ⟨lw_p15, fun _ h => absurd h List.not_mem_nil⟩⟩⟩⟩⟩⟩⟩⟩⟩⟩⟩⟩⟩⟩⟩⟩
theorem lw_p16 : lw_okq (⟨"AlikeSteps$Parting", "partOn", "(LAlikeSteps$Steps;)V"⟩, 7) := ⟨⟨by decide +kernel, by decide +kernel⟩, List.mem_of_getElem? (i := 117) (by decide +kernel), List.mem_of_getElem? (i := 636) (by decide +kernel), List.mem_of_getElem? (i := 637) (by decide +kernel)⟩
theorem lw_p17 : lw_okq (⟨"AlikeSteps$Parting", "signsBy", "(LAlikeSteps$Steps;II)J"⟩, 7) := ⟨⟨by decide +kernel, by decide +kernel⟩, List.mem_of_getElem? (i := 117) (by decide +kernel), List.mem_of_getElem? (i := 640) (by decide +kernel), List.mem_of_getElem? (i := 641) (by decide +kernel)⟩
theorem lw_p18 : lw_okq (⟨"AlikeSteps$Parting", "statesOf", "(II)I"⟩, 7) := ⟨⟨by decide +kernel, by decide +kernel⟩, List.mem_of_getElem? (i := 117) (by decide +kernel), List.mem_of_getElem? (i := 644) (by decide +kernel), List.mem_of_getElem? (i := 645) (by decide +kernel)⟩
theorem lw_p19 : lw_okq (⟨"AlikeSteps$Teller", "findLead", "(LAlikeSteps$Steps;LAlikeSteps$Parting;II)I"⟩, 5) := ⟨⟨by decide +kernel, by decide +kernel⟩, List.mem_of_getElem? (i := 210) (by decide +kernel), List.mem_of_getElem? (i := 711) (by decide +kernel), List.mem_of_getElem? (i := 712) (by decide +kernel)⟩
theorem lw_p20 : lw_okq (⟨"AlikeSteps$Teller", "weighAll", "(ILAlikeSteps$Steps;IZ)V"⟩, 5) := ⟨⟨by decide +kernel, by decide +kernel⟩, List.mem_of_getElem? (i := 210) (by decide +kernel), List.mem_of_getElem? (i := 719) (by decide +kernel), List.mem_of_getElem? (i := 720) (by decide +kernel)⟩
theorem lw_p21 : lw_okq (⟨"AlikeSteps$Teller", "weigh", "(LAlikeSteps$Steps;II)J"⟩, 5) := ⟨⟨by decide +kernel, by decide +kernel⟩, List.mem_of_getElem? (i := 210) (by decide +kernel), List.mem_of_getElem? (i := 723) (by decide +kernel), List.mem_of_getElem? (i := 724) (by decide +kernel)⟩
theorem lw_p22 : lw_okq (⟨"AlikeSteps$Teller", "sizeUpTo", "(III)J"⟩, 5) := ⟨⟨by decide +kernel, by decide +kernel⟩, List.mem_of_getElem? (i := 210) (by decide +kernel), List.mem_of_getElem? (i := 732) (by decide +kernel), List.mem_of_getElem? (i := 733) (by decide +kernel)⟩
theorem lw_p23 : lw_okq (⟨"AlikeSteps$Teller", "memberAt", "(IIJ)I"⟩, 5) := ⟨⟨by decide +kernel, by decide +kernel⟩, List.mem_of_getElem? (i := 210) (by decide +kernel), List.mem_of_getElem? (i := 751) (by decide +kernel), List.mem_of_getElem? (i := 752) (by decide +kernel)⟩
theorem lw_p24 : lw_okq (⟨"AlikeSteps$Formula", "push", "(I)V"⟩, 8) := ⟨⟨by decide +kernel, by decide +kernel⟩, List.mem_of_getElem? (i := 155) (by decide +kernel), List.mem_of_getElem? (i := 786) (by decide +kernel), List.mem_of_getElem? (i := 787) (by decide +kernel)⟩
theorem lw_p25 : lw_okq (⟨"AlikeSteps$Formula", "takeList", "(I)V"⟩, 8) := ⟨⟨by decide +kernel, by decide +kernel⟩, List.mem_of_getElem? (i := 155) (by decide +kernel), List.mem_of_getElem? (i := 790) (by decide +kernel), List.mem_of_getElem? (i := 791) (by decide +kernel)⟩
theorem lw_p26 : lw_okq (⟨"AlikeSteps$Steps", "way", "(II)I"⟩, 3) := ⟨⟨by decide +kernel, by decide +kernel⟩, List.mem_of_getElem? (i := 100) (by decide +kernel), List.mem_of_getElem? (i := 847) (by decide +kernel), List.mem_of_getElem? (i := 848) (by decide +kernel)⟩
theorem lw_p27 : lw_okq (⟨"AlikeSteps", "tellsBlocks", "(ILAlikeSteps$Parting;)Z"⟩, 14) := ⟨⟨by decide +kernel, by decide +kernel⟩, List.mem_of_getElem? (i := 17) (by decide +kernel), List.mem_of_getElem? (i := 856) (by decide +kernel), List.mem_of_getElem? (i := 857) (by decide +kernel)⟩
theorem lw_p28 : lw_okq (⟨"AlikeSteps$Asker", "sizeBody", "()I"⟩, 6) := ⟨⟨by decide +kernel, by decide +kernel⟩, List.mem_of_getElem? (i := 186) (by decide +kernel), List.mem_of_getElem? (i := 890) (by decide +kernel), List.mem_of_getElem? (i := 891) (by decide +kernel)⟩
theorem lw_p29 : lw_okq (⟨"AlikeSteps$Asker", "markBody", "()I"⟩, 6) := ⟨⟨by decide +kernel, by decide +kernel⟩, List.mem_of_getElem? (i := 186) (by decide +kernel), List.mem_of_getElem? (i := 894) (by decide +kernel), List.mem_of_getElem? (i := 895) (by decide +kernel)⟩
theorem lw_p30 : lw_okq (⟨"AlikeSteps$Asker", "body", "(II)I"⟩, 6) := ⟨⟨by decide +kernel, by decide +kernel⟩, List.mem_of_getElem? (i := 186) (by decide +kernel), List.mem_of_getElem? (i := 898) (by decide +kernel), List.mem_of_getElem? (i := 899) (by decide +kernel)⟩
theorem lw_p31 : lw_okq (⟨"AlikeSteps$Asker", "leave", "(I)V"⟩, 6) := ⟨⟨by decide +kernel, by decide +kernel⟩, List.mem_of_getElem? (i := 186) (by decide +kernel), List.mem_of_getElem? (i := 902) (by decide +kernel), List.mem_of_getElem? (i := 903) (by decide +kernel)⟩
def lw_privs_2 : List (MethodName × Nat) := [(⟨"AlikeSteps$Parting", "partOn", "(LAlikeSteps$Steps;)V"⟩, 7), (⟨"AlikeSteps$Parting", "signsBy", "(LAlikeSteps$Steps;II)J"⟩, 7), (⟨"AlikeSteps$Parting", "statesOf", "(II)I"⟩, 7), (⟨"AlikeSteps$Teller", "findLead", "(LAlikeSteps$Steps;LAlikeSteps$Parting;II)I"⟩, 5), (⟨"AlikeSteps$Teller", "weighAll", "(ILAlikeSteps$Steps;IZ)V"⟩, 5), (⟨"AlikeSteps$Teller", "weigh", "(LAlikeSteps$Steps;II)J"⟩, 5), (⟨"AlikeSteps$Teller", "sizeUpTo", "(III)J"⟩, 5), (⟨"AlikeSteps$Teller", "memberAt", "(IIJ)I"⟩, 5), (⟨"AlikeSteps$Formula", "push", "(I)V"⟩, 8), (⟨"AlikeSteps$Formula", "takeList", "(I)V"⟩, 8), (⟨"AlikeSteps$Steps", "way", "(II)I"⟩, 3), (⟨"AlikeSteps", "tellsBlocks", "(ILAlikeSteps$Parting;)Z"⟩, 14), (⟨"AlikeSteps$Asker", "sizeBody", "()I"⟩, 6), (⟨"AlikeSteps$Asker", "markBody", "()I"⟩, 6), (⟨"AlikeSteps$Asker", "body", "(II)I"⟩, 6), (⟨"AlikeSteps$Asker", "leave", "(I)V"⟩, 6)]
theorem lw_r2 : ∀ q ∈ lw_privs_2, lw_okq q := List.forall_mem_cons.mpr ⟨lw_p16, List.forall_mem_cons.mpr ⟨lw_p17, List.forall_mem_cons.mpr ⟨lw_p18, List.forall_mem_cons.mpr ⟨lw_p19, List.forall_mem_cons.mpr ⟨lw_p20, List.forall_mem_cons.mpr ⟨lw_p21, List.forall_mem_cons.mpr ⟨lw_p22, List.forall_mem_cons.mpr ⟨lw_p23, List.forall_mem_cons.mpr ⟨lw_p24, List.forall_mem_cons.mpr ⟨lw_p25, List.forall_mem_cons.mpr ⟨lw_p26, List.forall_mem_cons.mpr ⟨lw_p27, List.forall_mem_cons.mpr ⟨lw_p28, List.forall_mem_cons.mpr ⟨lw_p29, List.forall_mem_cons.mpr ⟨lw_p30, List.forall_mem_cons.mpr ⟨lw_p31, fun _ h => absurd h List.not_mem_nil⟩⟩⟩⟩⟩⟩⟩⟩⟩⟩⟩⟩⟩⟩⟩⟩
theorem lw_p32 : lw_okq (⟨"AlikeStepsModel", "found", "(I)I"⟩, 33) := ⟨⟨by decide +kernel, by decide +kernel⟩, List.mem_of_getElem? (i := 932) (by decide +kernel), List.mem_of_getElem? (i := 1051) (by decide +kernel), List.mem_of_getElem? (i := 1052) (by decide +kernel)⟩
theorem lw_p33 : lw_okq (⟨"AlikeStepsModel", "well", "(I)I"⟩, 33) := ⟨⟨by decide +kernel, by decide +kernel⟩, List.mem_of_getElem? (i := 932) (by decide +kernel), List.mem_of_getElem? (i := 1056) (by decide +kernel), List.mem_of_getElem? (i := 1057) (by decide +kernel)⟩
theorem lw_p34 : lw_okq (⟨"AlikeStepsModel", "isMissing", "(I)Z"⟩, 33) := ⟨⟨by decide +kernel, by decide +kernel⟩, List.mem_of_getElem? (i := 932) (by decide +kernel), List.mem_of_getElem? (i := 1064) (by decide +kernel), List.mem_of_getElem? (i := 1065) (by decide +kernel)⟩
theorem lw_p35 : lw_okq (⟨"AlikeStepsModel", "isPart", "(III)Z"⟩, 33) := ⟨⟨by decide +kernel, by decide +kernel⟩, List.mem_of_getElem? (i := 932) (by decide +kernel), List.mem_of_getElem? (i := 1075) (by decide +kernel), List.mem_of_getElem? (i := 1076) (by decide +kernel)⟩
theorem lw_p36 : lw_okq (⟨"AlikeStepsModel", "advances", "()V"⟩, 33) := ⟨⟨by decide +kernel, by decide +kernel⟩, List.mem_of_getElem? (i := 932) (by decide +kernel), List.mem_of_getElem? (i := 1092) (by decide +kernel), List.mem_of_getElem? (i := 1093) (by decide +kernel)⟩
theorem lw_p37 : lw_okq (⟨"AlikeStepsModel", "byteAt", "(I)I"⟩, 33) := ⟨⟨by decide +kernel, by decide +kernel⟩, List.mem_of_getElem? (i := 932) (by decide +kernel), List.mem_of_getElem? (i := 1096) (by decide +kernel), List.mem_of_getElem? (i := 1097) (by decide +kernel)⟩
theorem lw_p38 : lw_okq (⟨"AlikeStepsModel", "isWell", "()Z"⟩, 33) := ⟨⟨by decide +kernel, by decide +kernel⟩, List.mem_of_getElem? (i := 932) (by decide +kernel), List.mem_of_getElem? (i := 1100) (by decide +kernel), List.mem_of_getElem? (i := 1101) (by decide +kernel)⟩
theorem lw_p39 : lw_okq (⟨"AlikeStepsModel", "readsState", "()V"⟩, 33) := ⟨⟨by decide +kernel, by decide +kernel⟩, List.mem_of_getElem? (i := 932) (by decide +kernel), List.mem_of_getElem? (i := 1107) (by decide +kernel), List.mem_of_getElem? (i := 1108) (by decide +kernel)⟩
theorem lw_p40 : lw_okq (⟨"AlikeStepsModel", "takes", "(ZI)I"⟩, 33) := ⟨⟨by decide +kernel, by decide +kernel⟩, List.mem_of_getElem? (i := 932) (by decide +kernel), List.mem_of_getElem? (i := 1111) (by decide +kernel), List.mem_of_getElem? (i := 1112) (by decide +kernel)⟩
theorem lw_p41 : lw_okq (⟨"AlikeStepsModel", "must", "(Z)V"⟩, 33) := ⟨⟨by decide +kernel, by decide +kernel⟩, List.mem_of_getElem? (i := 932) (by decide +kernel), List.mem_of_getElem? (i := 1115) (by decide +kernel), List.mem_of_getElem? (i := 1116) (by decide +kernel)⟩
theorem lw_p42 : lw_okq (⟨"AlikeStepsModel", "readsArc", "()V"⟩, 33) := ⟨⟨by decide +kernel, by decide +kernel⟩, List.mem_of_getElem? (i := 932) (by decide +kernel), List.mem_of_getElem? (i := 1122) (by decide +kernel), List.mem_of_getElem? (i := 1123) (by decide +kernel)⟩
theorem lw_p43 : lw_okq (⟨"AlikeStepsModel", "figure", "(II)I"⟩, 33) := ⟨⟨by decide +kernel, by decide +kernel⟩, List.mem_of_getElem? (i := 932) (by decide +kernel), List.mem_of_getElem? (i := 1126) (by decide +kernel), List.mem_of_getElem? (i := 1127) (by decide +kernel)⟩
theorem lw_p44 : lw_okq (⟨"AlikeStepsModel", "isState", "(I)Z"⟩, 33) := ⟨⟨by decide +kernel, by decide +kernel⟩, List.mem_of_getElem? (i := 932) (by decide +kernel), List.mem_of_getElem? (i := 1145) (by decide +kernel), List.mem_of_getElem? (i := 1146) (by decide +kernel)⟩
theorem lw_p45 : lw_okq (⟨"AlikeStepsModel", "notes", "()V"⟩, 33) := ⟨⟨by decide +kernel, by decide +kernel⟩, List.mem_of_getElem? (i := 932) (by decide +kernel), List.mem_of_getElem? (i := 1149) (by decide +kernel), List.mem_of_getElem? (i := 1150) (by decide +kernel)⟩
theorem lw_p46 : lw_okq (⟨"AlikeStepsModel", "isArc", "(I)Z"⟩, 33) := ⟨⟨by decide +kernel, by decide +kernel⟩, List.mem_of_getElem? (i := 932) (by decide +kernel), List.mem_of_getElem? (i := 1157) (by decide +kernel), List.mem_of_getElem? (i := 1158) (by decide +kernel)⟩
theorem lw_p47 : lw_okq (⟨"AlikeStepsModel", "looks", "([II)V"⟩, 33) := ⟨⟨by decide +kernel, by decide +kernel⟩, List.mem_of_getElem? (i := 932) (by decide +kernel), List.mem_of_getElem? (i := 1182) (by decide +kernel), List.mem_of_getElem? (i := 1183) (by decide +kernel)⟩
def lw_privs_3 : List (MethodName × Nat) := [(⟨"AlikeStepsModel", "found", "(I)I"⟩, 33), (⟨"AlikeStepsModel", "well", "(I)I"⟩, 33), (⟨"AlikeStepsModel", "isMissing", "(I)Z"⟩, 33), (⟨"AlikeStepsModel", "isPart", "(III)Z"⟩, 33), (⟨"AlikeStepsModel", "advances", "()V"⟩, 33), (⟨"AlikeStepsModel", "byteAt", "(I)I"⟩, 33), (⟨"AlikeStepsModel", "isWell", "()Z"⟩, 33), (⟨"AlikeStepsModel", "readsState", "()V"⟩, 33), (⟨"AlikeStepsModel", "takes", "(ZI)I"⟩, 33), (⟨"AlikeStepsModel", "must", "(Z)V"⟩, 33), (⟨"AlikeStepsModel", "readsArc", "()V"⟩, 33), (⟨"AlikeStepsModel", "figure", "(II)I"⟩, 33), (⟨"AlikeStepsModel", "isState", "(I)Z"⟩, 33), (⟨"AlikeStepsModel", "notes", "()V"⟩, 33), (⟨"AlikeStepsModel", "isArc", "(I)Z"⟩, 33), (⟨"AlikeStepsModel", "looks", "([II)V"⟩, 33)]
theorem lw_r3 : ∀ q ∈ lw_privs_3, lw_okq q := List.forall_mem_cons.mpr ⟨lw_p32, List.forall_mem_cons.mpr ⟨lw_p33, List.forall_mem_cons.mpr ⟨lw_p34, List.forall_mem_cons.mpr ⟨lw_p35, List.forall_mem_cons.mpr ⟨lw_p36, List.forall_mem_cons.mpr ⟨lw_p37, List.forall_mem_cons.mpr ⟨lw_p38, List.forall_mem_cons.mpr ⟨lw_p39, List.forall_mem_cons.mpr ⟨lw_p40, List.forall_mem_cons.mpr ⟨lw_p41, List.forall_mem_cons.mpr ⟨lw_p42, List.forall_mem_cons.mpr ⟨lw_p43, List.forall_mem_cons.mpr ⟨lw_p44, List.forall_mem_cons.mpr ⟨lw_p45, List.forall_mem_cons.mpr ⟨lw_p46, List.forall_mem_cons.mpr ⟨lw_p47, fun _ h => absurd h List.not_mem_nil⟩⟩⟩⟩⟩⟩⟩⟩⟩⟩⟩⟩⟩⟩⟩⟩
theorem lw_p48 : lw_okq (⟨"AlikeStepsModel", "goesFrom", "(III)V"⟩, 33) := ⟨⟨by decide +kernel, by decide +kernel⟩, List.mem_of_getElem? (i := 932) (by decide +kernel), List.mem_of_getElem? (i := 1186) (by decide +kernel), List.mem_of_getElem? (i := 1187) (by decide +kernel)⟩
theorem lw_p49 : lw_okq (⟨"AlikeStepsModel", "states", "()I"⟩, 33) := ⟨⟨by decide +kernel, by decide +kernel⟩, List.mem_of_getElem? (i := 932) (by decide +kernel), List.mem_of_getElem? (i := 1190) (by decide +kernel), List.mem_of_getElem? (i := 1191) (by decide +kernel)⟩
theorem lw_p50 : lw_okq (⟨"AlikeStepsModel", "reaches", "(II)I"⟩, 33) := ⟨⟨by decide +kernel, by decide +kernel⟩, List.mem_of_getElem? (i := 932) (by decide +kernel), List.mem_of_getElem? (i := 1194) (by decide +kernel), List.mem_of_getElem? (i := 1195) (by decide +kernel)⟩
theorem lw_p51 : lw_okq (⟨"AlikeStepsModel", "to", "(II)I"⟩, 33) := ⟨⟨by decide +kernel, by decide +kernel⟩, List.mem_of_getElem? (i := 932) (by decide +kernel), List.mem_of_getElem? (i := 1198) (by decide +kernel), List.mem_of_getElem? (i := 1199) (by decide +kernel)⟩
theorem lw_p52 : lw_okq (⟨"AlikeStepsModel", "moving", "(III)I"⟩, 33) := ⟨⟨by decide +kernel, by decide +kernel⟩, List.mem_of_getElem? (i := 932) (by decide +kernel), List.mem_of_getElem? (i := 1205) (by decide +kernel), List.mem_of_getElem? (i := 1206) (by decide +kernel)⟩
theorem lw_p53 : lw_okq (⟨"AlikeStepsModel", "close", "(I)I"⟩, 33) := ⟨⟨by decide +kernel, by decide +kernel⟩, List.mem_of_getElem? (i := 932) (by decide +kernel), List.mem_of_getElem? (i := 1209) (by decide +kernel), List.mem_of_getElem? (i := 1210) (by decide +kernel)⟩
theorem lw_p54 : lw_okq (⟨"AlikeStepsModel", "blockOf", "(II)I"⟩, 33) := ⟨⟨by decide +kernel, by decide +kernel⟩, List.mem_of_getElem? (i := 932) (by decide +kernel), List.mem_of_getElem? (i := 1217) (by decide +kernel), List.mem_of_getElem? (i := 1218) (by decide +kernel)⟩
theorem lw_p55 : lw_okq (⟨"AlikeStepsModel", "partsBy", "(I)I"⟩, 33) := ⟨⟨by decide +kernel, by decide +kernel⟩, List.mem_of_getElem? (i := 932) (by decide +kernel), List.mem_of_getElem? (i := 1221) (by decide +kernel), List.mem_of_getElem? (i := 1222) (by decide +kernel)⟩
theorem lw_p56 : lw_okq (⟨"AlikeStepsModel", "isMarked", "(I)Z"⟩, 33) := ⟨⟨by decide +kernel, by decide +kernel⟩, List.mem_of_getElem? (i := 932) (by decide +kernel), List.mem_of_getElem? (i := 1225) (by decide +kernel), List.mem_of_getElem? (i := 1226) (by decide +kernel)⟩
theorem lw_p57 : lw_okq (⟨"AlikeStepsModel", "numbers", "(I)I"⟩, 33) := ⟨⟨by decide +kernel, by decide +kernel⟩, List.mem_of_getElem? (i := 932) (by decide +kernel), List.mem_of_getElem? (i := 1229) (by decide +kernel), List.mem_of_getElem? (i := 1230) (by decide +kernel)⟩
theorem lw_p58 : lw_okq (⟨"AlikeStepsModel", "blockIn", "(II)I"⟩, 33) := ⟨⟨by decide +kernel, by decide +kernel⟩, List.mem_of_getElem? (i := 932) (by decide +kernel), List.mem_of_getElem? (i := 1233) (by decide +kernel), List.mem_of_getElem? (i := 1234) (by decide +kernel)⟩
theorem lw_p59 : lw_okq (⟨"AlikeStepsModel", "signsOf", "(III)J"⟩, 33) := ⟨⟨by decide +kernel, by decide +kernel⟩, List.mem_of_getElem? (i := 932) (by decide +kernel), List.mem_of_getElem? (i := 1237) (by decide +kernel), List.mem_of_getElem? (i := 1238) (by decide +kernel)⟩
theorem lw_p60 : lw_okq (⟨"AlikeStepsModel", "alikeIn", "(II)I"⟩, 33) := ⟨⟨by decide +kernel, by decide +kernel⟩, List.mem_of_getElem? (i := 932) (by decide +kernel), List.mem_of_getElem? (i := 1241) (by decide +kernel), List.mem_of_getElem? (i := 1242) (by decide +kernel)⟩
theorem lw_p61 : lw_okq (⟨"AlikeStepsModel", "bitsOf", "(III)J"⟩, 33) := ⟨⟨by decide +kernel, by decide +kernel⟩, List.mem_of_getElem? (i := 932) (by decide +kernel), List.mem_of_getElem? (i := 1245) (by decide +kernel), List.mem_of_getElem? (i := 1246) (by decide +kernel)⟩
theorem lw_p62 : lw_okq (⟨"AlikeStepsModel", "isSystem", "()Z"⟩, 33) := ⟨⟨by decide +kernel, by decide +kernel⟩, List.mem_of_getElem? (i := 932) (by decide +kernel), List.mem_of_getElem? (i := 1254) (by decide +kernel), List.mem_of_getElem? (i := 1255) (by decide +kernel)⟩
theorem lw_p63 : lw_okq (⟨"AlikeStepsModel", "partedIn", "(II)I"⟩, 33) := ⟨⟨by decide +kernel, by decide +kernel⟩, List.mem_of_getElem? (i := 932) (by decide +kernel), List.mem_of_getElem? (i := 1271) (by decide +kernel), List.mem_of_getElem? (i := 1272) (by decide +kernel)⟩
def lw_privs_4 : List (MethodName × Nat) := [(⟨"AlikeStepsModel", "goesFrom", "(III)V"⟩, 33), (⟨"AlikeStepsModel", "states", "()I"⟩, 33), (⟨"AlikeStepsModel", "reaches", "(II)I"⟩, 33), (⟨"AlikeStepsModel", "to", "(II)I"⟩, 33), (⟨"AlikeStepsModel", "moving", "(III)I"⟩, 33), (⟨"AlikeStepsModel", "close", "(I)I"⟩, 33), (⟨"AlikeStepsModel", "blockOf", "(II)I"⟩, 33), (⟨"AlikeStepsModel", "partsBy", "(I)I"⟩, 33), (⟨"AlikeStepsModel", "isMarked", "(I)Z"⟩, 33), (⟨"AlikeStepsModel", "numbers", "(I)I"⟩, 33), (⟨"AlikeStepsModel", "blockIn", "(II)I"⟩, 33), (⟨"AlikeStepsModel", "signsOf", "(III)J"⟩, 33), (⟨"AlikeStepsModel", "alikeIn", "(II)I"⟩, 33), (⟨"AlikeStepsModel", "bitsOf", "(III)J"⟩, 33), (⟨"AlikeStepsModel", "isSystem", "()Z"⟩, 33), (⟨"AlikeStepsModel", "partedIn", "(II)I"⟩, 33)]
theorem lw_r4 : ∀ q ∈ lw_privs_4, lw_okq q := List.forall_mem_cons.mpr ⟨lw_p48, List.forall_mem_cons.mpr ⟨lw_p49, List.forall_mem_cons.mpr ⟨lw_p50, List.forall_mem_cons.mpr ⟨lw_p51, List.forall_mem_cons.mpr ⟨lw_p52, List.forall_mem_cons.mpr ⟨lw_p53, List.forall_mem_cons.mpr ⟨lw_p54, List.forall_mem_cons.mpr ⟨lw_p55, List.forall_mem_cons.mpr ⟨lw_p56, List.forall_mem_cons.mpr ⟨lw_p57, List.forall_mem_cons.mpr ⟨lw_p58, List.forall_mem_cons.mpr ⟨lw_p59, List.forall_mem_cons.mpr ⟨lw_p60, List.forall_mem_cons.mpr ⟨lw_p61, List.forall_mem_cons.mpr ⟨lw_p62, List.forall_mem_cons.mpr ⟨lw_p63, fun _ h => absurd h List.not_mem_nil⟩⟩⟩⟩⟩⟩⟩⟩⟩⟩⟩⟩⟩⟩⟩⟩
theorem lw_p64 : lw_okq (⟨"AlikeStepsModel", "isAsked", "(III)Z"⟩, 33) := ⟨⟨by decide +kernel, by decide +kernel⟩, List.mem_of_getElem? (i := 932) (by decide +kernel), List.mem_of_getElem? (i := 1279) (by decide +kernel), List.mem_of_getElem? (i := 1280) (by decide +kernel)⟩
theorem lw_p65 : lw_okq (⟨"AlikeStepsModel", "tellsAll", "(I)V"⟩, 33) := ⟨⟨by decide +kernel, by decide +kernel⟩, List.mem_of_getElem? (i := 932) (by decide +kernel), List.mem_of_getElem? (i := 1283) (by decide +kernel), List.mem_of_getElem? (i := 1284) (by decide +kernel)⟩
theorem lw_p66 : lw_okq (⟨"AlikeStepsModel", "opens", "(IIII)V"⟩, 33) := ⟨⟨by decide +kernel, by decide +kernel⟩, List.mem_of_getElem? (i := 932) (by decide +kernel), List.mem_of_getElem? (i := 1287) (by decide +kernel), List.mem_of_getElem? (i := 1288) (by decide +kernel)⟩
theorem lw_p67 : lw_okq (⟨"AlikeStepsModel", "sums", "(III)V"⟩, 33) := ⟨⟨by decide +kernel, by decide +kernel⟩, List.mem_of_getElem? (i := 932) (by decide +kernel), List.mem_of_getElem? (i := 1291) (by decide +kernel), List.mem_of_getElem? (i := 1292) (by decide +kernel)⟩
theorem lw_p68 : lw_okq (⟨"AlikeStepsModel", "codeAt", "(IIII)I"⟩, 33) := ⟨⟨by decide +kernel, by decide +kernel⟩, List.mem_of_getElem? (i := 932) (by decide +kernel), List.mem_of_getElem? (i := 1295) (by decide +kernel), List.mem_of_getElem? (i := 1296) (by decide +kernel)⟩
theorem lw_p69 : lw_okq (⟨"AlikeStepsModel", "movingInto", "(III)I"⟩, 33) := ⟨⟨by decide +kernel, by decide +kernel⟩, List.mem_of_getElem? (i := 932) (by decide +kernel), List.mem_of_getElem? (i := 1310) (by decide +kernel), List.mem_of_getElem? (i := 1311) (by decide +kernel)⟩
theorem lw_p70 : lw_okq (⟨"AlikeStepsModel", "smallOf", "(III)I"⟩, 33) := ⟨⟨by decide +kernel, by decide +kernel⟩, List.mem_of_getElem? (i := 932) (by decide +kernel), List.mem_of_getElem? (i := 1318) (by decide +kernel), List.mem_of_getElem? (i := 1319) (by decide +kernel)⟩
theorem lw_p71 : lw_okq (⟨"AlikeStepsModel", "pairsOf", "(I)I"⟩, 33) := ⟨⟨by decide +kernel, by decide +kernel⟩, List.mem_of_getElem? (i := 932) (by decide +kernel), List.mem_of_getElem? (i := 1337) (by decide +kernel), List.mem_of_getElem? (i := 1338) (by decide +kernel)⟩
theorem lw_p72 : lw_okq (⟨"AlikeStepsModel", "pairAt", "(II)I"⟩, 33) := ⟨⟨by decide +kernel, by decide +kernel⟩, List.mem_of_getElem? (i := 932) (by decide +kernel), List.mem_of_getElem? (i := 1341) (by decide +kernel), List.mem_of_getElem? (i := 1342) (by decide +kernel)⟩
theorem lw_p73 : lw_okq (⟨"AlikeStepsModel", "kindIn", "(I)I"⟩, 33) := ⟨⟨by decide +kernel, by decide +kernel⟩, List.mem_of_getElem? (i := 932) (by decide +kernel), List.mem_of_getElem? (i := 1361) (by decide +kernel), List.mem_of_getElem? (i := 1362) (by decide +kernel)⟩
theorem lw_p74 : lw_okq (⟨"AlikeStepsModel", "doorSize", "(I)I"⟩, 33) := ⟨⟨by decide +kernel, by decide +kernel⟩, List.mem_of_getElem? (i := 932) (by decide +kernel), List.mem_of_getElem? (i := 1373) (by decide +kernel), List.mem_of_getElem? (i := 1374) (by decide +kernel)⟩
theorem lw_p75 : lw_okq (⟨"AlikeStepsModel", "traces", "(I)V"⟩, 33) := ⟨⟨by decide +kernel, by decide +kernel⟩, List.mem_of_getElem? (i := 932) (by decide +kernel), List.mem_of_getElem? (i := 1377) (by decide +kernel), List.mem_of_getElem? (i := 1378) (by decide +kernel)⟩
theorem lw_p76 : lw_okq (⟨"AlikeStepsModel", "pairs", "(I)I"⟩, 33) := ⟨⟨by decide +kernel, by decide +kernel⟩, List.mem_of_getElem? (i := 932) (by decide +kernel), List.mem_of_getElem? (i := 1381) (by decide +kernel), List.mem_of_getElem? (i := 1382) (by decide +kernel)⟩
theorem lw_p77 : lw_okq (⟨"AlikeStepsModel", "placeSize", "(I)I"⟩, 33) := ⟨⟨by decide +kernel, by decide +kernel⟩, List.mem_of_getElem? (i := 932) (by decide +kernel), List.mem_of_getElem? (i := 1385) (by decide +kernel), List.mem_of_getElem? (i := 1386) (by decide +kernel)⟩
theorem lw_p78 : lw_okq (⟨"AlikeStepsModel", "placeMark", "(I)I"⟩, 33) := ⟨⟨by decide +kernel, by decide +kernel⟩, List.mem_of_getElem? (i := 932) (by decide +kernel), List.mem_of_getElem? (i := 1389) (by decide +kernel), List.mem_of_getElem? (i := 1390) (by decide +kernel)⟩
theorem lw_p79 : lw_okq (⟨"AlikeStepsModel", "doorMark", "(I)I"⟩, 33) := ⟨⟨by decide +kernel, by decide +kernel⟩, List.mem_of_getElem? (i := 932) (by decide +kernel), List.mem_of_getElem? (i := 1393) (by decide +kernel), List.mem_of_getElem? (i := 1394) (by decide +kernel)⟩
def lw_privs_5 : List (MethodName × Nat) := [(⟨"AlikeStepsModel", "isAsked", "(III)Z"⟩, 33), (⟨"AlikeStepsModel", "tellsAll", "(I)V"⟩, 33), (⟨"AlikeStepsModel", "opens", "(IIII)V"⟩, 33), (⟨"AlikeStepsModel", "sums", "(III)V"⟩, 33), (⟨"AlikeStepsModel", "codeAt", "(IIII)I"⟩, 33), (⟨"AlikeStepsModel", "movingInto", "(III)I"⟩, 33), (⟨"AlikeStepsModel", "smallOf", "(III)I"⟩, 33), (⟨"AlikeStepsModel", "pairsOf", "(I)I"⟩, 33), (⟨"AlikeStepsModel", "pairAt", "(II)I"⟩, 33), (⟨"AlikeStepsModel", "kindIn", "(I)I"⟩, 33), (⟨"AlikeStepsModel", "doorSize", "(I)I"⟩, 33), (⟨"AlikeStepsModel", "traces", "(I)V"⟩, 33), (⟨"AlikeStepsModel", "pairs", "(I)I"⟩, 33), (⟨"AlikeStepsModel", "placeSize", "(I)I"⟩, 33), (⟨"AlikeStepsModel", "placeMark", "(I)I"⟩, 33), (⟨"AlikeStepsModel", "doorMark", "(I)I"⟩, 33)]
theorem lw_r5 : ∀ q ∈ lw_privs_5, lw_okq q := List.forall_mem_cons.mpr ⟨lw_p64, List.forall_mem_cons.mpr ⟨lw_p65, List.forall_mem_cons.mpr ⟨lw_p66, List.forall_mem_cons.mpr ⟨lw_p67, List.forall_mem_cons.mpr ⟨lw_p68, List.forall_mem_cons.mpr ⟨lw_p69, List.forall_mem_cons.mpr ⟨lw_p70, List.forall_mem_cons.mpr ⟨lw_p71, List.forall_mem_cons.mpr ⟨lw_p72, List.forall_mem_cons.mpr ⟨lw_p73, List.forall_mem_cons.mpr ⟨lw_p74, List.forall_mem_cons.mpr ⟨lw_p75, List.forall_mem_cons.mpr ⟨lw_p76, List.forall_mem_cons.mpr ⟨lw_p77, List.forall_mem_cons.mpr ⟨lw_p78, List.forall_mem_cons.mpr ⟨lw_p79, fun _ h => absurd h List.not_mem_nil⟩⟩⟩⟩⟩⟩⟩⟩⟩⟩⟩⟩⟩⟩⟩⟩
def lw_privs : List (MethodName × Nat) := lw_privs_1 ++ (lw_privs_2 ++ (lw_privs_3 ++ (lw_privs_4 ++ (lw_privs_5))))
def lw_tbl : List Cond := k2_sels lw_privs ++ tables_1
theorem lw_privs_ok : ∀ q ∈ lw_privs, lw_okq q := by
  show ∀ q ∈ lw_privs_1 ++ (lw_privs_2 ++ (lw_privs_3 ++ (lw_privs_4 ++ (lw_privs_5)))), lw_okq q
  exact List.forall_mem_append.mpr ⟨lw_r1, List.forall_mem_append.mpr ⟨lw_r2, List.forall_mem_append.mpr ⟨lw_r3, List.forall_mem_append.mpr ⟨lw_r4, lw_r5⟩⟩⟩⟩
-- ===== end of PART A; then your names; then what follows =====
end
section
/-! PART 02: the classes (rows of NAMES), the layout of the cells that the two constructors make, the good words of the tables -/
def RX0 : String := "AlikeSteps$Acts"
def TX0 : u_T := fun k => match k with
  | 0 => ("AlikeSteps$Acts", "log", "[I", true)
  | _ => ("AlikeSteps$Acts", "kept", "I", false)
def tyX0 : Nat → FieldType := fun k => match k with
  | 0 => .array .int
  | _ => .int
theorem nmX0 : ∀ a, a < 2 → ∀ b, b < 2 → a ≠ b → (TX0 a).2.1 ≠ (TX0 b).2.1 := by decide +kernel
theorem tyX0_ok : ∀ k, k < 2 → parseFieldDescriptor (TX0 k).2.2.1 = some (tyX0 k) := by decide +kernel
def RX1 : String := "AlikeSteps$Alike"
def TX1 : u_T := fun k => match k with
  | 0 => ("AlikeSteps$Alike", "steps", "LAlikeSteps$Steps;", true)
  | _ => ("AlikeSteps$Alike", "partings", "[LAlikeSteps$Parting;", true)
def tyX1 : Nat → FieldType := fun k => match k with
  | 0 => .object "AlikeSteps$Steps"
  | _ => .array (.object "AlikeSteps$Parting")
theorem nmX1 : ∀ a, a < 2 → ∀ b, b < 2 → a ≠ b → (TX1 a).2.1 ≠ (TX1 b).2.1 := by decide +kernel
theorem tyX1_ok : ∀ k, k < 2 → parseFieldDescriptor (TX1 k).2.2.1 = some (tyX1 k) := by decide +kernel
def RX2 : String := "AlikeSteps$Asker"
def TX2 : u_T := fun k => match k with
  | 0 => ("AlikeSteps$Asker", "trail", "[I", true)
  | 1 => ("AlikeSteps$Asker", "traced", "I", false)
  | 2 => ("AlikeSteps$Asker", "state", "I", false)
  | 3 => ("AlikeSteps$Asker", "kind", "I", false)
  | 4 => ("AlikeSteps$Asker", "pairs", "I", false)
  | _ => ("AlikeSteps$Asker", "block", "I", false)
def tyX2 : Nat → FieldType := fun k => match k with
  | 0 => .array .int
  | 1 => .int
  | 2 => .int
  | 3 => .int
  | 4 => .int
  | _ => .int
theorem nmX2 : ∀ a, a < 6 → ∀ b, b < 6 → a ≠ b → (TX2 a).2.1 ≠ (TX2 b).2.1 := by decide +kernel
theorem tyX2_ok : ∀ k, k < 6 → parseFieldDescriptor (TX2 k).2.2.1 = some (tyX2 k) := by decide +kernel
def RX3 : String := "AlikeSteps$Formula"
def TX3 : u_T := fun k => match k with
  | 0 => ("AlikeSteps$Formula", "sets", "[I", true)
  | 1 => ("AlikeSteps$Formula", "rule", "I", false)
  | 2 => ("AlikeSteps$Formula", "all", "I", false)
  | 3 => ("AlikeSteps$Formula", "marked", "I", false)
  | 4 => ("AlikeSteps$Formula", "height", "I", false)
  | 5 => ("AlikeSteps$Formula", "list", "I", false)
  | 6 => ("AlikeSteps$Formula", "listOpen", "Z", false)
  | _ => ("AlikeSteps$Formula", "wrong", "Z", false)
def tyX3 : Nat → FieldType := fun k => match k with
  | 0 => .array .int
  | 1 => .int
  | 2 => .int
  | 3 => .int
  | 4 => .int
  | 5 => .int
  | 6 => .boolean
  | _ => .boolean
theorem nmX3 : ∀ a, a < 8 → ∀ b, b < 8 → a ≠ b → (TX3 a).2.1 ≠ (TX3 b).2.1 := by decide +kernel
theorem tyX3_ok : ∀ k, k < 8 → parseFieldDescriptor (TX3 k).2.2.1 = some (tyX3 k) := by decide +kernel
def RX4 : String := "AlikeSteps$Net"
def TX4 : u_T := fun k => match k with
  | 0 => ("AlikeSteps$Net", "kinds", "[I", true)
  | 1 => ("AlikeSteps$Net", "arcParts", "[I", true)
  | 2 => ("AlikeSteps$Net", "states", "I", false)
  | 3 => ("AlikeSteps$Net", "arcs", "I", false)
  | _ => ("AlikeSteps$Net", "version", "I", false)
def tyX4 : Nat → FieldType := fun k => match k with
  | 0 => .array .int
  | 1 => .array .int
  | 2 => .int
  | 3 => .int
  | _ => .int
theorem nmX4 : ∀ a, a < 5 → ∀ b, b < 5 → a ≠ b → (TX4 a).2.1 ≠ (TX4 b).2.1 := by decide +kernel
theorem tyX4_ok : ∀ k, k < 5 → parseFieldDescriptor (TX4 k).2.2.1 = some (tyX4 k) := by decide +kernel
def RX5 : String := "AlikeSteps$Parting"
def TX5 : u_T := fun k => match k with
  | 0 => ("AlikeSteps$Parting", "rule", "I", true)
  | 1 => ("AlikeSteps$Parting", "blocks", "[I", true)
  | 2 => ("AlikeSteps$Parting", "signs", "[J", true)
  | 3 => ("AlikeSteps$Parting", "states", "I", false)
  | 4 => ("AlikeSteps$Parting", "rounds", "I", false)
  | 5 => ("AlikeSteps$Parting", "parts", "I", false)
  | _ => ("AlikeSteps$Parting", "seen", "I", false)
def tyX5 : Nat → FieldType := fun k => match k with
  | 0 => .int
  | 1 => .array .int
  | 2 => .array .long
  | 3 => .int
  | 4 => .int
  | 5 => .int
  | _ => .int
theorem nmX5 : ∀ a, a < 7 → ∀ b, b < 7 → a ≠ b → (TX5 a).2.1 ≠ (TX5 b).2.1 := by decide +kernel
theorem tyX5_ok : ∀ k, k < 7 → parseFieldDescriptor (TX5 k).2.2.1 = some (tyX5 k) := by decide +kernel
def RX6 : String := "AlikeSteps$Rows"
def TX6 : u_T := fun k => match k with
  | 0 => ("AlikeSteps$Rows", "lanes", "[I", true)
  | 1 => ("AlikeSteps$Rows", "lengths", "[I", true)
  | _ => ("AlikeSteps$Rows", "items", "[I", true)
def tyX6 : Nat → FieldType := fun k => match k with
  | 0 => .array .int
  | 1 => .array .int
  | _ => .array .int
theorem nmX6 : ∀ a, a < 3 → ∀ b, b < 3 → a ≠ b → (TX6 a).2.1 ≠ (TX6 b).2.1 := by decide +kernel
theorem tyX6_ok : ∀ k, k < 3 → parseFieldDescriptor (TX6 k).2.2.1 = some (tyX6 k) := by decide +kernel
def RX7 : String := "AlikeSteps$Steps"
def TX7 : u_T := fun k => match k with
  | 0 => ("AlikeSteps$Steps", "goes", "[I", true)
  | 1 => ("AlikeSteps$Steps", "closed", "[I", true)
  | _ => ("AlikeSteps$Steps", "seen", "I", false)
def tyX7 : Nat → FieldType := fun k => match k with
  | 0 => .array .int
  | 1 => .array .int
  | _ => .int
theorem nmX7 : ∀ a, a < 3 → ∀ b, b < 3 → a ≠ b → (TX7 a).2.1 ≠ (TX7 b).2.1 := by decide +kernel
theorem tyX7_ok : ∀ k, k < 3 → parseFieldDescriptor (TX7 k).2.2.1 = some (tyX7 k) := by decide +kernel
def RX8 : String := "AlikeSteps$Tape"
def TX8 : u_T := fun k => match k with
  | 0 => ("AlikeSteps$Tape", "bytes", "[I", true)
  | 1 => ("AlikeSteps$Tape", "length", "I", false)
  | _ => ("AlikeSteps$Tape", "at", "I", false)
def tyX8 : Nat → FieldType := fun k => match k with
  | 0 => .array .int
  | 1 => .int
  | _ => .int
theorem nmX8 : ∀ a, a < 3 → ∀ b, b < 3 → a ≠ b → (TX8 a).2.1 ≠ (TX8 b).2.1 := by decide +kernel
theorem tyX8_ok : ∀ k, k < 3 → parseFieldDescriptor (TX8 k).2.2.1 = some (tyX8 k) := by decide +kernel
def RX9 : String := "AlikeSteps$Teller"
def TX9 : u_T := fun k => match k with
  | 0 => ("AlikeSteps$Teller", "rule", "I", true)
  | 1 => ("AlikeSteps$Teller", "partedIn", "[I", true)
  | 2 => ("AlikeSteps$Teller", "leads", "[I", true)
  | 3 => ("AlikeSteps$Teller", "sizes", "[J", true)
  | _ => ("AlikeSteps$Teller", "seen", "I", false)
def tyX9 : Nat → FieldType := fun k => match k with
  | 0 => .int
  | 1 => .array .int
  | 2 => .array .int
  | 3 => .array .long
  | _ => .int
theorem nmX9 : ∀ a, a < 5 → ∀ b, b < 5 → a ≠ b → (TX9 a).2.1 ≠ (TX9 b).2.1 := by decide +kernel
theorem tyX9_ok : ∀ k, k < 5 → parseFieldDescriptor (TX9 k).2.2.1 = some (tyX9 k) := by decide +kernel
def RX10 : String := "AlikeSteps"
def TX10 : u_T := fun k => match k with
  | 0 => ("AlikeSteps", "rows", "LAlikeSteps$Rows;", true)
  | 1 => ("AlikeSteps", "tape", "LAlikeSteps$Tape;", true)
  | 2 => ("AlikeSteps", "net", "LAlikeSteps$Net;", true)
  | 3 => ("AlikeSteps", "draft", "LAlikeSteps$Net;", true)
  | 4 => ("AlikeSteps", "trial", "LAlikeSteps$Net;", true)
  | 5 => ("AlikeSteps", "images", "[LAlikeSteps$Net;", true)
  | 6 => ("AlikeSteps", "acts", "LAlikeSteps$Acts;", true)
  | 7 => ("AlikeSteps", "alike", "LAlikeSteps$Alike;", true)
  | 8 => ("AlikeSteps", "alikeInTrial", "LAlikeSteps$Alike;", true)
  | 9 => ("AlikeSteps", "tellers", "[LAlikeSteps$Teller;", true)
  | 10 => ("AlikeSteps", "formula", "LAlikeSteps$Formula;", true)
  | 11 => ("AlikeSteps", "asker", "LAlikeSteps$Asker;", true)
  | 12 => ("AlikeSteps", "latestFault", "I", false)
  | _ => ("AlikeSteps", "latestFinding", "I", false)
def tyX10 : Nat → FieldType := fun k => match k with
  | 0 => .object "AlikeSteps$Rows"
  | 1 => .object "AlikeSteps$Tape"
  | 2 => .object "AlikeSteps$Net"
  | 3 => .object "AlikeSteps$Net"
  | 4 => .object "AlikeSteps$Net"
  | 5 => .array (.object "AlikeSteps$Net")
  | 6 => .object "AlikeSteps$Acts"
  | 7 => .object "AlikeSteps$Alike"
  | 8 => .object "AlikeSteps$Alike"
  | 9 => .array (.object "AlikeSteps$Teller")
  | 10 => .object "AlikeSteps$Formula"
  | 11 => .object "AlikeSteps$Asker"
  | 12 => .int
  | _ => .int
theorem nmX10 : ∀ a, a < 14 → ∀ b, b < 14 → a ≠ b → (TX10 a).2.1 ≠ (TX10 b).2.1 := by decide +kernel
theorem tyX10_ok : ∀ k, k < 14 → parseFieldDescriptor (TX10 k).2.2.1 = some (tyX10 k) := by decide +kernel
def RX11 : String := "AlikeStepsModel"
def TX11 : u_T := fun k => match k with
  | 0 => ("AlikeStepsModel", "lane", "[I", true)
  | 1 => ("AlikeStepsModel", "many", "[I", true)
  | 2 => ("AlikeStepsModel", "items", "[I", true)
  | 3 => ("AlikeStepsModel", "spare", "[I", true)
  | 4 => ("AlikeStepsModel", "status", "I", false)
  | 5 => ("AlikeStepsModel", "tape", "[I", true)
  | 6 => ("AlikeStepsModel", "taped", "I", false)
  | 7 => ("AlikeStepsModel", "faultKind", "I", false)
  | 8 => ("AlikeStepsModel", "faultPlace", "I", false)
  | 9 => ("AlikeStepsModel", "at", "I", false)
  | 10 => ("AlikeStepsModel", "start", "I", false)
  | 11 => ("AlikeStepsModel", "token", "I", false)
  | 12 => ("AlikeStepsModel", "value", "I", false)
  | 13 => ("AlikeStepsModel", "now", "[I", true)
  | 14 => ("AlikeStepsModel", "draft", "[I", true)
  | 15 => ("AlikeStepsModel", "past", "[I", true)
  | 16 => ("AlikeStepsModel", "acts", "I", false)
  | 17 => ("AlikeStepsModel", "images", "[I", true)
  | 18 => ("AlikeStepsModel", "kept", "[Z", true)
  | 19 => ("AlikeStepsModel", "system", "[I", true)
  | 20 => ("AlikeStepsModel", "goes", "[I", true)
  | 21 => ("AlikeStepsModel", "silent", "[I", true)
  | 22 => ("AlikeStepsModel", "blocks", "[I", true)
  | 23 => ("AlikeStepsModel", "rounds", "I", false)
  | 24 => ("AlikeStepsModel", "signs", "[J", true)
  | 25 => ("AlikeStepsModel", "codes", "[I", true)
  | 26 => ("AlikeStepsModel", "depths", "[I", true)
  | 27 => ("AlikeStepsModel", "letters", "[I", true)
  | 28 => ("AlikeStepsModel", "ones", "[I", true)
  | 29 => ("AlikeStepsModel", "sets", "[I", true)
  | 30 => ("AlikeStepsModel", "isList", "[Z", true)
  | 31 => ("AlikeStepsModel", "trace", "[I", true)
  | _ => ("AlikeStepsModel", "traced", "I", false)
def tyX11 : Nat → FieldType := fun k => match k with
  | 0 => .array .int
  | 1 => .array .int
  | 2 => .array .int
  | 3 => .array .int
  | 4 => .int
  | 5 => .array .int
  | 6 => .int
  | 7 => .int
  | 8 => .int
  | 9 => .int
  | 10 => .int
  | 11 => .int
  | 12 => .int
  | 13 => .array .int
  | 14 => .array .int
  | 15 => .array .int
  | 16 => .int
  | 17 => .array .int
  | 18 => .array .boolean
  | 19 => .array .int
  | 20 => .array .int
  | 21 => .array .int
  | 22 => .array .int
  | 23 => .int
  | 24 => .array .long
  | 25 => .array .int
  | 26 => .array .int
  | 27 => .array .int
  | 28 => .array .int
  | 29 => .array .int
  | 30 => .array .boolean
  | 31 => .array .int
  | _ => .int
theorem nmX11 : ∀ a, a < 33 → ∀ b, b < 33 → a ≠ b → (TX11 a).2.1 ≠ (TX11 b).2.1 := by decide +kernel
theorem tyX11_ok : ∀ k, k < 33 → parseFieldDescriptor (TX11 k).2.2.1 = some (tyX11 k) := by decide +kernel
def RJ6 : String := "java/lang/Integer"
def RJ9 : String := "java/lang/Math"
def RJ10 : String := "java/lang/System"
def RL : String := "AlikeStepsLaw"
abbrev vwCl : List vw_C := [(RX0, TX0, 2), (RX1, TX1, 2), (RX2, TX2, 6), (RX3, TX3, 8), (RX4, TX4, 5), (RX5, TX5, 7), (RX6, TX6, 3), (RX7, TX7, 3), (RX8, TX8, 3), (RX9, TX9, 5), (RX10, TX10, 14), (RX11, TX11, 33)]
def pj_tb : List Cond := lw_tbl.filter goodWord
theorem pj_mem (i : Nat) {c : Cond} (h : lw_tbl[i]? = some c) (hg : goodWord c = true) : c ∈ pj_tb := List.mem_filter.mpr ⟨List.mem_of_getElem? h, hg⟩
theorem pj_memL {ws : List Cond} (is : List Nat) (h : ws = is.filterMap (fun i => lw_tbl[i]?)) (hg : ws.all goodWord = true) : ∀ c ∈ ws, c ∈ pj_tb := by
  intro c hc
  have h1 := List.all_eq_true.mp hg c hc
  rw [h] at hc
  obtain ⟨i, -, hi⟩ := List.mem_filterMap.mp hc
  exact pj_mem i hi h1
theorem pj_goodIn : GoodIn pj_tb pj_tb := fun c hc => ⟨hc, good_of_word (List.mem_filter.mp hc).2⟩
theorem wiX0 : ∀ c ∈ u_ws RX0 TX0 2, c ∈ pj_tb := pj_memL [168, 170] (by decide +kernel) (by decide +kernel)
theorem wiX1 : ∀ c ∈ u_ws RX1 TX1 2, c ∈ pj_tb := pj_memL [227, 229] (by decide +kernel) (by decide +kernel)
theorem wiX2 : ∀ c ∈ u_ws RX2 TX2 6, c ∈ pj_tb := pj_memL [277, 279, 281, 283, 285, 287] (by decide +kernel) (by decide +kernel)
theorem wiX3 : ∀ c ∈ u_ws RX3 TX3 8, c ∈ pj_tb := pj_memL [248, 250, 252, 254, 256, 258, 260, 262] (by decide +kernel) (by decide +kernel)
theorem wiX4 : ∀ c ∈ u_ws RX4 TX4 5, c ∈ pj_tb := pj_memL [148, 150, 152, 154, 156] (by decide +kernel) (by decide +kernel)
theorem wiX5 : ∀ c ∈ u_ws RX5 TX5 7, c ∈ pj_tb := pj_memL [209, 211, 213, 215, 217, 219, 221] (by decide +kernel) (by decide +kernel)
theorem wiX6 : ∀ c ∈ u_ws RX6 TX6 3, c ∈ pj_tb := pj_memL [113, 115, 117] (by decide +kernel) (by decide +kernel)
theorem wiX7 : ∀ c ∈ u_ws RX7 TX7 3, c ∈ pj_tb := pj_memL [188, 190, 192] (by decide +kernel) (by decide +kernel)
theorem wiX8 : ∀ c ∈ u_ws RX8 TX8 3, c ∈ pj_tb := pj_memL [130, 132, 134] (by decide +kernel) (by decide +kernel)
theorem wiX9 : ∀ c ∈ u_ws RX9 TX9 5, c ∈ pj_tb := pj_memL [300, 302, 304, 306, 308] (by decide +kernel) (by decide +kernel)
theorem wiX10 : ∀ c ∈ u_ws RX10 TX10 14, c ∈ pj_tb := pj_memL [325, 327, 329, 331, 333, 335, 337, 339, 341, 343, 345, 347, 349, 351] (by decide +kernel) (by decide +kernel)
theorem wiX11 : ∀ c ∈ u_ws RX11 TX11 33, c ∈ pj_tb := pj_memL [1051, 1053, 1055, 1057, 1059, 1061, 1063, 1065, 1067, 1069, 1071, 1073, 1075, 1077, 1079, 1081, 1083, 1085, 1087, 1089, 1091, 1093, 1095, 1097, 1099, 1101, 1103, 1105, 1107, 1109, 1111, 1113, 1115] (by decide +kernel) (by decide +kernel)
/-- of a class: a field that is a number, or (kind, what, how far away) of the cell that it holds -/
def pj_ct : Nat → List (Option (Nat × Nat × Nat)) := fun c => match c with
  | 0 => [some (1, 100, 1), none]
  | 1 => [some (0, 7, 1), some (4, 5, 4)]
  | 2 => [some (1, 16, 1), none, none, none, none, none]
  | 3 => [some (1, 30, 1), none, none, none, none, none, none, none]
  | 4 => [some (1, 10, 1), some (1, 60, 2), none, none, none]
  | 5 => [none, some (1, 110, 1), some (2, 10, 2), none, none, none, none]
  | 6 => [some (1, 8, 1), some (1, 8, 2), some (1, 320, 3)]
  | 7 => [some (1, 40, 1), some (1, 40, 2), none]
  | 8 => [some (1, 140, 1), none, none]
  | 9 => [none, some (1, 100, 1), some (1, 100, 2), some (2, 100, 3), none]
  | 10 => [some (0, 6, 1), some (0, 8, 5), some (0, 4, 7), some (0, 4, 10), some (0, 4, 13), some (4, 4, 16), some (0, 0, 17), some (0, 1, 19), some (0, 1, 36), some (4, 9, 53), some (0, 3, 54), some (0, 2, 56), none, none]
  | _ => [some (1, 8, 1), some (1, 8, 2), some (1, 320, 3), some (1, 40, 4), none, some (1, 140, 5), none, none, none, none, none, none, none, some (1, 72, 6), some (1, 72, 7), some (1, 1440, 8), none, some (1, 144, 9), some (3, 2, 10), some (1, 72, 11), some (1, 40, 12), some (1, 10, 13), some (1, 220, 14), none, some (2, 10, 15), some (1, 100, 16), some (1, 100, 17), some (1, 100, 18), some (1, 100, 19), some (1, 30, 20), some (3, 30, 21), some (1, 16, 22), none]
def pj_rlen : Nat → Nat := fun c => match c with
  | 4 => 2
  | 5 => 4
  | 9 => 2
  | _ => 0
def pj_roff : Nat → Nat := fun c => match c with
  | 4 => 42
  | 5 => 1
  | 9 => 11
  | _ => 0
def pj_rstr : Nat → Nat := fun c => match c with
  | 4 => 3
  | 5 => 3
  | 9 => 4
  | _ => 0
/-- the cells, in the order in which they are made: (0, class), (1, length) ints, (2, length) longs, (3, length) booleans, (4, class) references -/
def pj_lay : List (Nat × Nat) := [(0, 10), (0, 6), (1, 8), (1, 8), (1, 320), (0, 8), (1, 140), (0, 4), (1, 10), (1, 60), (0, 4), (1, 10), (1, 60), (0, 4), (1, 10), (1, 60), (4, 4), (0, 0), (1, 100), (0, 1), (0, 7), (1, 40), (1, 40), (4, 5), (0, 5), (1, 110), (2, 10), (0, 5), (1, 110), (2, 10), (0, 5), (1, 110), (2, 10), (0, 5), (1, 110), (2, 10), (0, 1), (0, 7), (1, 40), (1, 40), (4, 5), (0, 5), (1, 110), (2, 10), (0, 5), (1, 110), (2, 10), (0, 5), (1, 110), (2, 10), (0, 5), (1, 110), (2, 10), (4, 9), (0, 3), (1, 30), (0, 2), (1, 16), (0, 4), (1, 10), (1, 60), (0, 4), (1, 10), (1, 60), (0, 9), (1, 100), (1, 100), (2, 100), (0, 9), (1, 100), (1, 100), (2, 100), (0, 11), (1, 8), (1, 8), (1, 320), (1, 40), (1, 140), (1, 72), (1, 72), (1, 1440), (1, 144), (3, 2), (1, 72), (1, 40), (1, 10), (1, 220), (2, 10), (1, 100), (1, 100), (1, 100), (1, 100), (1, 30), (3, 30), (1, 16)]
theorem pj_lay_len : pj_lay.length = 95 := by decide +kernel
abbrev pj_nw : Cond := .methodLinkNest RX7 81 ⟨RX10, "isA", "(II)Z"⟩ "AlikeSteps"
end
section
/-! PART 03: A PURE MACHINE over the fixed layout: a memory of numbers (ints, longs) by cell and place; values; what an instruction does, in continuation form; and that each such step is what the machine does (pj_S). -/
abbrev pj_M : Type := (Nat → Nat → Int32) × (Nat → Nat → Int64)
abbrev pj_V : Type := Int32 ⊕ (Int64 ⊕ (Nat × Nat × Nat))
/-- the world's unknowns: classes' numbers and slots, addresses of cells, array classes, the script -/
abbrev pj_E : Type := va_G × (Nat → Nat) × (ClassId × ClassId × ClassId × (Nat → ClassId)) × (Nat × Nat × (Nat → Int32))
def pj_tys (G : pj_E) : List (ClassId × FieldType) := [(G.2.2.1.1, .int), (G.2.2.1.2.1, .long), (G.2.2.1.2.2.1, .boolean), (G.2.2.1.2.2.2 4, .object "AlikeSteps$Net"), (G.2.2.1.2.2.2 5, .object "AlikeSteps$Parting"), (G.2.2.1.2.2.2 9, .object "AlikeSteps$Teller")]
def pj_tr (G : pj_E) (v : pj_V) : Value := match v with
  | .inl x => .int x
  | .inr (.inl y) => .long y
  | .inr (.inr (t, _, a)) => if t = 5 then .ref G.2.2.2.1 else .ref (G.2.1 a)
def pj_okv (v : pj_V) : Prop := match v with
  | .inr (.inr (t, x, a)) => t = 5 ∨ pj_lay[a]? = some (t, x)
  | _ => True
def pj_fv (G : pj_E) (m : pj_M) (a k : Nat) (f : Option (Nat × Nat × Nat)) : Value := match f with
  | none => .int (m.1 a k)
  | some q => .ref (G.2.1 (a + q.2.2))
def pj_ent (G : pj_E) (m : pj_M) (a : Nat) (q : Nat × Nat) : va_E := match q with
  | (0, x) => .inr (x, (pj_ct x).mapIdx (fun k f => pj_fv G m a k f))
  | (1, x) => .inl (G.2.2.1.1, (x, .inl (m.1 a)))
  | (2, x) => .inl (G.2.2.1.2.1, (x, .inr (.inl (m.2 a))))
  | (3, x) => .inl (G.2.2.1.2.2.1, (x, .inl (m.1 a)))
  | (_, x) => .inl (G.2.2.1.2.2.2 x, (pj_rlen x, .inr (.inr (.inr (.inr (fun i => some (G.2.1 (a + pj_roff x + pj_rstr x * i))))))))
def pj_ws (G : pj_E) (m : pj_M) : va_W := pj_lay.mapIdx (fun a q => (G.2.1 a, pj_ent G m a q))
theorem pj_ws_at {G : pj_E} {m : pj_M} {a : Nat} {q : Nat × Nat} (h : pj_lay[a]? = some q) : (pj_ws G m)[a]? = some (G.2.1 a, pj_ent G m a q) := by
  simp [pj_ws, h]
theorem pj_ws_of {G : pj_E} {m : pj_M} {a : Nat} {q : Nat × va_E} (h : (pj_ws G m)[a]? = some q) : ∃ t, pj_lay[a]? = some t ∧ q = (G.2.1 a, pj_ent G m a t) := by
  simp only [pj_ws, List.getElem?_mapIdx, Option.map_eq_some_iff] at h
  obtain ⟨t, h1, h2⟩ := h
  exact ⟨t, h1, h2.symm⟩
theorem pj_ent_congr {G : pj_E} {m m' : pj_M} {a : Nat} {q : Nat × Nat} (h1 : m'.1 a = m.1 a) (h2 : m'.2 a = m.2 a) : pj_ent G m' a q = pj_ent G m a q := by
  have hf : ∀ k f, pj_fv G m' a k f = pj_fv G m a k f := by
    intro k f
    cases f with
    | none => simp [pj_fv, h1]
    | some _ => rfl
  unfold pj_ent
  split <;> simp [h1, h2, hf]
theorem pj_ws_set {G : pj_E} {m m' : pj_M} {a : Nat} {q : Nat × Nat} (h : pj_lay[a]? = some q) (h1 : ∀ j, j ≠ a → m'.1 j = m.1 j) (h2 : ∀ j, j ≠ a → m'.2 j = m.2 j) : (pj_ws G m).set a (G.2.1 a, pj_ent G m' a q) = pj_ws G m' := by
  apply List.ext_getElem?
  intro j
  by_cases hj : j = a
  · subst hj
    rw [pj_ws_at h, List.getElem?_set]
    have hl : j < (pj_ws G m).length := by
      have := (List.getElem?_eq_some_iff.mp h).1
      simpa [pj_ws] using this
    simp [hl]
  · rw [List.getElem?_set_ne (by omega)]
    simp only [pj_ws, List.getElem?_mapIdx]
    cases hq : pj_lay[j]? with
    | none => rfl
    | some t => simp [pj_ent_congr (G := G) (q := t) (h1 j hj) (h2 j hj)]
theorem pj_D_irr {G : pj_E} {A : Nat → Prop} {m m' : pj_M} (h : va_D A (pj_ws G m)) : va_D A (pj_ws G m') := by
  refine ⟨fun i j p q hp hq hpq => ?_, fun k q hk => ?_⟩
  · obtain ⟨t1, h1, rfl⟩ := pj_ws_of hp
    obtain ⟨t2, h2, rfl⟩ := pj_ws_of hq
    exact h.1 i j _ _ (pj_ws_at h1) (pj_ws_at h2) hpq
  · obtain ⟨t1, h1, rfl⟩ := pj_ws_of hk
    exact h.2 k (G.2.1 k, pj_ent G m k t1) (pj_ws_at h1)
/-- a number is written; a stretch of ints is copied -/
def pj_wr (m : pj_M) (a k : Nat) (v : Int32) : pj_M := (fun j => if j = a then upd (m.1 a) k v else m.1 j, m.2)
def pj_wl (m : pj_M) (a k : Nat) (v : Int64) : pj_M := (m.1, fun j => if j = a then vp_updL (m.2 a) k v else m.2 j)
def pj_cp (m : pj_M) (a0 sp a1 dp n : Nat) : pj_M := (fun j => if j = a1 then va_cpy (m.1 a0) (m.1 a1) sp dp n else m.1 j, m.2)
/-- locals -/
def pj_clr (o : Option pj_V) : Option pj_V := match o with
  | some (.inr (.inl _)) => none
  | o => o
def pj_inv (L : List (Option pj_V)) (i : Nat) : List (Option pj_V) := match i with
  | 0 => L
  | j + 1 => L.set j (pj_clr ((L[j]?).getD none))
def pj_st1 (L : List (Option pj_V)) (i : Nat) (v : pj_V) : List (Option pj_V) := match L, i with
  | [], _ => []
  | _ :: L, 0 => some v :: L
  | a :: L, 1 => pj_clr a :: L.set 0 (some v)
  | a :: L, j + 2 => a :: pj_st1 L (j + 1) v
def pj_st2 (L : List (Option pj_V)) (i : Nat) (v : pj_V) : List (Option pj_V) := (pj_st1 L i v).set (i + 1) none
theorem pj_st1_eq (v : pj_V) : ∀ (L : List (Option pj_V)) (i : Nat), pj_st1 L i v = (pj_inv L i).set i (some v) := by
  intro L
  induction L with
  | nil => intro i; cases i <;> simp [pj_st1, pj_inv]
  | cons a L ih =>
    intro i
    match i with
    | 0 => rfl
    | 1 => simp [pj_st1, pj_inv]
    | j + 2 =>
      rw [pj_st1, ih (j + 1)]
      simp [pj_inv]
theorem pj_st2_eq (L : List (Option pj_V)) (i : Nat) (v : pj_V) : pj_st2 L i v = ((pj_inv L i).set i (some v)).set (i + 1) none := by
  rw [pj_st2, pj_st1_eq]
def pj_isl (v : pj_V) : Bool := match v with
  | .inr (.inl _) => true
  | _ => false
def pj_cat (st : List pj_V) : Nat := match st with
  | [] => 0
  | v :: st => (match v with
    | .inr (.inl _) => 2
    | _ => 1) + pj_cat st
def pj_l0 (as : List pj_V) : List (Option pj_V) := match as with
  | [] => []
  | .inr (.inl y) :: as => some (.inr (.inl y)) :: none :: pj_l0 as
  | .inl x :: as => some (.inl x) :: pj_l0 as
  | .inr (.inr r) :: as => some (.inr (.inr r)) :: pj_l0 as
theorem pj_tr_cat (G : pj_E) (v : pj_V) : (pj_tr G v).category = 2 ↔ pj_isl v = true := by
  rcases v with x | y | ⟨t, x, a⟩
  · simp [pj_tr, pj_isl, Value.category]
  · simp [pj_tr, pj_isl, Value.category]
  · simp only [pj_tr, pj_isl]
    split <;> simp [Value.category]
theorem pj_cat_eq (G : pj_E) (st : List pj_V) : ((st.map (pj_tr G)).map fun v => v.category).sum = pj_cat st := by
  induction st with
  | nil => rfl
  | cons v st ih =>
    simp only [List.map_cons, List.sum_cons, pj_cat, ih]
    congr 1
    rcases v with x | y | ⟨t, x, a⟩
    · rfl
    · rfl
    · simp only [pj_tr]
      split <;> rfl
def pj_F (G : pj_E) (nL : Nat) (L : List (Option pj_V)) (st : List pj_V) (ls : Array Slot) : Prop :=
  ls.size = nL ∧ lv_wf ls ∧ L.length = nL ∧ (∀ (i : Nat) (v : pj_V), L[i]? = some (some v) → ls[i]? = some (Slot.val (pj_tr G v)) ∧ pj_okv v) ∧ ∀ v ∈ st, pj_okv v
def pj_lv (G : pj_E) (L : List (Option pj_V)) : List (Nat × Value) := (List.range L.length).filterMap (fun i => match L[i]? with
  | some (some v) => some (i, pj_tr G v)
  | _ => none)
theorem pj_lv_mem {G : pj_E} {L : List (Option pj_V)} {q : Nat × Value} : q ∈ pj_lv G L ↔ ∃ v, L[q.1]? = some (some v) ∧ q.2 = pj_tr G v := by
  unfold pj_lv
  rw [List.mem_filterMap]
  constructor
  · rintro ⟨i, hi, h⟩
    split at h
    · rename_i v hv
      cases h
      exact ⟨v, hv, rfl⟩
    · cases h
  · rintro ⟨v, hv, h2⟩
    refine ⟨q.1, List.mem_range.mpr (List.getElem?_eq_some_iff.mp hv).1, ?_⟩
    rw [hv]
    show some (q.1, pj_tr G v) = some q
    rw [← h2]
theorem pj_F.has {G : pj_E} {nL : Nat} {L : List (Option pj_V)} {st : List pj_V} {ls : Array Slot} (h : pj_F G nL L st ls) : lv_has ls nL (pj_lv G L) := by
  refine ⟨h.1, h.2.1, fun q hq => ?_⟩
  obtain ⟨v, hv, h2⟩ := pj_lv_mem.mp hq
  rw [h2]
  exact (h.2.2.2.1 _ _ hv).1
theorem pj_inv_len (L : List (Option pj_V)) (i : Nat) : (pj_inv L i).length = L.length := by
  unfold pj_inv
  split
  · rfl
  · simp
theorem pj_inv_at {L : List (Option pj_V)} {i j : Nat} {v : pj_V} (h : (pj_inv L i)[j]? = some (some v)) : L[j]? = some (some v) ∧ ¬ (j + 1 = i ∧ pj_isl v = true) := by
  unfold pj_inv at h
  split at h
  · exact ⟨h, fun q => by omega⟩
  · rename_i k
    by_cases hj : j = k
    · subst hj
      have hl := (List.getElem?_eq_some_iff.mp h).1
      rw [List.length_set] at hl
      rw [List.getElem?_set_self hl] at h
      have h1 : pj_clr ((L[j]?).getD none) = some v := Option.some.inj h
      rw [List.getElem?_eq_getElem hl] at h1 ⊢
      simp only [Option.getD_some] at h1
      generalize L[j] = o at h1 ⊢
      rcases o with _ | x | y | r
      · cases h1
      · cases h1
        exact ⟨rfl, fun q => by simp [pj_isl] at q⟩
      · cases h1
      · cases h1
        exact ⟨rfl, fun q => by simp [pj_isl] at q⟩
    · rw [List.getElem?_set_ne (by omega)] at h
      exact ⟨h, fun q => by omega⟩
theorem pj_F.st1 {G : pj_E} {nL i : Nat} {L : List (Option pj_V)} {st : List pj_V} {v : pj_V} {ls ls' : Array Slot} (h : pj_F G nL L (v :: st) ls)
    (h' : lv_has ls' nL ((i, pj_tr G v) :: (pj_lv G L).filter (fun q => !(q.1 == i) && !(q.1 + 1 == i && q.2.category == 2)))) : pj_F G nL (pj_st1 L i v) st ls' := by
  obtain ⟨h1, h2, h3, h4, h5⟩ := h
  refine ⟨h'.1, h'.2.1, by simp [pj_st1_eq, pj_inv_len, h3], fun j u hu => ?_, fun u hu => h5 u (List.mem_cons_of_mem _ hu)⟩
  rw [pj_st1_eq] at hu
  by_cases hj : j = i
  · subst hj
    have hl := (List.getElem?_eq_some_iff.mp hu).1
    rw [List.length_set] at hl
    rw [List.getElem?_set_self hl] at hu
    cases hu
    exact ⟨h'.2.2 _ List.mem_cons_self, h5 _ List.mem_cons_self⟩
  · rw [List.getElem?_set_ne (by omega)] at hu
    obtain ⟨hu1, hu2⟩ := pj_inv_at hu
    refine ⟨h'.2.2 (j, pj_tr G u) (List.mem_cons_of_mem _ (List.mem_filter.mpr ⟨pj_lv_mem.mpr ⟨u, hu1, rfl⟩, ?_⟩)), (h4 _ _ hu1).2⟩
    simp only [Bool.and_eq_true, Bool.not_eq_true', beq_eq_false_iff_ne, ne_eq, Bool.and_eq_false_imp, beq_iff_eq]
    refine ⟨hj, fun e1 => ?_⟩
    intro e2
    exact hu2 ⟨e1, (pj_tr_cat G u).mp e2⟩
theorem pj_F.st2 {G : pj_E} {nL i : Nat} {L : List (Option pj_V)} {st : List pj_V} {v : pj_V} {ls ls' : Array Slot} (h : pj_F G nL L (v :: st) ls)
    (h' : lv_has ls' nL ((i, pj_tr G v) :: (pj_lv G L).filter (fun q => !(q.1 == i) && (!(q.1 == i + 1) && !(q.1 + 1 == i && q.2.category == 2))))) : pj_F G nL (pj_st2 L i v) st ls' := by
  obtain ⟨h1, h2, h3, h4, h5⟩ := h
  refine ⟨h'.1, h'.2.1, by simp [pj_st2_eq, pj_inv_len, h3], fun j u hu => ?_, fun u hu => h5 u (List.mem_cons_of_mem _ hu)⟩
  rw [pj_st2_eq] at hu
  by_cases hj1 : j = i + 1
  · subst hj1
    have hl := (List.getElem?_eq_some_iff.mp hu).1
    rw [List.length_set] at hl
    rw [List.getElem?_set_self hl] at hu
    cases hu
  rw [List.getElem?_set_ne (by omega)] at hu
  by_cases hj : j = i
  · subst hj
    have hl := (List.getElem?_eq_some_iff.mp hu).1
    rw [List.length_set] at hl
    rw [List.getElem?_set_self hl] at hu
    cases hu
    exact ⟨h'.2.2 _ List.mem_cons_self, h5 _ List.mem_cons_self⟩
  · rw [List.getElem?_set_ne (by omega)] at hu
    obtain ⟨hu1, hu2⟩ := pj_inv_at hu
    refine ⟨h'.2.2 (j, pj_tr G u) (List.mem_cons_of_mem _ (List.mem_filter.mpr ⟨pj_lv_mem.mpr ⟨u, hu1, rfl⟩, ?_⟩)), (h4 _ _ hu1).2⟩
    simp only [Bool.and_eq_true, Bool.not_eq_true', beq_eq_false_iff_ne, ne_eq, Bool.and_eq_false_imp, beq_iff_eq]
    refine ⟨hj, hj1, fun e1 => ?_⟩
    intro e2
    exact hu2 ⟨e1, (pj_tr_cat G u).mp e2⟩
end
